/-! THE FIRST WORLD keeps the relation. -/
def W0 (c : Nat) (i : Int) : Int := ((gW0.find? fun x => decide (x.1 = c) && decide (x.2.1 = i)).map fun x => x.2.2).getD 0
/-- all words of the cells below 191 are the first ones -/
def Fst (w : aW) : Prop := ∀ (c : Nat) (i : Int), c < 191 → w c i = W0 c i
theorem fst_at {w : aW} (h : Fst w) {c : Nat} {i x : Int} (hc : c < 191) (hs : scr c i = false) (e : W0 c i = x) : res w c i = x := by
  rw [res_at hs, h c i hc, e]
theorem Inv_fst {w : aW} (h : Fst w) : Inv w := by
  unfold Inv
  have z : ∀ {c : Nat} {i x : Int}, c < 191 → scr c i = false → W0 c i = x → res w c i = x := fun hc hs e => fst_at h hc hs e
  have a12 : res w 1 2 = 0 := z (by decide) (by decide) (by decide)
  have a13 : res w 1 3 = -1 := z (by decide) (by decide) (by decide)
  have a11 : res w 1 1 = 0 := z (by decide) (by decide) (by decide)
  have b13 : res w 167 13 = 0 := z (by decide) (by decide) (by decide)
  have b14 : res w 167 14 = -1 := z (by decide) (by decide) (by decide)
  have b5 : res w 167 5 = 0 := z (by decide) (by decide) (by decide)
  have t0 : res w 69 0 = 0 := z (by decide) (by decide) (by decide)
  have t1 : res w 69 1 = 0 := z (by decide) (by decide) (by decide)
  have t2 : res w 69 2 = 0 := z (by decide) (by decide) (by decide)
  have t4 : res w 69 4 = 0 := z (by decide) (by decide) (by decide)
  have t5 : res w 69 5 = 0 := z (by decide) (by decide) (by decide)
  have t11 : res w 69 11 = 0 := z (by decide) (by decide) (by decide)
  have t12 : res w 69 12 = 0 := z (by decide) (by decide) (by decide)
  have t13 : res w 69 13 = 0 := z (by decide) (by decide) (by decide)
  have r0 : res w 168 0 = 0 := z (by decide) (by decide) (by decide)
  have r1 : res w 168 (0 + 1) = 0 := z (by decide) (by decide) (by decide)
  have r2 : res w 168 (0 + 2) = 0 := z (by decide) (by decide) (by decide)
  have r3 : res w 168 (0 + 3) = 0 := z (by decide) (by decide) (by decide)
  have r4 : res w 168 (0 + 4) = 0 := z (by decide) (by decide) (by decide)
  have r5 : res w 168 (0 + 5) = 0 := z (by decide) (by decide) (by decide)
  have r152 : res w 168 152 = 0 := z (by decide) (by decide) (by decide)
  have s0 : res w 79 0 = 0 := z (by decide) (by decide) (by decide)
  have s1 : res w 79 1 = 0 := z (by decide) (by decide) (by decide)
  have p12 : res w 0 12 = 0 := z (by decide) (by decide) (by decide)
  have p16 : res w 0 16 = 0 := z (by decide) (by decide) (by decide)
  have q8 : res w 19 8 = 0 := z (by decide) (by decide) (by decide)
  have h87 : ∀ i : Nat, i < 10 → res w 87 (i : Int) = 91 + 4 * (i : Int) := by
    intro i hi
    have e : ∀ j : Fin 10, scr 87 ((j.val : Nat) : Int) = false ∧ W0 87 ((j.val : Nat) : Int) = 91 + 4 * ((j.val : Nat) : Int) := by decide
    exact z (by decide) (e ⟨i, hi⟩).1 (e ⟨i, hi⟩).2
  have h169 : ∀ i : Nat, i < 2 → res w 169 (i : Int) = 0 := by
    intro i hi
    have e : ∀ j : Fin 2, scr 169 ((j.val : Nat) : Int) = false ∧ W0 169 ((j.val : Nat) : Int) = 0 := by decide
    exact z (by decide) (e ⟨i, hi⟩).1 (e ⟨i, hi⟩).2
  have h131 : ∀ r : Nat, r < 4 → res w (131 + 2 * r) 0 = -1 ∧ res w 188 (r : Int) = -1 := by
    intro r hr
    have e : ∀ j : Fin 4, (scr (131 + 2 * j.val) 0 = false ∧ W0 (131 + 2 * j.val) 0 = -1) ∧ scr 188 ((j.val : Nat) : Int) = false ∧ W0 188 ((j.val : Nat) : Int) = -1 := by decide
    exact ⟨z (by omega) (e ⟨r, hr⟩).1.1 (e ⟨r, hr⟩).1.2, z (by decide) (e ⟨r, hr⟩).2.1 (e ⟨r, hr⟩).2.2⟩
  generalize res w = v at *
  clear z h
  unfold Inv0
  refine ⟨⟨by rw [a12, b13], by rw [a13, b14]⟩, ⟨by rw [a11, b5], by omega, by omega, fun k hk => by omega⟩, ?_, ?_, ⟨by rw [p12, r152], by omega, by omega, ?_, ?_, fun i hi => by omega⟩, ⟨by omega, by omega, ?_⟩, fun r hr => Or.inl (h131 r hr), Or.inl q8⟩
  · unfold TrR
    refine ⟨⟨by rw [t0, r1], by rw [t1, r2], by rw [t2, r3], by rw [t4, r4], by rw [t5, r0]⟩, ⟨by omega, by omega, by omega, by omega, by omega, by omega⟩, fun l hl => by omega, fun k hk => by omega, ⟨0, by rw [t11]; rfl, by decide, fun k hk => by omega⟩, ⟨0, 0, by rw [t12]; rfl, by rw [t13]; rfl, by rw [t1]; decide, by rw [t1]; decide, fun l hl => by omega⟩⟩
  · unfold StR
    refine ⟨⟨by rw [s0, r5], by omega, by rw [s0, t1]; decide⟩, ⟨0, by rw [s1]; rfl, by rw [t2]; decide, fun k hk => by omega⟩, fun k hk => by omega, fun l hl => by omega, fun p hp => by omega, fun k hk => by omega, fun l j hl => by omega⟩
  · intro i hi
    exact ⟨i, hi, h87 i hi⟩
  · intro i j hi hj e
    have e1 := h87 i hi
    have e2 := h87 j hj
    omega
  · intro i hi
    refine ⟨by rw [h169 i hi, p16]; simp [bI], fun e => by have := h169 i hi; omega⟩
