/-! Pairs of calls: string, numbers' helpers. -/
theorem sim_of {D m1 m2 : Nat} {e1 e2 : List (Option aV)} (h : ∀ w, Inv w → ∃ x w1 w2, (∀ Q : Option aV → aW → Prop, Q (some (vi x)) w1 → T D m1 0 e1 [] w Q) ∧ (∀ Q : Option aV → aW → Prop, Q (some (vi x)) w2 → T D m2 0 e2 [] w1 Q) ∧ (∀ j, w1 999 j = w 999 j) ∧ (∀ j, w2 999 j = w 999 j) ∧ Inv w2) : Sim Inv D m1 m2 e1 e2 := by
  intro w hI
  obtain ⟨x, w1, w2, h1, h2, h3, h4, h5⟩ := h w hI
  exact h1 _ ⟨x, rfl, h3, h2 _ ⟨rfl, h4, h5⟩⟩
theorem th0 {w : aW} : res (iup w 167 0 0) = res w := res_iup (by decide)
theorem th9 {w : aW} : ∀ j, iup w 167 0 0 999 j = w 999 j := fun _ => iup_c (by decide)
theorem th8 {w : aW} {i : Int} : iup w 167 0 0 168 i = w 168 i := iup_c (by decide)
theorem tr_of {w : aW} (h : Inv w) : TrR w 69 0 := h.2.2.1
theorem st_of {w : aW} (h : Inv w) : StR w 79 0 (w 69 1) (w 69 2) := h.2.2.2.1
/-- limbs and strings, as numbers -/
theorem nm_of {w : aW} (h : Inv w) : ∃ N M : Nat, N ≤ 10 ∧ M ≤ 16 ∧ w 69 1 = (N : Int) ∧ w 69 2 = (M : Int) ∧ w 168 2 = (N : Int) ∧ w 168 3 = (M : Int) := by
  obtain ⟨⟨-, h2, h3, -, -⟩, ⟨a1, a2, a3, a4, -, -⟩, -⟩ := tr_of h
  refine ⟨(w 69 1).toNat, (w 69 2).toNat, by omega, by omega, by omega, by omega, ?_, ?_⟩
  · have : w 69 1 = w 168 2 := h2
    omega
  · have : w 69 2 = w 168 3 := h3
    omega
def vStr (w : aW) (a b : Int) : Int := if 0 ≤ a ∧ a < w 168 3 then (if b = 0 then w 168 (6 + a) else if b = 1 then w 168 (64 + a) else if b = 2 then w 168 (80 + a) else if b = 3 then w 168 (96 + a) else if b = 4 then w 168 (22 + a) else if b = 5 then w 168 (38 + a) else -2) else -2
section Ops2
variable {D : Nat}
theorem r_string {a b : Int} {w : aW} {Q : Option aV → aW → Prop} (h0 : 0 ≤ w 168 3) (h1 : w 168 3 ≤ 16) (hQ : Q (some (vi (vStr w a b))) (iup w 167 0 0)) : T (D + 2) 10 0 [some (vr 167), some (vi a), some (vi b)] [] w Q := by
  rw [g10_0, k_isString (by rw [th8]; exact h0) (by rw [th8]; exact h1)]
  simp only [tl_some, g10_11, th8]
  by_cases hk : 0 ≤ a ∧ a < w 168 3
  · have e : ∀ c : Int, 0 ≤ c → c < 100 → w32 (c + a) = c + a := fun c h2 h3 => w32_id (by omega) (by omega)
    rw [b01_t (decide_eq_true hk), if_t (by decide), e 6 (by omega) (by omega), e 64 (by omega) (by omega), e 80 (by omega) (by omega), e 96 (by omega) (by omega), e 22 (by omega) (by omega), e 38 (by omega) (by omega)]
    unfold vStr at hQ
    rw [if_pos hk] at hQ
    refine ⟨fun h => ⟨by omega, ?_⟩, fun h => ⟨by omega, ?_⟩, fun h => ⟨by omega, ?_⟩, fun h => ⟨by omega, ?_⟩, fun h => ⟨by omega, ?_⟩, fun h => ⟨by omega, ?_⟩, fun h => ?_⟩
    · rw [if_pos h] at hQ; exact hQ
    · rw [if_neg (by omega), if_pos h] at hQ; exact hQ
    · rw [if_neg (by omega), if_neg (by omega), if_pos h] at hQ; exact hQ
    · rw [if_neg (by omega), if_neg (by omega), if_neg (by omega), if_pos h] at hQ; exact hQ
    · rw [if_neg (by omega), if_neg (by omega), if_neg (by omega), if_neg (by omega), if_pos h] at hQ; exact hQ
    · rw [if_neg (by omega), if_neg (by omega), if_neg (by omega), if_neg (by omega), if_neg (by omega), if_pos h] at hQ; exact hQ
    · rw [if_neg (by omega), if_neg (by omega), if_neg (by omega), if_neg (by omega), if_neg (by omega), if_neg (by omega)] at hQ; exact hQ
  · rw [b01_f (decide_eq_false hk), if_f (by decide)]
    unfold vStr at hQ
    rw [if_neg hk] at hQ
    exact hQ
theorem c_string {a b : Int} {w : aW} {Q : Option aV → aW → Prop} (hI : Inv w) (hQ : Q (some (vi (vStr w a b))) w) : T (D + 1) 9 0 [some (vr 0), some (vi a), some (vi b)] [] w Q := by
  obtain ⟨N, M, hN, hM, n1, n2, n3, n4⟩ := nm_of hI
  obtain ⟨-, -, -, tk, ⟨u, tu, tl, tb⟩, -⟩ := tr_of hI
  obtain ⟨-, ⟨x, sx, sl, sb⟩, sk, -, -⟩ := st_of hI
  rw [g9_0, k_hasString]
  simp only [tl_some, g9_5, g9_93, g9_105]
  by_cases hk : 0 ≤ a ∧ a < w 69 2
  · obtain ⟨k, rfl⟩ : ∃ k : Nat, a = (k : Int) := ⟨a.toNat, by omega⟩
    have hkM : (k : Int) < w 69 2 := hk.2
    obtain ⟨c1, -, -, c2, -, -⟩ := tk k hkM
    obtain ⟨d1, -, -, d2⟩ := sk k hkM
    have hx : x < 2147483648 := by
      have := two_le (n := (w 69 2).toNat) (by omega)
      omega
    rw [b01_t (decide_eq_true hk), if_t (by decide), tu, sx, k_bitAt (by omega) (by omega), k_bitAt hx (by omega), tb k hkM, ← sb k hkM]
    unfold vStr at hQ
    rw [if_pos (show 0 ≤ (k : Int) ∧ (k : Int) < w 168 3 by omega)] at hQ
    refine ⟨fun h => ⟨by omega, ?_⟩, fun h => ⟨by omega, ?_⟩, fun h => ⟨by omega, ?_⟩, fun h => ?_, fun h => ?_, fun h => ⟨by omega, ?_⟩, fun h => ?_⟩
    · rw [if_pos h] at hQ
      rw [show w 80 (k : Int) = w 168 (6 + (k : Int)) by simpa using d1]; exact hQ
    · rw [if_neg (by omega), if_pos h] at hQ
      rw [show w 73 (k : Int) = w 168 (64 + (k : Int)) by simpa using c1]; exact hQ
    · rw [if_neg (by omega), if_neg (by omega), if_pos h] at hQ
      rw [show w 74 (k : Int) = w 168 (80 + (k : Int)) by simpa using c2]; exact hQ
    · rw [if_neg (by omega), if_neg (by omega), if_neg (by omega), if_pos h] at hQ
      simp only [tl_some, g9_93]
      simpa using hQ
    · rw [if_neg (by omega), if_neg (by omega), if_neg (by omega), if_neg (by omega), if_pos h] at hQ
      simp only [tl_some, g9_105]
      simpa using hQ
    · rw [if_neg (by omega), if_neg (by omega), if_neg (by omega), if_neg (by omega), if_neg (by omega), if_pos h] at hQ
      rw [show w 81 (k : Int) = w 168 (38 + (k : Int)) by simpa using d2]; exact hQ
    · rw [if_neg (by omega), if_neg (by omega), if_neg (by omega), if_neg (by omega), if_neg (by omega), if_neg (by omega)] at hQ; exact hQ
  · rw [b01_f (decide_eq_false hk), if_f (by decide)]
    unfold vStr at hQ
    rw [if_neg (by omega)] at hQ
    exact hQ
/-- string -/
theorem s_string {a b : Int} : Sim Inv (D + 2) 9 10 [some (vr 0), some (vi a), some (vi b)] [some (vr 167), some (vi a), some (vi b)] := by
  refine sim_of fun w hI => ?_
  obtain ⟨N, M, hN, hM, n1, n2, n3, n4⟩ := nm_of hI
  exact ⟨vStr w a b, w, iup w 167 0 0, fun Q hQ => c_string hI hQ, fun Q hQ => r_string (by omega) (by omega) hQ, fun _ => rfl, th9, Inv_res hI th0⟩
end Ops2
