/-! Reading tokens: what class and reference hold while they read; their small steps. -/
def kd (b : Nat → Int) (n k : Nat) : Int := tkK b n (tkS b n k)
/-- all kinds -/
def kdL : List Int := [-1, 0, 1, 200, 201, 202, 203, 204, 205, 206, 207, 208, 209, 210, 211, 212, 213, 214, 59, 58, 43, 45, 42, 40, 41, 91, 93, 61, 60, 62]
theorem km_inj : ∀ c, c ∈ kdL → ∀ c', c' ∈ kdL → kmF c = kmF c' → c = c' := by decide +kernel
theorem wk_mem : ∀ j : Nat, j < 14 → 201 + (j : Int) ∈ kdL := by decide +kernel
theorem sg_mem : ∀ j : Nat, j < 12 → sBy 1 (j : Int) ∈ kdL := by decide +kernel
theorem kd_mem {b : Nat → Int} {n k : Nat} : kd b n k ∈ kdL := by
  have h1 : (-1 : Int) ∈ kdL := by decide
  have h2 : (0 : Int) ∈ kdL := by decide
  have h3 : (1 : Int) ∈ kdL := by decide
  have h4 : (200 : Int) ∈ kdL := by decide
  unfold kd tkK
  split
  · exact h2
  · split
    · have hw := wxF_le (b := b) (s := tkS b n k) (e := enF leB b n (tkS b n k)) 14 0 (by omega)
      split
      · exact h4
      · exact wk_mem _ (by omega)
    · split
      · split
        · exact h1
        · exact h3
      · split
        · next q =>
          obtain ⟨j, j1, j2⟩ := sgB_t.mp q
          rw [← j2]; exact sg_mem j j1
        · exact h1
/-- the text is cut into tokens 0 to K -/
def Lx (b : Nat → Int) (n K : Nat) : Prop := n ≤ 900 ∧ ByB b n ∧ K ≤ n ∧ tkS b n K = n ∧ ∀ j, j < K → tkS b n j < n
theorem Lx.end0 {b : Nat → Int} {n K : Nat} (h : Lx b n K) : kd b n K = 0 := by
  unfold kd tkK
  rw [h.2.2.2.1, if_pos (Nat.le_refl _)]
theorem Lx.lt {b : Nat → Int} {n K k : Nat} (h : Lx b n K) (hk : k ≤ K) (h0 : kd b n k ≠ 0) : k < K := by
  refine Classical.byContradiction (fun hge => h0 ?_)
  rw [show k = K by omega]; exact h.end0
/-- token k stands in the class -/
def CrC (w : aW) (b : Nat → Int) (n K k : Nat) : Prop := TkC w b n (K + 1) ∧ w 1 9 = (k : Int) ∧ w 1 10 = kd b n k ∧ (kd b n k = 1 → w 1 11 = tkV b n (tkS b n k)) ∧ k ≤ K ∧ kd b n k ≠ -1
/-- in the reference -/
def CrR (w : aW) (b : Nat → Int) (n k : Nat) : Prop := RtB w b n ∧ w 167 6 = ((tkS b n k : Nat) : Int) ∧ w 167 7 = ((tkP b n (k + 1) : Nat) : Int) ∧ w 167 9 = kmF (kd b n k) ∧ (kd b n k = 1 → w 167 10 = tkV b n (tkS b n k)) ∧ w 167 11 = 0
theorem CrC.of {w w' : aW} {b : Nat → Int} {n K k : Nat} (h : CrC w b n K k) (e : ∀ c i, ((c = 1 ∧ 8 ≤ i ∧ i ≤ 11) ∨ (13 ≤ c ∧ c ≤ 15)) → w' c i = w c i) : CrC w' b n K k := by
  obtain ⟨⟨h1, h2⟩, h3, h4, h5, h6, h7⟩ := h
  refine ⟨⟨by rw [e 1 8 (by omega)]; exact h1, fun j hj => ?_⟩, by rw [e 1 9 (by omega)]; exact h3, by rw [e 1 10 (by omega)]; exact h4, fun q => by rw [e 1 11 (by omega)]; exact h5 q, h6, h7⟩
  rw [e 13 _ (by omega), e 14 _ (by omega), e 15 _ (by omega)]
  exact h2 j hj
/-- what reading a rule may change -/
def FxC (w w' : aW) : Prop := ∀ c i, c ≠ 12 → ¬ (c = 1 ∧ (i = 2 ∨ i = 3 ∨ 9 ≤ i)) → ¬ (c = 3 ∧ i = 18) → w' c i = w c i
theorem FxC.refl (w : aW) : FxC w w := fun _ _ _ _ _ => rfl
theorem FxC.trans {w w1 w2 : aW} (h1 : FxC w w1) (h2 : FxC w1 w2) : FxC w w2 := fun c i q1 q2 q3 => by rw [h2 c i q1 q2 q3]; exact h1 c i q1 q2 q3
/-- a step to the next token -/
def FgC (w w' : aW) : Prop := ∀ c i, ¬ (c = 1 ∧ 9 ≤ i ∧ i ≤ 11) → w' c i = w c i
theorem FgC.fx {w w' : aW} (h : FgC w w') : FxC w w' := fun c i _ q2 _ => h c i (by omega)
/-- a fault is noted in the class -/
def FlC (w : aW) (f : Int) (p : Nat) : Prop := w 1 2 = f ∧ w 1 3 = (p : Int)
/-- codes were put behind B others -/
def EmC (w w' : aW) (B : Nat) (cs : List Int) : Prop :=
  w 3 18 = (B : Int) ∧ w' 3 18 = ((B + cs.length : Nat) : Int) ∧ (∀ i : Nat, i < B → w' 12 (i : Int) = w 12 (i : Int)) ∧ (∀ (i : Nat) (h : i < cs.length), w' 12 ((B + i : Nat) : Int) = cdR (cs[i]))
  ∧ (∀ u : Nat, u < 1024 → w 1 12 = (u : Int) → ∃ u' : Nat, u' < 1024 ∧ w' 1 12 = (u' : Int) ∧ ∀ j : Nat, j < 10 → u'.testBit j = (u.testBit j || decide ((1000 + (j : Int)) ∈ cs)))
  ∧ w' 1 13 = (if 1101 ∈ cs then 1 else w 1 13) ∧ w' 1 2 = w 1 2 ∧ w' 1 3 = w 1 3
theorem EmC.nil {w w' : aW} {B : Nat} (h : FgC w w') (hB : w 3 18 = (B : Int)) : EmC w w' B [] := by
  refine ⟨hB, by rw [h 3 18 (by omega)]; exact hB, fun i _ => h 12 _ (by omega), fun i hi => absurd hi (Nat.not_lt_zero _), fun u hu e => ⟨u, hu, by rw [h 1 12 (by omega)]; exact e, fun j _ => by simp⟩, by rw [if_neg (by simp), h 1 13 (by omega)], h 1 2 (by omega), h 1 3 (by omega)⟩
theorem EmC.trans {w w1 w2 : aW} {B : Nat} {cs ds : List Int} (h1 : EmC w w1 B cs) (h2 : EmC w1 w2 (B + cs.length) ds) : EmC w w2 B (cs ++ ds) := by
  obtain ⟨a1, a2, a3, a4, a5, a6, a7, a8⟩ := h1
  obtain ⟨b1, b2, b3, b4, b5, b6, b7, b8⟩ := h2
  refine ⟨a1, by rw [b2, List.length_append, Nat.add_assoc], fun i hi => by rw [b3 i (by omega)]; exact a3 i hi, fun i hi => ?_, fun u hu e => ?_, ?_, by rw [b7, a7], by rw [b8, a8]⟩
  · rw [List.length_append] at hi
    by_cases z : i < cs.length
    · rw [b3 (B + i) (by omega), a4 i z, List.getElem_append_left z]
    · rw [List.getElem_append_right (by omega), ← b4 (i - cs.length) (by omega), show B + cs.length + (i - cs.length) = B + i by omega]
  · obtain ⟨u1, v1, v2, v3⟩ := a5 u hu e
    obtain ⟨u2, v4, v5, v6⟩ := b5 u1 v1 v2
    refine ⟨u2, v4, v5, fun j hj => ?_⟩
    rw [v6 j hj, v3 j hj]
    by_cases z1 : (1000 + (j : Int)) ∈ cs
    · rw [decide_eq_true z1, decide_eq_true (List.mem_append_left _ z1), Bool.or_true, Bool.true_or]
    · rw [decide_eq_false z1, Bool.or_false]
      by_cases z2 : (1000 + (j : Int)) ∈ ds
      · rw [decide_eq_true z2, decide_eq_true (List.mem_append_right _ z2)]
      · rw [decide_eq_false z2, decide_eq_false (fun q => by rcases List.mem_append.mp q with y | y <;> contradiction)]
  · rw [b6]
    by_cases z2 : (1101 : Int) ∈ ds
    · rw [if_pos z2, if_pos (List.mem_append_right _ z2)]
    · rw [if_neg z2, a6]
      by_cases z1 : (1101 : Int) ∈ cs
      · rw [if_pos z1, if_pos (List.mem_append_left _ z1)]
      · rw [if_neg z1, if_neg (fun q => by rcases List.mem_append.mp q with y | y <;> contradiction)]
/-- what reading a rule may change in the reference -/
def FxR (w w' : aW) : Prop := ∀ c i, ¬ (c = 167 ∧ 6 ≤ i ∧ i ≤ 12 ∧ i ≠ 8) → ¬ (c = 171 ∧ 743 ≤ i) → w' c i = w c i
theorem FxR.refl (w : aW) : FxR w w := fun _ _ _ _ => rfl
theorem FxR.trans {w w1 w2 : aW} (h1 : FxR w w1) (h2 : FxR w1 w2) : FxR w w2 := fun c i q1 q2 => by rw [h2 c i q1 q2]; exact h1 c i q1 q2
theorem NxF.fx {w w' : aW} (h : NxF w w') : FxR w w' := fun c i q1 _ => h c i (by omega)
def EmR (w w' : aW) (B : Nat) (cs : List Int) : Prop :=
  w 171 743 = (B : Int) ∧ w' 171 743 = ((B + cs.length : Nat) : Int) ∧ (∀ i : Nat, i < B → w' 171 (744 + (i : Int)) = w 171 (744 + (i : Int))) ∧ (∀ (i : Nat) (h : i < cs.length), w' 171 (744 + ((B + i : Nat) : Int)) = cs[i])
theorem EmR.nil {w w' : aW} {B : Nat} (h : NxF w w') (hB : w 171 743 = (B : Int)) : EmR w w' B [] :=
  ⟨hB, by rw [h 171 743 (by omega)]; exact hB, fun i _ => h 171 _ (by omega), fun i hi => absurd hi (Nat.not_lt_zero _)⟩
theorem EmR.trans {w w1 w2 : aW} {B : Nat} {cs ds : List Int} (h1 : EmR w w1 B cs) (h2 : EmR w1 w2 (B + cs.length) ds) : EmR w w2 B (cs ++ ds) := by
  obtain ⟨a1, a2, a3, a4⟩ := h1
  obtain ⟨b1, b2, b3, b4⟩ := h2
  refine ⟨a1, by rw [b2, List.length_append, Nat.add_assoc], fun i hi => by rw [b3 i (by omega)]; exact a3 i hi, fun i hi => ?_⟩
  rw [List.length_append] at hi
  by_cases z : i < cs.length
  · rw [b3 (B + i) (by omega), a4 i z, List.getElem_append_left z]
  · rw [List.getElem_append_right (by omega), ← b4 (i - cs.length) (by omega), show B + cs.length + (i - cs.length) = B + i by omega]
/-- a fault is noted in the reference, or a bad token stands there -/
def FlP (w : aW) (f : Int) (p : Nat) : Prop := f ≠ 0 ∧ ((w 167 11 = f ∧ w 167 12 = (p : Int)) ∨ (f = 1 ∧ w 167 11 = 0 ∧ w 167 9 = 17 ∧ w 167 6 = (p : Int)))
/-- a fault is noted -/
def FlN (w : aW) (f : Int) (p : Nat) : Prop := f ≠ 0 ∧ w 167 11 = f ∧ w 167 12 = (p : Int)
theorem FlN.p {w : aW} {f : Int} {p : Nat} (h : FlN w f p) : FlP w f p := ⟨h.1, Or.inl h.2⟩
theorem CrR.bad {w : aW} {b : Nat → Int} {n k : Nat} (h : CrR w b n k) (hk : kd b n k = -1) : FlP w 1 (tkS b n k) := by
  obtain ⟨-, h6, -, h9, -, h11⟩ := h
  exact ⟨by decide, Or.inr ⟨rfl, h11, by rw [h9, hk]; rfl, h6⟩⟩
/-- no more than the fault is noted -/
def FnR (w w' : aW) : Prop := ∀ c i, ¬ (c = 167 ∧ (i = 11 ∨ i = 12)) → w' c i = w c i
theorem FnR.fx {w w' : aW} (h : FnR w w') : FxR w w' := fun c i q1 _ => h c i (by omega)
theorem FnR.refl (w : aW) : FnR w w := fun _ _ _ => rfl
theorem FnR.trans {w w1 w2 : aW} (h1 : FnR w w1) (h2 : FnR w1 w2) : FnR w w2 := fun c i q => by rw [h2 c i q]; exact h1 c i q
section Read
variable {d : Nat} {w : aW} {Q : Option aV → aW → Prop} {b : Nat → Int} {n K k : Nat}
/-- refuse(why) -/
theorem k_refuse {a : Int} (hL : Lx b n K) (hC : TkC w b n (K + 1)) (h9 : w 1 9 = (k : Int)) (hk : k ≤ K) (hQ : ∀ w' : aW, FxC w w' → FlC w' a (tkS b n k) → Q (some (vi 0)) w') : T d 219 0 [some (vr 1), some (vi a)] [] w Q := by
  have hn := hL.1
  have hK := hL.2.2.1
  have e14 := (hC.2 k (by omega)).2.1
  rw [g219_0, iup_i (show (9 : Int) ≠ 2 by decide), h9, iup_c (show (14 : Nat) ≠ 1 by decide), e14]
  refine ⟨by omega, hQ _ (fun c i q1 q2 q3 => ?_) ⟨?_, iup_s⟩⟩
  · have e1 : ∀ (v : aW) (j x : Int), (j = 2 ∨ j = 3) → iup v 1 j x c i = v c i := fun v j x hj => by
      unfold iup; rw [if_neg (by omega)]
    rw [e1 _ _ _ (Or.inr rfl), e1 _ _ _ (Or.inl rfl)]
  · rw [iup_i (by decide), iup_s]
/-- goOn() from before token k -/
theorem k_goOn0 (hL : Lx b n K) (hC : TkC w b n (K + 1)) (h9 : w 1 9 = (k : Int) - 1) (hk : k ≤ K)
    (h1 : kd b n k ≠ -1 → ∀ w' : aW, FgC w w' → CrC w' b n K k → Q (some (vi 1)) w')
    (h0 : kd b n k = -1 → ∀ w' : aW, FxC w w' → FlC w' 1 (tkS b n k) → Q (some (vi 0)) w') : T (d + 1) 212 0 [some (vr 1)] [] w Q := by
  have hn := hL.1
  have hK := hL.2.2.1
  obtain ⟨t1, t2, t3⟩ := hC.2 k (by omega)
  have e1 : Unit → w32 ((k : Int) - 1 + 1) = (k : Int) := fun _ => by rw [w32_id (by omega) (by omega)]; omega
  have e8 : w 1 8 = ((K + 1 : Nat) : Int) := hC.1
  rw [g212_0, h9, e1 (), e8]
  refine ⟨fun h => absurd h (by omega), fun _ => ?_⟩
  have hF : ∀ (x y : Int), FgC w (iup (iup (iup w 1 9 (k : Int)) 1 10 x) 1 11 y) := fun x y c i q => by
    have e1 : ∀ (v : aW) (j x : Int), (j = 9 ∨ j = 10 ∨ j = 11) → iup v 1 j x c i = v c i := fun v j x hj => by
      unfold iup; rw [if_neg (by omega)]
    rw [e1 _ _ _ (by omega), e1 _ _ _ (by omega), e1 _ _ _ (by omega)]
  rw [g212_23]
  simp only [iup_c (show (13 : Nat) ≠ 1 by decide), iup_c (show (15 : Nat) ≠ 1 by decide), iup_s, iup_i (show (9 : Int) ≠ 10 by decide), iup_i (show (10 : Int) ≠ 11 by decide), t1]
  have hF1 := hF (tkK b n (tkS b n k)) (w 15 (k : Int))
  refine ⟨by omega, by omega, fun hne => ?_, fun he => ?_⟩
  · rw [g212_65, g212_70]
    refine ⟨Or.inr rfl, h1 hne _ hF1 ⟨⟨by rw [hF1 1 8 (by omega)]; exact e8, fun j hj => ?_⟩, ?_, ?_, fun q => ?_, hk, hne⟩⟩
    · rw [hF1 13 _ (by omega), hF1 14 _ (by omega), hF1 15 _ (by omega)]
      exact hC.2 j hj
    · rw [iup_i (by decide), iup_i (by decide), iup_s]
    · rw [iup_i (by decide), iup_s]; rfl
    · rw [iup_s]; exact t3 q
  · have he' : kd b n k = -1 := Classical.byContradiction he
    refine k_refuse (k := k) hL ⟨by rw [hF1 1 8 (by omega)]; exact e8, fun j hj => ?_⟩ (by rw [iup_i (by decide), iup_i (by decide), iup_s]) hk (fun w' hw' hf => ?_)
    · rw [hF1 13 _ (by omega), hF1 14 _ (by omega), hF1 15 _ (by omega)]
      exact hC.2 j hj
    · simp only [tl_some]
      rw [g212_62, if_t rfl, g212_70]
      exact ⟨Or.inl rfl, h0 he' w' (hF1.fx.trans hw') hf⟩
/-- goOn() -/
theorem k_goOn (hL : Lx b n K) (hC : CrC w b n K k) (hk : k < K)
    (h1 : kd b n (k + 1) ≠ -1 → ∀ w' : aW, FgC w w' → CrC w' b n K (k + 1) → Q (some (vi 1)) w')
    (h0 : kd b n (k + 1) = -1 → ∀ w' : aW, FxC w w' → FlC w' 1 (tkS b n (k + 1)) → Q (some (vi 0)) w') : T (d + 1) 212 0 [some (vr 1)] [] w Q :=
  k_goOn0 hL hC.1 (by rw [hC.2.1]; omega) (by omega) h1 h0
/-- isKind(wanted) -/
theorem k_isKind {a : Int} (hL : Lx b n K) (hC : CrC w b n K k) (h1 : kd b n k = a → Q (some (vi 1)) w) (h0 : kd b n k ≠ a → ∀ w' : aW, FxC w w' → FlC w' 2 (tkS b n k) → Q (some (vi 0)) w') : T (d + 1) 220 0 [some (vr 1), some (vi a)] [] w Q := by
  rw [g220_0, hC.2.2.1]
  refine ⟨fun h => ?_, fun h => ?_⟩
  · rw [g220_16, g220_21]; exact ⟨Or.inr rfl, h1 h⟩
  · refine k_refuse hL hC.1 hC.2.1 hC.2.2.2.2.1 (fun w' hw hf => ?_)
    simp only [tl_some]
    rw [g220_13, if_t rfl, g220_21]
    exact ⟨Or.inl rfl, h0 h w' hw hf⟩
/-- isNumber(least, most) -/
theorem k_isNum {lo hi : Int} (hL : Lx b n K) (hC : CrC w b n K k) (h1 : kd b n k = 1 → lo ≤ tkV b n (tkS b n k) → tkV b n (tkS b n k) ≤ hi → Q (some (vi 1)) w)
    (h2 : kd b n k ≠ 1 → ∀ w' : aW, FxC w w' → FlC w' 2 (tkS b n k) → Q (some (vi 0)) w') (h3 : kd b n k = 1 → ¬ (lo ≤ tkV b n (tkS b n k) ∧ tkV b n (tkS b n k) ≤ hi) → ∀ w' : aW, FxC w w' → FlC w' 3 (tkS b n k) → Q (some (vi 0)) w') :
    T (d + 1) 272 0 [some (vr 1), some (vi lo), some (vi hi)] [] w Q := by
  rw [g272_0, hC.2.2.1]
  refine ⟨fun h => ?_, fun h => ?_⟩
  · have e11 := hC.2.2.2.1 h
    have h30 : ¬ (lo ≤ tkV b n (tkS b n k) ∧ tkV b n (tkS b n k) ≤ hi) → T (d + 1) 272 30 [some (vr 1), some (vi lo), some (vi hi)] [] w Q := by
      intro hno
      rw [g272_30]
      refine k_refuse hL hC.1 hC.2.1 hC.2.2.2.2.1 (fun w' hw hf => ?_)
      simp only [tl_some]
      rw [g272_35, if_t rfl, g272_43]
      exact ⟨Or.inl rfl, h3 h hno w' hw hf⟩
    rw [e11]
    refine ⟨fun q => h30 (by omega), fun q => ⟨fun q2 => ?_, fun q2 => h30 (by omega)⟩⟩
    rw [g272_38, g272_43]
    exact ⟨Or.inr rfl, h1 h (by omega) q2⟩
  · refine k_refuse hL hC.1 hC.2.1 hC.2.2.2.2.1 (fun w' hw hf => ?_)
    simp only [tl_some]
    rw [g272_13]
    exact ⟨Or.inl rfl, h2 h w' hw hf⟩
/-- emit(op, value) -/
theorem k_emit {B : Nat} {op v : Int} (hB : w 3 18 = (B : Int)) (hlt : B < 900) (h1 : 0 ≤ op) (h2 : op ≤ 12) (h3 : 0 ≤ v) (h4 : v < 1024)
    (hQ : ∀ w' : aW, (∀ c i, ¬ (c = 12 ∧ i = (B : Int)) → ¬ (c = 3 ∧ i = 18) → w' c i = w c i) → w' 12 (B : Int) = op * 1024 + v → w' 3 18 = ((B + 1 : Nat) : Int) → Q none w') : T d 298 0 [some (vr 3), some (vi op), some (vi v)] [] w Q := by
  have hl : lay 3 = (8, 0) := by decide +kernel
  have e1 : Unit → w32 (w32 (op * 1024) + v) = op * 1024 + v := fun _ => by rw [w32_id (x := op * 1024) (by omega) (by omega), w32_id (by omega) (by omega)]
  have e2 : Unit → w32 ((B : Int) + 1) = ((B + 1 : Nat) : Int) := fun _ => by rw [w32_id (by omega) (by omega)]; omega
  rw [g298_0, show rfA 3 17 = 12 by decide +kernel, iup_c (show (3 : Nat) ≠ 12 by decide), hB, e1 (), e2 (), ia0_12]
  refine ⟨hl, fun h => absurd h (by omega), fun _ => ⟨hl, hl, by omega, hl, hl, ?_⟩⟩
  rw [g298_36]
  refine hQ _ (fun c i q1 q2 => ?_) ?_ iup_s
  · unfold iup; rw [if_neg q2, if_neg q1]
  · rw [iup_c (by decide), iup_s]
/-- is(k) -/
theorem k_isR {a c : Int} (hC : CrR w b n k) (hc : c ∈ kdL) (ha : kmF c = a) : T d 109 0 [some (vr 167), some (vi a)] [] w Q = Q (some (vi (b01 (decide (kd b n k = c))))) w := by
  obtain ⟨-, -, -, h9, -, h11⟩ := hC
  rw [g109_0, h9, h11, if_f (show ¬ (¬ (0 : Int) = 0) by decide)]
  by_cases z : kd b n k = c
  · rw [if_f (fun q => q (by rw [z]; exact ha)), g109_20, gd (Or.inr rfl), decide_eq_true z]; rfl
  · rw [if_t (fun q => z (km_inj _ kd_mem _ hc (by rw [q, ha]))), g109_19, g109_20, gd (Or.inl rfl), decide_eq_false z]; rfl
theorem k_isF {a f : Int} {p : Nat} (hF : FlP w f p) (ha : a ≠ 17) : T d 109 0 [some (vr 167), some (vi a)] [] w Q = Q (some (vi 0)) w := by
  obtain ⟨h0, h | h⟩ := hF
  · rw [g109_0, if_t (show ¬ w 167 11 = 0 by rw [h.1]; exact h0), g109_19, g109_20, gd (Or.inl rfl)]
  · rw [g109_0, h.2.1, if_f (show ¬ (¬ (0 : Int) = 0) by decide), h.2.2.1, if_t (fun q => ha q.symm), g109_19, g109_20, gd (Or.inl rfl)]
/-- next(), from token k to the one behind -/
theorem k_nextR {x1 : Option aV} (hL : Lx b n K) (hC : CrR w b n k) (hQ : ∀ w' : aW, NxF w w' → CrR w' b n (k + 1) → Q none w') : T (d + 5) 106 0 [some (vr 167), x1] [] w Q := by
  obtain ⟨hR, h6, h7, h9, h10, h11⟩ := hC
  exact k_next hL.1 hL.2.1 hR h7 (fun w' hx q6 q7 q9 q10 => hQ w' hx ⟨hR.of hx, q6, q7, q9, q10, by rw [hx 167 11 (by omega)]; exact h11⟩)
/-- eats(k) -/
theorem k_eatsR {a c : Int} (hL : Lx b n K) (hC : CrR w b n k) (hc : c ∈ kdL) (ha : kmF c = a) (h1 : kd b n k = c → ∀ w' : aW, NxF w w' → CrR w' b n (k + 1) → Q (some (vi 1)) w') (h0 : kd b n k ≠ c → Q (some (vi 0)) w) : T (d + 6) 107 0 [some (vr 167), some (vi a)] [] w Q := by
  rw [g107_0, k_isR hC hc ha]
  simp only [tl_some]
  rw [g107_5]
  by_cases z : kd b n k = c
  · rw [decide_eq_true z]
    refine ⟨fun _ => ?_, fun h => absurd (by decide) h⟩
    refine k_nextR hL hC (fun w' hx hC' => ?_)
    simp only [tl_none]
    rw [g107_14]
    exact h1 z w' hx hC'
  · rw [decide_eq_false z]
    exact ⟨fun h => absurd rfl h, fun _ => h0 z⟩
theorem k_eatsF {a f : Int} {p : Nat} (hF : FlP w f p) (ha : a ≠ 17) : T (d + 1) 107 0 [some (vr 167), some (vi a)] [] w Q = Q (some (vi 0)) w := by
  rw [g107_0, k_isF hF ha]
  simp only [tl_some]
  rw [g107_5, if_f (show ¬ (¬ (0 : Int) = 0) by decide)]
/-- fails(fault) -/
theorem k_failsR {a : Int} (hC : CrR w b n k) (hb : kd b n k ≠ -1) (ha : a ≠ 0) (hQ : ∀ w' : aW, FnR w w' → FlN w' a (tkS b n k) → Q none w') : T d 115 0 [some (vr 167), some (vi a)] [] w Q := by
  obtain ⟨-, h6, -, h9, -, h11⟩ := hC
  have h17 : ¬ kmF (kd b n k) = 17 := fun q => hb (km_inj _ kd_mem (-1) (by decide) (by rw [q]; rfl))
  rw [g115_0, h11, h9, if_t rfl, if_t h17, g115_23, iup_i (show (6 : Int) ≠ 11 by decide), h6]
  refine ⟨by decide +kernel, hQ _ (fun c i q => ?_) ⟨ha, by rw [iup_i (by decide), iup_s], iup_s⟩⟩
  have e1 : ∀ (v : aW) (j x : Int), (j = 11 ∨ j = 12) → iup v 167 j x c i = v c i := fun v j x hj => by
    unfold iup; rw [if_neg (by omega)]
  rw [e1 _ _ _ (by omega), e1 _ _ _ (by omega)]
theorem k_failsF {a f : Int} {p : Nat} (hF : FlP w f p) (hQ : ∀ w' : aW, FnR w w' → FlN w' f p → Q none w') : T d 115 0 [some (vr 167), some (vi a)] [] w Q := by
  obtain ⟨h0, h | h⟩ := hF
  · rw [g115_0, if_f (show ¬ w 167 11 = 0 by rw [h.1]; exact h0)]
    exact hQ w (FnR.refl w) ⟨h0, h⟩
  · obtain ⟨h1, h2, h3, h4⟩ := h
    rw [g115_0, h2, h3, if_t rfl, if_f (show ¬ (¬ (17 : Int) = 17) by decide), g115_23, iup_i (show (6 : Int) ≠ 11 by decide), h4]
    refine ⟨by decide +kernel, hQ _ (fun c i q => ?_) ⟨h0, by rw [iup_i (by decide), iup_s, h1], iup_s⟩⟩
    have e1 : ∀ (v : aW) (j x : Int), (j = 11 ∨ j = 12) → iup v 167 j x c i = v c i := fun v j x hj => by
      unfold iup; rw [if_neg (by omega)]
    rw [e1 _ _ _ (by omega), e1 _ _ _ (by omega)]
/-- codes(code) -/
theorem k_codesR {B : Nat} {a : Int} (h11 : w 167 11 = 0) (hB : w 171 743 = (B : Int)) (hlt : B < 900) (hQ : ∀ w' : aW, (∀ c i, ¬ (c = 171 ∧ 743 ≤ i) → w' c i = w c i) → EmR w w' B [a] → Q none w') : T d 281 0 [some (vr 167), some (vi a)] [] w Q := by
  have e1 : Unit → w32 (744 + (B : Int)) = 744 + (B : Int) := fun _ => w32_id (by omega) (by omega)
  have e2 : Unit → w32 ((B : Int) + 1) = ((B + 1 : Nat) : Int) := fun _ => by rw [w32_id (by omega) (by omega)]; omega
  rw [g281_0, h11, if_t rfl, hB, e1 (), iup_i (show (743 : Int) ≠ 744 + (B : Int) by omega), hB, e2 ()]
  refine ⟨by omega, hQ _ (fun c i q => ?_) ⟨hB, iup_s, fun i hi => ?_, fun i hi => ?_⟩⟩
  · by_cases z : c = 171
    · subst z; rw [iup_i (by omega), iup_i (by omega)]
    · rw [iup_c z, iup_c z]
  · rw [iup_i (by omega), iup_i (by omega)]
  · have : i = 0 := by simp at hi; omega
    subst this
    rw [iup_i (by omega), Nat.add_zero, iup_s]
    rfl
theorem k_codesF {B : Nat} {a f : Int} {p : Nat} (hF : FlP w f p) (hB : w 171 743 = (B : Int)) (hlt : B < 900) (hQ : ∀ (w' : aW) (B' : Nat), FxR w w' → FlP w' f p → w' 171 743 = (B' : Int) → B' ≤ B + 1 → Q none w') : T d 281 0 [some (vr 167), some (vi a)] [] w Q := by
  by_cases h : w 167 11 = 0
  · refine k_codesR h hB hlt (fun w' hw hE => ?_)
    refine hQ w' (B + 1) (fun c i _ q => hw c i q) ?_ hE.2.1 (Nat.le_refl _)
    obtain ⟨h0, h1 | h1⟩ := hF
    · exact absurd (by rw [← h1.1]; exact h) h0
    · refine ⟨h0, Or.inr ⟨h1.1, ?_, ?_, ?_⟩⟩
      · rw [hw 167 11 (by omega)]; exact h1.2.1
      · rw [hw 167 9 (by omega)]; exact h1.2.2.1
      · rw [hw 167 6 (by omega)]; exact h1.2.2.2
  · rw [g281_0, if_f h]
    exact hQ w B (FxR.refl w) hF hB (by omega)
/-- goesIn(deep) -/
theorem k_goesIn {deep : Nat} (hL : Lx b n K) (hC : CrR w b n k) (hb : kd b n k ≠ -1) (h1 : deep ≠ 6 → ∀ w' : aW, NxF w w' → CrR w' b n (k + 1) → Q (some (vi 1)) w') (h0 : deep = 6 → ∀ w' : aW, FnR w w' → FlN w' 4 (tkS b n k) → Q (some (vi 0)) w') : T (d + 6) 308 0 [some (vr 167), some (vi (deep : Int))] [] w Q := by
  rw [g308_0]
  refine ⟨fun h => ?_, fun h => ?_⟩
  · rw [g308_11, hC.2.2.2.2.2, if_f (show ¬ (¬ (0 : Int) = 0) by decide)]
    refine k_nextR hL hC (fun w' hx hC' => ?_)
    simp only [tl_none]
    rw [g308_22, hC'.2.2.2.2.2, if_f (show ¬ (¬ (0 : Int) = 0) by decide), g308_34]
    exact ⟨Or.inr rfl, h1 (by omega) w' hx hC'⟩
  · refine k_failsR hC hb (by decide) (fun w' hw hF => ?_)
    simp only [tl_none]
    have hne : ¬ w' 167 11 = 0 := by rw [hF.2.1]; exact hF.1
    rw [g308_11, if_t hne, g308_22, if_t hne, g308_34]
    exact ⟨Or.inl rfl, h0 (by omega) w' hw hF⟩
end Read
