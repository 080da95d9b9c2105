/-! feed. -/
theorem to8_and (X : Int32) : (X &&& Int32.ofInt 255).toInt8 = X.toInt8 := by
  apply Int8.toBitVec_inj.1
  show (X.toBitVec &&& (Int32.ofInt 255).toBitVec).signExtend 8 = X.toBitVec.signExtend 8
  have h : ∀ i, i < 8 → (Int32.ofInt 255).toBitVec.getLsbD i = true := by decide
  apply BitVec.eq_of_getLsbD_eq
  intro i hi
  rw [BitVec.getLsbD_signExtend, BitVec.getLsbD_signExtend, if_pos (by omega), if_pos (by omega), BitVec.getLsbD_and, h i hi, Bool.and_true]
theorem j8_255 (x : Int) : j8 (jand x 255) = j8 (j8 x) := by
  unfold j8 jand
  rw [Int32.ofInt_toInt, Int32.ofInt_toInt, to8_and, Int8.toInt8_toInt32]
theorem jand_255 (x : Int) : 0 ≤ jand x 255 ∧ jand x 255 ≤ 255 := by
  unfold jand
  rw [ofInt_nI x, show Int32.ofInt 255 = nI 255 from rfl, n_and]
  have h : (x % 4294967296).toNat &&& 255 ≤ 255 := Nat.and_le_right
  rw [nI_toInt (by omega)]
  omega
theorem Inv_fd {w w2 : aW} (hI : Inv w) (hD : ∀ c i, scr c i = false → c ≠ 2 → c ≠ 170 → ¬ (c = 1 ∧ i = 1) → ¬ (c = 167 ∧ i = 5) → w2 c i = w c i)
    (hT : w2 1 1 = w2 167 5 ∧ 0 ≤ w2 1 1 ∧ w2 1 1 ≤ 900 ∧ ∀ k : Nat, (k : Int) < w2 1 1 → 0 ≤ w2 170 k ∧ w2 170 k ≤ 255 ∧ w2 2 k = j8 (w2 170 k)) : Inv w2 := by
  have k : ∀ c i, scr c i = false → c ≠ 2 → c ≠ 170 → ¬ (c = 1 ∧ i = 1) → ¬ (c = 167 ∧ i = 5) → res w2 c i = res w c i := by
    intro c i h0 h1 h2 h3 h4
    rw [res_at h0, res_at h0]
    exact hD c i h0 h1 h2 h3 h4
  have s69 : ∀ c : Nat, ∀ i : Int, 69 ≤ c → c ≤ 170 → ¬ (83 ≤ c ∧ c ≤ 86) → c ≠ 167 → scr c i = false := by
    intro c i h1 h2 h3 h4
    unfold scr
    simp only [Bool.or_eq_false_iff, decide_eq_false_iff_not]
    omega
  have f69 : ∀ c : Nat, 69 ≤ c → c ≤ 169 → ¬ (83 ≤ c ∧ c ≤ 86) → c ≠ 167 → res w2 c = res w c := fun c h1 h2 h3 h4 => funext fun i => k c i (s69 c i h1 (by omega) h3 h4) (by omega) (by omega) (by omega) (by omega)
  have fr : ∀ c : Nat, 188 ≤ c → res w2 c = res w c := fun c h1 => funext fun i => k c i (by unfold scr; simp only [Bool.or_eq_false_iff, decide_eq_false_iff_not]; omega) (by omega) (by omega) (by omega) (by omega)
  obtain ⟨f1, f2, f3, f4, f5, f6, f7, f8⟩ := hI
  have e69 := f69 69 (by omega) (by omega) (by omega) (by omega)
  have e168 := f69 168 (by omega) (by omega) (by omega) (by omega)
  have etr : trR (res w2) 0 = trR (res w) 0 := trR_eq f3 (fun i _ => by rw [e168])
  refine ⟨?_, ?_, TrR_of f3 (fun c i h1 h2 => by rw [f69 c (by omega) (by omega) (by omega) (by omega)]) (fun i _ => by rw [e168]), ?_, ?_, ?_, ?_, ?_⟩
  · rw [k 1 2 (by decide) (by omega) (by omega) (by omega) (by omega), k 1 3 (by decide) (by omega) (by omega) (by omega) (by omega), k 167 13 (by decide) (by omega) (by omega) (by omega) (by omega), k 167 14 (by decide) (by omega) (by omega) (by omega) (by omega)]
    exact f1
  · rw [res_at (w := w2) (c := 1) (i := 1) (by decide), res_at (w := w2) (c := 167) (i := 5) (by decide)]
    refine ⟨hT.1, hT.2.1, hT.2.2.1, fun j hj => ?_⟩
    rw [res_at (w := w2) (c := 170) (i := (j : Int)) (by unfold scr; simp), res_at (w := w2) (c := 2) (i := (j : Int)) (by unfold scr; simp)]
    exact hT.2.2.2 j hj
  · rw [e69]
    exact StR_kp f3.2.1.2.1 f3.2.1.2.2.2.1 f4 (fun c i h1 h2 => by rw [f69 c (by omega) (by omega) (by omega) (by omega)]) (fun i _ _ => by rw [e168])
  · rw [k 0 12 (by decide) (by omega) (by omega) (by omega) (by omega), e168, e69, f69 87 (by omega) (by omega) (by omega) (by omega)]
    refine ⟨f5.1, f5.2.1, f5.2.2.1, f5.2.2.2.1, f5.2.2.2.2.1, fun i hi => ?_⟩
    have hi10 : i < 10 := by have := f5.2.2.1; omega
    obtain ⟨c, c1, c2⟩ := f5.2.2.2.1 i hi10
    exact StR_kp f3.2.1.2.1 f3.2.1.2.2.2.1 (f5.2.2.2.2.2 i hi) (fun c' j h1 h2 => by rw [f69 c' (by omega) (by omega) (by omega) (by omega)]) (fun j _ _ => by rw [e168])
  · rw [k 0 16 (by decide) (by omega) (by omega) (by omega) (by omega), f69 169 (by omega) (by omega) (by omega) (by omega)]
    refine ⟨f6.1, f6.2.1, fun i hi => ?_⟩
    obtain ⟨a1, a2⟩ := f6.2.2 i hi
    refine ⟨a1, fun h1 => ?_⟩
    obtain ⟨b1, b2⟩ := a2 h1
    refine ⟨TrR_of b1 (fun c j q1 q2 => by rw [f69 c (by omega) (by omega) (by omega) (by omega)]) (fun j _ => by rw [e168]), ?_⟩
    rw [f69 (139 + 14 * i) (by omega) (by omega) (by omega) (by omega)]
    exact StR_kp b1.2.1.2.1 b1.2.1.2.2.2.1 b2 (fun c j q1 q2 => by rw [f69 c (by omega) (by omega) (by omega) (by omega)]) (fun j _ _ => by rw [e168])
  · intro r hr
    rw [f69 (131 + 2 * r) (by omega) (by omega) (by omega) (by omega), f69 (132 + 2 * r) (by omega) (by omega) (by omega) (by omega), fr 188 (by omega), fr 189 (by omega), fr 190 (by omega)]
    exact f7 r hr
  · have e20 : ∀ c, 20 ≤ c → c ≤ 23 → res w2 c = res w c := fun c q1 q2 => funext fun j => k c j (by unfold scr; simp only [Bool.or_eq_false_iff, decide_eq_false_iff_not]; omega) (by omega) (by omega) (by omega) (by omega)
    have e26 : res w2 26 = res w 26 := funext fun j => k 26 j (by unfold scr; simp) (by omega) (by omega) (by omega) (by omega)
    have e19 : ∀ j : Int, j ≠ 7 → res w2 19 j = res w 19 j := fun j q => k 19 j (by unfold scr; simpa using q) (by omega) (by omega) (by omega) (by omega)
    unfold CaR
    rw [e19 8 (by decide), e19 0 (by decide), e19 10 (by decide), e19 9 (by decide), e20 20 (by omega) (by omega), e20 21 (by omega) (by omega), e20 22 (by omega) (by omega), e20 23 (by omega) (by omega), e26, e69, etr]
    exact f8
section Feed
variable {d D : Nat} {w : aW} {Q : Option aV → aW → Prop}
/-- a word's byte -/
def byF (x : Int) (j : Nat) : Int := jshr x (24 - 8 * (j : Int))
/-- the tape of the class stands to n, with k bytes of the words F behind it -/
def TpC (w : aW) (n k : Nat) (F : Nat → Int) : Prop := w 1 1 = ((n + k : Nat) : Int) ∧ ∀ i : Nat, i < k → w 2 ((n + i : Nat) : Int) = j8 (j8 (byF (F (i / 4)) (i % 4)))
/-- putWord(x) -/
theorem k_putWord {n q : Nat} {F : Nat → Int} {x : Int} {x2 : Option aV} (hx : x = F q) (h9 : n + 4 * q + 4 ≤ 900) (hT : TpC w n (4 * q) F)
    (hQ : ∀ w', (∀ c i, c ≠ 2 → ¬ (c = 1 ∧ i = 1) → w' c i = w c i) → (∀ i : Nat, i < n → w' 2 (i : Int) = w 2 (i : Int)) → TpC w' n (4 * (q + 1)) F → Q none w') : T d 99 0 [some (vr 1), some (vi x), x2] [] w Q := by
  subst hx
  rw [g99_0]
  have key : ∀ (m j : Nat) (w1 : aW) (a2 : Int), j + m = 4 → a2 = 24 - 8 * (j : Int) → (∀ c i, c ≠ 2 → ¬ (c = 1 ∧ i = 1) → w1 c i = w c i) → (∀ i : Nat, i < n → w1 2 (i : Int) = w 2 (i : Int)) → TpC w1 n (4 * q + j) F → T d 99 3 [some (vr 1), some (vi (F q)), some (vi a2)] [] w1 Q := by
    intro m
    induction m with
    | zero =>
      intro j w1 a2 hj ha hw hl hT1
      rw [g99_3, g99_46]
      refine ⟨fun _ => hQ w1 hw hl (by rw [show 4 * (q + 1) = 4 * q + j by omega]; exact hT1), fun h => absurd (by omega) h⟩
    | succ m ih =>
      intro j w1 a2 hj ha hw hl hT1
      subst ha
      rw [g99_3, hT1.1]
      refine ⟨fun h => absurd h (by omega), fun _ => ⟨fun h => absurd h (by omega), fun _ => ⟨by omega, ?_⟩⟩⟩
      rw [iup_c (show (1 : Nat) ≠ 2 by decide), hT1.1]
      refine ih (j + 1) _ _ (by omega) (by rw [w32_id (by omega) (by omega)]; omega) (fun c i q1 q2 => by rw [iup_n q2, iup_c q1]; exact hw c i q1 q2) (fun i hi => by rw [iup_c (by decide), iup_i (by omega)]; exact hl i hi) ⟨?_, fun i hi => ?_⟩
      · rw [iup_s, w32_id (by omega) (by omega)]; omega
      · rw [iup_c (by decide)]
        by_cases z : i = 4 * q + j
        · subst z
          rw [iup_s, show (4 * q + j) / 4 = q by omega, show (4 * q + j) % 4 = j by omega]
          rfl
        · rw [iup_i (by omega)]; exact hT1.2 i (by omega)
  exact key 4 0 w _ (by omega) rfl (fun _ _ _ _ => rfl) (fun _ _ => rfl) hT
def wdF (a b c e f : Int) (i : Nat) : Int := if i = 0 then a else if i = 1 then b else if i = 2 then c else if i = 3 then e else f
theorem c_feed {n : Nat} {a b c e f : Int} (hn : w 1 1 = (n : Int)) (h9 : n ≤ 900) (h1 : 900 < n + 20 → Q (some (vi (-5))) w)
    (h2 : n + 20 ≤ 900 → ∀ w', (∀ c i, c ≠ 2 → ¬ (c = 1 ∧ i = 1) → w' c i = w c i) → (∀ i : Nat, i < n → w' 2 (i : Int) = w 2 (i : Int)) → TpC w' n 20 (wdF a b c e f) → Q (some (vi ((n + 20 : Nat) : Int))) w') :
    T (d + 1) 1 0 [some (vr 0), some (vi a), some (vi b), some (vi c), some (vi e), some (vi f)] [] w Q := by
  have e20 : Unit → w32 ((n : Int) + 20) = ((n + 20 : Nat) : Int) := fun _ => by rw [w32_id (by omega) (by omega)]; omega
  rw [g1_0, hn, e20 ()]
  refine ⟨fun h => ?_, fun h => h1 (by omega)⟩
  have h20 : n + 20 ≤ 900 := by omega
  refine k_putWord (n := n) (q := 0) (F := wdF a b c e f) rfl (by omega) ⟨hn, fun i hi => by omega⟩ (fun w1 p1 l1 t1 => ?_)
  simp only [tl_none]
  rw [g1_27]
  refine k_putWord (n := n) (q := 1) (F := wdF a b c e f) rfl (by omega) t1 (fun w2 p2 l2 t2 => ?_)
  simp only [tl_none]
  rw [g1_35]
  refine k_putWord (n := n) (q := 2) (F := wdF a b c e f) rfl (by omega) t2 (fun w3 p3 l3 t3 => ?_)
  simp only [tl_none]
  rw [g1_43]
  refine k_putWord (n := n) (q := 3) (F := wdF a b c e f) rfl (by omega) t3 (fun w4 p4 l4 t4 => ?_)
  simp only [tl_none]
  rw [g1_52]
  refine k_putWord (n := n) (q := 4) (F := wdF a b c e f) rfl (by omega) t4 (fun w5 p5 l5 t5 => ?_)
  simp only [tl_none]
  rw [g1_61, t5.1]
  exact h2 h20 w5 (fun c i q1 q2 => by rw [p5 c i q1 q2, p4 c i q1 q2, p3 c i q1 q2, p2 c i q1 q2]; exact p1 c i q1 q2) (fun i hi => by rw [l5 i hi, l4 i hi, l3 i hi, l2 i hi]; exact l1 i hi) t5
theorem r_feed {n : Nat} {a b c e f : Int} (hn : w 167 5 = (n : Int)) (h9 : n ≤ 900) (h1 : 900 < n + 20 → Q (some (vi (-5))) (iup w 167 0 0))
    (h2 : n + 20 ≤ 900 → ∀ w', (∀ c i, c ≠ 170 → ¬ (c = 167 ∧ (i = 5 ∨ i = 0)) → w' c i = w c i) → (∀ i : Nat, i < n → w' 170 (i : Int) = w 170 (i : Int)) → w' 167 5 = ((n + 20 : Nat) : Int) → (∀ i : Nat, i < 20 → w' 170 ((n + i : Nat) : Int) = jand (byF (wdF a b c e f (i / 4)) (i % 4)) 255) → Q (some (vi ((n + 20 : Nat) : Int))) w') :
    T d 2 0 [some (vr 167), some (vi a), some (vi b), some (vi c), some (vi e), some (vi f), none, none] [] w Q := by
  have e20 : Unit → w32 ((n : Int) + 20) = ((n + 20 : Nat) : Int) := fun _ => by rw [w32_id (by omega) (by omega)]; omega
  rw [g2_0, iup_i (show (5 : Int) ≠ 0 by decide), hn, e20 ()]
  refine ⟨fun h => ?_, fun h => h1 (by omega)⟩
  have h20 : n + 20 ≤ 900 := by omega
  have key : ∀ (m k : Nat) (w1 : aW) (a6 : Int) (x7 : Option aV), k + m = 20 → a6 = (k : Int) → (∀ c i, c ≠ 170 → ¬ (c = 167 ∧ (i = 5 ∨ i = 0)) → w1 c i = w c i) → (∀ i : Nat, i < n → w1 170 (i : Int) = w 170 (i : Int)) → w1 167 5 = ((n + k : Nat) : Int) → (∀ i : Nat, i < k → w1 170 ((n + i : Nat) : Int) = jand (byF (wdF a b c e f (i / 4)) (i % 4)) 255) →
      T d 2 24 [some (vr 167), some (vi a), some (vi b), some (vi c), some (vi e), some (vi f), some (vi a6), x7] [] w1 Q := by
    intro m
    induction m with
    | zero =>
      intro k w1 a6 x7 hk ha z1 z2 z3 z4
      rw [g2_24, z3]
      refine ⟨fun _ => ?_, fun h => absurd (by omega) h⟩
      rw [show k = 20 by omega] at z3 z4 ⊢
      exact h2 h20 w1 z1 z2 z3 z4
    | succ m ih =>
      intro k w1 a6 x7 hk ha z1 z2 z3 z4
      subst ha
      have er : jrem (k : Int) 4 = ((k % 4 : Nat) : Int) := jrem_n (b := 4) (by omega) (by decide) (by decide)
      have es : Unit → w32 (24 - w32 (8 * ((k % 4 : Nat) : Int))) = 24 - 8 * ((k % 4 : Nat) : Int) := fun _ => by rw [w32_id (x := 8 * ((k % 4 : Nat) : Int)) (by omega) (by omega), w32_id (by omega) (by omega)]
      have h77 : ∀ s : Int, s = wdF a b c e f (k / 4) → T d 2 77 [some (vr 167), some (vi a), some (vi b), some (vi c), some (vi e), some (vi f), some (vi (k : Int)), x7] [vi s] w1 Q := by
        intro s hs
        rw [g2_77, z3, er, es ()]
        refine ⟨by omega, ?_⟩
        rw [iup_c (show (167 : Nat) ≠ 170 by decide), z3]
        refine ih (k + 1) _ _ _ (by omega) (by rw [w32_id (by omega) (by omega)]; omega) (fun c i q1 q2 => by rw [iup_n (by omega), iup_c q1]; exact z1 c i q1 q2) (fun i hi => by rw [iup_c (by decide), iup_i (by omega)]; exact z2 i hi) (by rw [iup_s, w32_id (by omega) (by omega)]; omega) (fun i hi => ?_)
        rw [iup_c (by decide)]
        by_cases z : i = k
        · subst z; rw [iup_s, hs]; rfl
        · rw [iup_i (by omega)]; exact z4 i (by omega)
      rw [g2_24]
      refine ⟨fun h => absurd h (by omega), fun _ => ⟨fun q1 => ⟨fun q2 => ⟨fun q3 => ⟨fun q4 => h77 _ ?_, fun q4 => h77 _ ?_⟩, fun q3 => h77 _ ?_⟩, fun q2 => h77 _ ?_⟩, fun q1 => h77 _ ?_⟩⟩
      · rw [show k / 4 = 4 by omega]; rfl
      · rw [show k / 4 = 3 by omega]; rfl
      · rw [show k / 4 = 2 by omega]; rfl
      · rw [show k / 4 = 1 by omega]; rfl
      · rw [show k / 4 = 0 by omega]; rfl
  exact key 20 0 _ _ _ (by omega) rfl (fun c i q1 q2 => iup_n (by omega)) (fun i hi => iup_c (by decide)) (by rw [iup_i (by decide)]; exact hn) (fun i hi => by omega)
theorem s_feed {a b c e f : Int} : Sim Inv (D + 1) 1 2 [some (vr 0), some (vi a), some (vi b), some (vi c), some (vi e), some (vi f)] [some (vr 167), some (vi a), some (vi b), some (vi c), some (vi e), some (vi f), none, none] := by
  intro w hI
  have f2 := hI.2.1
  rw [res_at (w := w) (c := 1) (i := 1) (by decide), res_at (w := w) (c := 167) (i := 5) (by decide)] at f2
  obtain ⟨t1, t2, t3, t4⟩ := f2
  have t5 : ∀ k : Nat, (k : Int) < w 1 1 → 0 ≤ w 170 k ∧ w 170 k ≤ 255 ∧ w 2 k = j8 (w 170 k) := fun k hk => by
    have := t4 k hk
    rw [res_at (w := w) (c := 170) (i := (k : Int)) (by unfold scr; simp), res_at (w := w) (c := 2) (i := (k : Int)) (by unfold scr; simp)] at this
    exact this
  obtain ⟨n, hn⟩ : ∃ n : Nat, w 1 1 = (n : Int) := ⟨(w 1 1).toNat, by omega⟩
  refine c_feed hn (by omega) (fun h => ?_) (fun h w1 p1 l1 u1 => ?_)
  · refine ⟨-5, rfl, fun _ => rfl, ?_⟩
    refine r_feed (n := n) (by omega) (by omega) (fun _ => ⟨rfl, th9, Inv_res hI th0⟩) (fun h' => absurd h' (by omega))
  · refine ⟨_, rfl, fun j => p1 999 j (by decide) (by omega), ?_⟩
    have hn7 : w1 167 5 = (n : Int) := by rw [p1 167 5 (by decide) (by decide)]; omega
    refine r_feed (n := n) hn7 (by omega) (fun h' => absurd h' (by omega)) (fun _ w2 p2 l2 v1 v2 => ⟨rfl, fun j => by rw [p2 999 j (by decide) (by omega)]; exact p1 999 j (by decide) (by omega), ?_⟩)
    have e11 : w2 1 1 = ((n + 20 : Nat) : Int) := by rw [p2 1 1 (by decide) (by decide)]; exact u1.1
    refine Inv_fd hI (fun c i q0 q1 q2 q3 q4 => ?_) ⟨by rw [e11, v1], by rw [e11]; omega, by rw [e11]; omega, fun k hk => ?_⟩
    · rw [p2 c i q2 (fun z => by have := scr_17 q0; omega)]
      exact p1 c i q1 q3
    · rw [e11] at hk
      rw [p2 2 _ (by decide) (by omega)]
      by_cases z : k < n
      · rw [l1 k z, l2 k z, p1 170 _ (by decide) (by omega)]
        exact t5 k (by omega)
      · obtain ⟨i, rfl⟩ : ∃ i : Nat, k = n + i := ⟨k - n, by omega⟩
        rw [v2 i (by omega), u1.2 i (by omega), j8_255]
        exact ⟨(jand_255 _).1, (jand_255 _).2, rfl⟩
end Feed
