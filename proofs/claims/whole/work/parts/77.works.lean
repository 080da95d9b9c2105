/-! Who works whom. -/
/-- do strings to o matter? -/
def canB (t : aTr) (o : Nat) : Bool := decide (t.2.2.2.2.2.2 o = []) || decide (1101 ∈ t.2.2.2.2.2.2 o)
/-- does the rule of o look at l? -/
def rulB (t : aTr) (l o : Nat) : Bool := decide (l ≠ o) && decide ((1000 + (l : Int)) ∈ t.2.2.2.2.2.2 o)
/-- does one of the first m strings of X go from l to o, and matter? -/
def strB (t : aTr) (fr : Nat → Int) (X l o : Nat) : Nat → Bool
  | 0 => false
  | m + 1 => strB t fr X l o m || (X.testBit m && (canB t (t.2.2.1 m).toNat && (decide (fr m = (l : Int)) && decide (t.2.2.1 m = (o : Int)))))
def edgB (t : aTr) (fr : Nat → Int) (X l o : Nat) : Bool := strB t fr X l o t.2.1 || rulB t l o
/-- one limb's row is joined with another's -/
def wsL (v : Nat) : Nat → Nat → (Nat → Nat) → (Nat → Nat)
  | 0, _, R => R
  | m + 1, l, R => wsL v m (l + 1) (if (R l).testBit v = true then (fun j => if j = l then R l ||| R v else R j) else R)
def wsO (N : Nat) : Nat → Nat → (Nat → Nat) → (Nat → Nat)
  | 0, _, R => R
  | m + 1, v, R => wsO N m (v + 1) (wsL v N 0 R)
def wkR (t : aTr) (fr : Nat → Int) (X : Nat) : Nat → Nat := wsO t.1 t.1 0 (fun l => bitsF (fun o => edgB t fr X l o) t.1)
theorem wsL_lt {B v : Nat} : ∀ (m l : Nat) (R : Nat → Nat), (∀ j, R j < 2 ^ B) → ∀ j, wsL v m l R j < 2 ^ B := by
  intro m
  induction m with
  | zero => intro l R h; exact h
  | succ m ih =>
    intro l R h
    rw [wsL]
    refine ih (l + 1) _ (fun j => ?_)
    split
    · dsimp only
      split
      · exact Nat.or_lt_two_pow (h l) (h v)
      · exact h j
    · exact h j
theorem wsO_lt {B N : Nat} : ∀ (m v : Nat) (R : Nat → Nat), (∀ j, R j < 2 ^ B) → ∀ j, wsO N m v R j < 2 ^ B := by
  intro m
  induction m with
  | zero => intro v R h; exact h
  | succ m ih => intro v R h; rw [wsO]; exact ih (v + 1) _ (wsL_lt N 0 R h)
theorem wkR_lt {t : aTr} {fr : Nat → Int} {X : Nat} (j : Nat) : wkR t fr X j < 2 ^ t.1 := wsO_lt _ _ _ (fun _ => bitsF_lt _ _) j
/-- those that work l and are worked by it -/
def ptF (R : Nat → Nat) (l : Nat) : Nat → Nat
  | 0 => 2 ^ l
  | n + 1 => if ((R l).testBit n && (R n).testBit l) = true then ptF R l n ||| 2 ^ n else ptF R l n
theorem ptF_lt {R : Nat → Nat} {l N : Nat} (hl : l < N) : ∀ n, n ≤ N → ptF R l n < 2 ^ N := by
  intro n
  induction n with
  | zero => intro _; exact Nat.pow_lt_pow_right (by decide) hl
  | succ n ih =>
    intro h
    rw [ptF]
    split
    · exact or_lt (ih (by omega)) (by omega)
    · exact ih (by omega)
theorem ptF_l {R : Nat → Nat} {l : Nat} : ∀ n, (ptF R l n).testBit l = true := by
  intro n
  induction n with
  | zero => rw [ptF, Nat.testBit_two_pow]; simp
  | succ n ih =>
    rw [ptF]
    split
    · rw [Nat.testBit_or, ih, Bool.true_or]
    · exact ih
section Works
variable {d D : Nat} {w : aW} {Q : Option aV → aW → Prop}
/-- a row of limbs' sets in cell c -/
def RwC (w : aW) (c N : Nat) (R : Nat → Nat) : Prop := ∀ l : Nat, l < N → w c (l : Int) = ((R l : Nat) : Int)
theorem RwC_up {c N l x : Nat} {R : Nat → Nat} (h : RwC w c N R) : RwC (iup w c (l : Int) (x : Int)) c N (fun j => if j = l then x else R j) := by
  intro j hj
  by_cases z : j = l
  · subst z; rw [iup_s]; simp
  · rw [iup_i (by omega), h j hj]; simp [z]
/-- canWork(told, k) -/
theorem k_canWork {t : aTr} {k : Nat} {x2 : Option aV} (hO : TrOk t) (hT : ClT w t) (hk : k < t.2.1) : T (d + 1) 245 0 [some (vr 69), some (vi (k : Int)), x2] [] w Q = Q (some (vi (b01 (canB t (t.2.2.1 k).toNat)))) w := by
  obtain ⟨hN, hM, ok, -⟩ := id hO
  obtain ⟨-, -, hK, -, ⟨r, q, hr, hq, r1, q1, hk2⟩⟩ := id hT
  obtain ⟨o0, o1, -⟩ := ok k hk
  obtain ⟨-, e1, e2⟩ := hk2 (t.2.2.1 k).toNat (by omega)
  rw [g245_0, (hK k hk).1, hr, gd (show (0 : Int) ≤ (k : Int) ∧ (k : Int) < 16 by omega), k_bitT (by omega) o0 (by omega)]
  simp only [tl_some]
  rw [g245_15, hq, k_bitT (by omega) o0 (by omega)]
  simp only [tl_some, g245_26, g245_30, g245_35]
  unfold canB
  rcases bI_01 r (t.2.2.1 k).toNat with z | z
  · have hcs : t.2.2.2.2.2.2 (t.2.2.1 k).toNat = [] := by
      refine Classical.byContradiction fun y => ?_
      have := e1.mpr y
      rw [bI_0.mp z] at this
      cases this
    rw [z, if_t rfl, hcs]
    simp [b01]
  · have hcs : t.2.2.2.2.2.2 (t.2.2.1 k).toNat ≠ [] := e1.mp (bI_1.mp z)
    have e3 := (e2 hcs).1
    rw [z, if_f (by decide), decide_eq_false hcs, Bool.false_or]
    rcases bI_01 q (t.2.2.1 k).toNat with y | y
    · have : ¬ (1101 ∈ t.2.2.2.2.2.2 (t.2.2.1 k).toNat) := fun m => by have := e3.mpr m; rw [bI_0.mp y] at this; cases this
      rw [y, decide_eq_false this]
      simp [b01]
    · rw [y, decide_eq_true (e3.mp (bI_1.mp y))]
      simp [b01]
/-- rulers(told, l) -/
theorem k_rulers {t : aTr} {l : Nat} (hO : TrOk t) (hT : ClT w t) (hl : l < t.1) (hQ : ∀ u : Nat, u < 1024 → (∀ j, j < 10 → u.testBit j = rulB t j l) → Q (some (vi (u : Int))) w) : T (d + 1) 291 0 [some (vr 69), some (vi (l : Int))] [] w Q := by
  have hN := hO.1
  obtain ⟨-, -, -, -, ⟨r, q, hr, hq, r1, q1, hk2⟩⟩ := id hT
  obtain ⟨-, e1, e2⟩ := hk2 l hl
  rw [g291_0, hr, k_bitAt (by omega) (by omega)]
  simp only [tl_some]
  rw [g291_8]
  refine ⟨fun h => ?_, fun h => ⟨by omega, ?_⟩⟩
  · have hcs : t.2.2.2.2.2.2 l = [] := Classical.byContradiction fun y => h (bI_1.mpr (e1.mpr y))
    rw [g291_22]
    refine hQ 0 (by decide) (fun j _ => ?_)
    rw [Nat.zero_testBit]
    unfold rulB
    rw [hcs]
    simp
  · have hcs : t.2.2.2.2.2.2 l ≠ [] := e1.mp (bI_1.mp (by omega))
    obtain ⟨-, -, u, u1, u2, u3⟩ := e2 hcs
    rw [g291_22, u1]
    exact hQ u u2 (fun j hj => by rw [u3 j hj]; rfl)
/-- addRule(told, l) -/
theorem k_addRule {t : aTr} {l : Nat} {R : Nat → Nat} {x3 : Option aV} (hO : TrOk t) (hT : ClT w t) (hl : l < t.1) (hR : RwC w 51 t.1 R) (hB : ∀ j, j < t.1 → R j < 2 ^ t.1)
    (hQ : ∀ (w' : aW) (R' : Nat → Nat), (∀ c i, c ≠ 51 → w' c i = w c i) → RwC w' 51 t.1 R' → (∀ j, j < t.1 → R' j < 2 ^ t.1) → (∀ j o, j < t.1 → (R' j).testBit o = ((R j).testBit o || (decide (o = l) && rulB t j l))) → Q none w') : T (d + 2) 246 0 [some (vr 50), some (vr 69), some (vi (l : Int)), x3] [] w Q := by
  have hN := hO.1
  have hN2 := two10 hN
  rw [g246_0]
  have key : ∀ (m b : Nat) (w1 : aW) (a3 : Int) (R1 : Nat → Nat), b + m = t.1 → a3 = (b : Int) → (∀ c i, c ≠ 51 → w1 c i = w c i) → RwC w1 51 t.1 R1 → (∀ j, j < t.1 → R1 j < 2 ^ t.1) → (∀ j o, j < t.1 → (R1 j).testBit o = ((R j).testBit o || (decide (j < b) && (decide (o = l) && rulB t j l)))) → T (d + 2) 246 2 [some (vr 50), some (vr 69), some (vi (l : Int)), some (vi a3)] [] w1 Q := by
    intro m
    induction m with
    | zero =>
      intro b w1 a3 R1 hb ha hw h1 h2 h3
      rw [g246_2, hw 69 1 (by decide), hT.1]
      refine ⟨fun _ => hQ w1 R1 hw h1 h2 (fun j o hj => ?_), fun h => absurd (by omega) h⟩
      rw [h3 j o hj, decide_eq_true (show j < b by omega), Bool.true_and]
    | succ m ih =>
      intro b w1 a3 R1 hb ha hw h1 h2 h3
      subst ha
      have e1 : Unit → w32 ((b : Int) + 1) = ((b + 1 : Nat) : Int) := fun _ => by rw [w32_id (by omega) (by omega)]; omega
      have hT1 : ClT w1 t := hT.of (fun c i q1 q2 => hw c i (by omega))
      rw [g246_2, hw 69 1 (by decide), hT.1]
      refine ⟨fun h => absurd h (by omega), fun _ => ?_⟩
      refine k_rulers hO hT1 hl (fun u u1 u2 => ?_)
      simp only [tl_some]
      rw [g246_15, k_bitAt (by omega) (by omega)]
      simp only [tl_some]
      have hlt := h2 b (by omega)
      have hl2 := two10 (n := l) (by omega)
      rw [g246_19, h1 b (by omega), jshl_n (by omega), jor_n (by omega) (by omega)]
      refine ⟨fun h => ?_, fun h => ⟨by omega, by omega, ?_⟩⟩
      · have hz : rulB t b l = false := by
          rw [← u2 b (by omega)]
          rcases bI_01 u b with q | q
          · exact bI_0.mp q
          · exact absurd q h
        rw [g246_35, e1 ()]
        refine ih (b + 1) w1 _ R1 (by omega) rfl hw h1 h2 (fun j o hj => ?_)
        rw [h3 j o hj]
        by_cases z : j = b
        · subst z; simp [hz]
        · by_cases z2 : j < b
          · simp [z2, show j < b + 1 by omega]
          · simp [z2, show ¬ j < b + 1 by omega]
      · have hz : rulB t b l = true := by
          rw [← u2 b (by omega)]
          exact bI_1.mp (by omega)
        rw [g246_35, e1 ()]
        refine ih (b + 1) _ _ _ (by omega) rfl (fun c i q => by rw [iup_c q]; exact hw c i q) (RwC_up h1) (fun j hj => ?_) (fun j o hj => ?_)
        · try dsimp only
          split
          · exact or_lt hlt hl
          · exact h2 j hj
        · try dsimp only
          by_cases z : j = b
          · subst z
            rw [if_pos rfl, Nat.testBit_or, Nat.testBit_two_pow, h3 j o hj]
            by_cases z3 : o = l
            · subst z3; simp [hz]
            · simp [z3, show ¬ l = o from fun e => z3 e.symm]
          · rw [if_neg z, h3 j o hj]
            by_cases z2 : j < b
            · simp [z2, show j < b + 1 by omega]
            · simp [z2, show ¬ j < b + 1 by omega]
  exact key t.1 0 w _ R (by omega) rfl (fun _ _ _ => rfl) hR hB (fun j o hj => by simp)
/-- reachAll(told, stage, X) -/
theorem k_reach {t : aTr} {g : aSg} {X : Nat} {x4 x5 : Option aV} (hO : TrOk t) (hT : ClT w t) (hS : SgC w 79 t.1 t.2.1 g) (hG : SgOk t.1 t.2.1 g) (hX : X < 65536)
    (hQ : ∀ w', (∀ c i, c ≠ 51 → w' c i = w c i) → RwC w' 51 t.1 (wkR t g.2.2.1 X) → Q none w') : T (d + 3) 172 0 [some (vr 50), some (vr 69), some (vr 79), some (vi (X : Int)), x4, x5] [] w Q := by
  obtain ⟨hN, hM, ok, -⟩ := id hO
  have hN2 := two10 hN
  have l79 := (sgL_ok 79 sg79).1.1
  have c79 := (sgL_ok 79 sg79).1.2.1
  rw [g172_0, k_fill (by decide) lay_51 (by decide)]
  simp only [tl_none]
  rw [g172_8]
  have key4 : ∀ (m v : Nat) (w1 : aW) (a4 : Int) (y5 : Option aV) (R : Nat → Nat), v + m = t.1 → a4 = (v : Int) → (∀ c i, c ≠ 51 → w1 c i = w c i) → RwC w1 51 t.1 R → (∀ j, R j < 2 ^ t.1) → wsO t.1 m v R = wkR t g.2.2.1 X → T (d + 3) 172 97 [some (vr 50), some (vr 69), some (vr 79), some (vi (X : Int)), some (vi a4), y5] [] w1 Q := by
    intro m
    induction m with
    | zero =>
      intro v w1 a4 y5 R hv ha hw h1 h2 he
      rw [g172_97, hw 69 1 (by decide), hT.1]
      rw [wsO] at he
      exact ⟨fun _ => hQ w1 hw (by rw [← he]; exact h1), fun h => absurd (by omega) h⟩
    | succ m ih =>
      intro v w1 a4 y5 R hv ha hw h1 h2 he
      subst ha
      rw [g172_97, hw 69 1 (by decide), hT.1]
      refine ⟨fun h => absurd h (by omega), fun _ => ?_⟩
      rw [wsO] at he
      have key5 : ∀ (m2 l : Nat) (w2 : aW) (a5 : Int) (R2 : Nat → Nat), l + m2 = t.1 → a5 = (l : Int) → (∀ c i, c ≠ 51 → w2 c i = w c i) → RwC w2 51 t.1 R2 → (∀ j, R2 j < 2 ^ t.1) → wsL v m2 l R2 = wsL v t.1 0 R → T (d + 3) 172 109 [some (vr 50), some (vr 69), some (vr 79), some (vi (X : Int)), some (vi (v : Int)), some (vi a5)] [] w2 Q := by
        intro m2
        induction m2 with
        | zero =>
          intro l w2 a5 R2 hl ha5 hw2 h12 h22 he2
          rw [g172_109, hw2 69 1 (by decide), hT.1]
          rw [wsL] at he2
          refine ⟨fun _ => ?_, fun h => absurd (by omega) h⟩
          exact ih (v + 1) w2 _ _ R2 (by omega) (by rw [w32_id (by omega) (by omega)]; omega) hw2 h12 h22 (by rw [he2]; exact he)
        | succ m2 ih2 =>
          intro l w2 a5 R2 hl ha5 hw2 h12 h22 he2
          subst ha5
          have e1 : Unit → w32 ((l : Int) + 1) = ((l + 1 : Nat) : Int) := fun _ => by rw [w32_id (by omega) (by omega)]; omega
          have hr1 := h22 l
          have hr2 := h22 v
          rw [g172_109, hw2 69 1 (by decide), hT.1, h12 l (by omega), k_bitAt (by omega) (by omega)]
          refine ⟨fun h => absurd h (by omega), fun _ => ⟨by omega, ?_⟩⟩
          simp only [tl_some]
          rw [g172_130, h12 l (by omega), h12 v (by omega), jor_n (by omega) (by omega)]
          rw [wsL] at he2
          refine ⟨fun h => ?_, fun h => ⟨by omega, by omega, by omega, ?_⟩⟩
          · have hz : (R2 l).testBit v = false := by
              rcases bI_01 (R2 l) v with q | q
              · exact bI_0.mp q
              · exact absurd q h
            rw [hz, if_neg (by decide)] at he2
            rw [g172_151, e1 ()]
            exact ih2 (l + 1) w2 _ R2 (by omega) rfl hw2 h12 h22 he2
          · have hz : (R2 l).testBit v = true := bI_1.mp (by omega)
            rw [hz, if_pos rfl] at he2
            rw [g172_151, e1 ()]
            refine ih2 (l + 1) _ _ _ (by omega) rfl (fun c i q => by rw [iup_c q]; exact hw2 c i q) (RwC_up h12) (fun j => ?_) he2
            try dsimp only
            split
            · exact Nat.or_lt_two_pow hr1 hr2
            · exact h22 j
      exact key5 t.1 0 w1 _ R (by omega) rfl hw h1 h2 rfl
  have key3 : ∀ (m l : Nat) (w1 : aW) (a4 : Int) (y5 : Option aV) (R : Nat → Nat), l + m = t.1 → a4 = (l : Int) → (∀ c i, c ≠ 51 → w1 c i = w c i) → RwC w1 51 t.1 R → (∀ j, j < t.1 → R j < 2 ^ t.1) → (∀ j o, j < t.1 → (R j).testBit o = (strB t g.2.2.1 X j o t.2.1 || (decide (o < l) && rulB t j o))) → T (d + 3) 172 72 [some (vr 50), some (vr 69), some (vr 79), some (vi (X : Int)), some (vi a4), y5] [] w1 Q := by
    intro m
    induction m with
    | zero =>
      intro l w1 a4 y5 R hl ha hw h1 h2 h3
      rw [g172_72, hw 69 1 (by decide), hT.1]
      refine ⟨fun _ => ?_, fun h => absurd (by omega) h⟩
      refine key4 t.1 0 w1 _ _ (fun l => bitsF (fun o => edgB t g.2.2.1 X l o) t.1) (by omega) rfl hw (fun j hj => ?_) (fun _ => bitsF_lt _ _) rfl
      rw [h1 j hj]
      congr 1
      apply Nat.eq_of_testBit_eq
      intro o
      rw [bitsF_tb]
      by_cases z : o < t.1
      · rw [h3 j o hj, decide_eq_true z, decide_eq_true (show o < l by omega)]
        rfl
      · rw [decide_eq_false z, Bool.false_and]
        exact Nat.testBit_lt_two_pow (Nat.lt_of_lt_of_le (h2 j hj) (Nat.pow_le_pow_right (by decide) (by omega)))
    | succ m ih =>
      intro l w1 a4 y5 R hl ha hw h1 h2 h3
      subst ha
      rw [g172_72, hw 69 1 (by decide), hT.1]
      refine ⟨fun h => absurd h (by omega), fun _ => ?_⟩
      refine k_addRule hO (hT.of (fun c i q1 q2 => hw c i (by omega))) (by omega) h1 h2 (fun w2 R2 hw2 g1 g2 g3 => ?_)
      simp only [tl_none]
      rw [g172_88]
      refine ih (l + 1) w2 _ _ R2 (by omega) (by rw [w32_id (by omega) (by omega)]; omega) (fun c i q => by rw [hw2 c i q]; exact hw c i q) g1 g2 (fun j o hj => ?_)
      rw [g3 j o hj, h3 j o hj]
      by_cases z : o = l
      · subst z; simp
      · by_cases z2 : o < l
        · simp [z, z2, show o < l + 1 by omega]
        · simp [z, z2, show ¬ o < l + 1 by omega]
  have key1 : ∀ (m k : Nat) (w1 : aW) (a4 : Int) (y5 : Option aV) (R : Nat → Nat), k + m = t.2.1 → a4 = (k : Int) → (∀ c i, c ≠ 51 → w1 c i = w c i) → RwC w1 51 t.1 R → (∀ j, j < t.1 → R j < 2 ^ t.1) → (∀ j o, j < t.1 → (R j).testBit o = strB t g.2.2.1 X j o k) → T (d + 3) 172 11 [some (vr 50), some (vr 69), some (vr 79), some (vi (X : Int)), some (vi a4), y5] [] w1 Q := by
    intro m
    induction m with
    | zero =>
      intro k w1 a4 y5 R hk ha hw h1 h2 h3
      rw [g172_11, hw 69 2 (by decide), hT.2.1]
      refine ⟨fun _ => ?_, fun h => absurd (by omega) h⟩
      refine key3 t.1 0 w1 _ _ R (by omega) rfl hw h1 h2 (fun j o hj => ?_)
      rw [h3 j o hj, show k = t.2.1 by omega]; simp
    | succ m ih =>
      intro k w1 a4 y5 R hk ha hw h1 h2 h3
      subst ha
      have hkM : k < t.2.1 := by omega
      have e1 : Unit → w32 ((k : Int) + 1) = ((k + 1 : Nat) : Int) := fun _ => by rw [w32_id (by omega) (by omega)]; omega
      have hT1 : ClT w1 t := hT.of (fun c i q1 q2 => hw c i (by omega))
      obtain ⟨f0, f1⟩ := hG.2.2.1 k hkM
      obtain ⟨o0, o1, -⟩ := ok k hkM
      have skip : (X.testBit k && canB t (t.2.2.1 k).toNat) = false → T (d + 3) 172 63 [some (vr 50), some (vr 69), some (vr 79), some (vi (X : Int)), some (vi (k : Int)), y5] [] w1 Q := by
        intro hz
        rw [g172_63, e1 ()]
        refine ih (k + 1) w1 _ _ R (by omega) rfl hw h1 h2 (fun j o hj => ?_)
        rw [strB, ← Bool.and_assoc, hz, Bool.false_and, Bool.or_false]
        exact h3 j o hj
      rw [g172_11, hw 69 2 (by decide), hT.2.1, k_bitAt (by omega) (by omega)]
      refine ⟨fun h => absurd h (by omega), fun _ => ?_⟩
      simp only [tl_some]
      rw [g172_26, k_canWork hO hT1 hkM]
      refine ⟨fun h => skip ?_, fun h => ?_⟩
      · have : X.testBit k = false := by
          rcases bI_01 X k with q | q
          · exact bI_0.mp q
          · exact absurd q h
        rw [this, Bool.false_and]
      · have hXk : X.testBit k = true := bI_1.mp (by omega)
        have efr : w1 80 (k : Int) = g.2.2.1 k := by rw [hw 80 _ (by decide)]; exact (hS.2.2.1 k hkM).1
        have eto : w1 73 (k : Int) = t.2.2.1 k := (hT1.2.2.1 k hkM).1
        have e51 : w1 51 (g.2.2.1 k) = ((R (g.2.2.1 k).toNat : Nat) : Int) := by
          have := h1 (g.2.2.1 k).toNat (by omega)
          rwa [Int.toNat_of_nonneg f0] at this
        have hlt := h2 (g.2.2.1 k).toNat (by omega)
        have hl2 := two10 (n := (t.2.2.1 k).toNat) (by omega)
        simp only [tl_some]
        rw [g172_36, c79, sg_l1 sg79, show (79 + 1) = 80 from rfl, efr, eto, e51, jshl_t o0 (by omega), jor_n (by omega) (by omega)]
        refine ⟨fun h => skip ?_, fun h => ⟨l79, by omega, by omega, by omega, by omega, ?_⟩⟩
        · rw [b01_ne] at h
          rw [h, Bool.and_false]
        · rw [b01_ne, Bool.not_eq_false] at h
          rw [g172_63, e1 (), show (g.2.2.1 k) = (((g.2.2.1 k).toNat : Nat) : Int) by omega]
          refine ih (k + 1) _ _ _ _ (by omega) rfl (fun c i q => by rw [iup_c q]; exact hw c i q) (RwC_up h1) (fun j hj => ?_) (fun j o hj => ?_)
          · try dsimp only
            split
            · exact or_lt hlt (by omega)
            · exact h2 j hj
          · try dsimp only
            rw [strB, hXk, h, Bool.true_and, Bool.true_and]
            by_cases z : j = (g.2.2.1 k).toNat
            · subst z
              rw [if_pos (by simp), Nat.testBit_or, Nat.testBit_two_pow, decide_eq_true (show g.2.2.1 k = (((g.2.2.1 k).toNat : Nat) : Int) by omega), Bool.true_and]
              simp only [Int.toNat_natCast]
              rw [h3 _ o hj]
              congr 1
              apply decide_eq_decide.mpr
              omega
            · rw [if_neg (by simpa using z), decide_eq_false (show ¬ g.2.2.1 k = (j : Int) by omega), Bool.false_and, Bool.or_false]
              exact h3 j o hj
  exact key1 t.2.1 0 _ _ _ (fun _ => 0) (by omega) rfl (fun c i q => setA_c q) (fun l hl => by rw [setA_s (show l < 10 by omega)]; rfl) (fun j _ => Nat.two_pow_pos _) (fun j o _ => by rw [strB, Nat.zero_testBit])
end Works
