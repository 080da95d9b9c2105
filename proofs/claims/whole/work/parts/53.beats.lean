/-! What follows a pose: class and reference. -/
def sgL : List Nat := [79, 83, 91, 95, 99, 103, 107, 111, 115, 119, 123, 127, 149, 163]
theorem sgL_ok : ∀ s ∈ sgL, (lay s = (6, 0) ∧ rfA s 2 = s + 1 ∧ rfA s 3 = s + 2 ∧ rfA s 4 = s + 3) ∧ lay (s + 1) = (100, 16) ∧ lay (s + 2) = (100, 16) ∧ lay (s + 3) = (100, 10) ∧ 79 ≤ s ∧ s < 164 := by decide +kernel
theorem sg_i1 {s : Nat} (h : s ∈ sgL) {i : Int} : (inA (s + 1) 0 i = true) = (0 ≤ i ∧ i < 16) := ia_of (t := 0) (n := 16) (sgL_ok s h).2.1
theorem sg_i2 {s : Nat} (h : s ∈ sgL) {i : Int} : (inA (s + 2) 0 i = true) = (0 ≤ i ∧ i < 16) := ia_of (t := 0) (n := 16) (sgL_ok s h).2.2.1
theorem sg_i3 {s : Nat} (h : s ∈ sgL) {i : Int} : (inA (s + 3) 0 i = true) = (0 ≤ i ∧ i < 10) := ia_of (t := 0) (n := 10) (sgL_ok s h).2.2.2.1
theorem sg_l1 {s : Nat} {w : aW} (h : s ∈ sgL) {i : Int} : ldok (s + 1) i w = (0 ≤ i ∧ i < 16) := ld_of (n := 16) (by have := sgL_ok s h; omega) (sgL_ok s h).2.1
theorem sg_l2 {s : Nat} {w : aW} (h : s ∈ sgL) {i : Int} : ldok (s + 2) i w = (0 ≤ i ∧ i < 16) := ld_of (n := 16) (by have := sgL_ok s h; omega) (sgL_ok s h).2.2.1
theorem sg_l3 {s : Nat} {w : aW} (h : s ∈ sgL) {i : Int} : ldok (s + 3) i w = (0 ≤ i ∧ i < 10) := ld_of (n := 10) (by have := sgL_ok s h; omega) (sgL_ok s h).2.2.2.1
theorem two10 {n : Nat} (h : n ≤ 10) : 1 ≤ (2 : Nat) ^ n ∧ (2 : Nat) ^ n ≤ 1024 := ⟨Nat.two_pow_pos n, Nat.pow_le_pow_right (n := 2) (by decide) h⟩
theorem jshl_t {a : Int} (h0 : 0 ≤ a) (h1 : a < 31) : jshl 1 a = ((2 ^ a.toNat : Nat) : Int) := by
  have := jshl_n (l := a.toNat) (by omega)
  rwa [Int.toNat_of_nonneg h0] at this
theorem k_bitT {d a : Nat} {l : Int} {w : aW} {Q : Option aV → aW → Prop} (ha : a < 2147483648) (h0 : 0 ≤ l) (h1 : l < 32) : T d 117 0 [some (vi (a : Int)), some (vi l)] [] w Q = Q (some (vi (bI a l.toNat))) w := by
  have := k_bitAt (d := d) (w := w) (Q := Q) (a := a) (l := l.toNat) ha (by omega)
  rwa [Int.toNat_of_nonneg h0] at this
theorem k_isInT {d a : Nat} {l : Int} {w : aW} {Q : Option aV → aW → Prop} (ha : a < 2147483648) (h0 : 0 ≤ l) (h1 : l < 32) : T d 230 0 [some (vl (a : Int)), none, some (vi l)] [] w Q = Q (some (vi (bI a l.toNat))) w := by
  have := k_isIn (d := d) (w := w) (Q := Q) (a := a) (k := l.toNat) (by omega) (by omega)
  rwa [Int.toNat_of_nonneg h0] at this
theorem sm_pos {f : Nat → Int} (h : ∀ k, 0 ≤ f k) : ∀ n, 0 < sm f n ↔ ∃ k, k < n ∧ 0 < f k := by
  intro n
  induction n with
  | zero => simp [sm]
  | succ n ih =>
    rw [sm]
    have h1 := h n
    have h2 : 0 ≤ sm f n := by
      have : ∀ m, 0 ≤ sm f m := by
        intro m
        induction m with
        | zero => simp [sm]
        | succ m ih => rw [sm]; have := h m; omega
      exact this n
    constructor
    · intro q
      by_cases q2 : 0 < f n
      · exact ⟨n, by omega, q2⟩
      · obtain ⟨k, k1, k2⟩ := ih.mp (by omega)
        exact ⟨k, by omega, k2⟩
    · rintro ⟨k, k1, k2⟩
      by_cases q : k = n
      · subst q; omega
      · have := ih.mpr ⟨k, by omega, k2⟩
        omega
theorem bitsF_or {p : Nat → Bool} {n : Nat} (h : p n = true) : bitsF p n ||| 2 ^ n = bitsF p (n + 1) := by
  apply Nat.eq_of_testBit_eq
  intro i
  rw [Nat.testBit_or, bitsF_tb, bitsF_tb, Nat.testBit_two_pow]
  by_cases h1 : n = i
  · subst h1; simp [h]
  · by_cases h2 : i < n
    · simp [h1, h2, show i < n + 1 by omega]
    · simp [h1, h2, show ¬ i < n + 1 by omega]
theorem bitsF_no {p : Nat → Bool} {n : Nat} (h : p n = false) : bitsF p (n + 1) = bitsF p n := by rw [bitsF, h]; simp
/-- the limbs to which a whole string goes -/
def drF (t : aTr) (x : Nat) : Nat → Nat
  | 0 => 0
  | k + 1 => if x.testBit k = true then drF t x k ||| 2 ^ (t.2.2.1 k).toNat else drF t x k
theorem drF_lt {t : aTr} {x : Nat} : ∀ k, (∀ j : Nat, j < k → 0 ≤ t.2.2.1 j ∧ t.2.2.1 j < 10) → drF t x k < 1024 := by
  intro k
  induction k with
  | zero => intro _; exact Nat.zero_lt_succ _
  | succ k ih =>
    intro h
    have h1 := ih (fun j hj => h j (by omega))
    obtain ⟨h2, h3⟩ := h k (by omega)
    rw [drF]
    split
    · refine Nat.or_lt_two_pow (n := 10) h1 ?_
      exact Nat.pow_lt_pow_right (by decide) (by omega)
    · exact h1
theorem drF_tb {t : aTr} {x l : Nat} : ∀ k, (∀ j : Nat, j < k → 0 ≤ t.2.2.1 j) → ((drF t x k).testBit l = true ↔ ∃ j, j < k ∧ goesF t (wb x) 0 l j = true) := by
  intro k
  induction k with
  | zero => intro _; simp [drF]
  | succ k ih =>
    intro h
    have h1 := ih (fun j hj => h j (by omega))
    have h2 := h k (by omega)
    have hg : goesF t (wb x) 0 l k = true ↔ t.2.2.1 k = (l : Int) ∧ x.testBit k = true := by simp [goesF, wb]
    rw [drF]
    constructor
    · intro q
      by_cases c : x.testBit k = true
      · rw [if_pos c, Nat.testBit_or, Nat.testBit_two_pow] at q
        by_cases c2 : (t.2.2.1 k).toNat = l
        · exact ⟨k, by omega, hg.mpr ⟨by omega, c⟩⟩
        · rw [decide_eq_false c2, Bool.or_false] at q
          obtain ⟨j, j1, j2⟩ := h1.mp q
          exact ⟨j, by omega, j2⟩
      · rw [if_neg c] at q
        obtain ⟨j, j1, j2⟩ := h1.mp q
        exact ⟨j, by omega, j2⟩
    · rintro ⟨j, j1, j2⟩
      by_cases c : j = k
      · subst c
        obtain ⟨a1, a2⟩ := hg.mp j2
        rw [if_pos a2, Nat.testBit_or, Nat.testBit_two_pow, decide_eq_true (show (t.2.2.1 j).toNat = l by omega), Bool.or_true]
      · have := h1.mpr ⟨j, by omega, j2⟩
        split
        · rw [Nat.testBit_or, this, Bool.true_or]
        · exact this
theorem drF_cnt {t : aTr} {x l : Nat} (h : ∀ j : Nat, j < t.2.1 → 0 ≤ t.2.2.1 j) : (drF t x t.2.1).testBit l = decide (0 < cntF t (wb x) 0 l) := by
  have h1 := drF_tb (t := t) (x := x) (l := l) t.2.1 h
  have h2 := sm_pos (f := fun k => b01 (goesF t (wb x) 0 l k)) (fun k => by rcases b01_01 (goesF t (wb x) 0 l k) with q | q <;> omega) t.2.1
  have e : (drF t x t.2.1).testBit l = true ↔ 0 < cntF t (wb x) 0 l := by
    rw [h1]
    unfold cntF
    rw [h2]
    constructor
    · rintro ⟨k, a, b⟩
      exact ⟨k, a, by rw [b]; decide⟩
    · rintro ⟨k, a, b⟩
      refine ⟨k, a, ?_⟩
      cases q : goesF t (wb x) 0 l k with
      | true => rfl
      | false => rw [q] at b; exact absurd b (by decide)
  cases q : (drF t x t.2.1).testBit l with
  | true => rw [q] at e; simp [e.mp rfl]
  | false => rw [q] at e; simp at e; simp; omega
theorem pullF_b {t : aTr} {fr : Nat → Int} {wh : Nat → Bool} {b p l : Nat} (hO : TrOk t) : ∀ n, n ≤ t.2.1 → 0 ≤ sm (pullK t fr wh b p l) n ∧ sm (pullK t fr wh b p l) n ≤ n * 3 := by
  intro n hn
  refine sm_le (by omega) (fun k hk => ?_)
  obtain ⟨-, -, h1, h2, -⟩ := hO.2.2.1 k (by omega)
  unfold pullK
  split <;> omega
theorem pullF_1000 {t : aTr} {fr : Nat → Int} {wh : Nat → Bool} {b p l : Nat} (hO : TrOk t) : 0 ≤ pullF t fr wh b p l ∧ pullF t fr wh b p l ≤ 48 := by
  have := pullF_b (fr := fr) (wh := wh) (b := b) (p := p) (l := l) hO t.2.1 (Nat.le_refl _)
  have := hO.2.1
  unfold pullF
  omega
section Beats
variable {d : Nat} {w : aW} {Q : Option aV → aW → Prop}
/-- Arrays.fill(int[], int) -/
theorem k_fill {r0 n : Nat} {a : Int} {x2 x3 : Option aV} (hr : r0 < 999) (hl : lay r0 = (100, n)) (hn : n < 2000000) : T d 221 0 [some (vr r0), some (vi a), x2, x3] [] w Q = Q none (setA w r0 n (fun _ => a)) := by
  have h1 : alok r0 := by unfold alok; rw [hl]; right; right; exact ⟨by omega, Nat.le_refl _⟩
  have h2 : alv w r0 = (n : Int) := by unfold alv; rw [if_neg (by omega), if_neg (by omega), hl]
  have h3 : ∀ i : Int, (inA r0 0 i = true) = (0 ≤ i ∧ i < (n : Int)) := fun i => ia_of (t := 0) hl
  rw [g221_0, gd h1, h2]
  have key : T d 221 5 [some (vr r0), some (vi a), some (vi ((0 : Nat) : Int)), some (vi (n : Int))] [] (setA w r0 0 (fun _ => a)) Q = Q none (setA w r0 n (fun _ => a)) := by
    refine loopE (F := fun k => T d 221 5 [some (vr r0), some (vi a), some (vi (k : Int)), some (vi (n : Int))] [] (setA w r0 k (fun _ => a)) Q) (n := n) ?_ ?_
    · rw [g221_5, if_t (Int.le_refl _)]
    · intro k hk
      have e1 : Unit → w32 ((k : Int) + 1) = ((k + 1 : Nat) : Int) := fun _ => by rw [w32_id (by omega) (by omega)]; omega
      show T d 221 5 _ _ _ _ = T d 221 5 _ _ _ _
      rw [g221_5, if_f (show ¬ ((n : Int) ≤ (k : Int)) by omega), h3, gd (show (0 : Int) ≤ (k : Int) ∧ (k : Int) < (n : Int) by omega), setA_n, (e1 ())]
  rw [setA_0] at key
  exact key
/-- pullAll(told, stage, pose) -/
theorem k_pullAll {t : aTr} {g : aSg} {s p : Nat} {x4 x5 x6 : Option aV} (hO : TrOk t) (hT : ClT w t) (hs : s ∈ sgL) (hS : SgC w s t.1 t.2.1 g) (hG : SgOk t.1 t.2.1 g) (hp : p < 1024) :
    T (d + 1) 119 0 [some (vr 16), some (vr 69), some (vr s), some (vi (p : Int)), x4, x5, x6] [] w Q = Q (some (vi ((drF t g.2.1 t.2.1 : Nat) : Int))) (setA w 17 10 (fun l => pullF t g.2.2.1 (wb g.2.1) 0 p l)) := by
  obtain ⟨⟨hl, hc, -, -⟩, -, -, -, s79, s167⟩ := sgL_ok s hs
  obtain ⟨n1, n2, hK, ⟨u, hu, u16, hU⟩, -⟩ := id hT
  obtain ⟨hN, hM, ok, -⟩ := id hO
  obtain ⟨-, hx, hF, -⟩ := id hS
  obtain ⟨-, x16, fr, -, -⟩ := id hG
  have x31 : g.2.1 < 65536 := by have := two_le (n := t.2.1) hM; omega
  have l17 : lay 17 = (100, 10) := lay_17
  have tof : ∀ j : Nat, j < t.2.1 → 0 ≤ t.2.2.1 j ∧ t.2.2.1 j < 10 := fun j hj => by have := ok j hj; omega
  rw [g119_0, k_fill (by decide) l17 (by decide)]
  simp only [tl_none]
  rw [g119_8]
  refine loopX (F := fun k y => T (d + 1) 119 14 [some (vr 16), some (vr 69), some (vr s), some (vi (p : Int)), some (vi ((drF t g.2.1 k : Nat) : Int)), some (vi (k : Int)), y] [] (setA w 17 10 (fun l => sm (pullK t g.2.2.1 (wb g.2.1) 0 p l) k)) Q) (n := t.2.1) ?_ ?_ x6
  · intro y
    rw [g119_14, setA_c (by decide), n2, if_t (Int.le_refl _)]
    rfl
  · intro k y hk
    obtain ⟨t0, t1, q0, q1, -⟩ := ok k hk
    obtain ⟨f0, f1⟩ := fr k hk
    obtain ⟨w73, w74⟩ := hK k hk
    obtain ⟨wfr, -⟩ := hF k hk
    have e1 : Unit → w32 ((k : Int) + 1) = ((k + 1 : Nat) : Int) := fun _ => by rw [w32_id (by omega) (by omega)]; omega
    have hlt : ¬ ((t.2.1 : Int) ≤ (k : Int)) := by omega
    have hd := drF_lt (t := t) (x := g.2.1) k (fun j hj => tof j (by omega))
    have eG : T (d + 1) 119 14 [some (vr 16), some (vr 69), some (vr s), some (vi (p : Int)), some (vi ((drF t g.2.1 k : Nat) : Int)), some (vi (k : Int)), y] [] (setA w 17 10 (fun l => sm (pullK t g.2.2.1 (wb g.2.1) 0 p l) k)) Q = T (d + 1) 119 32 [some (vr 16), some (vr 69), some (vr s), some (vi (p : Int)), some (vi ((drF t g.2.1 k : Nat) : Int)), some (vi (k : Int)), y] [vi (bI g.2.1 k)] (setA w 17 10 (fun l => sm (pullK t g.2.2.1 (wb g.2.1) 0 p l) k)) Q := by
      rw [g119_14, setA_c (by decide), n2, if_f hlt, gd hl, setA_c (by omega), hx, k_bitAt (by omega) (by omega)]
      simp only [tl_some]
    rcases bI_01 g.2.1 k with c1 | c1
    · refine ⟨y, ?_⟩
      have eD : drF t g.2.1 (k + 1) = drF t g.2.1 k := by rw [drF, if_neg (by rw [bI_0.mp c1]; decide)]
      have eS : (fun l => sm (pullK t g.2.2.1 (wb g.2.1) 0 p l) (k + 1)) = fun l => sm (pullK t g.2.2.1 (wb g.2.1) 0 p l) k := by
        funext l
        rw [sm, show pullK t g.2.2.1 (wb g.2.1) 0 p l k = 0 by unfold pullK; rw [if_neg (by simp [goesF, wb, bI_0.mp c1])], Int.add_zero]
      show T (d + 1) 119 14 _ _ _ _ = T (d + 1) 119 14 _ _ _ _
      rw [eG, g119_32, c1, if_t (by decide), g119_94, (e1 ()), eD, eS]
    · refine ⟨some (vi (t.2.2.1 k)), ?_⟩
      have eD : jor ((drF t g.2.1 k : Nat) : Int) (jshl 1 (t.2.2.1 k)) = ((drF t g.2.1 (k + 1) : Nat) : Int) := by
        have hp2 : (2 : Nat) ^ (t.2.2.1 k).toNat < 2 ^ 10 := Nat.pow_lt_pow_right (by decide) (by omega)
        rw [jshl_t t0 (by omega), jor_n (by omega) (by omega), drF, if_pos (bI_1.mp c1)]
      have gk : (0 : Int) ≤ (k : Int) ∧ (k : Int) < 16 := by omega
      have gt : (0 : Int) ≤ t.2.2.1 k ∧ t.2.2.1 k < 10 := by omega
      show T (d + 1) 119 14 _ _ _ _ = T (d + 1) 119 14 _ _ _ _
      rw [eG, g119_32, c1, if_f (by decide), gd gk, gd hl, hc, sg_l1 hs, gd gk, setA_c (by omega), setA_c (by decide), w73, wfr, k_bitT (by omega) (by omega) (by omega), eD]
      simp only [tl_some]
      rw [g119_65, setA_c (by decide), hu, k_bitAt (by omega) (by omega)]
      simp only [tl_some]
      rw [g119_74, hU k hk]
      by_cases c5 : bI p (g.2.2.1 k).toNat = t.2.2.2.2.1 k
      · have eS : (fun l => sm (pullK t g.2.2.1 (wb g.2.1) 0 p l) (k + 1)) = fun l => sm (pullK t g.2.2.1 (wb g.2.1) 0 p l) k := by
          funext l
          rw [sm, show pullK t g.2.2.1 (wb g.2.1) 0 p l k = 0 by unfold pullK; rw [if_neg (fun h => h.2 c5)], Int.add_zero]
        rw [if_t c5, g119_94, (e1 ()), eS]
      · have hs := pullF_b (fr := g.2.2.1) (wh := wb g.2.1) (b := 0) (p := p) (l := (t.2.2.1 k).toNat) hO k (by omega)
        have e7 : setA w 17 10 (fun l => sm (pullK t g.2.2.1 (wb g.2.1) 0 p l) k) 17 (t.2.2.1 k) = sm (pullK t g.2.2.1 (wb g.2.1) 0 p (t.2.2.1 k).toNat) k := by
          have := setA_s (w := w) (c := 17) (n := 10) (l := (t.2.2.1 k).toNat) (f := fun l => sm (pullK t g.2.2.1 (wb g.2.1) 0 p l) k) (by omega)
          rw [Int.toNat_of_nonneg t0] at this
          exact this
        have e8 : iup (setA w 17 10 (fun l => sm (pullK t g.2.2.1 (wb g.2.1) 0 p l) k)) 17 (t.2.2.1 k) (w32 (sm (pullK t g.2.2.1 (wb g.2.1) 0 p (t.2.2.1 k).toNat) k + t.2.2.2.1 k)) = setA w 17 10 (fun l => sm (pullK t g.2.2.1 (wb g.2.1) 0 p l) (k + 1)) := by
          have := setA_u (w := w) (c := 17) (n := 10) (l := (t.2.2.1 k).toNat) (f := fun l => sm (pullK t g.2.2.1 (wb g.2.1) 0 p l) k) (g := fun l => sm (pullK t g.2.2.1 (wb g.2.1) 0 p l) (k + 1)) (x := w32 (sm (pullK t g.2.2.1 (wb g.2.1) 0 p (t.2.2.1 k).toNat) k + t.2.2.2.1 k)) (by omega)
            (by
              show sm _ (k + 1) = _
              rw [sm, show pullK t g.2.2.1 (wb g.2.1) 0 p (t.2.2.1 k).toNat k = t.2.2.2.1 k by unfold pullK; rw [if_pos ⟨by simp [goesF, wb, bI_1.mp c1, Int.toNat_of_nonneg t0], c5⟩], w32_id (by omega) (by omega)])
            (by
              intro j hj
              show sm _ (k + 1) = _
              rw [sm, show pullK t g.2.2.1 (wb g.2.1) 0 p j k = 0 by unfold pullK; rw [if_neg (fun h => hj (by have := h.1; simp [goesF] at this; omega))], Int.add_zero])
          rw [Int.toNat_of_nonneg t0] at this
          exact this
        rw [if_f c5, gd gt, gd gk, gd gt, setA_c (by decide : (74 : Nat) ≠ 17), w74, e7, e8, g119_94, (e1 ())]
def upC (t : aTr) (l pose : Nat) (pl pu : Int) : Bool := if t.2.2.2.2.2.2 l = [] then (if pu = 0 then pose.testBit l else decide (t.2.2.2.2.2.1 l ≤ pl)) else holdsF t l pose pl
/-- the class's isUpThen -/
theorem k_isUpC {t : aTr} {l pose : Nat} {pl pu : Int} (hO : TrOk t) (hT : ClT w t) (hl : l < t.1) (hp : pose < 1024) (h0 : 0 ≤ pl) (h1 : pl ≤ 1000)
    (hQ : ∀ w', (∀ c i, c ≠ 18 → w' c i = w c i) → Q (some (vi (b01 (upC t l pose pl pu)))) w') :
    T (d + 2) 229 0 [some (vr 16), some (vr 69), some (vi (l : Int)), some (vi (pose : Int)), some (vi pl), some (vi pu)] [] w Q := by
  obtain ⟨-, -, -, -, ⟨r, q, hr, -, r1, -, hk⟩⟩ := id hT
  obtain ⟨hneed, hrl, -⟩ := hk l hl
  have hN := hO.1
  rw [g229_0, hr, k_bitAt (by omega) (by omega)]
  simp only [tl_some]
  rw [g229_8]
  refine ⟨fun c => ?_, fun c => ?_⟩
  · have hcs : t.2.2.2.2.2.2 l = [] := by
      by_cases q : t.2.2.2.2.2.2 l = []
      · exact q
      · exact absurd (bI_1.mpr (hrl.mpr q)) c
    have hq := hQ w (fun _ _ _ => rfl)
    unfold upC at hq
    rw [if_pos hcs] at hq
    refine ⟨fun c2 => ?_, fun c2 => ⟨by omega, fun c3 => ?_, fun c3 => ?_⟩⟩
    · rw [k_bitAt (by omega) (by omega)]
      simp only [tl_some]
      rw [g229_51]
      rw [if_pos c2] at hq
      refine ⟨fun c3 => ?_, fun c3 => ?_⟩
      · rw [g229_60]
        have : pose.testBit l = false := by rcases bI_01 pose l with z | z; exact bI_0.mp z; exact absurd z c3
        rw [this] at hq
        exact ⟨Or.inl rfl, hq⟩
      · rw [g229_60]
        have : pose.testBit l = true := bI_1.mp (by omega)
        rw [this] at hq
        exact ⟨Or.inr rfl, hq⟩
    · rw [g229_60]
      rw [hneed] at c3
      rw [if_neg c2, decide_eq_false (by omega)] at hq
      exact ⟨Or.inl rfl, hq⟩
    · rw [g229_60]
      rw [hneed] at c3
      rw [if_neg c2, decide_eq_true (by omega)] at hq
      exact ⟨Or.inr rfl, hq⟩
  · have hcs : t.2.2.2.2.2.2 l ≠ [] := hrl.mp (bI_1.mp (by omega))
    refine k_holdsC hO hT hl hcs hp h0 h1 (fun w' hw => ?_)
    simp only [tl_some]
    rw [g229_21]
    have hq := hQ w' hw
    unfold upC at hq
    rw [if_neg hcs] at hq
    exact ⟨b01_01 _, hq⟩
theorem upC_F {t : aTr} {fr : Nat → Int} {x p l : Nat} (h : ∀ j : Nat, j < t.2.1 → 0 ≤ t.2.2.1 j) : upC t l p (pullF t fr (wb x) 0 p l) (bI (drF t x t.2.1) l) = upF t fr (wb x) 0 p l := by
  unfold upC upF
  split
  · by_cases c : 0 < cntF t (wb x) 0 l
    · rw [if_pos c, if_neg (by rw [bI_1.mpr (by rw [drF_cnt h]; simpa using c)]; decide)]
    · rw [if_neg c, if_pos (bI_0.mpr (by rw [drF_cnt h]; simpa using c))]
  · rfl
/-- the class's behind(told, stage, pose) -/
theorem k_behind {t : aTr} {g : aSg} {s p : Nat} {x4 x5 x6 : Option aV} (hO : TrOk t) (hT : ClT w t) (hs : s ∈ sgL) (hS : SgC w s t.1 t.2.1 g) (hG : SgOk t.1 t.2.1 g) (hp : p < 1024)
    (hQ : ∀ w', (∀ c i, c ≠ 17 → c ≠ 18 → w' c i = w c i) → Q (some (vi ((nxF t g.2.2.1 (wb g.2.1) p : Nat) : Int))) w') :
    T (d + 3) 120 0 [some (vr 16), some (vr 69), some (vr s), some (vi (p : Int)), x4, x5, x6] [] w Q := by
  obtain ⟨hN, hM, ok, -⟩ := id hO
  have tof : ∀ j : Nat, j < t.2.1 → 0 ≤ t.2.2.1 j ∧ t.2.2.1 j < 10 := fun j hj => by have := ok j hj; omega
  rw [g120_0, k_pullAll hO hT hs hS hG hp]
  simp only [tl_some]
  rw [g120_7]
  have hdl := drF_lt (t := t) (x := g.2.1) t.2.1 tof
  have key : ∀ (n k : Nat) (w' : aW) (a5 a6 : Int), k + n = t.1 → a6 = (k : Int) → a5 = ((bitsF (upF t g.2.2.1 (wb g.2.1) 0 p) k : Nat) : Int) → (∀ c i, c ≠ 17 → c ≠ 18 → w' c i = w c i) → (∀ l : Nat, l < 10 → w' 17 (l : Int) = pullF t g.2.2.1 (wb g.2.1) 0 p l) →
      T (d + 3) 120 15 [some (vr 16), some (vr 69), some (vr s), some (vi (p : Int)), some (vi ((drF t g.2.1 t.2.1 : Nat) : Int)), some (vi a5), some (vi a6)] [] w' Q := by
    intro n
    induction n with
    | zero =>
      intro k w' a5 a6 hk ha6 ha5 hw h17
      have e69 : w' 69 1 = (t.1 : Int) := by rw [hw 69 1 (by decide) (by decide)]; exact hT.1
      rw [g120_15, e69]
      refine ⟨fun _ => ?_, fun h => absurd (by omega) h⟩
      have hq := hQ w' hw
      unfold nxF at hq
      rw [ha5, show k = t.1 by omega]
      exact hq
    | succ n ih =>
      intro k w' a5 a6 hk ha6 ha5 hw h17
      have e69 : w' 69 1 = (t.1 : Int) := by rw [hw 69 1 (by decide) (by decide)]; exact hT.1
      have hT' : ClT w' t := hT.of (fun c i h1 h2 => hw c i (by omega) (by omega))
      subst ha6
      rw [g120_15, e69, h17 k (by omega), k_bitAt (by omega) (by omega)]
      refine ⟨fun h => absurd h (by omega), fun _ => ⟨by omega, ?_⟩⟩
      simp only [tl_some]
      have hpl := pullF_1000 (fr := g.2.2.1) (wh := wb g.2.1) (b := 0) (p := p) (l := k) hO
      have hb := bitsF_lt (upF t g.2.2.1 (wb g.2.1) 0 p) k
      have h10 := two10 (n := k) (by omega)
      have main : ∀ z : Int, z = bI (drF t g.2.1 t.2.1) k → T (d + 3) 120 52 [some (vr 16), some (vr 69), some (vr s), some (vi (p : Int)), some (vi ((drF t g.2.1 t.2.1 : Nat) : Int)), some (vi a5), some (vi (k : Int))] [vi z, vi (pullF t g.2.2.1 (wb g.2.1) 0 p k), vi (p : Int), vi (k : Int), vr 69, vr 16] w' Q := by
        intro z hz
        rw [g120_52]
        refine ⟨lay_16, ?_⟩
        refine k_isUpC hO hT' (by omega) hp hpl.1 (by omega) (fun w2 hw2 => ?_)
        simp only [tl_some]
        rw [hz, upC_F (fun j hj => (tof j hj).1), g120_55]
        have e6 : Unit → w32 ((k : Int) + 1) = ((k + 1 : Nat) : Int) := fun _ => by rw [w32_id (by omega) (by omega)]; omega
        have hw3 : ∀ c i, c ≠ 17 → c ≠ 18 → w2 c i = w c i := fun c i h1 h2 => by rw [hw2 c i h2]; exact hw c i h1 h2
        have h17' : ∀ l : Nat, l < 10 → w2 17 (l : Int) = pullF t g.2.2.1 (wb g.2.1) 0 p l := fun l hl => by rw [hw2 17 _ (by decide)]; exact h17 l hl
        refine ⟨fun h => ?_, fun h => ?_⟩
        · rw [g120_67]
          rw [b01_ne] at h
          exact ih (k + 1) w2 _ _ (by omega) (e6 ()) (by rw [bitsF_no h]; exact ha5) hw3 h17'
        · rw [g120_67]
          rw [b01_ne, Bool.not_eq_false] at h
          refine ih (k + 1) w2 _ _ (by omega) (e6 ()) ?_ hw3 h17'
          rw [ha5, jshl_n (by omega), jor_n (by omega) (by omega), bitsF_or h]
      rw [g120_43]
      refine ⟨fun h => main 0 ?_, fun h => main 1 ?_⟩
      · rcases bI_01 (drF t g.2.1 t.2.1) k with z | z
        · exact z.symm
        · exact absurd z h
      · omega
  refine key t.1 0 _ _ _ (by omega) rfl rfl (fun c i h1 h2 => setA_c h1) (fun l hl => setA_s hl)
theorem SgM.k0 {N M : Nat} {g : aSg} (h : SgM w 0 N M g) {k : Nat} (hk : k < M) : w 168 (22 + (k : Int)) = bI g.2.1 k ∧ w 168 (6 + (k : Int)) = g.2.2.1 k ∧ w 168 (38 + (k : Int)) = g.2.2.2.1 k := by
  have := h.2.1 k hk
  simpa only [Int.zero_add] using this
theorem rTo_F {t : aTr} {g : aSg} {b l k : Nat} (hT : RfT w t) (hS : SgM w 0 t.1 t.2.1 g) (hk : k < t.2.1) : rTo w (l : Int) b k = goesF t (wb g.2.1) b l k := by
  unfold rTo goesF wb
  rw [(hT.2.2.1 k hk).1, (hS.k0 hk).1]
  congr 2
  by_cases q : g.2.1.testBit k = true
  · rw [bI_1.mpr q, q]; rfl
  · rw [Bool.not_eq_true] at q
    rw [bI_0.mpr q, q]; rfl
/-- the reference's stringsTo(l, but) -/
theorem k_stringsToF {t : aTr} {g : aSg} {b l : Nat} {x3 x4 : Option aV} (hO : TrOk t) (hT : RfT w t) (hS : SgM w 0 t.1 t.2.1 g) (hb : b < 2147483648) : T (d + 1) 122 0 [some (vr 167), some (vi (l : Int)), some (vi (b : Int)), x3, x4] [] w Q = Q (some (vi (cntF t (wb g.2.1) b l))) w := by
  rw [k_stringsTo hb hT.2.1 hO.2.1]
  unfold cntF
  rw [sm_congr (fun k hk => by rw [rTo_F hT hS hk])]
/-- the reference's pulls(l, pose, but) -/
theorem k_pullsF {t : aTr} {g : aSg} {b l p : Nat} {x4 x5 : Option aV} (hO : TrOk t) (hT : RfT w t) (hS : SgM w 0 t.1 t.2.1 g) (hG : SgOk t.1 t.2.1 g) (hb : b < 2147483648) (hp : p < 1024) : T (d + 1) 124 0 [some (vr 167), some (vi (l : Int)), some (vi (p : Int)), some (vi (b : Int)), x4, x5] [] w Q = Q (some (vi (pullF t g.2.2.1 (wb g.2.1) b p l))) w := by
  have hN := hO.1
  rw [k_pulls hb (by omega) hT.2.1 hO.2.1 (fun k hk => ?_) (fun k hk => ?_) (fun k hk => ?_)]
  · unfold pullF
    rw [sm_congr (fun k hk => ?_)]
    unfold rPl pullK
    rw [rTo_F hT hS hk, (hS.k0 hk).2.1, (hT.2.2.1 k hk).2.1, (hT.2.2.1 k hk).2.2]
  · rw [(hS.k0 hk).2.1]
    have := hG.2.2.1 k hk
    omega
  · rw [(hT.2.2.1 k hk).2.1]
    have := hO.2.2.1 k hk
    omega
  · rw [(hT.2.2.1 k hk).2.2]
    exact (hO.2.2.1 k hk).2.2.2.2
/-- the reference's isUpThen(l, pose, but) -/
theorem k_isUpR {t : aTr} {g : aSg} {b l p : Nat} (hO : TrOk t) (hT : RfT w t) (hS : SgM w 0 t.1 t.2.1 g) (hG : SgOk t.1 t.2.1 g) (hb : b < 2147483648) (hp : p < 1024) (hl : l < t.1)
    (hQ : ∀ w', (∀ c i, c ≠ 172 → w' c i = w c i) → Q (some (vi (b01 (upF t g.2.2.1 (wb g.2.1) b p l)))) w') :
    T (d + 3) 125 0 [some (vr 167), some (vi (l : Int)), some (vi (p : Int)), some (vi (b : Int))] [] w Q := by
  have hN := hO.1
  obtain ⟨-, -, -, hk⟩ := id hT
  obtain ⟨e1, e2, -⟩ := hk l hl
  have i142 : Unit → w32 (142 + (l : Int)) = 142 + (l : Int) := fun _ => w32_id (by omega) (by omega)
  have i122 : Unit → w32 (122 + (l : Int)) = 122 + (l : Int) := fun _ => w32_id (by omega) (by omega)
  have hpl := pullF_1000 (fr := g.2.2.1) (wh := wb g.2.1) (b := b) (p := p) (l := l) hO
  rw [g125_0, (i142 ()), e2]
  refine ⟨by omega, fun c => ?_, fun c => ?_⟩
  · have hcs : t.2.2.2.2.2.2 l = [] := List.eq_nil_of_length_eq_zero (by omega)
    have hq := hQ w (fun _ _ _ => rfl)
    unfold upF at hq
    rw [if_pos hcs] at hq
    rw [k_stringsToF hO hT hS hb]
    simp only [tl_some]
    rw [g125_27]
    refine ⟨fun c2 => ?_, fun c2 => ?_⟩
    · rw [if_neg (by omega)] at hq
      rw [k_isIn (by omega) (by omega)]
      simp only [tl_some]
      rw [g125_63]
      refine ⟨bI_01 _ _, ?_⟩
      exact hq
    · rw [if_pos (by omega)] at hq
      rw [k_pullsF hO hT hS hG hb hp]
      simp only [tl_some]
      rw [g125_37, (i122 ()), e1]
      refine ⟨by omega, fun c3 => ?_, fun c3 => ?_⟩
      · rw [g125_63]
        rw [decide_eq_false (by omega)] at hq
        exact ⟨Or.inl rfl, hq⟩
      · rw [g125_63]
        rw [decide_eq_true (by omega)] at hq
        exact ⟨Or.inr rfl, hq⟩
  · have hcs : t.2.2.2.2.2.2 l ≠ [] := by
      intro q
      rw [q] at c
      exact c (by simp)
    refine k_holdsR (pl := pullF t g.2.2.1 (wb g.2.1) b p l) hO hT hl hcs hp hpl.1 (by omega) (fun w' R hw hR => ?_) (fun w' hw => ?_)
    · have hT' : RfT w' t := hT.of ⟨hO.1, hO.2.1⟩ (fun i _ => hw 168 i (by decide))
      have hS' : SgM w' 0 t.1 t.2.1 g := hS.of hO.1 hO.2.1 (fun i _ _ => hw 168 i (by decide))
      rw [k_pullsF hO hT' hS' hG hb hp]
      exact hR
    · simp only [tl_some]
      rw [g125_20]
      have hq := hQ w' hw
      unfold upF at hq
      rw [if_neg hcs] at hq
      exact ⟨b01_01 _, hq⟩
/-- the reference's nextOf(pose) -/
theorem k_nextOf {t : aTr} {g : aSg} {p : Nat} {x2 x3 : Option aV} (hO : TrOk t) (hT : RfT w t) (hS : SgM w 0 t.1 t.2.1 g) (hG : SgOk t.1 t.2.1 g) (hp : p < 1024)
    (hQ : ∀ w', (∀ c i, c ≠ 172 → w' c i = w c i) → Q (some (vi ((nxF t g.2.2.1 (wb g.2.1) p : Nat) : Int))) w') :
    T (d + 4) 154 0 [some (vr 167), some (vi (p : Int)), x2, x3] [] w Q := by
  have hN := hO.1
  rw [g154_0]
  have key : ∀ (n k : Nat) (w' : aW) (a2 a3 : Int), k + n = t.1 → a3 = (k : Int) → a2 = ((bitsF (upF t g.2.2.1 (wb g.2.1) 0 p) k : Nat) : Int) → (∀ c i, c ≠ 172 → w' c i = w c i) →
      T (d + 4) 154 4 [some (vr 167), some (vi (p : Int)), some (vi a2), some (vi a3)] [] w' Q := by
    intro n
    induction n with
    | zero =>
      intro k w' a2 a3 hk ha3 ha2 hw
      rw [g154_4, hw 168 2 (by decide), hT.1]
      refine ⟨fun _ => ?_, fun h => absurd (by omega) h⟩
      have hq := hQ w' hw
      unfold nxF at hq
      rw [ha2, show k = t.1 by omega]
      exact hq
    | succ n ih =>
      intro k w' a2 a3 hk ha3 ha2 hw
      have hT' : RfT w' t := hT.of ⟨hO.1, hO.2.1⟩ (fun i _ => hw 168 i (by decide))
      have hS' : SgM w' 0 t.1 t.2.1 g := hS.of hO.1 hO.2.1 (fun i _ _ => hw 168 i (by decide))
      subst ha3
      rw [g154_4, hw 168 2 (by decide), hT.1]
      refine ⟨fun h => absurd h (by omega), fun _ => ?_⟩
      refine k_isUpR (b := 0) hO hT' hS' hG (by decide) hp (by omega) (fun w2 hw2 => ?_)
      have hb := bitsF_lt (upF t g.2.2.1 (wb g.2.1) 0 p) k
      have h10 := two10 (n := k) (by omega)
      have hw3 : ∀ c i, c ≠ 172 → w2 c i = w c i := fun c i h => by rw [hw2 c i h]; exact hw c i h
      have e6 : Unit → w32 ((k : Int) + 1) = ((k + 1 : Nat) : Int) := fun _ => by rw [w32_id (by omega) (by omega)]; omega
      simp only [tl_some]
      rw [g154_22]
      refine ⟨fun h => ?_, fun h => ?_⟩
      · rw [g154_32]
        rw [b01_ne] at h
        refine ih (k + 1) w2 _ _ (by omega) (e6 ()) ?_ hw3
        rw [ha2, show (0 : Int) = ((0 : Nat) : Int) from rfl, jor_n (by omega) (by omega), bitsF_no h, Nat.or_zero]
      · rw [g154_32]
        rw [b01_ne, Bool.not_eq_false] at h
        refine ih (k + 1) w2 _ _ (by omega) (e6 ()) ?_ hw3
        rw [ha2, jshl_n (by omega), jor_n (by omega) (by omega), bitsF_or h]
  exact key t.1 0 w _ _ (by omega) rfl rfl (fun _ _ _ => rfl)
end Beats
