/-! tangles, swap. -/
/-- is string i ahead of j by where it comes from, and behind by where it goes? -/
def ahF (t : aTr) (fr : Nat → Int) (pl : Nat → Int) (i j : Nat) : Bool := decide (pl (fr i).toNat < pl (fr j).toNat) && decide (pl (t.2.2.1 j).toNat < pl (t.2.2.1 i).toNat)
def tgK (t : aTr) (fr : Nat → Int) (x : Nat) (pl : Nat → Int) (i j : Nat) : Int := b01 (x.testBit i && (x.testBit j && ahF t fr pl i j))
def tgF (t : aTr) (fr : Nat → Int) (x : Nat) (pl : Nat → Int) : Int := sm (fun i => sm (tgK t fr x pl i) t.2.1) t.2.1
theorem tgK_b {t : aTr} {fr : Nat → Int} {x : Nat} {pl : Nat → Int} {i j : Nat} : 0 ≤ tgK t fr x pl i j ∧ tgK t fr x pl i j ≤ 1 := by
  unfold tgK
  rcases b01_01 (x.testBit i && (x.testBit j && ahF t fr pl i j)) with h | h <;> omega
theorem tgS_b {t : aTr} {fr : Nat → Int} {x : Nat} {pl : Nat → Int} {i : Nat} (n : Nat) : 0 ≤ sm (tgK t fr x pl i) n ∧ sm (tgK t fr x pl i) n ≤ n := by
  have := sm_le (f := tgK t fr x pl i) (c := 1) (by omega) (n := n) (fun k _ => tgK_b)
  omega
theorem tgT_b {t : aTr} {fr : Nat → Int} {x : Nat} {pl : Nat → Int} {m : Nat} (hm : m ≤ 16) (n : Nat) : 0 ≤ sm (fun i => sm (tgK t fr x pl i) m) n ∧ sm (fun i => sm (tgK t fr x pl i) m) n ≤ n * 16 :=
  sm_le (f := fun i => sm (tgK t fr x pl i) m) (c := 16) (by omega) (n := n) (fun k _ => by have := tgS_b (t := t) (fr := fr) (x := x) (pl := pl) (i := k) m; omega)
/-- two neighbours change places -/
def swF (g : aSg) (a : Int) : aSg := (g.1, g.2.1, g.2.2.1, g.2.2.2.1, fun l => if g.2.2.2.2 l = a then a + 1 else if g.2.2.2.2 l = a + 1 then a else g.2.2.2.2 l)
theorem swF_ok {N M : Nat} {g : aSg} {a : Int} (h : SgOk N M g) (h0 : 0 ≤ a) (h1 : a + 1 < (N : Int)) : SgOk N M (swF g a) := by
  obtain ⟨a1, a2, a3, a4, a5, a6, a7⟩ := h
  refine ⟨a1, a2, a3, fun l hl => ?_, fun p hp => ?_, a6, fun l j hl hj e => ?_⟩
  · have := a4 l hl
    show 0 ≤ (if g.2.2.2.2 l = a then a + 1 else if g.2.2.2.2 l = a + 1 then a else g.2.2.2.2 l) ∧ (if g.2.2.2.2 l = a then a + 1 else if g.2.2.2.2 l = a + 1 then a else g.2.2.2.2 l) < (N : Int)
    split
    · omega
    · split <;> omega
  · by_cases q : (p : Int) = a
    · obtain ⟨l, l1, l2⟩ := a5 (p + 1) (by omega)
      refine ⟨l, l1, ?_⟩
      show (if g.2.2.2.2 l = a then a + 1 else if g.2.2.2.2 l = a + 1 then a else g.2.2.2.2 l) = _
      rw [if_neg (by omega), if_pos (by omega)]; omega
    · by_cases q2 : (p : Int) = a + 1
      · obtain ⟨l, l1, l2⟩ := a5 (p - 1) (by omega)
        refine ⟨l, l1, ?_⟩
        show (if g.2.2.2.2 l = a then a + 1 else if g.2.2.2.2 l = a + 1 then a else g.2.2.2.2 l) = _
        rw [if_pos (by omega)]; omega
      · obtain ⟨l, l1, l2⟩ := a5 p hp
        refine ⟨l, l1, ?_⟩
        show (if g.2.2.2.2 l = a then a + 1 else if g.2.2.2.2 l = a + 1 then a else g.2.2.2.2 l) = _
        rw [if_neg (by omega), if_neg (by omega)]; exact l2
  · refine a7 l j hl hj ?_
    have e' : (if g.2.2.2.2 l = a then a + 1 else if g.2.2.2.2 l = a + 1 then a else g.2.2.2.2 l) = (if g.2.2.2.2 j = a then a + 1 else if g.2.2.2.2 j = a + 1 then a else g.2.2.2.2 j) := e
    split at e' <;> split at e' <;> (try split at e') <;> (try split at e') <;> omega
section Tangle
variable {d D : Nat} {w : aW} {Q : Option aV → aW → Prop}
/-- isAhead(told, stage s, i, j) -/
theorem k_isAhead {t : aTr} {g : aSg} {s i j : Nat} (hO : TrOk t) (hT : ClT w t) (hs : s ∈ sgL) (hS : SgC w s t.1 t.2.1 g) (hG : SgOk t.1 t.2.1 g) (hi : i < t.2.1) (hj : j < t.2.1) :
    T d 232 0 [some (vr 69), some (vr s), some (vi (i : Int)), some (vi (j : Int))] [] w Q = Q (some (vi (b01 (ahF t g.2.2.1 g.2.2.2.2 i j)))) w := by
  obtain ⟨hN, hM, ok, -⟩ := id hO
  obtain ⟨⟨hl, hc2, hc3, hc4⟩, -⟩ := sgL_ok s hs
  have pl : ∀ v : Int, 0 ≤ v → v < (t.1 : Int) → w (s + 3) v = g.2.2.2.2 v.toNat := by
    intro v h0 h1
    have := hS.2.2.2 v.toNat (by omega)
    rwa [Int.toNat_of_nonneg h0] at this
  have f1 := hG.2.2.1 i hi
  have f2 := hG.2.2.1 j hj
  have o1 := ok i hi
  have o2 := ok j hj
  rw [g232_0, hc2, hc4, sg_l1 hs, sg_l1 hs, sg_l3 hs, sg_l3 hs, sg_l3 hs, sg_l3 hs, (hS.2.2.1 i hi).1, (hS.2.2.1 j hj).1, (hT.2.2.1 i hi).1, (hT.2.2.1 j hj).1, pl _ f1.1 f1.2, pl _ f2.1 f2.2, pl _ o1.1 o1.2.1, pl _ o2.1 o2.2.1]
  rw [gd hl, gd hl, gd (show (0 : Int) ≤ (i : Int) ∧ (i : Int) < 16 by omega), gd (show 0 ≤ g.2.2.1 i ∧ g.2.2.1 i < 10 by omega), gd hl, gd hl, gd (show (0 : Int) ≤ (j : Int) ∧ (j : Int) < 16 by omega), gd (show 0 ≤ g.2.2.1 j ∧ g.2.2.1 j < 10 by omega), gd hl, gd (show (0 : Int) ≤ (i : Int) ∧ (i : Int) < 16 by omega), gd (show 0 ≤ t.2.2.1 i ∧ t.2.2.1 i < 10 by omega), gd hl, gd (show (0 : Int) ≤ (j : Int) ∧ (j : Int) < 16 by omega), gd (show 0 ≤ t.2.2.1 j ∧ t.2.2.1 j < 10 by omega)]
  simp only [g232_54, g232_55]
  unfold ahF
  by_cases c1 : g.2.2.2.2 (g.2.2.1 j).toNat ≤ g.2.2.2.2 (g.2.2.1 i).toNat
  · rw [if_t c1, decide_eq_false (show ¬ g.2.2.2.2 (g.2.2.1 i).toNat < g.2.2.2.2 (g.2.2.1 j).toNat by omega)]
    simp [b01]
  · rw [if_f c1, decide_eq_true (show g.2.2.2.2 (g.2.2.1 i).toNat < g.2.2.2.2 (g.2.2.1 j).toNat by omega)]
    by_cases c2 : g.2.2.2.2 (t.2.2.1 i).toNat ≤ g.2.2.2.2 (t.2.2.1 j).toNat
    · rw [if_t c2, decide_eq_false (show ¬ g.2.2.2.2 (t.2.2.1 j).toNat < g.2.2.2.2 (t.2.2.1 i).toNat by omega)]
      simp [b01]
    · rw [if_f c2, decide_eq_true (show g.2.2.2.2 (t.2.2.1 j).toNat < g.2.2.2.2 (t.2.2.1 i).toNat by omega)]
      simp [b01]
/-- tangled(told, stage s) -/
theorem k_tangled {t : aTr} {g : aSg} {s : Nat} {x0 x3 x4 x5 : Option aV} (hO : TrOk t) (hT : ClT w t) (hs : s ∈ sgL) (hS : SgC w s t.1 t.2.1 g) (hG : SgOk t.1 t.2.1 g) (hQ : Q (some (vi (tgF t g.2.2.1 g.2.1 g.2.2.2.2))) w) :
    T (d + 1) 143 0 [x0, some (vr 69), some (vr s), x3, x4, x5] [] w Q := by
  obtain ⟨hN, hM, ok, -⟩ := id hO
  obtain ⟨⟨hl, -⟩, -⟩ := sgL_ok s hs
  have hM2 := two_le hM
  have hx := hG.2.1
  rw [g143_0]
  have key : ∀ (m i : Nat) (a3 a4 : Int) (y5 : Option aV), i + m = t.2.1 → a4 = (i : Int) → a3 = sm (fun i => sm (tgK t g.2.2.1 g.2.1 g.2.2.2.2 i) t.2.1) i → T (d + 1) 143 5 [x0, some (vr 69), some (vr s), some (vi a3), some (vi a4), y5] [] w Q := by
    intro m
    induction m with
    | zero =>
      intro i a3 a4 y5 hi ha4 ha3
      rw [g143_5, hT.2.1]
      refine ⟨fun _ => ?_, fun h => absurd (by omega) h⟩
      rw [ha3, show i = t.2.1 by omega]
      exact hQ
    | succ m ih =>
      intro i a3 a4 y5 hi ha4 ha3
      subst ha4
      rw [g143_5, hT.2.1]
      refine ⟨fun h => absurd h (by omega), fun _ => ?_⟩
      have hT1 := tgT_b (t := t) (fr := g.2.2.1) (x := g.2.1) (pl := g.2.2.2.2) hM i
      have key2 : ∀ (k j : Nat) (b3 b5 : Int), j + k = t.2.1 → b5 = (j : Int) → b3 = a3 + sm (tgK t g.2.2.1 g.2.1 g.2.2.2.2 i) j → T (d + 1) 143 17 [x0, some (vr 69), some (vr s), some (vi b3), some (vi (i : Int)), some (vi b5)] [] w Q := by
        intro k
        induction k with
        | zero =>
          intro j b3 b5 hj hb5 hb3
          rw [g143_17, hT.2.1]
          refine ⟨fun _ => ?_, fun h => absurd (by omega) h⟩
          refine ih (i + 1) _ _ _ (by omega) (by rw [w32_id (by omega) (by omega)]; omega) ?_
          rw [sm, hb3, ha3, show j = t.2.1 by omega]
        | succ k ih2 =>
          intro j b3 b5 hj hb5 hb3
          subst hb5
          have hS1 := tgS_b (t := t) (fr := g.2.2.1) (x := g.2.1) (pl := g.2.2.2.2) (i := i) j
          have hst : ∀ z : Int, z = b3 + tgK t g.2.2.1 g.2.1 g.2.2.2.2 i j → T (d + 1) 143 67 [x0, some (vr 69), some (vr s), some (vi z), some (vi (i : Int)), some (vi (j : Int))] [] w Q := by
            intro z hz
            rw [g143_67]
            refine ih2 (j + 1) _ _ (by omega) (by rw [w32_id (by omega) (by omega)]; omega) ?_
            rw [sm, hz, hb3]; omega
          unfold tgK at hst
          rw [g143_17, hT.2.1, hS.2.1, k_bitAt (by omega) (by omega)]
          refine ⟨fun h => absurd h (by omega), fun _ => ⟨hl, ?_⟩⟩
          simp only [tl_some]
          rw [g143_35, hS.2.1, k_bitAt (by omega) (by omega)]
          refine ⟨fun h => hst _ ?_, fun h => ⟨hl, ?_⟩⟩
          · have : g.2.1.testBit i = false := by
              rcases bI_01 g.2.1 i with q | q
              · exact bI_0.mp q
              · exact absurd q h
            rw [this]; simp [b01]
          · have e1 : g.2.1.testBit i = true := bI_1.mp (by omega)
            simp only [tl_some]
            rw [g143_48, k_isAhead hO hT hs hS hG (by omega) (by omega)]
            refine ⟨fun h => hst _ ?_, fun h => ?_⟩
            · have : g.2.1.testBit j = false := by
                rcases bI_01 g.2.1 j with q | q
                · exact bI_0.mp q
                · exact absurd q h
              rw [this]; simp [b01]
            · have e2 : g.2.1.testBit j = true := bI_1.mp (by omega)
              simp only [tl_some]
              rw [e1, e2] at hst
              simp only [Bool.true_and] at hst
              rw [g143_61]
              refine ⟨fun h => hst _ ?_, fun h => hst _ ?_⟩
              · rw [h]; omega
              · rw [w32_id (by omega) (by omega)]
                rcases b01_01 (ahF t g.2.2.1 g.2.2.2.2 i j) with q | q
                · exact absurd q h
                · rw [q]
      exact key2 t.2.1 0 a3 _ (by omega) rfl (by rw [sm]; omega)
  exact key t.2.1 0 _ _ _ (by omega) rfl rfl
/-- areTangled(i, j) -/
theorem k_areT {t : aTr} {g : aSg} {pl : Nat → Int} {i j : Nat} (hO : TrOk t) (hT : RfT w t) (hS : SgM w 0 t.1 t.2.1 g) (hG : SgOk t.1 t.2.1 g) (hp : ∀ l : Nat, l < t.1 → w 184 (l : Int) = pl l) (hi : i < t.2.1) (hj : j < t.2.1) :
    T d 284 0 [some (vr 167), some (vi (i : Int)), some (vi (j : Int))] [] w Q = Q (some (vi (b01 (ahF t g.2.2.1 pl i j)))) w := by
  obtain ⟨hN, hM, ok, -⟩ := id hO
  have pl' : ∀ v : Int, 0 ≤ v → v < (t.1 : Int) → w 184 v = pl v.toNat := by
    intro v h0 h1
    have := hp v.toNat (by omega)
    rwa [Int.toNat_of_nonneg h0] at this
  have f1 := hG.2.2.1 i hi
  have f2 := hG.2.2.1 j hj
  have o1 := ok i hi
  have o2 := ok j hj
  rw [g284_0, w6 (by omega), w6 (by omega), w64k (by omega), w64k (by omega), (hS.k0 hi).2.1, (hS.k0 hj).2.1, (hT.2.2.1 i hi).1, (hT.2.2.1 j hj).1, pl' _ f1.1 f1.2, pl' _ f2.1 f2.2, pl' _ o1.1 o1.2.1, pl' _ o2.1 o2.2.1]
  rw [gd (show (0 : Int) ≤ 6 + (i : Int) ∧ 6 + (i : Int) < 4932 by omega), gd (show 0 ≤ g.2.2.1 i ∧ g.2.2.1 i < 10 by omega), gd (show (0 : Int) ≤ 6 + (j : Int) ∧ 6 + (j : Int) < 4932 by omega), gd (show 0 ≤ g.2.2.1 j ∧ g.2.2.1 j < 10 by omega), gd (show (0 : Int) ≤ 64 + (i : Int) ∧ 64 + (i : Int) < 4932 by omega), gd (show 0 ≤ t.2.2.1 i ∧ t.2.2.1 i < 10 by omega), gd (show (0 : Int) ≤ 64 + (j : Int) ∧ 64 + (j : Int) < 4932 by omega), gd (show 0 ≤ t.2.2.1 j ∧ t.2.2.1 j < 10 by omega)]
  simp only [g284_66, g284_67]
  unfold ahF
  by_cases c1 : pl (g.2.2.1 j).toNat ≤ pl (g.2.2.1 i).toNat
  · rw [if_t c1, decide_eq_false (show ¬ pl (g.2.2.1 i).toNat < pl (g.2.2.1 j).toNat by omega)]
    simp [b01]
  · rw [if_f c1, decide_eq_true (show pl (g.2.2.1 i).toNat < pl (g.2.2.1 j).toNat by omega)]
    by_cases c2 : pl (t.2.2.1 i).toNat ≤ pl (t.2.2.1 j).toNat
    · rw [if_t c2, decide_eq_false (show ¬ pl (t.2.2.1 j).toNat < pl (t.2.2.1 i).toNat by omega)]
      simp [b01]
    · rw [if_f c2, decide_eq_true (show pl (t.2.2.1 j).toNat < pl (t.2.2.1 i).toNat by omega)]
      simp [b01]
/-- tanglesNow() -/
theorem k_tgNow {t : aTr} {g : aSg} {pl : Nat → Int} {x1 x2 x3 : Option aV} (hO : TrOk t) (hT : RfT w t) (hS : SgM w 0 t.1 t.2.1 g) (hG : SgOk t.1 t.2.1 g) (hp : ∀ l : Nat, l < t.1 → w 184 (l : Int) = pl l) (hQ : Q (some (vi (tgF t g.2.2.1 g.2.1 pl))) w) :
    T (d + 1) 233 0 [some (vr 167), x1, x2, x3] [] w Q := by
  obtain ⟨hN, hM, ok, -⟩ := id hO
  have hM2 := two_le hM
  rw [g233_0]
  have key : ∀ (m i : Nat) (a1 a2 : Int) (y3 : Option aV), i + m = t.2.1 → a2 = (i : Int) → a1 = sm (fun i => sm (tgK t g.2.2.1 g.2.1 pl i) t.2.1) i → T (d + 1) 233 4 [some (vr 167), some (vi a1), some (vi a2), y3] [] w Q := by
    intro m
    induction m with
    | zero =>
      intro i a1 a2 y3 hi ha2 ha1
      rw [g233_4, hT.2.1]
      refine ⟨fun _ => ?_, fun h => absurd (by omega) h⟩
      rw [ha1, show i = t.2.1 by omega]
      exact hQ
    | succ m ih =>
      intro i a1 a2 y3 hi ha2 ha1
      subst ha2
      rw [g233_4, hT.2.1]
      refine ⟨fun h => absurd h (by omega), fun _ => ?_⟩
      have hT1 := tgT_b (t := t) (fr := g.2.2.1) (x := g.2.1) (pl := pl) hM i
      have key2 : ∀ (k j : Nat) (b1 b3 : Int), j + k = t.2.1 → b3 = (j : Int) → b1 = a1 + sm (tgK t g.2.2.1 g.2.1 pl i) j → T (d + 1) 233 16 [some (vr 167), some (vi b1), some (vi (i : Int)), some (vi b3)] [] w Q := by
        intro k
        induction k with
        | zero =>
          intro j b1 b3 hj hb3 hb1
          rw [g233_16, hT.2.1]
          refine ⟨fun _ => ?_, fun h => absurd (by omega) h⟩
          refine ih (i + 1) _ _ _ (by omega) (by rw [w32_id (by omega) (by omega)]; omega) ?_
          rw [sm, hb1, ha1, show j = t.2.1 by omega]
        | succ k ih2 =>
          intro j b1 b3 hj hb3 hb1
          subst hb3
          have hS1 := tgS_b (t := t) (fr := g.2.2.1) (x := g.2.1) (pl := pl) (i := i) j
          have hst : ∀ z : Int, z = tgK t g.2.2.1 g.2.1 pl i j → T (d + 1) 233 57 [some (vr 167), some (vi b1), some (vi (i : Int)), some (vi (j : Int))] [vi z, vi b1] w Q := by
            intro z hz
            have hzb := tgK_b (t := t) (fr := g.2.2.1) (x := g.2.1) (pl := pl) (i := i) (j := j)
            rw [g233_57]
            refine ih2 (j + 1) _ _ (by omega) (by rw [w32_id (by omega) (by omega)]; omega) ?_
            rw [sm, hz, w32_id (by omega) (by omega), hb1]; omega
          unfold tgK at hst
          have eb : ∀ k : Nat, decide (bI g.2.1 k = 1) = g.2.1.testBit k := by
            intro k
            cases q : g.2.1.testBit k with
            | true => rw [bI_1.mpr q]; rfl
            | false => rw [bI_0.mpr q]; rfl
          rw [g233_16, hT.2.1, k_isWhole (by omega) (by omega), (hS.k0 (show i < t.2.1 by omega)).1, eb]
          refine ⟨fun h => absurd h (by omega), fun _ => ?_⟩
          simp only [tl_some]
          rw [g233_32, k_isWhole (by omega) (by omega), (hS.k0 (show j < t.2.1 by omega)).1, eb]
          refine ⟨fun h => ?_, fun h => ?_⟩
          · rw [b01_ne] at h
            rw [g233_56]
            refine hst 0 ?_
            rw [h]; rfl
          · rw [b01_ne, Bool.not_eq_false] at h
            rw [h] at hst
            simp only [tl_some]
            rw [g233_40, k_areT hO hT hS hG hp (by omega) (by omega)]
            refine ⟨fun h2 => ?_, fun h2 => ?_⟩
            · rw [b01_ne] at h2
              rw [g233_56]
              refine hst 0 ?_
              rw [h2]; rfl
            · rw [b01_ne, Bool.not_eq_false] at h2
              rw [h2] at hst
              simp only [Bool.true_and] at hst
              simp only [tl_some]
              rw [g233_49]
              refine ⟨fun h3 => ?_, fun h3 => ?_⟩
              · rw [g233_56]
                exact hst 0 h3.symm
              · refine hst 1 ?_
                rcases b01_01 (ahF t g.2.2.1 pl i j) with q | q
                · exact absurd q h3
                · exact q.symm
      exact key2 t.2.1 0 a1 _ (by omega) rfl (by rw [sm]; omega)
  exact key t.2.1 0 _ _ _ (by omega) rfl rfl
/-- tanglesOf() -/
theorem k_tgOf {t : aTr} {g : aSg} {x1 : Option aV} (hO : TrOk t) (hT : RfT w t) (hS : SgM w 0 t.1 t.2.1 g) (hG : SgOk t.1 t.2.1 g) (hQ : ∀ w', (∀ c i, c ≠ 184 → w' c i = w c i) → Q (some (vi (tgF t g.2.2.1 g.2.1 g.2.2.2.2))) w') :
    T (d + 2) 145 0 [some (vr 167), x1] [] w Q := by
  obtain ⟨hN, hM, ok, -⟩ := id hO
  rw [g145_0]
  have key : ∀ (m l : Nat) (w' : aW) (a1 : Int), l + m = t.1 → a1 = (l : Int) → (∀ c i, c ≠ 184 → w' c i = w c i) → (∀ j : Nat, j < l → w' 184 (j : Int) = g.2.2.2.2 j) → T (d + 2) 145 2 [some (vr 167), some (vi a1)] [] w' Q := by
    intro m
    induction m with
    | zero =>
      intro l w' a1 hl ha hw hp
      rw [g145_2, hw 168 2 (by decide), hT.1]
      refine ⟨fun _ => ?_, fun h => absurd (by omega) h⟩
      refine k_tgNow hO (hT.of ⟨hN, hM⟩ (fun i _ => hw 168 i (by decide))) (hS.of hN hM (fun i _ _ => hw 168 i (by decide))) hG (fun j hj => hp j (by omega)) ?_
      simp only [tl_some]
      rw [g145_37]
      exact hQ w' hw
    | succ m ih =>
      intro l w' a1 hl ha hw hp
      subst ha
      rw [g145_2, hw 168 2 (by decide), hT.1, w54 (by omega), hw 168 (54 + (l : Int)) (by decide), hS.l0 (by omega)]
      refine ⟨fun h => absurd h (by omega), fun _ => ⟨by omega, by omega, ?_⟩⟩
      refine ih (l + 1) _ _ (by omega) (by rw [w32_id (by omega) (by omega)]; omega) (fun c i q => by rw [iup_c q]; exact hw c i q) (fun j hj => ?_)
      by_cases q : j = l
      · subst q; exact iup_s
      · rw [iup_i (by omega)]; exact hp j (by omega)
  exact key t.1 0 w _ (by omega) rfl (fun _ _ _ => rfl) (fun j hj => by omega)
/-- tangles -/
theorem s_tangles : Sim Inv (D + 3) 69 70 [some (vr 0)] [some (vr 167)] := by
  refine sim_ask fun w g n ps hI hS => ?_
  generalize trR w 0 = t at *
  obtain ⟨hO, hR, hC, s1, s2, s3, p1, p2, p3, hlf, -⟩ := hS
  refine ⟨tgF t g.2.2.1 g.2.1 g.2.2.2.2, fun Q hQ => ?_, fun w1 hk hR1 hM1 Q hQ => ?_⟩
  · rw [g69_0]
    refine k_tangled hO hC sg79 s1 s3 ?_
    simp only [tl_some]
    rw [g69_15]
    exact hQ w (SK.refl w)
  · rw [g70_0]
    refine k_tgOf hO (RfT_167 hR1) (SgM_167 hM1) s3 (fun w2 hw2 => ?_)
    simp only [tl_some]
    rw [g70_9]
    exact hQ w2 (SK_th.trans (fun c i q => hw2 c i (by have := scr_17 q; omega)))
/-- swapAt(at, limbs) -/
theorem k_swapAt {s N M : Nat} {g : aSg} {a : Int} {x3 : Option aV} (hs : s ∈ sgL) (hN : N ≤ 10) (hS : SgC w s N M g) (h0 : 0 ≤ a) (h1 : a < 10) (hQ : ∀ w', (∀ c i, c ≠ s + 3 → w' c i = w c i) → SgC w' s N M (swF g a) → Q none w') :
    T d 142 0 [some (vr s), some (vi a), some (vi (N : Int)), x3] [] w Q := by
  obtain ⟨⟨hl, hc2, hc3, hc4⟩, -⟩ := sgL_ok s hs
  have ea : Unit → w32 (a + 1) = a + 1 := fun _ => w32_id (by omega) (by omega)
  rw [g142_0]
  have key : ∀ (m l : Nat) (w' : aW) (a3 : Int), l + m = N → a3 = (l : Int) → (∀ c i, c ≠ s + 3 → w' c i = w c i) → (∀ j : Nat, j < N → w' (s + 3) (j : Int) = if j < l then (swF g a).2.2.2.2 j else g.2.2.2.2 j) → T d 142 2 [some (vr s), some (vi a), some (vi (N : Int)), some (vi a3)] [] w' Q := by
    intro m
    induction m with
    | zero =>
      intro l w' a3 hl' ha hw hp
      rw [g142_2]
      refine ⟨fun _ => ?_, fun h => absurd (by omega) h⟩
      rw [g142_60]
      obtain ⟨b1, b2, b3, b4⟩ := hS
      refine hQ w' hw ⟨by rw [hw s 0 (by omega)]; exact b1, by rw [hw s 1 (by omega)]; exact b2, fun k hk => by rw [hw (s + 1) _ (by omega), hw (s + 2) _ (by omega)]; exact b3 k hk, fun j hj => by rw [hp j hj, if_pos (by omega)]⟩
    | succ m ih =>
      intro l w' a3 hl' ha hw hp
      subst ha
      have epl : w' (s + 3) (l : Int) = g.2.2.2.2 l := by rw [hp l (by omega), if_neg (by omega)]
      have hst : ∀ (w2 : aW), (∀ c i, c ≠ s + 3 → w2 c i = w c i) → (∀ j : Nat, j < N → w2 (s + 3) (j : Int) = if j < l + 1 then (swF g a).2.2.2.2 j else g.2.2.2.2 j) → T d 142 54 [some (vr s), some (vi a), some (vi (N : Int)), some (vi (l : Int))] [] w2 Q := by
        intro w2 z1 z2
        rw [g142_54]
        exact ih (l + 1) w2 _ (by omega) (by rw [w32_id (by omega) (by omega)]; omega) z1 z2
      have hup : ∀ v : Int, v = (swF g a).2.2.2.2 l → T d 142 54 [some (vr s), some (vi a), some (vi (N : Int)), some (vi (l : Int))] [] (iup w' (s + 3) (l : Int) v) Q := by
        intro v hv
        refine hst _ (fun c i q => by rw [iup_c q]; exact hw c i q) (fun j hj => ?_)
        by_cases q : j = l
        · subst q; rw [iup_s, if_pos (by omega)]; exact hv
        · rw [iup_i (by omega), hp j hj]
          by_cases q2 : j < l
          · rw [if_pos q2, if_pos (by omega)]
          · rw [if_neg q2, if_neg (by omega)]
      rw [g142_2, hc4, sg_l3 hs, sg_i3 hs, epl, (ea ())]
      have esw : (swF g a).2.2.2.2 l = if g.2.2.2.2 l = a then a + 1 else if g.2.2.2.2 l = a + 1 then a else g.2.2.2.2 l := rfl
      refine ⟨fun h => absurd h (by omega), fun _ => ⟨fun h => absurd h (by omega), fun _ => ⟨hl, by omega, fun c1 => ⟨hl, by omega, fun c2 => ?_, fun c2 => ⟨hl, by omega, hup a ?_⟩⟩, fun c1 => ⟨hl, by omega, hup (a + 1) ?_⟩⟩⟩⟩
      · refine hst w' hw (fun j hj => ?_)
        rw [hp j hj]
        by_cases q : j = l
        · subst q
          rw [if_neg (by omega), if_pos (by omega), esw, if_neg c1, if_neg c2]
        · by_cases q2 : j < l
          · rw [if_pos q2, if_pos (by omega)]
          · rw [if_neg q2, if_neg (by omega)]
      · rw [esw, if_neg c1, if_pos (by omega)]
      · rw [esw, if_pos (by omega)]
  exact key N 0 w _ (by omega) rfl (fun _ _ _ => rfl) (fun j hj => by rw [if_neg (by omega)]; exact hS.2.2.2 j hj)
/-- limbAt(place) -/
theorem k_limbAt {N M l : Nat} {g : aSg} {a : Int} {x2 : Option aV} (hN : N ≤ 10) (hS : SgM w 0 N M g) (hl : l < N) (ha : g.2.2.2.2 l = a) (hi : ∀ j, j < N → g.2.2.2.2 j = a → j = l) (hQ : Q (some (vi (l : Int))) w) : T d 144 0 [some (vr 167), some (vi a), x2] [] w Q := by
  rw [g144_0]
  have key : ∀ (m j : Nat) (a2 : Int), j + m = l → a2 = (j : Int) → T d 144 2 [some (vr 167), some (vi a), some (vi a2)] [] w Q := by
    intro m
    induction m with
    | zero =>
      intro j a2 hj ha2
      subst ha2
      rw [g144_2, w54 (by omega), hS.l0 (by omega)]
      refine ⟨by omega, fun _ => ?_, fun h => absurd ?_ h⟩
      · rw [show j = l by omega]; exact hQ
      · rw [show j = l by omega]; exact ha
    | succ m ih =>
      intro j a2 hj ha2
      subst ha2
      rw [g144_2, w54 (by omega), hS.l0 (by omega)]
      refine ⟨by omega, fun h => absurd (hi j (by omega) h) (by omega), fun _ => ?_⟩
      exact ih (j + 1) _ (by omega) (by rw [w32_id (by omega) (by omega)]; omega)
  exact key l 0 _ (by omega) rfl
/-- swap -/
theorem s_swap {a : Int} (ha : R32 a) : Sim Inv (D + 4) 23 24 [some (vr 0), some (vi a)] [some (vr 167), some (vi a), none, none] := by
  refine sim_deed fun w g n ps hI hS => ?_
  generalize trR w 0 = t at *
  obtain ⟨hO, hR, hC, s1, s2, s3, p1, p2, p3, -⟩ := hS
  obtain ⟨hN, hM, -⟩ := id hO
  have hn := p1.2.1
  by_cases hl : 0 ≤ a ∧ a < (t.1 : Int) - 1
  · have ho := swF_ok s3 hl.1 (by omega)
    refine Or.inl ⟨tgF t g.2.2.1 g.2.1 (swF g a).2.2.2.2, swF g a, ho, fun Q hQ => ?_, fun w1 hk hR1 hM1 hP1 Q hQ => ?_⟩
    · rw [g23_0, hC.1, w32_id (x := (t.1 : Int) - 1) (by omega) (by omega)]
      refine ⟨fun h => absurd h (by omega), fun _ => ⟨fun _ => ?_, fun h => absurd hl.2 h⟩⟩
      refine k_remD hN hM p1 s1 (fun w' hck hs hw => ?_)
      simp only [tl_none]
      have hC' : ClT w' t := hC.of (fun c i q1 q2 => hw c i (by omega) (by omega))
      rw [g23_24, hC'.1]
      refine k_swapAt sg79 hN hs hl.1 (by omega) (fun w2 hw2 hs2 => ?_)
      simp only [tl_none]
      rw [g23_39]
      refine k_tangled hO (hC'.of (fun c i q1 q2 => hw2 c i (by omega))) sg79 hs2 ho ?_
      simp only [tl_some]
      rw [g23_54]
      exact hQ w2 (fun c i q0 q1 q2 q3 q4 => by rw [hw2 c i (by omega)]; exact hck.1 c i q0 q1 q2 q3 q4) hs2 (hck.2.of (hw2 0 12 (by omega)) (fun c i q => hw2 c i (by omega)))
    · rw [g24_0, thI, hR1.1, w32_id (x := (t.1 : Int) - 2) (by omega) (by omega), k_within, b01_t (decide_eq_true (by omega))]
      simp only [tl_some]
      rw [g24_20]
      refine ⟨fun _ => ?_, fun h => absurd (by decide) h⟩
      obtain ⟨k1, k2, k3⟩ := RK_keep hN hM hn hP1 hM1
      rw [k_keeps]
      simp only [tl_none]
      obtain ⟨l1, l1N, e1⟩ := s3.2.2.2.2.1 a.toNat (by omega)
      obtain ⟨l2, l2N, e2⟩ := s3.2.2.2.2.1 (a.toNat + 1) (by omega)
      have inj := s3.2.2.2.2.2.2
      have e1' : g.2.2.2.2 l1 = a := by omega
      have e2' : g.2.2.2.2 l2 = a + 1 := by omega
      have ea : Unit → w32 (a + 1) = a + 1 := fun _ => w32_id (by omega) (by omega)
      rw [g24_30]
      refine k_limbAt hN k2 l1N e1' (fun j hj h => inj j l1 hj l1N (by omega)) ?_
      simp only [tl_some]
      rw [g24_35, (ea ())]
      refine k_limbAt hN k2 l2N e2' (fun j hj h => inj j l2 hj l2N (by omega)) ?_
      simp only [tl_some]
      rw [g24_43, w54 (by omega), w54 (by omega), (ea ())]
      refine ⟨by omega, by omega, ?_⟩
      have hs3 := (k2.place (v := a + 1) hN hM l1N).place (v := a) hN hM l2N
      refine k_notD (g' := swF g a) hN hM hn ((k1.put hN hM hn (by omega) (by omega)).put hN hM hn (by omega) (by omega)) (hs3.cg rfl rfl (fun _ _ => ⟨rfl, rfl⟩) (fun l hlN => ?_)) (fun w2 q1 q2 q3 q4 => ?_)
      · show (if g.2.2.2.2 l = a then a + 1 else if g.2.2.2.2 l = a + 1 then a else g.2.2.2.2 l) = fup (fup g.2.2.2.2 l1 (a + 1)) l2 a l
        unfold fup
        by_cases z2 : l = l2
        · subst z2; rw [if_pos rfl, if_neg (by omega), if_pos e2']
        · rw [if_neg z2]
          by_cases z1 : l = l1
          · subst z1; rw [if_pos rfl, if_pos e1']
          · rw [if_neg z1, if_neg (fun h => z1 (inj l l1 hlN l1N (by omega))), if_neg (fun h => z2 (inj l l2 hlN l2N (by omega)))]
      · simp only [tl_none]
        rw [g24_70]
        have hR2 : RfT w2 t := hR1.of ⟨hN, hM⟩ (fun i hi => by
          exact q1 168 i scr_168 (by omega) (by omega))
        refine k_tgOf hO hR2 q2 ho (fun w3 hw3 => ?_)
        simp only [tl_some]
        rw [g24_74]
        have e8 : ∀ i, w3 168 i = w2 168 i := fun i => hw3 168 i (by decide)
        exact hQ w3 (fun c i q0 z1 z2 => by rw [hw3 c i (by have := scr_17 q0; omega)]; exact q1 c i q0 z1 z2) (q2.of hN hM (fun i _ _ => e8 i)) (q3.of hN hM (by unfold pushN; split <;> omega) (fun i _ _ => e8 i))
  · refine Or.inr ⟨-3, fun Q hQ => ?_, fun Q hQ => ?_⟩
    · rw [g23_0, hC.1, w32_id (x := (t.1 : Int) - 1) (by omega) (by omega)]
      refine ⟨fun _ => by rw [g23_17]; exact hQ, fun h => ⟨fun h2 => absurd ⟨by omega, h2⟩ hl, fun _ => by rw [g23_17]; exact hQ⟩⟩
    · rw [g24_0, thI, hR.1, w32_id (x := (t.1 : Int) - 2) (by omega) (by omega), k_within, b01_f (decide_eq_false (by omega))]
      simp only [tl_some]
      rw [g24_20]
      exact ⟨fun h => absurd rfl h, fun _ => hQ⟩
end Tangle
