/-! Pulls: the reference's pulls and stringsFrom, the class's counter. -/
section Pull
variable {d : Nat} {w : aW} {Q : Option aV → aW → Prop}
/-- what string k pulls at l -/
def rPl (w : aW) (l : Int) (b p : Nat) (k : Nat) : Int := if rTo w l b k = true ∧ bI p (w 168 (6 + (k : Int))).toNat ≠ w 168 (96 + (k : Int)) then w 168 (80 + (k : Int)) else 0
theorem rPl_b {l : Int} {b p k : Nat} (h0 : 1 ≤ w 168 (80 + (k : Int))) (h1 : w 168 (80 + (k : Int)) ≤ 3) : 0 ≤ rPl w l b p k ∧ rPl w l b p k ≤ 3 := by
  unfold rPl
  split <;> omega
/-- pulls(l, pose, but) -/
theorem k_pulls {l : Int} {b p M : Nat} {x4 x5 : Option aV} (hb : b < 2147483648) (hp : p < 2147483648) (hM : w 168 3 = (M : Int)) (h16 : M ≤ 16)
    (hF : ∀ k : Nat, k < M → 0 ≤ w 168 (6 + (k : Int)) ∧ w 168 (6 + (k : Int)) < 10) (hT : ∀ k : Nat, k < M → 1 ≤ w 168 (80 + (k : Int)) ∧ w 168 (80 + (k : Int)) ≤ 3)
    (hU : ∀ k : Nat, k < M → w 168 (96 + (k : Int)) = 0 ∨ w 168 (96 + (k : Int)) = 1) :
    T (d + 1) 124 0 [some (vr 167), some (vi l), some (vi (p : Int)), some (vi (b : Int)), x4, x5] [] w Q = Q (some (vi (sm (rPl w l b p) M))) w := by
  rw [g124_0]
  refine loopE (F := fun k => T (d + 1) 124 6 [some (vr 167), some (vi l), some (vi (p : Int)), some (vi (b : Int)), some (vi (sm (rPl w l b p) k)), some (vi (k : Int))] [] w Q) (n := M) ?_ ?_
  · rw [g124_6, hM]; simp
  · intro k hk
    have hs := sm_le (f := rPl w l b p) (c := 3) (by omega) (n := k) (fun j hj => rPl_b (hT j (by omega)).1 (hT j (by omega)).2)
    obtain ⟨f0, f1⟩ := hF k hk
    obtain ⟨t0, t1⟩ := hT k hk
    have e1 : Unit → w32 ((k : Int) + 1) = ((k + 1 : Nat) : Int) := fun _ => by rw [w32_id (by omega) (by omega)]; omega
    have e64 : Unit → w32 (64 + (k : Int)) = 64 + (k : Int) := fun _ => w32_id (by omega) (by omega)
    have e6 : Unit → w32 (6 + (k : Int)) = 6 + (k : Int) := fun _ => w32_id (by omega) (by omega)
    have e96 : Unit → w32 (96 + (k : Int)) = 96 + (k : Int) := fun _ => w32_id (by omega) (by omega)
    have e80 : Unit → w32 (80 + (k : Int)) = 80 + (k : Int) := fun _ => w32_id (by omega) (by omega)
    have i2 : ∀ R : Option aV → aW → Prop, T d 230 0 [some (vl (p : Int)), none, some (vi (w 168 (6 + (k : Int))))] [] w R = R (some (vi (bI p (w 168 (6 + (k : Int))).toNat))) w := by
      intro R
      have := k_isIn (d := d) (w := w) (Q := R) (a := p) (k := (w 168 (6 + (k : Int))).toNat) (by omega) (by omega)
      rw [Int.toNat_of_nonneg f0] at this
      exact this
    have z0 : rPl w l b p k = 0 → T (d + 1) 124 102 [some (vr 167), some (vi l), some (vi (p : Int)), some (vi (b : Int)), some (vi (sm (rPl w l b p) k)), some (vi (k : Int))] [] w Q = T (d + 1) 124 6 [some (vr 167), some (vi l), some (vi (p : Int)), some (vi (b : Int)), some (vi (sm (rPl w l b p) (k + 1))), some (vi ((k + 1 : Nat) : Int))] [] w Q := by
      intro h
      rw [g124_102, (e1 ()), sm, h, Int.add_zero]
    have z1 : rPl w l b p k = w 168 (80 + (k : Int)) → T (d + 1) 124 102 [some (vr 167), some (vi l), some (vi (p : Int)), some (vi (b : Int)), some (vi (w32 (sm (rPl w l b p) k + w 168 (80 + (k : Int))))), some (vi (k : Int))] [] w Q = T (d + 1) 124 6 [some (vr 167), some (vi l), some (vi (p : Int)), some (vi (b : Int)), some (vi (sm (rPl w l b p) (k + 1))), some (vi ((k + 1 : Nat) : Int))] [] w Q := by
      intro h
      rw [g124_102, (e1 ()), sm, h, w32_id (by omega) (by omega)]
    have hlt : ¬ (w 168 3 ≤ (k : Int)) := by omega
    have hg64 : (0 : Int) ≤ 64 + (k : Int) ∧ 64 + (k : Int) < 4932 := by omega
    have hg6 : (0 : Int) ≤ 6 + (k : Int) ∧ 6 + (k : Int) < 4932 := by omega
    have hg96 : (0 : Int) ≤ 96 + (k : Int) ∧ 96 + (k : Int) < 4932 := by omega
    have hg80 : (0 : Int) ≤ 80 + (k : Int) ∧ 80 + (k : Int) < 4932 := by omega
    show T (d + 1) 124 6 _ _ _ _ = T (d + 1) 124 6 _ _ _ _
    rw [g124_6, if_f hlt, (e64 ()), gd hg64]
    by_cases c1 : w 168 (64 + (k : Int)) = l
    · rw [if_f (show ¬ ¬ w 168 (64 + (k : Int)) = l from fun h => h c1), k_isWhole (by omega) (by omega)]
      simp only [tl_some]
      rw [g124_37]
      by_cases c2 : w 168 (22 + (k : Int)) = 1
      · rw [b01_t (decide_eq_true c2), if_f (by decide), k_isIn (a := b) (k := k) (by omega) (by omega)]
        simp only [tl_some]
        rw [g124_47]
        rcases bI_01 b k with c3 | c3
        · rw [c3, if_f (by decide), (e6 ()), gd hg6, i2]
          simp only [tl_some]
          rw [g124_65, (e96 ()), gd hg96]
          have hr : rTo w l b k = true := by unfold rTo; simp [c1, c2, bI_0.mp c3]
          rcases hU k hk with c4 | c4
          · rw [if_t (show ¬ w 168 (96 + (k : Int)) = 1 by omega), g124_84]
            by_cases c5 : bI p (w 168 (6 + (k : Int))).toNat = 0
            · rw [if_t c5]; exact z0 (by unfold rPl; rw [if_neg (by rw [c4]; exact fun h => h.2 c5)])
            · rw [if_f c5, (e80 ()), gd hg80]; exact z1 (by unfold rPl; rw [if_pos ⟨hr, by rw [c4]; exact c5⟩])
          · rw [if_f (show ¬ ¬ w 168 (96 + (k : Int)) = 1 from fun h => h c4), g124_84]
            by_cases c5 : bI p (w 168 (6 + (k : Int))).toNat = 1
            · rw [if_t c5]; exact z0 (by unfold rPl; rw [if_neg (by rw [c4]; exact fun h => h.2 c5)])
            · rw [if_f c5, (e80 ()), gd hg80]; exact z1 (by unfold rPl; rw [if_pos ⟨hr, by rw [c4]; exact c5⟩])
        · rw [c3, if_t (by decide)]
          exact z0 (by unfold rPl rTo; rw [if_neg (by simp [bI_1.mp c3])])
      · rw [b01_f (decide_eq_false c2), if_t (by decide)]
        exact z0 (by unfold rPl rTo; rw [if_neg (by simp [c2])])
    · rw [if_t c1]
      exact z0 (by unfold rPl rTo; rw [if_neg (by simp [c1])])
/-- does a whole string come from l? -/
def rFm (w : aW) (l : Int) (k : Nat) : Bool := decide (w 168 (6 + (k : Int)) = l) && decide (w 168 (22 + (k : Int)) = 1)
/-- stringsFrom(l) -/
theorem k_stringsFrom {l : Int} {M : Nat} {x2 x3 : Option aV} (hM : w 168 3 = (M : Int)) (h16 : M ≤ 16) : T (d + 1) 123 0 [some (vr 167), some (vi l), x2, x3] [] w Q = Q (some (vi (sm (fun k => b01 (rFm w l k)) M))) w := by
  rw [g123_0]
  refine loopE (F := fun k => T (d + 1) 123 4 [some (vr 167), some (vi l), some (vi (sm (fun k => b01 (rFm w l k)) k)), some (vi (k : Int))] [] w Q) (n := M) ?_ ?_
  · rw [g123_4, hM]; simp
  · intro k hk
    have hs := sm_le (f := fun k => b01 (rFm w l k)) (c := 1) (by omega) (n := k) (fun j _ => by rcases b01_01 (rFm w l j) with h | h <;> omega)
    have e6 : Unit → w32 (6 + (k : Int)) = 6 + (k : Int) := fun _ => w32_id (by omega) (by omega)
    have e1 : Unit → w32 ((k : Int) + 1) = ((k + 1 : Nat) : Int) := fun _ => by rw [w32_id (by omega) (by omega)]; omega
    have eS : ∀ x : Int, x = b01 (rFm w l k) → w32 (sm (fun k => b01 (rFm w l k)) k + x) = sm (fun k => b01 (rFm w l k)) (k + 1) := by
      intro x hx
      rw [sm, ← hx, w32_id]
      · rcases b01_01 (rFm w l k) with h | h <;> omega
      · rcases b01_01 (rFm w l k) with h | h <;> omega
    have hlt : ¬ (w 168 3 ≤ (k : Int)) := by omega
    rw [g123_4, (e6 ()), k_isWhole (by omega) (by omega)]
    simp only [tl_some, g123_33, g123_40, g123_41, hlt, false_implies, not_false_eq_true, true_implies, true_and, b01_ne, (e1 ())]
    have hg : (0 : Int) ≤ 6 + (k : Int) ∧ 6 + (k : Int) < 4932 := by omega
    simp only [hg, and_self, true_and]
    by_cases c1 : w 168 (6 + (k : Int)) = l
    · by_cases c2 : w 168 (22 + (k : Int)) = 1
      · rw [eS 1 (by rw [b01_t]; simp [rFm, c1, c2])]
        simp [c1, c2]
      · rw [eS 0 (by rw [b01_f]; simp [rFm, c2])]
        simp [c1, c2]
    · rw [eS 0 (by rw [b01_f]; simp [rFm, c1])]
      simp [c1]
/-- the class's counter over an array of strings' ends -/
theorem k_tally {l : Int} {x M r1 : Nat} {x3 x4 : Option aV} (hx : x < 2147483648) (sx : w 79 1 = (x : Int)) (hM : w 69 2 = (M : Int)) (h16 : M ≤ 16) (hl : ∀ k : Nat, k < M → ldok r1 (k : Int) w) : T (d + 1) 118 0 [some (vr 0), some (vr r1), some (vi l), x3, x4] [] w Q = Q (some (vi (sm (fun k => b01 (x.testBit k && decide (w r1 (k : Int) = l))) M))) w := by
  rw [g118_0]
  refine loopE (F := fun k => T (d + 1) 118 5 [some (vr 0), some (vr r1), some (vi l), some (vi (sm (fun k => b01 (x.testBit k && decide (w r1 (k : Int) = l))) k)), some (vi (k : Int))] [] w Q) (n := M) ?_ ?_
  · rw [g118_5, hM]; simp
  · intro k hk
    have hs := sm_le (f := fun k => b01 (x.testBit k && decide (w r1 (k : Int) = l))) (c := 1) (by omega) (n := k) (fun j _ => by rcases b01_01 (x.testBit j && decide (w r1 (j : Int) = l)) with h | h <;> omega)
    have e1 : Unit → w32 ((k : Int) + 1) = ((k + 1 : Nat) : Int) := fun _ => by rw [w32_id (by omega) (by omega)]; omega
    have hlt : ¬ (w 69 2 ≤ (k : Int)) := by omega
    show T (d + 1) 118 5 _ _ _ _ = T (d + 1) 118 5 _ _ _ _
    rw [g118_5, if_f hlt, sx, k_bitAt hx (by omega)]
    simp only [tl_some]
    rw [g118_29]
    rcases bI_01 x k with c1 | c1
    · rw [c1, if_t (by decide), g118_44, (e1 ()), sm, b01_f (p := x.testBit k && decide (w r1 (k : Int) = l)) (by simp [bI_0.mp c1]), Int.add_zero]
    · rw [c1, if_f (by decide), gd (hl k hk)]
      by_cases c2 : w r1 (k : Int) = l
      · rw [if_f (show ¬ ¬ w r1 (k : Int) = l from fun h => h c2), g118_44, (e1 ()), sm, b01_t (p := x.testBit k && decide (w r1 (k : Int) = l)) (by simp [bI_1.mp c1, c2]), w32_id (by omega) (by omega)]
      · rw [if_t c2, g118_44, (e1 ()), sm, b01_f (p := x.testBit k && decide (w r1 (k : Int) = l)) (by simp [c2]), Int.add_zero]
end Pull
