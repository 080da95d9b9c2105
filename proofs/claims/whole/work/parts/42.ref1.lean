/-! The reference's own small loops. Cells: 168 all, 173 was. -/
theorem loopE {F : Nat → Prop} {P : Prop} {n : Nat} (hx : F n = P) (hs : ∀ k, k < n → F k = F (k + 1)) : F 0 = P := by
  have key : ∀ j, j ≤ n → F (n - j) = P := by
    intro j
    induction j with
    | zero => intro _; exact hx
    | succ j ih =>
      intro hj
      rw [hs (n - (j + 1)) (by omega), show n - (j + 1) + 1 = n - j by omega]
      exact ih (by omega)
  have := key n (Nat.le_refl n)
  rwa [Nat.sub_self] at this
/-- a sum of the first n -/
def sm (f : Nat → Int) : Nat → Int
  | 0 => 0
  | n + 1 => sm f n + f n
theorem sm_le {f : Nat → Int} {c : Int} (h0 : 0 ≤ c) : ∀ {n : Nat}, (∀ k, k < n → 0 ≤ f k ∧ f k ≤ c) → 0 ≤ sm f n ∧ sm f n ≤ n * c := by
  intro n
  induction n with
  | zero => intro _; simp [sm]
  | succ n ih =>
    intro h
    have h1 := ih (fun k hk => h k (by omega))
    have h2 := h n (by omega)
    rw [sm]
    have e : ((n + 1 : Nat) : Int) * c = (n : Int) * c + c := by rw [Int.natCast_add, Int.add_mul]; simp
    rw [e]
    omega
theorem sm_congr {f g : Nat → Int} : ∀ {n : Nat}, (∀ k, k < n → f k = g k) → sm f n = sm g n := by
  intro n
  induction n with
  | zero => intro _; rfl
  | succ n ih => intro h; rw [sm, sm, ih (fun k hk => h k (by omega)), h n (by omega)]
theorem ite01 {p : Prop} (h : Decidable p) : 0 ≤ (if p then (1 : Int) else 0) ∧ (if p then (1 : Int) else 0) ≤ 1 := by split <;> omega
section Ref1
variable {d : Nat} {w : aW} {Q : Option aV → aW → Prop}
/-- does a whole string go to l, but those of b? -/
def rTo (w : aW) (l : Int) (b : Nat) (k : Nat) : Bool := decide (w 168 (64 + (k : Int)) = l) && decide (w 168 (22 + (k : Int)) = 1) && !b.testBit k
/-- stringsTo(l, but) -/
theorem k_stringsTo {l : Int} {b M : Nat} {x3 x4 : Option aV} (hb : b < 2147483648) (hM : w 168 3 = (M : Int)) (h16 : M ≤ 16) : T (d + 1) 122 0 [some (vr 167), some (vi l), some (vi (b : Int)), x3, x4] [] w Q = Q (some (vi (sm (fun k => b01 (rTo w l b k)) M))) w := by
  rw [g122_0]
  refine loopE (F := fun k => T (d + 1) 122 5 [some (vr 167), some (vi l), some (vi (b : Int)), some (vi (sm (fun k => b01 (rTo w l b k)) k)), some (vi (k : Int))] [] w Q) (n := M) ?_ ?_
  · rw [g122_5, hM]; simp
  · intro k hk
    have hs := sm_le (f := fun k => b01 (rTo w l b k)) (c := 1) (by omega) (n := k) (fun j _ => by rcases b01_01 (rTo w l b j) with h | h <;> omega)
    have e64 : w32 (64 + (k : Int)) = 64 + (k : Int) := w32_id (by omega) (by omega)
    have e1 : w32 ((k : Int) + 1) = ((k + 1 : Nat) : Int) := by rw [w32_id (by omega) (by omega)]; omega
    have eS : ∀ x : Int, x = b01 (rTo w l b k) → w32 (sm (fun k => b01 (rTo w l b k)) k + x) = sm (fun k => b01 (rTo w l b k)) (k + 1) := by
      intro x hx
      rw [sm, ← hx, w32_id]
      · rcases b01_01 (rTo w l b k) with h | h <;> omega
      · rcases b01_01 (rTo w l b k) with h | h <;> omega
    have hlt : ¬ (w 168 3 ≤ (k : Int)) := by omega
    rw [g122_5, e64, k_isWhole (by omega) (by omega)]
    simp only [tl_some, g122_37, g122_47, g122_54, g122_55, k_isIn (a := b) (k := k) (by omega) (by omega), hlt, false_implies, not_false_eq_true, true_implies, true_and, b01_ne, e1]
    have hg : (0 : Int) ≤ 64 + (k : Int) ∧ 64 + (k : Int) < 4932 := by omega
    simp only [hg, and_self, true_and]
    by_cases c1 : w 168 (64 + (k : Int)) = l
    · by_cases c2 : w 168 (22 + (k : Int)) = 1
      · rcases bI_01 b k with c3 | c3
        · rw [eS 1 (by rw [b01_t]; simp [rTo, c1, c2, bI_0.mp c3])]
          simp [c1, c2, c3]
        · rw [eS 0 (by rw [b01_f]; simp [rTo, bI_1.mp c3])]
          simp [c1, c2, c3]
      · rw [eS 0 (by rw [b01_f]; simp [rTo, c2])]
        simp [c1, c2]
    · rw [eS 0 (by rw [b01_f]; simp [rTo, c1])]
      simp [c1]
/-- wholeMany() -/
theorem k_wholeMany {M : Nat} {x1 x2 : Option aV} (hM : w 168 3 = (M : Int)) (h16 : M ≤ 16) (h01 : ∀ k : Nat, k < M → w 168 (22 + (k : Int)) = 0 ∨ w 168 (22 + (k : Int)) = 1) : T d 139 0 [some (vr 167), x1, x2] [] w Q = Q (some (vi (sm (fun k => w 168 (22 + (k : Int))) M))) w := by
  rw [g139_0]
  refine loopE (F := fun k => T d 139 4 [some (vr 167), some (vi (sm (fun k => w 168 (22 + (k : Int))) k)), some (vi (k : Int))] [] w Q) (n := M) ?_ ?_
  · rw [g139_4, hM]; simp
  · intro k hk
    have hs := sm_le (f := fun k => w 168 (22 + (k : Int))) (c := 1) (by omega) (n := k) (fun j hj => by rcases h01 j (by omega) with h | h <;> rw [h] <;> omega)
    have h1 := h01 k hk
    rw [g139_4, w32_id (x := 22 + (k : Int)) (by omega) (by omega), w32_id (x := (k : Int) + 1) (by omega) (by omega), w32_id (x := sm (fun k => w 168 (22 + (k : Int))) k + w 168 (22 + (k : Int))) (by omega) (by omega)]
    have hlt : ¬ (w 168 3 ≤ (k : Int)) := by omega
    have hg : (0 : Int) ≤ 22 + (k : Int) ∧ 22 + (k : Int) < 4932 := by omega
    simp only [hlt, hg, false_implies, not_false_eq_true, true_implies, true_and, and_self]
    rfl
/-- keeps(): what was is kept -/
def wKeep (w : aW) (n : Nat) : aW := fun c i => if c = 173 ∧ 0 ≤ i ∧ i < (n : Int) then w 168 (5 + i) else w c i
theorem k_keeps {x1 : Option aV} : T d 129 0 [some (vr 167), x1] [] w Q = Q none (wKeep w 59) := by
  rw [g129_0]
  have e0 : wKeep w 0 = w := by
    funext c i; unfold wKeep; rw [if_neg (by omega)]
  have := loopE (F := fun k => T d 129 2 [some (vr 167), some (vi (k : Int))] [] (wKeep w k) Q) (P := Q none (wKeep w 59)) (n := 59) ?_ ?_
  · rw [e0] at this; exact this
  · rw [g129_2]; simp
  · intro k hk
    have e2 : iup (wKeep w k) 173 (k : Int) (wKeep w k 168 (5 + (k : Int))) = wKeep w (k + 1) := by
      funext c i
      unfold iup
      by_cases h : c = 173 ∧ i = (k : Int)
      · rw [if_pos h]
        obtain ⟨rfl, rfl⟩ := h
        unfold wKeep
        rw [if_neg (by omega), if_pos (by omega)]
      · rw [if_neg h]
        unfold wKeep
        by_cases h2 : c = 173 ∧ 0 ≤ i ∧ i < (k : Int)
        · rw [if_pos h2, if_pos (by omega)]
        · rw [if_neg h2, if_neg (by omega)]
    rw [g129_2, w32_id (x := 5 + (k : Int)) (by omega) (by omega), w32_id (x := (k : Int) + 1) (by omega) (by omega), e2]
    have h1 : ¬ (59 ≤ (k : Int)) := by omega
    have h2 : (0 : Int) ≤ 5 + (k : Int) ∧ 5 + (k : Int) < 4932 := by omega
    have h3 : (0 : Int) ≤ (k : Int) ∧ (k : Int) < 59 := by omega
    simp only [h1, h2, h3, false_implies, not_false_eq_true, true_implies, true_and, and_self]
    rfl
end Ref1
