/-! 5: StringHands.fault.(I)I -/
theorem c5_0 : cd 5 0 = some (.iload 1, 1) := by decide +kernel
theorem c5_1 : cd 5 1 = some (.lookupswitch 44 #[(0, 28), (1, 36)], 27) := by decide +kernel
theorem c5_28 : cd 5 28 = some (.aload 0, 1) := by decide +kernel
theorem c5_29 : cd 5 29 = some (.getfield 2818, 3) := by decide +kernel
theorem c5_32 : cd 5 32 = some (.getfield 1032, 3) := by decide +kernel
theorem c5_35 : cd 5 35 = some (.ireturn, 1) := by decide +kernel
theorem c5_36 : cd 5 36 = some (.aload 0, 1) := by decide +kernel
theorem c5_37 : cd 5 37 = some (.getfield 2818, 3) := by decide +kernel
theorem c5_40 : cd 5 40 = some (.getfield 1036, 3) := by decide +kernel
theorem c5_43 : cd 5 43 = some (.ireturn, 1) := by decide +kernel
theorem c5_44 : cd 5 44 = some (.sipush (-1), 1) := by decide +kernel
theorem c5_45 : cd 5 45 = some (.ireturn, 1) := by decide +kernel
theorem sw5_1 {d : Nat} {ls : List (Option aV)} {st : List aV} {w : aW} {Q : Option aV → aW → Prop} {x : Int} : T d 5 1 ls (vi x :: st) w Q = ((x = 0 → T d 5 28 ls st w Q) ∧ (x = 1 → T d 5 36 ls st w Q) ∧ (¬ x = 0 ∧ ¬ x = 1 → T d 5 44 ls st w Q)) := by
  rw [T_lkp c5_1]
  apply propext
  constructor
  · intro h
    refine ⟨fun q => by subst q; exact h, fun q => by subst q; exact h, fun q => ?_⟩
    · have e : (lkp (#[(0, 28), (1, 36)] : Array (Int × Int)).toList 44 x).toNat = 44 := by simp [lkp, q]
      rw [e] at h; exact h
  · rintro ⟨h0, h1, hd⟩
    by_cases n0 : x = 0
    · subst n0; exact h0 rfl
    by_cases n1 : x = 1
    · subst n1; exact h1 rfl
    · have e : (lkp (#[(0, 28), (1, 36)] : Array (Int × Int)).toList 44 x).toNat = 44 := by simp [lkp, n0, n1]
      rw [e]; exact hd ⟨n0, n1⟩
theorem g5_0 {d : Nat} {a1 : Int} {w : aW} {Q : Option aV → aW → Prop} : T d 5 0 [some (vr 0), some (vi a1)] [] w Q = ((a1 = 0 → Q (some (vi (w 1 2))) w) ∧ (a1 = 1 → Q (some (vi (w 1 3))) w) ∧ (¬ a1 = 0 ∧ ¬ a1 = 1 → Q (some (vi (-1))) w)) := by
  rw [T_iload_1 c5_0, sw5_1, T_aload_0 c5_28, T_getR 11 0 0 c5_29 rfl rfl rfl rfl, rf_0_0, T_getI 4 2 2 c5_32 rfl rfl rfl rfl, T_ireti c5_35 (by decide +kernel), T_aload_0 c5_36, T_getR 11 0 0 c5_37 rfl rfl rfl rfl, rf_0_0, T_getI 4 3 3 c5_40 rfl rfl rfl rfl, T_ireti c5_43 (by decide +kernel), T_sipush c5_44, T_ireti c5_45 (by decide +kernel)]
  all_goals try simp only [lay_0, lay_1, true_and, Nat.reduceAdd, eq_self_iff_true]
/-! 6: StringHandsModel.fault.(I)I -/
theorem c6_0 : cd 6 0 = some (.aload 0, 1) := by decide +kernel
theorem c6_1 : cd 6 1 = some (.sipush 0, 1) := by decide +kernel
theorem c6_2 : cd 6 2 = some (.putfield 3072, 3) := by decide +kernel
theorem c6_5 : cd 6 5 = some (.iload 1, 1) := by decide +kernel
theorem c6_6 : cd 6 6 = some (.ifCond .ne 16, 3) := by decide +kernel
theorem c6_9 : cd 6 9 = some (.aload 0, 1) := by decide +kernel
theorem c6_10 : cd 6 10 = some (.getfield 3124, 3) := by decide +kernel
theorem c6_13 : cd 6 13 = some (.goto 29, 3) := by decide +kernel
theorem c6_16 : cd 6 16 = some (.iload 1, 1) := by decide +kernel
theorem c6_17 : cd 6 17 = some (.sipush 1, 1) := by decide +kernel
theorem c6_18 : cd 6 18 = some (.if_icmp .ne 28, 3) := by decide +kernel
theorem c6_21 : cd 6 21 = some (.aload 0, 1) := by decide +kernel
theorem c6_22 : cd 6 22 = some (.getfield 3128, 3) := by decide +kernel
theorem c6_25 : cd 6 25 = some (.goto 29, 3) := by decide +kernel
theorem c6_28 : cd 6 28 = some (.sipush (-1), 1) := by decide +kernel
theorem c6_29 : cd 6 29 = some (.ireturn, 1) := by decide +kernel
theorem g6_0 {d : Nat} {a1 : Int} {w : aW} {Q : Option aV → aW → Prop} : T d 6 0 [some (vr 167), some (vi a1)] [] w Q = ((¬ a1 = 0 → ((¬ a1 = 1 → T d 6 29 [some (vr 167), some (vi a1)] [vi (-1)] (iup w 167 0 0) Q) ∧ (¬ (¬ a1 = 1) → T d 6 29 [some (vr 167), some (vi a1)] [vi ((iup w 167 0 0) 167 14)] (iup w 167 0 0) Q))) ∧ (¬ (¬ a1 = 0) → T d 6 29 [some (vr 167), some (vi a1)] [vi ((iup w 167 0 0) 167 13)] (iup w 167 0 0) Q)) := by
  rw [T_aload_0 c6_0, T_sipush c6_1, T_putI 12 0 0 c6_2 rfl rfl rfl rfl, T_iload_1 c6_5, T_if_ne 16 c6_6 rfl, T_iload_1 c6_16, T_sipush c6_17, T_icmp_ne 28 c6_18 rfl, T_sipush c6_28, T_aload_0 c6_21, T_getI 12 14 14 c6_22 rfl rfl rfl rfl, T_goto 29 c6_25 rfl, T_aload_0 c6_9, T_getI 12 13 13 c6_10 rfl rfl rfl rfl, T_goto 29 c6_13 rfl]
  all_goals try simp only [Int.reduceToNat, lay_167, true_and, Nat.reduceAdd, eq_self_iff_true]
theorem g6_29 {d : Nat} {s0 : Int} {x0 x1 : Option aV} {w : aW} {Q : Option aV → aW → Prop} : T d 6 29 [x0, x1] [vi s0] w Q = Q (some (vi s0)) w := by
  rw [T_ireti c6_29 (by decide +kernel)]
  all_goals try simp only [true_and, Nat.reduceAdd, eq_self_iff_true]
/-! 7: StringHands.limb.(II)I -/
theorem c7_0 : cd 7 0 = some (.aload 0, 1) := by decide +kernel
theorem c7_1 : cd 7 1 = some (.iload 1, 1) := by decide +kernel
theorem c7_2 : cd 7 2 = some (.invokevirtual 116, 3) := by decide +kernel
theorem c7_5 : cd 7 5 = some (.ifCond .ne 11, 3) := by decide +kernel
theorem c7_8 : cd 7 8 = some (.sipush (-2), 2) := by decide +kernel
theorem c7_10 : cd 7 10 = some (.ireturn, 1) := by decide +kernel
theorem c7_11 : cd 7 11 = some (.iload 2, 1) := by decide +kernel
theorem c7_12 : cd 7 12 = some (.tableswitch 204 0 8 #[64, 76, 86, 99, 112, 122, 155, 167, 194], 52) := by decide +kernel
theorem c7_64 : cd 7 64 = some (.aload 0, 1) := by decide +kernel
theorem c7_65 : cd 7 65 = some (.getfield 2854, 3) := by decide +kernel
theorem c7_68 : cd 7 68 = some (.getfield 1536, 3) := by decide +kernel
theorem c7_71 : cd 7 71 = some (.iload 1, 1) := by decide +kernel
theorem c7_72 : cd 7 72 = some (.invokestatic 117, 3) := by decide +kernel
theorem c7_75 : cd 7 75 = some (.ireturn, 1) := by decide +kernel
theorem c7_76 : cd 7 76 = some (.aload 0, 1) := by decide +kernel
theorem c7_77 : cd 7 77 = some (.getfield 2850, 3) := by decide +kernel
theorem c7_80 : cd 7 80 = some (.getfield 2074, 3) := by decide +kernel
theorem c7_83 : cd 7 83 = some (.iload 1, 1) := by decide +kernel
theorem c7_84 : cd 7 84 = some (.iaload, 1) := by decide +kernel
theorem c7_85 : cd 7 85 = some (.ireturn, 1) := by decide +kernel
theorem c7_86 : cd 7 86 = some (.aload 0, 1) := by decide +kernel
theorem c7_87 : cd 7 87 = some (.aload 0, 1) := by decide +kernel
theorem c7_88 : cd 7 88 = some (.getfield 2850, 3) := by decide +kernel
theorem c7_91 : cd 7 91 = some (.getfield 2086, 3) := by decide +kernel
theorem c7_94 : cd 7 94 = some (.iload 1, 1) := by decide +kernel
theorem c7_95 : cd 7 95 = some (.invokevirtual 118, 3) := by decide +kernel
theorem c7_98 : cd 7 98 = some (.ireturn, 1) := by decide +kernel
theorem c7_99 : cd 7 99 = some (.aload 0, 1) := by decide +kernel
theorem c7_100 : cd 7 100 = some (.aload 0, 1) := by decide +kernel
theorem c7_101 : cd 7 101 = some (.getfield 2854, 3) := by decide +kernel
theorem c7_104 : cd 7 104 = some (.getfield 1546, 3) := by decide +kernel
theorem c7_107 : cd 7 107 = some (.iload 1, 1) := by decide +kernel
theorem c7_108 : cd 7 108 = some (.invokevirtual 118, 3) := by decide +kernel
theorem c7_111 : cd 7 111 = some (.ireturn, 1) := by decide +kernel
theorem c7_112 : cd 7 112 = some (.aload 0, 1) := by decide +kernel
theorem c7_113 : cd 7 113 = some (.getfield 2850, 3) := by decide +kernel
theorem c7_116 : cd 7 116 = some (.getfield 2078, 3) := by decide +kernel
theorem c7_119 : cd 7 119 = some (.iload 1, 1) := by decide +kernel
theorem c7_120 : cd 7 120 = some (.iaload, 1) := by decide +kernel
theorem c7_121 : cd 7 121 = some (.ireturn, 1) := by decide +kernel
theorem c7_122 : cd 7 122 = some (.aload 0, 1) := by decide +kernel
theorem c7_123 : cd 7 123 = some (.getfield 2822, 3) := by decide +kernel
theorem c7_126 : cd 7 126 = some (.aload 0, 1) := by decide +kernel
theorem c7_127 : cd 7 127 = some (.getfield 2850, 3) := by decide +kernel
theorem c7_130 : cd 7 130 = some (.aload 0, 1) := by decide +kernel
theorem c7_131 : cd 7 131 = some (.getfield 2854, 3) := by decide +kernel
theorem c7_134 : cd 7 134 = some (.aload 0, 1) := by decide +kernel
theorem c7_135 : cd 7 135 = some (.getfield 2854, 3) := by decide +kernel
theorem c7_138 : cd 7 138 = some (.getfield 1536, 3) := by decide +kernel
theorem c7_141 : cd 7 141 = some (.invokevirtual 119, 3) := by decide +kernel
theorem c7_144 : cd 7 144 = some (.pop, 1) := by decide +kernel
theorem c7_145 : cd 7 145 = some (.aload 0, 1) := by decide +kernel
theorem c7_146 : cd 7 146 = some (.getfield 2822, 3) := by decide +kernel
theorem c7_149 : cd 7 149 = some (.getfield 514, 3) := by decide +kernel
theorem c7_152 : cd 7 152 = some (.iload 1, 1) := by decide +kernel
theorem c7_153 : cd 7 153 = some (.iaload, 1) := by decide +kernel
theorem c7_154 : cd 7 154 = some (.ireturn, 1) := by decide +kernel
theorem c7_155 : cd 7 155 = some (.aload 0, 1) := by decide +kernel
theorem c7_156 : cd 7 156 = some (.getfield 2850, 3) := by decide +kernel
theorem c7_159 : cd 7 159 = some (.getfield 2096, 3) := by decide +kernel
theorem c7_162 : cd 7 162 = some (.iload 1, 1) := by decide +kernel
theorem c7_163 : cd 7 163 = some (.invokestatic 117, 3) := by decide +kernel
theorem c7_166 : cd 7 166 = some (.ireturn, 1) := by decide +kernel
theorem c7_167 : cd 7 167 = some (.aload 0, 1) := by decide +kernel
theorem c7_168 : cd 7 168 = some (.getfield 2822, 3) := by decide +kernel
theorem c7_171 : cd 7 171 = some (.aload 0, 1) := by decide +kernel
theorem c7_172 : cd 7 172 = some (.getfield 2850, 3) := by decide +kernel
theorem c7_175 : cd 7 175 = some (.aload 0, 1) := by decide +kernel
theorem c7_176 : cd 7 176 = some (.getfield 2854, 3) := by decide +kernel
theorem c7_179 : cd 7 179 = some (.aload 0, 1) := by decide +kernel
theorem c7_180 : cd 7 180 = some (.getfield 2854, 3) := by decide +kernel
theorem c7_183 : cd 7 183 = some (.getfield 1536, 3) := by decide +kernel
theorem c7_186 : cd 7 186 = some (.invokevirtual 120, 3) := by decide +kernel
theorem c7_189 : cd 7 189 = some (.iload 1, 1) := by decide +kernel
theorem c7_190 : cd 7 190 = some (.invokestatic 117, 3) := by decide +kernel
theorem c7_193 : cd 7 193 = some (.ireturn, 1) := by decide +kernel
theorem c7_194 : cd 7 194 = some (.aload 0, 1) := by decide +kernel
theorem c7_195 : cd 7 195 = some (.getfield 2854, 3) := by decide +kernel
theorem c7_198 : cd 7 198 = some (.getfield 1554, 3) := by decide +kernel
theorem c7_201 : cd 7 201 = some (.iload 1, 1) := by decide +kernel
theorem c7_202 : cd 7 202 = some (.iaload, 1) := by decide +kernel
theorem c7_203 : cd 7 203 = some (.ireturn, 1) := by decide +kernel
theorem c7_204 : cd 7 204 = some (.sipush (-2), 2) := by decide +kernel
theorem c7_206 : cd 7 206 = some (.ireturn, 1) := by decide +kernel
theorem sw7_12 {d : Nat} {ls : List (Option aV)} {st : List aV} {w : aW} {Q : Option aV → aW → Prop} {x : Int} : T d 7 12 ls (vi x :: st) w Q = ((x = 0 → T d 7 64 ls st w Q) ∧ (x = 1 → T d 7 76 ls st w Q) ∧ (x = 2 → T d 7 86 ls st w Q) ∧ (x = 3 → T d 7 99 ls st w Q) ∧ (x = 4 → T d 7 112 ls st w Q) ∧ (x = 5 → T d 7 122 ls st w Q) ∧ (x = 6 → T d 7 155 ls st w Q) ∧ (x = 7 → T d 7 167 ls st w Q) ∧ (x = 8 → T d 7 194 ls st w Q) ∧ (¬ x = 0 ∧ ¬ x = 1 ∧ ¬ x = 2 ∧ ¬ x = 3 ∧ ¬ x = 4 ∧ ¬ x = 5 ∧ ¬ x = 6 ∧ ¬ x = 7 ∧ ¬ x = 8 → T d 7 204 ls st w Q)) := by
  rw [T_tab c7_12]
  apply propext
  constructor
  · intro h
    refine ⟨fun q => by subst q; exact h, fun q => by subst q; exact h, fun q => by subst q; exact h, fun q => by subst q; exact h, fun q => by subst q; exact h, fun q => by subst q; exact h, fun q => by subst q; exact h, fun q => by subst q; exact h, fun q => by subst q; exact h, fun q => ?_⟩
    · have e : (if x < 0 ∨ 8 < x then (204 : Int).toNat else ((#[64, 76, 86, 99, 112, 122, 155, 167, 194] : Array Int).toList.getD (x - 0).toNat 204).toNat) = 204 := by rw [if_pos (by omega)]; rfl
      rw [e] at h; exact h
  · rintro ⟨h0, h1, h2, h3, h4, h5, h6, h7, h8, hd⟩
    by_cases n0 : x = 0
    · subst n0; exact h0 rfl
    by_cases n1 : x = 1
    · subst n1; exact h1 rfl
    by_cases n2 : x = 2
    · subst n2; exact h2 rfl
    by_cases n3 : x = 3
    · subst n3; exact h3 rfl
    by_cases n4 : x = 4
    · subst n4; exact h4 rfl
    by_cases n5 : x = 5
    · subst n5; exact h5 rfl
    by_cases n6 : x = 6
    · subst n6; exact h6 rfl
    by_cases n7 : x = 7
    · subst n7; exact h7 rfl
    by_cases n8 : x = 8
    · subst n8; exact h8 rfl
    · have e : (if x < 0 ∨ 8 < x then (204 : Int).toNat else ((#[64, 76, 86, 99, 112, 122, 155, 167, 194] : Array Int).toList.getD (x - 0).toNat 204).toNat) = 204 := by rw [if_pos (by omega)]; rfl
      rw [e]; exact hd ⟨n0, n1, n2, n3, n4, n5, n6, n7, n8⟩
theorem g7_0 {d : Nat} {a1 : Int} {x2 : Option aV} {w : aW} {Q : Option aV → aW → Prop} : T (d + 1) 7 0 [some (vr 0), some (vi a1), x2] [] w Q = T d 116 0 [some (vr 0), some (vi a1)] [] w (fun r w1 => T (d + 1) 7 5 [some (vr 0), some (vi a1), x2] (r.toList ++ []) w1 Q) := by
  rw [T_aload_0 c7_0, T_iload_1 c7_1, T_invv (es := [some (vr 0), some (vi a1)]) (st := [vi a1, vr 0]) (ks := [2, 0]) (n := 2) (c := 11) (k := 0) (as := [vi a1]) (rest := []) c7_2 (by decide +kernel) (by decide +kernel) (by decide +kernel) (by decide) rfl rfl (Nat.le_of_ble_eq_true rfl)]
  all_goals try simp only [lay_0, true_and, Nat.reduceAdd, eq_self_iff_true]
theorem g7_5 {d : Nat} {a1 a2 s0 : Int} {w : aW} {Q : Option aV → aW → Prop} : T (d + 1) 7 5 [some (vr 0), some (vi a1), some (vi a2)] [vi s0] w Q = ((¬ s0 = 0 → ((a2 = 0 → T d 117 0 [some (vi (w 79 0)), some (vi a1)] [] w (fun r w1 => T (d + 1) 7 75 [some (vr 0), some (vi a1), some (vi a2)] (r.toList ++ []) w1 Q)) ∧ (a2 = 1 → ((0 ≤ a1 ∧ a1 < 10) ∧ Q (some (vi (w 70 a1))) w)) ∧ (a2 = 2 → T d 118 0 [some (vr 0), some (vr 73), some (vi a1), none, none] [] w (fun r w1 => T (d + 1) 7 98 [some (vr 0), some (vi a1), some (vi a2)] (r.toList ++ []) w1 Q)) ∧ (a2 = 3 → T d 118 0 [some (vr 0), some (vr 80), some (vi a1), none, none] [] w (fun r w1 => T (d + 1) 7 111 [some (vr 0), some (vi a1), some (vi a2)] (r.toList ++ []) w1 Q)) ∧ (a2 = 4 → ((0 ≤ a1 ∧ a1 < 10) ∧ Q (some (vi (w 71 a1))) w)) ∧ (a2 = 5 → T d 119 0 [some (vr 16), some (vr 69), some (vr 79), some (vi (w 79 0)), none, none, none] [] w (fun r w1 => T (d + 1) 7 144 [some (vr 0), some (vi a1), some (vi a2)] (r.toList ++ []) w1 Q)) ∧ (a2 = 6 → T d 117 0 [some (vi (w 69 12)), some (vi a1)] [] w (fun r w1 => T (d + 1) 7 166 [some (vr 0), some (vi a1), some (vi a2)] (r.toList ++ []) w1 Q)) ∧ (a2 = 7 → T d 120 0 [some (vr 16), some (vr 69), some (vr 79), some (vi (w 79 0)), none, none, none] [] w (fun r w1 => T (d + 1) 7 189 [some (vr 0), some (vi a1), some (vi a2)] (r.toList ++ []) w1 Q)) ∧ (a2 = 8 → ((0 ≤ a1 ∧ a1 < 10) ∧ Q (some (vi (w 82 a1))) w)) ∧ (¬ a2 = 0 ∧ ¬ a2 = 1 ∧ ¬ a2 = 2 ∧ ¬ a2 = 3 ∧ ¬ a2 = 4 ∧ ¬ a2 = 5 ∧ ¬ a2 = 6 ∧ ¬ a2 = 7 ∧ ¬ a2 = 8 → Q (some (vi (-2))) w))) ∧ (¬ (¬ s0 = 0) → Q (some (vi (-2))) w)) := by
  rw [T_if_ne 11 c7_5 rfl, T_iload_2 c7_11, sw7_12, T_aload_0 c7_64, T_getR 11 9 9 c7_65 rfl rfl rfl rfl, rf_0_9, T_getI 6 0 0 c7_68 rfl rfl rfl rfl, T_iload_1 c7_71, T_inv (es := [some (vi (w 79 0)), some (vi a1)]) (st := [vi a1, vi (w 79 0)]) (ks := [0, 0]) (n := 2) (as := [vi (w 79 0), vi a1]) (rest := []) c7_72 (by decide +kernel) (by decide +kernel) rfl rfl (Nat.le_of_ble_eq_true rfl), T_aload_0 c7_76, T_getR 11 8 8 c7_77 rfl rfl rfl rfl, rf_0_8, T_getR 8 6 6 c7_80 rfl rfl rfl rfl, rf_69_6, T_iload_1 c7_83, T_iald c7_84, T_ireti c7_85 (by decide +kernel), T_aload_0 c7_86, T_aload_0 c7_87, T_getR 11 8 8 c7_88 rfl rfl rfl rfl, rf_0_8, T_getR 8 9 9 c7_91 rfl rfl rfl rfl, rf_69_9, T_iload_1 c7_94, T_invv (es := [some (vr 0), some (vr 73), some (vi a1), none, none]) (st := [vi a1, vr 73, vr 0]) (ks := [2, 2, 0]) (n := 5) (c := 11) (k := 0) (as := [vr 73, vi a1]) (rest := []) c7_95 (by decide +kernel) (by decide +kernel) (by decide +kernel) (by decide) rfl rfl (Nat.le_of_ble_eq_true rfl), T_aload_0 c7_99, T_aload_0 c7_100, T_getR 11 9 9 c7_101 rfl rfl rfl rfl, rf_0_9, T_getR 6 2 2 c7_104 rfl rfl rfl rfl, rf_79_2, T_iload_1 c7_107, T_invv (es := [some (vr 0), some (vr 80), some (vi a1), none, none]) (st := [vi a1, vr 80, vr 0]) (ks := [2, 2, 0]) (n := 5) (c := 11) (k := 0) (as := [vr 80, vi a1]) (rest := []) c7_108 (by decide +kernel) (by decide +kernel) (by decide +kernel) (by decide) rfl rfl (Nat.le_of_ble_eq_true rfl), T_aload_0 c7_112, T_getR 11 8 8 c7_113 rfl rfl rfl rfl, rf_0_8, T_getR 8 7 7 c7_116 rfl rfl rfl rfl, rf_69_7, T_iload_1 c7_119, T_iald c7_120, T_ireti c7_121 (by decide +kernel), T_aload_0 c7_122, T_getR 11 1 1 c7_123 rfl rfl rfl rfl, rf_0_1, T_aload_0 c7_126, T_getR 11 8 8 c7_127 rfl rfl rfl rfl, rf_0_8, T_aload_0 c7_130, T_getR 11 9 9 c7_131 rfl rfl rfl rfl, rf_0_9, T_aload_0 c7_134, T_getR 11 9 9 c7_135 rfl rfl rfl rfl, rf_0_9, T_getI 6 0 0 c7_138 rfl rfl rfl rfl, T_invv (es := [some (vr 16), some (vr 69), some (vr 79), some (vi (w 79 0)), none, none, none]) (st := [vi (w 79 0), vr 79, vr 69, vr 16]) (ks := [2, 2, 2, 0]) (n := 7) (c := 2) (k := 16) (as := [vr 69, vr 79, vi (w 79 0)]) (rest := []) c7_141 (by decide +kernel) (by decide +kernel) (by decide +kernel) (by decide) rfl rfl (Nat.le_of_ble_eq_true rfl), T_aload_0 c7_155, T_getR 11 8 8 c7_156 rfl rfl rfl rfl, rf_0_8, T_getI 8 12 12 c7_159 rfl rfl rfl rfl, T_iload_1 c7_162, T_inv (es := [some (vi (w 69 12)), some (vi a1)]) (st := [vi a1, vi (w 69 12)]) (ks := [0, 0]) (n := 2) (as := [vi (w 69 12), vi a1]) (rest := []) c7_163 (by decide +kernel) (by decide +kernel) rfl rfl (Nat.le_of_ble_eq_true rfl), T_aload_0 c7_167, T_getR 11 1 1 c7_168 rfl rfl rfl rfl, rf_0_1, T_aload_0 c7_171, T_getR 11 8 8 c7_172 rfl rfl rfl rfl, rf_0_8, T_aload_0 c7_175, T_getR 11 9 9 c7_176 rfl rfl rfl rfl, rf_0_9, T_aload_0 c7_179, T_getR 11 9 9 c7_180 rfl rfl rfl rfl, rf_0_9, T_getI 6 0 0 c7_183 rfl rfl rfl rfl, T_invv (es := [some (vr 16), some (vr 69), some (vr 79), some (vi (w 79 0)), none, none, none]) (st := [vi (w 79 0), vr 79, vr 69, vr 16]) (ks := [2, 2, 2, 0]) (n := 7) (c := 2) (k := 16) (as := [vr 69, vr 79, vi (w 79 0)]) (rest := []) c7_186 (by decide +kernel) (by decide +kernel) (by decide +kernel) (by decide) rfl rfl (Nat.le_of_ble_eq_true rfl), T_aload_0 c7_194, T_getR 11 9 9 c7_195 rfl rfl rfl rfl, rf_0_9, T_getR 6 4 4 c7_198 rfl rfl rfl rfl, rf_79_4, T_iload_1 c7_201, T_iald c7_202, T_ireti c7_203 (by decide +kernel), T_sipush c7_204, T_ireti c7_206 (by decide +kernel), T_sipush c7_8, T_ireti c7_10 (by decide +kernel)]
  all_goals try simp only [Int.reduceToNat, lay_0, lay_16, lay_69, lay_79, ld_70, ld_71, ld_82, true_and, Nat.reduceAdd, eq_self_iff_true]
theorem g7_75 {d : Nat} {s0 : Int} {x0 x1 x2 : Option aV} {w : aW} {Q : Option aV → aW → Prop} : T d 7 75 [x0, x1, x2] [vi s0] w Q = Q (some (vi s0)) w := by
  rw [T_ireti c7_75 (by decide +kernel)]
  all_goals try simp only [true_and, Nat.reduceAdd, eq_self_iff_true]
theorem g7_98 {d : Nat} {s0 : Int} {x0 x1 x2 : Option aV} {w : aW} {Q : Option aV → aW → Prop} : T d 7 98 [x0, x1, x2] [vi s0] w Q = Q (some (vi s0)) w := by
  rw [T_ireti c7_98 (by decide +kernel)]
  all_goals try simp only [true_and, Nat.reduceAdd, eq_self_iff_true]
theorem g7_111 {d : Nat} {s0 : Int} {x0 x1 x2 : Option aV} {w : aW} {Q : Option aV → aW → Prop} : T d 7 111 [x0, x1, x2] [vi s0] w Q = Q (some (vi s0)) w := by
  rw [T_ireti c7_111 (by decide +kernel)]
  all_goals try simp only [true_and, Nat.reduceAdd, eq_self_iff_true]
theorem g7_144 {d : Nat} {a1 s0 : Int} {x2 : Option aV} {w : aW} {Q : Option aV → aW → Prop} : T d 7 144 [some (vr 0), some (vi a1), x2] [vi s0] w Q = ((0 ≤ a1 ∧ a1 < 10) ∧ Q (some (vi (w 17 a1))) w) := by
  rw [T_pop_i c7_144, T_aload_0 c7_145, T_getR 11 1 1 c7_146 rfl rfl rfl rfl, rf_0_1, T_getR 2 0 0 c7_149 rfl rfl rfl rfl, rf_16_0, T_iload_1 c7_152, T_iald c7_153, T_ireti c7_154 (by decide +kernel)]
  all_goals try simp only [lay_0, lay_16, ld_17, true_and, Nat.reduceAdd, eq_self_iff_true]
theorem g7_166 {d : Nat} {s0 : Int} {x0 x1 x2 : Option aV} {w : aW} {Q : Option aV → aW → Prop} : T d 7 166 [x0, x1, x2] [vi s0] w Q = Q (some (vi s0)) w := by
  rw [T_ireti c7_166 (by decide +kernel)]
  all_goals try simp only [true_and, Nat.reduceAdd, eq_self_iff_true]
theorem g7_189 {d : Nat} {a1 s0 : Int} {x0 x2 : Option aV} {w : aW} {Q : Option aV → aW → Prop} : T (d + 1) 7 189 [x0, some (vi a1), x2] [vi s0] w Q = T d 117 0 [some (vi s0), some (vi a1)] [] w (fun r w1 => T (d + 1) 7 193 [x0, some (vi a1), x2] (r.toList ++ []) w1 Q) := by
  rw [T_iload_1 c7_189, T_inv (es := [some (vi s0), some (vi a1)]) (st := [vi a1, vi s0]) (ks := [0, 0]) (n := 2) (as := [vi s0, vi a1]) (rest := []) c7_190 (by decide +kernel) (by decide +kernel) rfl rfl (Nat.le_of_ble_eq_true rfl)]
  all_goals try simp only [true_and, Nat.reduceAdd, eq_self_iff_true]
theorem g7_193 {d : Nat} {s0 : Int} {x0 x1 x2 : Option aV} {w : aW} {Q : Option aV → aW → Prop} : T d 7 193 [x0, x1, x2] [vi s0] w Q = Q (some (vi s0)) w := by
  rw [T_ireti c7_193 (by decide +kernel)]
  all_goals try simp only [true_and, Nat.reduceAdd, eq_self_iff_true]
/-! 8: StringHandsModel.limb.(II)I -/
theorem c8_0 : cd 8 0 = some (.aload 0, 1) := by decide +kernel
theorem c8_1 : cd 8 1 = some (.sipush 0, 1) := by decide +kernel
theorem c8_2 : cd 8 2 = some (.putfield 3072, 3) := by decide +kernel
theorem c8_5 : cd 8 5 = some (.aload 0, 1) := by decide +kernel
theorem c8_6 : cd 8 6 = some (.iload 1, 1) := by decide +kernel
theorem c8_7 : cd 8 7 = some (.i2l, 1) := by decide +kernel
theorem c8_8 : cd 8 8 = some (.invokevirtual 121, 3) := by decide +kernel
theorem c8_11 : cd 8 11 = some (.ifCond .ne 17, 3) := by decide +kernel
theorem c8_14 : cd 8 14 = some (.sipush (-2), 2) := by decide +kernel
theorem c8_16 : cd 8 16 = some (.ireturn, 1) := by decide +kernel
theorem c8_17 : cd 8 17 = some (.iload 2, 1) := by decide +kernel
theorem c8_18 : cd 8 18 = some (.tableswitch 175 0 8 #[68, 79, 89, 96, 102, 112, 125, 144, 165], 50) := by decide +kernel
theorem c8_68 : cd 8 68 = some (.aload 0, 1) := by decide +kernel
theorem c8_69 : cd 8 69 = some (.getfield 3078, 3) := by decide +kernel
theorem c8_72 : cd 8 72 = some (.sipush 5, 1) := by decide +kernel
theorem c8_73 : cd 8 73 = some (.iaload, 1) := by decide +kernel
theorem c8_74 : cd 8 74 = some (.iload 1, 1) := by decide +kernel
theorem c8_75 : cd 8 75 = some (.ishr, 1) := by decide +kernel
theorem c8_76 : cd 8 76 = some (.sipush 1, 1) := by decide +kernel
theorem c8_77 : cd 8 77 = some (.iand, 1) := by decide +kernel
theorem c8_78 : cd 8 78 = some (.ireturn, 1) := by decide +kernel
theorem c8_79 : cd 8 79 = some (.aload 0, 1) := by decide +kernel
theorem c8_80 : cd 8 80 = some (.getfield 3078, 3) := by decide +kernel
theorem c8_83 : cd 8 83 = some (.sipush 112, 2) := by decide +kernel
theorem c8_85 : cd 8 85 = some (.iload 1, 1) := by decide +kernel
theorem c8_86 : cd 8 86 = some (.iadd, 1) := by decide +kernel
theorem c8_87 : cd 8 87 = some (.iaload, 1) := by decide +kernel
theorem c8_88 : cd 8 88 = some (.ireturn, 1) := by decide +kernel
theorem c8_89 : cd 8 89 = some (.aload 0, 1) := by decide +kernel
theorem c8_90 : cd 8 90 = some (.iload 1, 1) := by decide +kernel
theorem c8_91 : cd 8 91 = some (.sipush 0, 1) := by decide +kernel
theorem c8_92 : cd 8 92 = some (.invokevirtual 122, 3) := by decide +kernel
theorem c8_95 : cd 8 95 = some (.ireturn, 1) := by decide +kernel
theorem c8_96 : cd 8 96 = some (.aload 0, 1) := by decide +kernel
theorem c8_97 : cd 8 97 = some (.iload 1, 1) := by decide +kernel
theorem c8_98 : cd 8 98 = some (.invokevirtual 123, 3) := by decide +kernel
theorem c8_101 : cd 8 101 = some (.ireturn, 1) := by decide +kernel
theorem c8_102 : cd 8 102 = some (.aload 0, 1) := by decide +kernel
theorem c8_103 : cd 8 103 = some (.getfield 3078, 3) := by decide +kernel
theorem c8_106 : cd 8 106 = some (.sipush 122, 2) := by decide +kernel
theorem c8_108 : cd 8 108 = some (.iload 1, 1) := by decide +kernel
theorem c8_109 : cd 8 109 = some (.iadd, 1) := by decide +kernel
theorem c8_110 : cd 8 110 = some (.iaload, 1) := by decide +kernel
theorem c8_111 : cd 8 111 = some (.ireturn, 1) := by decide +kernel
theorem c8_112 : cd 8 112 = some (.aload 0, 1) := by decide +kernel
theorem c8_113 : cd 8 113 = some (.iload 1, 1) := by decide +kernel
theorem c8_114 : cd 8 114 = some (.aload 0, 1) := by decide +kernel
theorem c8_115 : cd 8 115 = some (.getfield 3078, 3) := by decide +kernel
theorem c8_118 : cd 8 118 = some (.sipush 5, 1) := by decide +kernel
theorem c8_119 : cd 8 119 = some (.iaload, 1) := by decide +kernel
theorem c8_120 : cd 8 120 = some (.sipush 0, 1) := by decide +kernel
theorem c8_121 : cd 8 121 = some (.invokevirtual 124, 3) := by decide +kernel
theorem c8_124 : cd 8 124 = some (.ireturn, 1) := by decide +kernel
theorem c8_125 : cd 8 125 = some (.aload 0, 1) := by decide +kernel
theorem c8_126 : cd 8 126 = some (.getfield 3078, 3) := by decide +kernel
theorem c8_129 : cd 8 129 = some (.sipush 142, 3) := by decide +kernel
theorem c8_132 : cd 8 132 = some (.iload 1, 1) := by decide +kernel
theorem c8_133 : cd 8 133 = some (.iadd, 1) := by decide +kernel
theorem c8_134 : cd 8 134 = some (.iaload, 1) := by decide +kernel
theorem c8_135 : cd 8 135 = some (.ifCond .le 142, 3) := by decide +kernel
theorem c8_138 : cd 8 138 = some (.sipush 1, 1) := by decide +kernel
theorem c8_139 : cd 8 139 = some (.goto 143, 3) := by decide +kernel
theorem c8_142 : cd 8 142 = some (.sipush 0, 1) := by decide +kernel
theorem c8_143 : cd 8 143 = some (.ireturn, 1) := by decide +kernel
theorem c8_144 : cd 8 144 = some (.aload 0, 1) := by decide +kernel
theorem c8_145 : cd 8 145 = some (.iload 1, 1) := by decide +kernel
theorem c8_146 : cd 8 146 = some (.aload 0, 1) := by decide +kernel
theorem c8_147 : cd 8 147 = some (.getfield 3078, 3) := by decide +kernel
theorem c8_150 : cd 8 150 = some (.sipush 5, 1) := by decide +kernel
theorem c8_151 : cd 8 151 = some (.iaload, 1) := by decide +kernel
theorem c8_152 : cd 8 152 = some (.sipush 0, 1) := by decide +kernel
theorem c8_153 : cd 8 153 = some (.invokevirtual 125, 3) := by decide +kernel
theorem c8_156 : cd 8 156 = some (.ifCond .eq 163, 3) := by decide +kernel
theorem c8_159 : cd 8 159 = some (.sipush 1, 1) := by decide +kernel
theorem c8_160 : cd 8 160 = some (.goto 164, 3) := by decide +kernel
theorem c8_163 : cd 8 163 = some (.sipush 0, 1) := by decide +kernel
theorem c8_164 : cd 8 164 = some (.ireturn, 1) := by decide +kernel
theorem c8_165 : cd 8 165 = some (.aload 0, 1) := by decide +kernel
theorem c8_166 : cd 8 166 = some (.getfield 3078, 3) := by decide +kernel
theorem c8_169 : cd 8 169 = some (.sipush 54, 2) := by decide +kernel
theorem c8_171 : cd 8 171 = some (.iload 1, 1) := by decide +kernel
theorem c8_172 : cd 8 172 = some (.iadd, 1) := by decide +kernel
theorem c8_173 : cd 8 173 = some (.iaload, 1) := by decide +kernel
theorem c8_174 : cd 8 174 = some (.ireturn, 1) := by decide +kernel
theorem c8_175 : cd 8 175 = some (.sipush (-2), 2) := by decide +kernel
theorem c8_177 : cd 8 177 = some (.ireturn, 1) := by decide +kernel
theorem sw8_18 {d : Nat} {ls : List (Option aV)} {st : List aV} {w : aW} {Q : Option aV → aW → Prop} {x : Int} : T d 8 18 ls (vi x :: st) w Q = ((x = 0 → T d 8 68 ls st w Q) ∧ (x = 1 → T d 8 79 ls st w Q) ∧ (x = 2 → T d 8 89 ls st w Q) ∧ (x = 3 → T d 8 96 ls st w Q) ∧ (x = 4 → T d 8 102 ls st w Q) ∧ (x = 5 → T d 8 112 ls st w Q) ∧ (x = 6 → T d 8 125 ls st w Q) ∧ (x = 7 → T d 8 144 ls st w Q) ∧ (x = 8 → T d 8 165 ls st w Q) ∧ (¬ x = 0 ∧ ¬ x = 1 ∧ ¬ x = 2 ∧ ¬ x = 3 ∧ ¬ x = 4 ∧ ¬ x = 5 ∧ ¬ x = 6 ∧ ¬ x = 7 ∧ ¬ x = 8 → T d 8 175 ls st w Q)) := by
  rw [T_tab c8_18]
  apply propext
  constructor
  · intro h
    refine ⟨fun q => by subst q; exact h, fun q => by subst q; exact h, fun q => by subst q; exact h, fun q => by subst q; exact h, fun q => by subst q; exact h, fun q => by subst q; exact h, fun q => by subst q; exact h, fun q => by subst q; exact h, fun q => by subst q; exact h, fun q => ?_⟩
    · have e : (if x < 0 ∨ 8 < x then (175 : Int).toNat else ((#[68, 79, 89, 96, 102, 112, 125, 144, 165] : Array Int).toList.getD (x - 0).toNat 175).toNat) = 175 := by rw [if_pos (by omega)]; rfl
      rw [e] at h; exact h
  · rintro ⟨h0, h1, h2, h3, h4, h5, h6, h7, h8, hd⟩
    by_cases n0 : x = 0
    · subst n0; exact h0 rfl
    by_cases n1 : x = 1
    · subst n1; exact h1 rfl
    by_cases n2 : x = 2
    · subst n2; exact h2 rfl
    by_cases n3 : x = 3
    · subst n3; exact h3 rfl
    by_cases n4 : x = 4
    · subst n4; exact h4 rfl
    by_cases n5 : x = 5
    · subst n5; exact h5 rfl
    by_cases n6 : x = 6
    · subst n6; exact h6 rfl
    by_cases n7 : x = 7
    · subst n7; exact h7 rfl
    by_cases n8 : x = 8
    · subst n8; exact h8 rfl
    · have e : (if x < 0 ∨ 8 < x then (175 : Int).toNat else ((#[68, 79, 89, 96, 102, 112, 125, 144, 165] : Array Int).toList.getD (x - 0).toNat 175).toNat) = 175 := by rw [if_pos (by omega)]; rfl
      rw [e]; exact hd ⟨n0, n1, n2, n3, n4, n5, n6, n7, n8⟩
theorem g8_0 {d : Nat} {a1 : Int} {x2 : Option aV} {w : aW} {Q : Option aV → aW → Prop} : T (d + 1) 8 0 [some (vr 167), some (vi a1), x2] [] w Q = T d 121 0 [some (vr 167), some (vl a1), none] [] (iup w 167 0 0) (fun r w1 => T (d + 1) 8 11 [some (vr 167), some (vi a1), x2] (r.toList ++ []) w1 Q) := by
  rw [T_aload_0 c8_0, T_sipush c8_1, T_putI 12 0 0 c8_2 rfl rfl rfl rfl, T_aload_0 c8_5, T_iload_1 c8_6, T_i2l c8_7, T_invv (es := [some (vr 167), some (vl a1), none]) (st := [vl a1, vr 167]) (ks := [2, 1]) (n := 3) (c := 12) (k := 167) (as := [vl a1]) (rest := []) c8_8 (by decide +kernel) (by decide +kernel) (by decide +kernel) (by decide) rfl rfl (Nat.le_of_ble_eq_true rfl)]
  all_goals try simp only [lay_167, true_and, Nat.reduceAdd, eq_self_iff_true]
theorem g8_11 {d : Nat} {a1 a2 s0 : Int} {w : aW} {Q : Option aV → aW → Prop} : T (d + 1) 8 11 [some (vr 167), some (vi a1), some (vi a2)] [vi s0] w Q = ((¬ s0 = 0 → ((a2 = 0 → Q (some (vi (jand (jshr (w 168 5) a1) 1))) w) ∧ (a2 = 1 → ((0 ≤ w32 (112 + a1) ∧ w32 (112 + a1) < 4932) ∧ Q (some (vi (w 168 (w32 (112 + a1))))) w)) ∧ (a2 = 2 → T d 122 0 [some (vr 167), some (vi a1), some (vi 0), none, none] [] w (fun r w1 => T (d + 1) 8 95 [some (vr 167), some (vi a1), some (vi a2)] (r.toList ++ []) w1 Q)) ∧ (a2 = 3 → T d 123 0 [some (vr 167), some (vi a1), none, none] [] w (fun r w1 => T (d + 1) 8 101 [some (vr 167), some (vi a1), some (vi a2)] (r.toList ++ []) w1 Q)) ∧ (a2 = 4 → ((0 ≤ w32 (122 + a1) ∧ w32 (122 + a1) < 4932) ∧ Q (some (vi (w 168 (w32 (122 + a1))))) w)) ∧ (a2 = 5 → T d 124 0 [some (vr 167), some (vi a1), some (vi (w 168 5)), some (vi 0), none, none] [] w (fun r w1 => T (d + 1) 8 124 [some (vr 167), some (vi a1), some (vi a2)] (r.toList ++ []) w1 Q)) ∧ (a2 = 6 → ((0 ≤ w32 (142 + a1) ∧ w32 (142 + a1) < 4932) ∧ ((w 168 (w32 (142 + a1)) ≤ 0 → T (d + 1) 8 143 [some (vr 167), some (vi a1), some (vi a2)] [vi 0] w Q) ∧ (¬ (w 168 (w32 (142 + a1)) ≤ 0) → T (d + 1) 8 143 [some (vr 167), some (vi a1), some (vi a2)] [vi 1] w Q)))) ∧ (a2 = 7 → T d 125 0 [some (vr 167), some (vi a1), some (vi (w 168 5)), some (vi 0)] [] w (fun r w1 => T (d + 1) 8 156 [some (vr 167), some (vi a1), some (vi a2)] (r.toList ++ []) w1 Q)) ∧ (a2 = 8 → ((0 ≤ w32 (54 + a1) ∧ w32 (54 + a1) < 4932) ∧ Q (some (vi (w 168 (w32 (54 + a1))))) w)) ∧ (¬ a2 = 0 ∧ ¬ a2 = 1 ∧ ¬ a2 = 2 ∧ ¬ a2 = 3 ∧ ¬ a2 = 4 ∧ ¬ a2 = 5 ∧ ¬ a2 = 6 ∧ ¬ a2 = 7 ∧ ¬ a2 = 8 → Q (some (vi (-2))) w))) ∧ (¬ (¬ s0 = 0) → Q (some (vi (-2))) w)) := by
  rw [T_if_ne 17 c8_11 rfl, T_iload_2 c8_17, sw8_18, T_aload_0 c8_68, T_getR 12 1 1 c8_69 rfl rfl rfl rfl, rf_167_1, T_sipush c8_72, T_iald c8_73, T_iload_1 c8_74, T_ishr c8_75, T_sipush c8_76, T_iand c8_77, T_ireti c8_78 (by decide +kernel), T_aload_0 c8_79, T_getR 12 1 1 c8_80 rfl rfl rfl rfl, rf_167_1, T_sipush c8_83, T_iload_1 c8_85, T_iadd c8_86, T_iald c8_87, T_ireti c8_88 (by decide +kernel), T_aload_0 c8_89, T_iload_1 c8_90, T_sipush c8_91, T_invv (es := [some (vr 167), some (vi a1), some (vi 0), none, none]) (st := [vi 0, vi a1, vr 167]) (ks := [2, 0, 0]) (n := 5) (c := 12) (k := 167) (as := [vi a1, vi 0]) (rest := []) c8_92 (by decide +kernel) (by decide +kernel) (by decide +kernel) (by decide) rfl rfl (Nat.le_of_ble_eq_true rfl), T_aload_0 c8_96, T_iload_1 c8_97, T_invv (es := [some (vr 167), some (vi a1), none, none]) (st := [vi a1, vr 167]) (ks := [2, 0]) (n := 4) (c := 12) (k := 167) (as := [vi a1]) (rest := []) c8_98 (by decide +kernel) (by decide +kernel) (by decide +kernel) (by decide) rfl rfl (Nat.le_of_ble_eq_true rfl), T_aload_0 c8_102, T_getR 12 1 1 c8_103 rfl rfl rfl rfl, rf_167_1, T_sipush c8_106, T_iload_1 c8_108, T_iadd c8_109, T_iald c8_110, T_ireti c8_111 (by decide +kernel), T_aload_0 c8_112, T_iload_1 c8_113, T_aload_0 c8_114, T_getR 12 1 1 c8_115 rfl rfl rfl rfl, rf_167_1, T_sipush c8_118, T_iald c8_119, T_sipush c8_120, T_invv (es := [some (vr 167), some (vi a1), some (vi (w 168 5)), some (vi 0), none, none]) (st := [vi 0, vi (w 168 5), vi a1, vr 167]) (ks := [2, 0, 0, 0]) (n := 6) (c := 12) (k := 167) (as := [vi a1, vi (w 168 5), vi 0]) (rest := []) c8_121 (by decide +kernel) (by decide +kernel) (by decide +kernel) (by decide) rfl rfl (Nat.le_of_ble_eq_true rfl), T_aload_0 c8_125, T_getR 12 1 1 c8_126 rfl rfl rfl rfl, rf_167_1, T_sipush c8_129, T_iload_1 c8_132, T_iadd c8_133, T_iald c8_134, T_if_le 142 c8_135 rfl, T_sipush c8_142, T_sipush c8_138, T_goto 143 c8_139 rfl, T_aload_0 c8_144, T_iload_1 c8_145, T_aload_0 c8_146, T_getR 12 1 1 c8_147 rfl rfl rfl rfl, rf_167_1, T_sipush c8_150, T_iald c8_151, T_sipush c8_152, T_invv (es := [some (vr 167), some (vi a1), some (vi (w 168 5)), some (vi 0)]) (st := [vi 0, vi (w 168 5), vi a1, vr 167]) (ks := [2, 0, 0, 0]) (n := 4) (c := 12) (k := 167) (as := [vi a1, vi (w 168 5), vi 0]) (rest := []) c8_153 (by decide +kernel) (by decide +kernel) (by decide +kernel) (by decide) rfl rfl (Nat.le_of_ble_eq_true rfl), T_aload_0 c8_165, T_getR 12 1 1 c8_166 rfl rfl rfl rfl, rf_167_1, T_sipush c8_169, T_iload_1 c8_171, T_iadd c8_172, T_iald c8_173, T_ireti c8_174 (by decide +kernel), T_sipush c8_175, T_ireti c8_177 (by decide +kernel), T_sipush c8_14, T_ireti c8_16 (by decide +kernel)]
  all_goals try simp only [Int.reduceLE, Int.reduceLT, Int.reduceToNat, and_self, lay_167, ld_168, true_and, Nat.reduceAdd, eq_self_iff_true]
theorem g8_95 {d : Nat} {s0 : Int} {x0 x1 x2 : Option aV} {w : aW} {Q : Option aV → aW → Prop} : T d 8 95 [x0, x1, x2] [vi s0] w Q = Q (some (vi s0)) w := by
  rw [T_ireti c8_95 (by decide +kernel)]
  all_goals try simp only [true_and, Nat.reduceAdd, eq_self_iff_true]
theorem g8_101 {d : Nat} {s0 : Int} {x0 x1 x2 : Option aV} {w : aW} {Q : Option aV → aW → Prop} : T d 8 101 [x0, x1, x2] [vi s0] w Q = Q (some (vi s0)) w := by
  rw [T_ireti c8_101 (by decide +kernel)]
  all_goals try simp only [true_and, Nat.reduceAdd, eq_self_iff_true]
theorem g8_124 {d : Nat} {s0 : Int} {x0 x1 x2 : Option aV} {w : aW} {Q : Option aV → aW → Prop} : T d 8 124 [x0, x1, x2] [vi s0] w Q = Q (some (vi s0)) w := by
  rw [T_ireti c8_124 (by decide +kernel)]
  all_goals try simp only [true_and, Nat.reduceAdd, eq_self_iff_true]
theorem g8_143 {d : Nat} {s0 : Int} {x0 x1 x2 : Option aV} {w : aW} {Q : Option aV → aW → Prop} : T d 8 143 [x0, x1, x2] [vi s0] w Q = Q (some (vi s0)) w := by
  rw [T_ireti c8_143 (by decide +kernel)]
  all_goals try simp only [true_and, Nat.reduceAdd, eq_self_iff_true]
theorem g8_156 {d : Nat} {s0 : Int} {x0 x1 x2 : Option aV} {w : aW} {Q : Option aV → aW → Prop} : T d 8 156 [x0, x1, x2] [vi s0] w Q = ((s0 = 0 → T d 8 164 [x0, x1, x2] [vi 0] w Q) ∧ (¬ (s0 = 0) → T d 8 164 [x0, x1, x2] [vi 1] w Q)) := by
  rw [T_if_eq 163 c8_156 rfl, T_sipush c8_163, T_sipush c8_159, T_goto 164 c8_160 rfl]
  all_goals try simp only [Int.reduceToNat, true_and, Nat.reduceAdd, eq_self_iff_true]
theorem g8_164 {d : Nat} {s0 : Int} {x0 x1 x2 : Option aV} {w : aW} {Q : Option aV → aW → Prop} : T d 8 164 [x0, x1, x2] [vi s0] w Q = Q (some (vi s0)) w := by
  rw [T_ireti c8_164 (by decide +kernel)]
  all_goals try simp only [true_and, Nat.reduceAdd, eq_self_iff_true]
/-! 9: StringHands.string.(II)I -/
theorem c9_0 : cd 9 0 = some (.aload 0, 1) := by decide +kernel
theorem c9_1 : cd 9 1 = some (.iload 1, 1) := by decide +kernel
theorem c9_2 : cd 9 2 = some (.invokevirtual 126, 3) := by decide +kernel
theorem c9_5 : cd 9 5 = some (.ifCond .ne 11, 3) := by decide +kernel
theorem c9_8 : cd 9 8 = some (.sipush (-2), 2) := by decide +kernel
theorem c9_10 : cd 9 10 = some (.ireturn, 1) := by decide +kernel
theorem c9_11 : cd 9 11 = some (.iload 2, 1) := by decide +kernel
theorem c9_12 : cd 9 12 = some (.tableswitch 116 0 5 #[52, 62, 72, 82, 94, 106], 40) := by decide +kernel
theorem c9_52 : cd 9 52 = some (.aload 0, 1) := by decide +kernel
theorem c9_53 : cd 9 53 = some (.getfield 2854, 3) := by decide +kernel
theorem c9_56 : cd 9 56 = some (.getfield 1546, 3) := by decide +kernel
theorem c9_59 : cd 9 59 = some (.iload 1, 1) := by decide +kernel
theorem c9_60 : cd 9 60 = some (.iaload, 1) := by decide +kernel
theorem c9_61 : cd 9 61 = some (.ireturn, 1) := by decide +kernel
theorem c9_62 : cd 9 62 = some (.aload 0, 1) := by decide +kernel
theorem c9_63 : cd 9 63 = some (.getfield 2850, 3) := by decide +kernel
theorem c9_66 : cd 9 66 = some (.getfield 2086, 3) := by decide +kernel
theorem c9_69 : cd 9 69 = some (.iload 1, 1) := by decide +kernel
theorem c9_70 : cd 9 70 = some (.iaload, 1) := by decide +kernel
theorem c9_71 : cd 9 71 = some (.ireturn, 1) := by decide +kernel
theorem c9_72 : cd 9 72 = some (.aload 0, 1) := by decide +kernel
theorem c9_73 : cd 9 73 = some (.getfield 2850, 3) := by decide +kernel
theorem c9_76 : cd 9 76 = some (.getfield 2090, 3) := by decide +kernel
theorem c9_79 : cd 9 79 = some (.iload 1, 1) := by decide +kernel
theorem c9_80 : cd 9 80 = some (.iaload, 1) := by decide +kernel
theorem c9_81 : cd 9 81 = some (.ireturn, 1) := by decide +kernel
theorem c9_82 : cd 9 82 = some (.aload 0, 1) := by decide +kernel
theorem c9_83 : cd 9 83 = some (.getfield 2850, 3) := by decide +kernel
theorem c9_86 : cd 9 86 = some (.getfield 2092, 3) := by decide +kernel
theorem c9_89 : cd 9 89 = some (.iload 1, 1) := by decide +kernel
theorem c9_90 : cd 9 90 = some (.invokestatic 117, 3) := by decide +kernel
theorem c9_93 : cd 9 93 = some (.ireturn, 1) := by decide +kernel
theorem c9_94 : cd 9 94 = some (.aload 0, 1) := by decide +kernel
theorem c9_95 : cd 9 95 = some (.getfield 2854, 3) := by decide +kernel
theorem c9_98 : cd 9 98 = some (.getfield 1540, 3) := by decide +kernel
theorem c9_101 : cd 9 101 = some (.iload 1, 1) := by decide +kernel
theorem c9_102 : cd 9 102 = some (.invokestatic 117, 3) := by decide +kernel
theorem c9_105 : cd 9 105 = some (.ireturn, 1) := by decide +kernel
theorem c9_106 : cd 9 106 = some (.aload 0, 1) := by decide +kernel
theorem c9_107 : cd 9 107 = some (.getfield 2854, 3) := by decide +kernel
theorem c9_110 : cd 9 110 = some (.getfield 1550, 3) := by decide +kernel
theorem c9_113 : cd 9 113 = some (.iload 1, 1) := by decide +kernel
theorem c9_114 : cd 9 114 = some (.iaload, 1) := by decide +kernel
theorem c9_115 : cd 9 115 = some (.ireturn, 1) := by decide +kernel
theorem c9_116 : cd 9 116 = some (.sipush (-2), 2) := by decide +kernel
theorem c9_118 : cd 9 118 = some (.ireturn, 1) := by decide +kernel
theorem sw9_12 {d : Nat} {ls : List (Option aV)} {st : List aV} {w : aW} {Q : Option aV → aW → Prop} {x : Int} : T d 9 12 ls (vi x :: st) w Q = ((x = 0 → T d 9 52 ls st w Q) ∧ (x = 1 → T d 9 62 ls st w Q) ∧ (x = 2 → T d 9 72 ls st w Q) ∧ (x = 3 → T d 9 82 ls st w Q) ∧ (x = 4 → T d 9 94 ls st w Q) ∧ (x = 5 → T d 9 106 ls st w Q) ∧ (¬ x = 0 ∧ ¬ x = 1 ∧ ¬ x = 2 ∧ ¬ x = 3 ∧ ¬ x = 4 ∧ ¬ x = 5 → T d 9 116 ls st w Q)) := by
  rw [T_tab c9_12]
  apply propext
  constructor
  · intro h
    refine ⟨fun q => by subst q; exact h, fun q => by subst q; exact h, fun q => by subst q; exact h, fun q => by subst q; exact h, fun q => by subst q; exact h, fun q => by subst q; exact h, fun q => ?_⟩
    · have e : (if x < 0 ∨ 5 < x then (116 : Int).toNat else ((#[52, 62, 72, 82, 94, 106] : Array Int).toList.getD (x - 0).toNat 116).toNat) = 116 := by rw [if_pos (by omega)]; rfl
      rw [e] at h; exact h
  · rintro ⟨h0, h1, h2, h3, h4, h5, hd⟩
    by_cases n0 : x = 0
    · subst n0; exact h0 rfl
    by_cases n1 : x = 1
    · subst n1; exact h1 rfl
    by_cases n2 : x = 2
    · subst n2; exact h2 rfl
    by_cases n3 : x = 3
    · subst n3; exact h3 rfl
    by_cases n4 : x = 4
    · subst n4; exact h4 rfl
    by_cases n5 : x = 5
    · subst n5; exact h5 rfl
    · have e : (if x < 0 ∨ 5 < x then (116 : Int).toNat else ((#[52, 62, 72, 82, 94, 106] : Array Int).toList.getD (x - 0).toNat 116).toNat) = 116 := by rw [if_pos (by omega)]; rfl
      rw [e]; exact hd ⟨n0, n1, n2, n3, n4, n5⟩
theorem g9_0 {d : Nat} {a1 : Int} {x2 : Option aV} {w : aW} {Q : Option aV → aW → Prop} : T (d + 1) 9 0 [some (vr 0), some (vi a1), x2] [] w Q = T d 126 0 [some (vr 0), some (vi a1)] [] w (fun r w1 => T (d + 1) 9 5 [some (vr 0), some (vi a1), x2] (r.toList ++ []) w1 Q) := by
  rw [T_aload_0 c9_0, T_iload_1 c9_1, T_invv (es := [some (vr 0), some (vi a1)]) (st := [vi a1, vr 0]) (ks := [2, 0]) (n := 2) (c := 11) (k := 0) (as := [vi a1]) (rest := []) c9_2 (by decide +kernel) (by decide +kernel) (by decide +kernel) (by decide) rfl rfl (Nat.le_of_ble_eq_true rfl)]
  all_goals try simp only [lay_0, true_and, Nat.reduceAdd, eq_self_iff_true]
theorem g9_5 {d : Nat} {a1 a2 s0 : Int} {w : aW} {Q : Option aV → aW → Prop} : T (d + 1) 9 5 [some (vr 0), some (vi a1), some (vi a2)] [vi s0] w Q = ((¬ s0 = 0 → ((a2 = 0 → ((0 ≤ a1 ∧ a1 < 16) ∧ Q (some (vi (w 80 a1))) w)) ∧ (a2 = 1 → ((0 ≤ a1 ∧ a1 < 16) ∧ Q (some (vi (w 73 a1))) w)) ∧ (a2 = 2 → ((0 ≤ a1 ∧ a1 < 16) ∧ Q (some (vi (w 74 a1))) w)) ∧ (a2 = 3 → T d 117 0 [some (vi (w 69 11)), some (vi a1)] [] w (fun r w1 => T (d + 1) 9 93 [some (vr 0), some (vi a1), some (vi a2)] (r.toList ++ []) w1 Q)) ∧ (a2 = 4 → T d 117 0 [some (vi (w 79 1)), some (vi a1)] [] w (fun r w1 => T (d + 1) 9 105 [some (vr 0), some (vi a1), some (vi a2)] (r.toList ++ []) w1 Q)) ∧ (a2 = 5 → ((0 ≤ a1 ∧ a1 < 16) ∧ Q (some (vi (w 81 a1))) w)) ∧ (¬ a2 = 0 ∧ ¬ a2 = 1 ∧ ¬ a2 = 2 ∧ ¬ a2 = 3 ∧ ¬ a2 = 4 ∧ ¬ a2 = 5 → Q (some (vi (-2))) w))) ∧ (¬ (¬ s0 = 0) → Q (some (vi (-2))) w)) := by
  rw [T_if_ne 11 c9_5 rfl, T_iload_2 c9_11, sw9_12, T_aload_0 c9_52, T_getR 11 9 9 c9_53 rfl rfl rfl rfl, rf_0_9, T_getR 6 2 2 c9_56 rfl rfl rfl rfl, rf_79_2, T_iload_1 c9_59, T_iald c9_60, T_ireti c9_61 (by decide +kernel), T_aload_0 c9_62, T_getR 11 8 8 c9_63 rfl rfl rfl rfl, rf_0_8, T_getR 8 9 9 c9_66 rfl rfl rfl rfl, rf_69_9, T_iload_1 c9_69, T_iald c9_70, T_ireti c9_71 (by decide +kernel), T_aload_0 c9_72, T_getR 11 8 8 c9_73 rfl rfl rfl rfl, rf_0_8, T_getR 8 10 10 c9_76 rfl rfl rfl rfl, rf_69_10, T_iload_1 c9_79, T_iald c9_80, T_ireti c9_81 (by decide +kernel), T_aload_0 c9_82, T_getR 11 8 8 c9_83 rfl rfl rfl rfl, rf_0_8, T_getI 8 11 11 c9_86 rfl rfl rfl rfl, T_iload_1 c9_89, T_inv (es := [some (vi (w 69 11)), some (vi a1)]) (st := [vi a1, vi (w 69 11)]) (ks := [0, 0]) (n := 2) (as := [vi (w 69 11), vi a1]) (rest := []) c9_90 (by decide +kernel) (by decide +kernel) rfl rfl (Nat.le_of_ble_eq_true rfl), T_aload_0 c9_94, T_getR 11 9 9 c9_95 rfl rfl rfl rfl, rf_0_9, T_getI 6 1 1 c9_98 rfl rfl rfl rfl, T_iload_1 c9_101, T_inv (es := [some (vi (w 79 1)), some (vi a1)]) (st := [vi a1, vi (w 79 1)]) (ks := [0, 0]) (n := 2) (as := [vi (w 79 1), vi a1]) (rest := []) c9_102 (by decide +kernel) (by decide +kernel) rfl rfl (Nat.le_of_ble_eq_true rfl), T_aload_0 c9_106, T_getR 11 9 9 c9_107 rfl rfl rfl rfl, rf_0_9, T_getR 6 3 3 c9_110 rfl rfl rfl rfl, rf_79_3, T_iload_1 c9_113, T_iald c9_114, T_ireti c9_115 (by decide +kernel), T_sipush c9_116, T_ireti c9_118 (by decide +kernel), T_sipush c9_8, T_ireti c9_10 (by decide +kernel)]
  all_goals try simp only [Int.reduceToNat, lay_0, lay_69, lay_79, ld_73, ld_74, ld_80, ld_81, true_and, Nat.reduceAdd, eq_self_iff_true]
theorem g9_93 {d : Nat} {s0 : Int} {x0 x1 x2 : Option aV} {w : aW} {Q : Option aV → aW → Prop} : T d 9 93 [x0, x1, x2] [vi s0] w Q = Q (some (vi s0)) w := by
  rw [T_ireti c9_93 (by decide +kernel)]
  all_goals try simp only [true_and, Nat.reduceAdd, eq_self_iff_true]
theorem g9_105 {d : Nat} {s0 : Int} {x0 x1 x2 : Option aV} {w : aW} {Q : Option aV → aW → Prop} : T d 9 105 [x0, x1, x2] [vi s0] w Q = Q (some (vi s0)) w := by
  rw [T_ireti c9_105 (by decide +kernel)]
  all_goals try simp only [true_and, Nat.reduceAdd, eq_self_iff_true]
/-! 10: StringHandsModel.string.(II)I -/
theorem c10_0 : cd 10 0 = some (.aload 0, 1) := by decide +kernel
theorem c10_1 : cd 10 1 = some (.sipush 0, 1) := by decide +kernel
theorem c10_2 : cd 10 2 = some (.putfield 3072, 3) := by decide +kernel
theorem c10_5 : cd 10 5 = some (.aload 0, 1) := by decide +kernel
theorem c10_6 : cd 10 6 = some (.iload 1, 1) := by decide +kernel
theorem c10_7 : cd 10 7 = some (.i2l, 1) := by decide +kernel
theorem c10_8 : cd 10 8 = some (.invokevirtual 127, 3) := by decide +kernel
theorem c10_11 : cd 10 11 = some (.ifCond .ne 17, 3) := by decide +kernel
theorem c10_14 : cd 10 14 = some (.sipush (-2), 2) := by decide +kernel
theorem c10_16 : cd 10 16 = some (.ireturn, 1) := by decide +kernel
theorem c10_17 : cd 10 17 = some (.iload 2, 1) := by decide +kernel
theorem c10_18 : cd 10 18 = some (.tableswitch 116 0 5 #[56, 66, 76, 86, 96, 106], 38) := by decide +kernel
theorem c10_56 : cd 10 56 = some (.aload 0, 1) := by decide +kernel
theorem c10_57 : cd 10 57 = some (.getfield 3078, 3) := by decide +kernel
theorem c10_60 : cd 10 60 = some (.sipush 6, 2) := by decide +kernel
theorem c10_62 : cd 10 62 = some (.iload 1, 1) := by decide +kernel
theorem c10_63 : cd 10 63 = some (.iadd, 1) := by decide +kernel
theorem c10_64 : cd 10 64 = some (.iaload, 1) := by decide +kernel
theorem c10_65 : cd 10 65 = some (.ireturn, 1) := by decide +kernel
theorem c10_66 : cd 10 66 = some (.aload 0, 1) := by decide +kernel
theorem c10_67 : cd 10 67 = some (.getfield 3078, 3) := by decide +kernel
theorem c10_70 : cd 10 70 = some (.sipush 64, 2) := by decide +kernel
theorem c10_72 : cd 10 72 = some (.iload 1, 1) := by decide +kernel
theorem c10_73 : cd 10 73 = some (.iadd, 1) := by decide +kernel
theorem c10_74 : cd 10 74 = some (.iaload, 1) := by decide +kernel
theorem c10_75 : cd 10 75 = some (.ireturn, 1) := by decide +kernel
theorem c10_76 : cd 10 76 = some (.aload 0, 1) := by decide +kernel
theorem c10_77 : cd 10 77 = some (.getfield 3078, 3) := by decide +kernel
theorem c10_80 : cd 10 80 = some (.sipush 80, 2) := by decide +kernel
theorem c10_82 : cd 10 82 = some (.iload 1, 1) := by decide +kernel
theorem c10_83 : cd 10 83 = some (.iadd, 1) := by decide +kernel
theorem c10_84 : cd 10 84 = some (.iaload, 1) := by decide +kernel
theorem c10_85 : cd 10 85 = some (.ireturn, 1) := by decide +kernel
theorem c10_86 : cd 10 86 = some (.aload 0, 1) := by decide +kernel
theorem c10_87 : cd 10 87 = some (.getfield 3078, 3) := by decide +kernel
theorem c10_90 : cd 10 90 = some (.sipush 96, 2) := by decide +kernel
theorem c10_92 : cd 10 92 = some (.iload 1, 1) := by decide +kernel
theorem c10_93 : cd 10 93 = some (.iadd, 1) := by decide +kernel
theorem c10_94 : cd 10 94 = some (.iaload, 1) := by decide +kernel
theorem c10_95 : cd 10 95 = some (.ireturn, 1) := by decide +kernel
theorem c10_96 : cd 10 96 = some (.aload 0, 1) := by decide +kernel
theorem c10_97 : cd 10 97 = some (.getfield 3078, 3) := by decide +kernel
theorem c10_100 : cd 10 100 = some (.sipush 22, 2) := by decide +kernel
theorem c10_102 : cd 10 102 = some (.iload 1, 1) := by decide +kernel
theorem c10_103 : cd 10 103 = some (.iadd, 1) := by decide +kernel
theorem c10_104 : cd 10 104 = some (.iaload, 1) := by decide +kernel
theorem c10_105 : cd 10 105 = some (.ireturn, 1) := by decide +kernel
theorem c10_106 : cd 10 106 = some (.aload 0, 1) := by decide +kernel
theorem c10_107 : cd 10 107 = some (.getfield 3078, 3) := by decide +kernel
theorem c10_110 : cd 10 110 = some (.sipush 38, 2) := by decide +kernel
theorem c10_112 : cd 10 112 = some (.iload 1, 1) := by decide +kernel
theorem c10_113 : cd 10 113 = some (.iadd, 1) := by decide +kernel
theorem c10_114 : cd 10 114 = some (.iaload, 1) := by decide +kernel
theorem c10_115 : cd 10 115 = some (.ireturn, 1) := by decide +kernel
theorem c10_116 : cd 10 116 = some (.sipush (-2), 2) := by decide +kernel
theorem c10_118 : cd 10 118 = some (.ireturn, 1) := by decide +kernel
theorem sw10_18 {d : Nat} {ls : List (Option aV)} {st : List aV} {w : aW} {Q : Option aV → aW → Prop} {x : Int} : T d 10 18 ls (vi x :: st) w Q = ((x = 0 → T d 10 56 ls st w Q) ∧ (x = 1 → T d 10 66 ls st w Q) ∧ (x = 2 → T d 10 76 ls st w Q) ∧ (x = 3 → T d 10 86 ls st w Q) ∧ (x = 4 → T d 10 96 ls st w Q) ∧ (x = 5 → T d 10 106 ls st w Q) ∧ (¬ x = 0 ∧ ¬ x = 1 ∧ ¬ x = 2 ∧ ¬ x = 3 ∧ ¬ x = 4 ∧ ¬ x = 5 → T d 10 116 ls st w Q)) := by
  rw [T_tab c10_18]
  apply propext
  constructor
  · intro h
    refine ⟨fun q => by subst q; exact h, fun q => by subst q; exact h, fun q => by subst q; exact h, fun q => by subst q; exact h, fun q => by subst q; exact h, fun q => by subst q; exact h, fun q => ?_⟩
    · have e : (if x < 0 ∨ 5 < x then (116 : Int).toNat else ((#[56, 66, 76, 86, 96, 106] : Array Int).toList.getD (x - 0).toNat 116).toNat) = 116 := by rw [if_pos (by omega)]; rfl
      rw [e] at h; exact h
  · rintro ⟨h0, h1, h2, h3, h4, h5, hd⟩
    by_cases n0 : x = 0
    · subst n0; exact h0 rfl
    by_cases n1 : x = 1
    · subst n1; exact h1 rfl
    by_cases n2 : x = 2
    · subst n2; exact h2 rfl
    by_cases n3 : x = 3
    · subst n3; exact h3 rfl
    by_cases n4 : x = 4
    · subst n4; exact h4 rfl
    by_cases n5 : x = 5
    · subst n5; exact h5 rfl
    · have e : (if x < 0 ∨ 5 < x then (116 : Int).toNat else ((#[56, 66, 76, 86, 96, 106] : Array Int).toList.getD (x - 0).toNat 116).toNat) = 116 := by rw [if_pos (by omega)]; rfl
      rw [e]; exact hd ⟨n0, n1, n2, n3, n4, n5⟩
theorem g10_0 {d : Nat} {a1 : Int} {x2 : Option aV} {w : aW} {Q : Option aV → aW → Prop} : T (d + 1) 10 0 [some (vr 167), some (vi a1), x2] [] w Q = T d 127 0 [some (vr 167), some (vl a1), none] [] (iup w 167 0 0) (fun r w1 => T (d + 1) 10 11 [some (vr 167), some (vi a1), x2] (r.toList ++ []) w1 Q) := by
  rw [T_aload_0 c10_0, T_sipush c10_1, T_putI 12 0 0 c10_2 rfl rfl rfl rfl, T_aload_0 c10_5, T_iload_1 c10_6, T_i2l c10_7, T_invv (es := [some (vr 167), some (vl a1), none]) (st := [vl a1, vr 167]) (ks := [2, 1]) (n := 3) (c := 12) (k := 167) (as := [vl a1]) (rest := []) c10_8 (by decide +kernel) (by decide +kernel) (by decide +kernel) (by decide) rfl rfl (Nat.le_of_ble_eq_true rfl)]
  all_goals try simp only [lay_167, true_and, Nat.reduceAdd, eq_self_iff_true]
theorem g10_11 {d : Nat} {a1 a2 s0 : Int} {w : aW} {Q : Option aV → aW → Prop} : T d 10 11 [some (vr 167), some (vi a1), some (vi a2)] [vi s0] w Q = ((¬ s0 = 0 → ((a2 = 0 → ((0 ≤ w32 (6 + a1) ∧ w32 (6 + a1) < 4932) ∧ Q (some (vi (w 168 (w32 (6 + a1))))) w)) ∧ (a2 = 1 → ((0 ≤ w32 (64 + a1) ∧ w32 (64 + a1) < 4932) ∧ Q (some (vi (w 168 (w32 (64 + a1))))) w)) ∧ (a2 = 2 → ((0 ≤ w32 (80 + a1) ∧ w32 (80 + a1) < 4932) ∧ Q (some (vi (w 168 (w32 (80 + a1))))) w)) ∧ (a2 = 3 → ((0 ≤ w32 (96 + a1) ∧ w32 (96 + a1) < 4932) ∧ Q (some (vi (w 168 (w32 (96 + a1))))) w)) ∧ (a2 = 4 → ((0 ≤ w32 (22 + a1) ∧ w32 (22 + a1) < 4932) ∧ Q (some (vi (w 168 (w32 (22 + a1))))) w)) ∧ (a2 = 5 → ((0 ≤ w32 (38 + a1) ∧ w32 (38 + a1) < 4932) ∧ Q (some (vi (w 168 (w32 (38 + a1))))) w)) ∧ (¬ a2 = 0 ∧ ¬ a2 = 1 ∧ ¬ a2 = 2 ∧ ¬ a2 = 3 ∧ ¬ a2 = 4 ∧ ¬ a2 = 5 → Q (some (vi (-2))) w))) ∧ (¬ (¬ s0 = 0) → Q (some (vi (-2))) w)) := by
  rw [T_if_ne 17 c10_11 rfl, T_iload_2 c10_17, sw10_18, T_aload_0 c10_56, T_getR 12 1 1 c10_57 rfl rfl rfl rfl, rf_167_1, T_sipush c10_60, T_iload_1 c10_62, T_iadd c10_63, T_iald c10_64, T_ireti c10_65 (by decide +kernel), T_aload_0 c10_66, T_getR 12 1 1 c10_67 rfl rfl rfl rfl, rf_167_1, T_sipush c10_70, T_iload_1 c10_72, T_iadd c10_73, T_iald c10_74, T_ireti c10_75 (by decide +kernel), T_aload_0 c10_76, T_getR 12 1 1 c10_77 rfl rfl rfl rfl, rf_167_1, T_sipush c10_80, T_iload_1 c10_82, T_iadd c10_83, T_iald c10_84, T_ireti c10_85 (by decide +kernel), T_aload_0 c10_86, T_getR 12 1 1 c10_87 rfl rfl rfl rfl, rf_167_1, T_sipush c10_90, T_iload_1 c10_92, T_iadd c10_93, T_iald c10_94, T_ireti c10_95 (by decide +kernel), T_aload_0 c10_96, T_getR 12 1 1 c10_97 rfl rfl rfl rfl, rf_167_1, T_sipush c10_100, T_iload_1 c10_102, T_iadd c10_103, T_iald c10_104, T_ireti c10_105 (by decide +kernel), T_aload_0 c10_106, T_getR 12 1 1 c10_107 rfl rfl rfl rfl, rf_167_1, T_sipush c10_110, T_iload_1 c10_112, T_iadd c10_113, T_iald c10_114, T_ireti c10_115 (by decide +kernel), T_sipush c10_116, T_ireti c10_118 (by decide +kernel), T_sipush c10_14, T_ireti c10_16 (by decide +kernel)]
  all_goals try simp only [Int.reduceToNat, lay_167, ld_168, true_and, Nat.reduceAdd, eq_self_iff_true]
/-! 11: StringHands.nudge.(I)I -/
theorem c11_0 : cd 11 0 = some (.aload 0, 1) := by decide +kernel
theorem c11_1 : cd 11 1 = some (.iload 1, 1) := by decide +kernel
theorem c11_2 : cd 11 2 = some (.invokevirtual 116, 3) := by decide +kernel
theorem c11_5 : cd 11 5 = some (.ifCond .ne 11, 3) := by decide +kernel
theorem c11_8 : cd 11 8 = some (.sipush (-2), 2) := by decide +kernel
theorem c11_10 : cd 11 10 = some (.ireturn, 1) := by decide +kernel
theorem c11_11 : cd 11 11 = some (.aload 0, 1) := by decide +kernel
theorem c11_12 : cd 11 12 = some (.invokevirtual 128, 3) := by decide +kernel
theorem c11_15 : cd 11 15 = some (.aload 0, 1) := by decide +kernel
theorem c11_16 : cd 11 16 = some (.getfield 2854, 3) := by decide +kernel
theorem c11_19 : cd 11 19 = some (.dup, 1) := by decide +kernel
theorem c11_20 : cd 11 20 = some (.getfield 1536, 3) := by decide +kernel
theorem c11_23 : cd 11 23 = some (.sipush 1, 1) := by decide +kernel
theorem c11_24 : cd 11 24 = some (.iload 1, 1) := by decide +kernel
theorem c11_25 : cd 11 25 = some (.ishl, 1) := by decide +kernel
theorem c11_26 : cd 11 26 = some (.ixor, 1) := by decide +kernel
theorem c11_27 : cd 11 27 = some (.putfield 1536, 3) := by decide +kernel
theorem c11_30 : cd 11 30 = some (.aload 0, 1) := by decide +kernel
theorem c11_31 : cd 11 31 = some (.getfield 2854, 3) := by decide +kernel
theorem c11_34 : cd 11 34 = some (.getfield 1536, 3) := by decide +kernel
theorem c11_37 : cd 11 37 = some (.ireturn, 1) := by decide +kernel
theorem g11_0 {d : Nat} {a1 : Int} {w : aW} {Q : Option aV → aW → Prop} : T (d + 1) 11 0 [some (vr 0), some (vi a1)] [] w Q = T d 116 0 [some (vr 0), some (vi a1)] [] w (fun r w1 => T (d + 1) 11 5 [some (vr 0), some (vi a1)] (r.toList ++ []) w1 Q) := by
  rw [T_aload_0 c11_0, T_iload_1 c11_1, T_invv (es := [some (vr 0), some (vi a1)]) (st := [vi a1, vr 0]) (ks := [2, 0]) (n := 2) (c := 11) (k := 0) (as := [vi a1]) (rest := []) c11_2 (by decide +kernel) (by decide +kernel) (by decide +kernel) (by decide) rfl rfl (Nat.le_of_ble_eq_true rfl)]
  all_goals try simp only [lay_0, true_and, Nat.reduceAdd, eq_self_iff_true]
theorem g11_5 {d : Nat} {s0 : Int} {x1 : Option aV} {w : aW} {Q : Option aV → aW → Prop} : T (d + 1) 11 5 [some (vr 0), x1] [vi s0] w Q = ((¬ s0 = 0 → T d 128 0 [some (vr 0), none, none] [] w (fun r w1 => T (d + 1) 11 15 [some (vr 0), x1] (r.toList ++ []) w1 Q)) ∧ (¬ (¬ s0 = 0) → Q (some (vi (-2))) w)) := by
  rw [T_if_ne 11 c11_5 rfl, T_aload_0 c11_11, T_invv (es := [some (vr 0), none, none]) (st := [vr 0]) (ks := [2]) (n := 3) (c := 11) (k := 0) (as := []) (rest := []) c11_12 (by decide +kernel) (by decide +kernel) (by decide +kernel) (by decide) rfl rfl (Nat.le_of_ble_eq_true rfl), T_sipush c11_8, T_ireti c11_10 (by decide +kernel)]
  all_goals try simp only [Int.reduceToNat, lay_0, true_and, Nat.reduceAdd, eq_self_iff_true]
theorem g11_15 {d : Nat} {a1 : Int} {w : aW} {Q : Option aV → aW → Prop} : T d 11 15 [some (vr 0), some (vi a1)] [] w Q = Q (some (vi ((iup w 79 0 (jxor (w 79 0) (jshl 1 a1))) 79 0))) (iup w 79 0 (jxor (w 79 0) (jshl 1 a1))) := by
  rw [T_aload_0 c11_15, T_getR 11 9 9 c11_16 rfl rfl rfl rfl, rf_0_9, T_dup_r c11_19, T_getI 6 0 0 c11_20 rfl rfl rfl rfl, T_sipush c11_23, T_iload_1 c11_24, T_ishl c11_25, T_ixor c11_26, T_putI 6 0 0 c11_27 rfl rfl rfl rfl, T_aload_0 c11_30, T_getR 11 9 9 c11_31 rfl rfl rfl rfl, rf_0_9, T_getI 6 0 0 c11_34 rfl rfl rfl rfl, T_ireti c11_37 (by decide +kernel)]
  all_goals try simp only [lay_0, lay_79, true_and, Nat.reduceAdd, eq_self_iff_true]
/-! 12: StringHandsModel.nudge.(I)I -/
theorem c12_0 : cd 12 0 = some (.aload 0, 1) := by decide +kernel
theorem c12_1 : cd 12 1 = some (.sipush 0, 1) := by decide +kernel
theorem c12_2 : cd 12 2 = some (.putfield 3072, 3) := by decide +kernel
theorem c12_5 : cd 12 5 = some (.aload 0, 1) := by decide +kernel
theorem c12_6 : cd 12 6 = some (.iload 1, 1) := by decide +kernel
theorem c12_7 : cd 12 7 = some (.i2l, 1) := by decide +kernel
theorem c12_8 : cd 12 8 = some (.invokevirtual 121, 3) := by decide +kernel
theorem c12_11 : cd 12 11 = some (.ifCond .ne 17, 3) := by decide +kernel
theorem c12_14 : cd 12 14 = some (.sipush (-2), 2) := by decide +kernel
theorem c12_16 : cd 12 16 = some (.ireturn, 1) := by decide +kernel
theorem c12_17 : cd 12 17 = some (.aload 0, 1) := by decide +kernel
theorem c12_18 : cd 12 18 = some (.invokevirtual 129, 3) := by decide +kernel
theorem c12_21 : cd 12 21 = some (.aload 0, 1) := by decide +kernel
theorem c12_22 : cd 12 22 = some (.getfield 3078, 3) := by decide +kernel
theorem c12_25 : cd 12 25 = some (.sipush 5, 1) := by decide +kernel
theorem c12_26 : cd 12 26 = some (.dup2, 1) := by decide +kernel
theorem c12_27 : cd 12 27 = some (.iaload, 1) := by decide +kernel
theorem c12_28 : cd 12 28 = some (.sipush 1, 1) := by decide +kernel
theorem c12_29 : cd 12 29 = some (.iload 1, 1) := by decide +kernel
theorem c12_30 : cd 12 30 = some (.ishl, 1) := by decide +kernel
theorem c12_31 : cd 12 31 = some (.ixor, 1) := by decide +kernel
theorem c12_32 : cd 12 32 = some (.iastore, 1) := by decide +kernel
theorem c12_33 : cd 12 33 = some (.aload 0, 1) := by decide +kernel
theorem c12_34 : cd 12 34 = some (.invokevirtual 130, 3) := by decide +kernel
theorem c12_37 : cd 12 37 = some (.aload 0, 1) := by decide +kernel
theorem c12_38 : cd 12 38 = some (.getfield 3078, 3) := by decide +kernel
theorem c12_41 : cd 12 41 = some (.sipush 5, 1) := by decide +kernel
theorem c12_42 : cd 12 42 = some (.iaload, 1) := by decide +kernel
theorem c12_43 : cd 12 43 = some (.ireturn, 1) := by decide +kernel
theorem g12_0 {d : Nat} {a1 : Int} {w : aW} {Q : Option aV → aW → Prop} : T (d + 1) 12 0 [some (vr 167), some (vi a1)] [] w Q = T d 121 0 [some (vr 167), some (vl a1), none] [] (iup w 167 0 0) (fun r w1 => T (d + 1) 12 11 [some (vr 167), some (vi a1)] (r.toList ++ []) w1 Q) := by
  rw [T_aload_0 c12_0, T_sipush c12_1, T_putI 12 0 0 c12_2 rfl rfl rfl rfl, T_aload_0 c12_5, T_iload_1 c12_6, T_i2l c12_7, T_invv (es := [some (vr 167), some (vl a1), none]) (st := [vl a1, vr 167]) (ks := [2, 1]) (n := 3) (c := 12) (k := 167) (as := [vl a1]) (rest := []) c12_8 (by decide +kernel) (by decide +kernel) (by decide +kernel) (by decide) rfl rfl (Nat.le_of_ble_eq_true rfl)]
  all_goals try simp only [lay_167, true_and, Nat.reduceAdd, eq_self_iff_true]
theorem g12_11 {d : Nat} {s0 : Int} {x1 : Option aV} {w : aW} {Q : Option aV → aW → Prop} : T (d + 1) 12 11 [some (vr 167), x1] [vi s0] w Q = ((¬ s0 = 0 → T d 129 0 [some (vr 167), none] [] w (fun r w1 => T (d + 1) 12 21 [some (vr 167), x1] (r.toList ++ []) w1 Q)) ∧ (¬ (¬ s0 = 0) → Q (some (vi (-2))) w)) := by
  rw [T_if_ne 17 c12_11 rfl, T_aload_0 c12_17, T_invv (es := [some (vr 167), none]) (st := [vr 167]) (ks := [2]) (n := 2) (c := 12) (k := 167) (as := []) (rest := []) c12_18 (by decide +kernel) (by decide +kernel) (by decide +kernel) (by decide) rfl rfl (Nat.le_of_ble_eq_true rfl), T_sipush c12_14, T_ireti c12_16 (by decide +kernel)]
  all_goals try simp only [Int.reduceToNat, lay_167, true_and, Nat.reduceAdd, eq_self_iff_true]
theorem g12_21 {d : Nat} {a1 : Int} {w : aW} {Q : Option aV → aW → Prop} : T (d + 1) 12 21 [some (vr 167), some (vi a1)] [] w Q = T d 130 0 [some (vr 167), none] [] (iup w 168 5 (jxor (w 168 5) (jshl 1 a1))) (fun r w1 => T (d + 1) 12 37 [some (vr 167), some (vi a1)] (r.toList ++ []) w1 Q) := by
  rw [T_aload_0 c12_21, T_getR 12 1 1 c12_22 rfl rfl rfl rfl, rf_167_1, T_sipush c12_25, T_dup2 c12_26, T_iald c12_27, T_sipush c12_28, T_iload_1 c12_29, T_ishl c12_30, T_ixor c12_31, T_iast c12_32, T_aload_0 c12_33, T_invv (es := [some (vr 167), none]) (st := [vr 167]) (ks := [2]) (n := 2) (c := 12) (k := 167) (as := []) (rest := []) c12_34 (by decide +kernel) (by decide +kernel) (by decide +kernel) (by decide) rfl rfl (Nat.le_of_ble_eq_true rfl)]
  all_goals try simp only [Int.reduceLE, Int.reduceLT, and_self, ia0_168, lay_167, ld_168, true_and, Nat.reduceAdd, eq_self_iff_true]
theorem g12_37 {d : Nat} {x1 : Option aV} {w : aW} {Q : Option aV → aW → Prop} : T d 12 37 [some (vr 167), x1] [] w Q = Q (some (vi (w 168 5))) w := by
  rw [T_aload_0 c12_37, T_getR 12 1 1 c12_38 rfl rfl rfl rfl, rf_167_1, T_sipush c12_41, T_iald c12_42, T_ireti c12_43 (by decide +kernel)]
  all_goals try simp only [Int.reduceLE, Int.reduceLT, and_self, lay_167, ld_168, true_and, Nat.reduceAdd, eq_self_iff_true]
/-! 13: StringHands.strike.(I)I -/
theorem c13_0 : cd 13 0 = some (.aload 0, 1) := by decide +kernel
theorem c13_1 : cd 13 1 = some (.iload 1, 1) := by decide +kernel
theorem c13_2 : cd 13 2 = some (.invokevirtual 131, 3) := by decide +kernel
theorem c13_5 : cd 13 5 = some (.ifCond .ne 11, 3) := by decide +kernel
theorem c13_8 : cd 13 8 = some (.sipush (-3), 2) := by decide +kernel
theorem c13_10 : cd 13 10 = some (.ireturn, 1) := by decide +kernel
theorem c13_11 : cd 13 11 = some (.aload 0, 1) := by decide +kernel
theorem c13_12 : cd 13 12 = some (.getfield 2854, 3) := by decide +kernel
theorem c13_15 : cd 13 15 = some (.getfield 1536, 3) := by decide +kernel
theorem c13_18 : cd 13 18 = some (.iload 1, 1) := by decide +kernel
theorem c13_19 : cd 13 19 = some (.ixor, 1) := by decide +kernel
theorem c13_20 : cd 13 20 = some (.invokestatic 132, 3) := by decide +kernel
theorem c13_23 : cd 13 23 = some (.istore 2, 1) := by decide +kernel
theorem c13_24 : cd 13 24 = some (.iload 2, 1) := by decide +kernel
theorem c13_25 : cd 13 25 = some (.ifCond .le 40, 3) := by decide +kernel
theorem c13_28 : cd 13 28 = some (.aload 0, 1) := by decide +kernel
theorem c13_29 : cd 13 29 = some (.invokevirtual 128, 3) := by decide +kernel
theorem c13_32 : cd 13 32 = some (.aload 0, 1) := by decide +kernel
theorem c13_33 : cd 13 33 = some (.getfield 2854, 3) := by decide +kernel
theorem c13_36 : cd 13 36 = some (.iload 1, 1) := by decide +kernel
theorem c13_37 : cd 13 37 = some (.putfield 1536, 3) := by decide +kernel
theorem c13_40 : cd 13 40 = some (.iload 2, 1) := by decide +kernel
theorem c13_41 : cd 13 41 = some (.ireturn, 1) := by decide +kernel
theorem g13_0 {d : Nat} {a1 : Int} {x2 : Option aV} {w : aW} {Q : Option aV → aW → Prop} : T (d + 1) 13 0 [some (vr 0), some (vi a1), x2] [] w Q = T d 131 0 [some (vr 0), some (vi a1)] [] w (fun r w1 => T (d + 1) 13 5 [some (vr 0), some (vi a1), x2] (r.toList ++ []) w1 Q) := by
  rw [T_aload_0 c13_0, T_iload_1 c13_1, T_invv (es := [some (vr 0), some (vi a1)]) (st := [vi a1, vr 0]) (ks := [2, 0]) (n := 2) (c := 11) (k := 0) (as := [vi a1]) (rest := []) c13_2 (by decide +kernel) (by decide +kernel) (by decide +kernel) (by decide) rfl rfl (Nat.le_of_ble_eq_true rfl)]
  all_goals try simp only [lay_0, true_and, Nat.reduceAdd, eq_self_iff_true]
theorem g13_5 {d : Nat} {a1 s0 : Int} {x2 : Option aV} {w : aW} {Q : Option aV → aW → Prop} : T (d + 1) 13 5 [some (vr 0), some (vi a1), x2] [vi s0] w Q = ((¬ s0 = 0 → T d 132 0 [some (vi (jxor (w 79 0) a1))] [] w (fun r w1 => T (d + 1) 13 23 [some (vr 0), some (vi a1), x2] (r.toList ++ []) w1 Q)) ∧ (¬ (¬ s0 = 0) → Q (some (vi (-3))) w)) := by
  rw [T_if_ne 11 c13_5 rfl, T_aload_0 c13_11, T_getR 11 9 9 c13_12 rfl rfl rfl rfl, rf_0_9, T_getI 6 0 0 c13_15 rfl rfl rfl rfl, T_iload_1 c13_18, T_ixor c13_19, T_inv (es := [some (vi (jxor (w 79 0) a1))]) (st := [vi (jxor (w 79 0) a1)]) (ks := [0]) (n := 1) (as := [vi (jxor (w 79 0) a1)]) (rest := []) c13_20 (by decide +kernel) (by decide +kernel) rfl rfl (Nat.le_of_ble_eq_true rfl), T_sipush c13_8, T_ireti c13_10 (by decide +kernel)]
  all_goals try simp only [Int.reduceToNat, lay_0, lay_79, true_and, Nat.reduceAdd, eq_self_iff_true]
theorem g13_23 {d : Nat} {s0 : Int} {x1 x2 : Option aV} {w : aW} {Q : Option aV → aW → Prop} : T (d + 1) 13 23 [some (vr 0), x1, x2] [vi s0] w Q = ((s0 ≤ 0 → T (d + 1) 13 40 [some (vr 0), x1, some (vi s0)] [] w Q) ∧ (¬ (s0 ≤ 0) → T d 128 0 [some (vr 0), none, none] [] w (fun r w1 => T (d + 1) 13 32 [some (vr 0), x1, some (vi s0)] (r.toList ++ []) w1 Q))) := by
  rw [T_istore_2 c13_23, T_iload_2 c13_24, T_if_le 40 c13_25 rfl, T_aload_0 c13_28, T_invv (es := [some (vr 0), none, none]) (st := [vr 0]) (ks := [2]) (n := 3) (c := 11) (k := 0) (as := []) (rest := []) c13_29 (by decide +kernel) (by decide +kernel) (by decide +kernel) (by decide) rfl rfl (Nat.le_of_ble_eq_true rfl)]
  all_goals try simp only [Int.reduceToNat, lay_0, true_and, Nat.reduceAdd, eq_self_iff_true]
theorem g13_32 {d : Nat} {a1 : Int} {x2 : Option aV} {w : aW} {Q : Option aV → aW → Prop} : T d 13 32 [some (vr 0), some (vi a1), x2] [] w Q = T d 13 40 [some (vr 0), some (vi a1), x2] [] (iup w 79 0 a1) Q := by
  rw [T_aload_0 c13_32, T_getR 11 9 9 c13_33 rfl rfl rfl rfl, rf_0_9, T_iload_1 c13_36, T_putI 6 0 0 c13_37 rfl rfl rfl rfl]
  all_goals try simp only [lay_0, lay_79, true_and, Nat.reduceAdd, eq_self_iff_true]
theorem g13_40 {d : Nat} {a2 : Int} {x0 x1 : Option aV} {w : aW} {Q : Option aV → aW → Prop} : T d 13 40 [x0, x1, some (vi a2)] [] w Q = Q (some (vi a2)) w := by
  rw [T_iload_2 c13_40, T_ireti c13_41 (by decide +kernel)]
  all_goals try simp only [true_and, Nat.reduceAdd, eq_self_iff_true]
/-! 14: StringHandsModel.strike.(I)I -/
theorem c14_0 : cd 14 0 = some (.aload 0, 1) := by decide +kernel
theorem c14_1 : cd 14 1 = some (.sipush 0, 1) := by decide +kernel
theorem c14_2 : cd 14 2 = some (.putfield 3072, 3) := by decide +kernel
theorem c14_5 : cd 14 5 = some (.aload 0, 1) := by decide +kernel
theorem c14_6 : cd 14 6 = some (.iload 1, 1) := by decide +kernel
theorem c14_7 : cd 14 7 = some (.i2l, 1) := by decide +kernel
theorem c14_8 : cd 14 8 = some (.invokevirtual 133, 3) := by decide +kernel
theorem c14_11 : cd 14 11 = some (.ifCond .ne 17, 3) := by decide +kernel
theorem c14_14 : cd 14 14 = some (.sipush (-3), 2) := by decide +kernel
theorem c14_16 : cd 14 16 = some (.ireturn, 1) := by decide +kernel
theorem c14_17 : cd 14 17 = some (.iload 1, 1) := by decide +kernel
theorem c14_18 : cd 14 18 = some (.aload 0, 1) := by decide +kernel
theorem c14_19 : cd 14 19 = some (.getfield 3078, 3) := by decide +kernel
theorem c14_22 : cd 14 22 = some (.sipush 5, 1) := by decide +kernel
theorem c14_23 : cd 14 23 = some (.iaload, 1) := by decide +kernel
theorem c14_24 : cd 14 24 = some (.ixor, 1) := by decide +kernel
theorem c14_25 : cd 14 25 = some (.invokestatic 134, 3) := by decide +kernel
theorem c14_28 : cd 14 28 = some (.istore 2, 1) := by decide +kernel
theorem c14_29 : cd 14 29 = some (.iload 2, 1) := by decide +kernel
theorem c14_30 : cd 14 30 = some (.ifCond .ne 35, 3) := by decide +kernel
theorem c14_33 : cd 14 33 = some (.sipush 0, 1) := by decide +kernel
theorem c14_34 : cd 14 34 = some (.ireturn, 1) := by decide +kernel
theorem c14_35 : cd 14 35 = some (.aload 0, 1) := by decide +kernel
theorem c14_36 : cd 14 36 = some (.invokevirtual 129, 3) := by decide +kernel
theorem c14_39 : cd 14 39 = some (.aload 0, 1) := by decide +kernel
theorem c14_40 : cd 14 40 = some (.getfield 3078, 3) := by decide +kernel
theorem c14_43 : cd 14 43 = some (.sipush 5, 1) := by decide +kernel
theorem c14_44 : cd 14 44 = some (.iload 1, 1) := by decide +kernel
theorem c14_45 : cd 14 45 = some (.iastore, 1) := by decide +kernel
theorem c14_46 : cd 14 46 = some (.aload 0, 1) := by decide +kernel
theorem c14_47 : cd 14 47 = some (.invokevirtual 130, 3) := by decide +kernel
theorem c14_50 : cd 14 50 = some (.iload 2, 1) := by decide +kernel
theorem c14_51 : cd 14 51 = some (.ireturn, 1) := by decide +kernel
theorem g14_0 {d : Nat} {a1 : Int} {x2 : Option aV} {w : aW} {Q : Option aV → aW → Prop} : T (d + 1) 14 0 [some (vr 167), some (vi a1), x2] [] w Q = T d 133 0 [some (vr 167), some (vl a1), none] [] (iup w 167 0 0) (fun r w1 => T (d + 1) 14 11 [some (vr 167), some (vi a1), x2] (r.toList ++ []) w1 Q) := by
  rw [T_aload_0 c14_0, T_sipush c14_1, T_putI 12 0 0 c14_2 rfl rfl rfl rfl, T_aload_0 c14_5, T_iload_1 c14_6, T_i2l c14_7, T_invv (es := [some (vr 167), some (vl a1), none]) (st := [vl a1, vr 167]) (ks := [2, 1]) (n := 3) (c := 12) (k := 167) (as := [vl a1]) (rest := []) c14_8 (by decide +kernel) (by decide +kernel) (by decide +kernel) (by decide) rfl rfl (Nat.le_of_ble_eq_true rfl)]
  all_goals try simp only [lay_167, true_and, Nat.reduceAdd, eq_self_iff_true]
theorem g14_11 {d : Nat} {a1 s0 : Int} {x2 : Option aV} {w : aW} {Q : Option aV → aW → Prop} : T (d + 1) 14 11 [some (vr 167), some (vi a1), x2] [vi s0] w Q = ((¬ s0 = 0 → T d 134 0 [some (vi (jxor a1 (w 168 5))), none, none] [] w (fun r w1 => T (d + 1) 14 28 [some (vr 167), some (vi a1), x2] (r.toList ++ []) w1 Q)) ∧ (¬ (¬ s0 = 0) → Q (some (vi (-3))) w)) := by
  rw [T_if_ne 17 c14_11 rfl, T_iload_1 c14_17, T_aload_0 c14_18, T_getR 12 1 1 c14_19 rfl rfl rfl rfl, rf_167_1, T_sipush c14_22, T_iald c14_23, T_ixor c14_24, T_inv (es := [some (vi (jxor a1 (w 168 5))), none, none]) (st := [vi (jxor a1 (w 168 5))]) (ks := [0]) (n := 3) (as := [vi (jxor a1 (w 168 5))]) (rest := []) c14_25 (by decide +kernel) (by decide +kernel) rfl rfl (Nat.le_of_ble_eq_true rfl), T_sipush c14_14, T_ireti c14_16 (by decide +kernel)]
  all_goals try simp only [Int.reduceLE, Int.reduceLT, Int.reduceToNat, and_self, lay_167, ld_168, true_and, Nat.reduceAdd, eq_self_iff_true]
theorem g14_28 {d : Nat} {s0 : Int} {x1 x2 : Option aV} {w : aW} {Q : Option aV → aW → Prop} : T (d + 1) 14 28 [some (vr 167), x1, x2] [vi s0] w Q = ((¬ s0 = 0 → T d 129 0 [some (vr 167), none] [] w (fun r w1 => T (d + 1) 14 39 [some (vr 167), x1, some (vi s0)] (r.toList ++ []) w1 Q)) ∧ (¬ (¬ s0 = 0) → Q (some (vi 0)) w)) := by
  rw [T_istore_2 c14_28, T_iload_2 c14_29, T_if_ne 35 c14_30 rfl, T_aload_0 c14_35, T_invv (es := [some (vr 167), none]) (st := [vr 167]) (ks := [2]) (n := 2) (c := 12) (k := 167) (as := []) (rest := []) c14_36 (by decide +kernel) (by decide +kernel) (by decide +kernel) (by decide) rfl rfl (Nat.le_of_ble_eq_true rfl), T_sipush c14_33, T_ireti c14_34 (by decide +kernel)]
  all_goals try simp only [Int.reduceToNat, lay_167, true_and, Nat.reduceAdd, eq_self_iff_true]
theorem g14_39 {d : Nat} {a1 : Int} {x2 : Option aV} {w : aW} {Q : Option aV → aW → Prop} : T (d + 1) 14 39 [some (vr 167), some (vi a1), x2] [] w Q = T d 130 0 [some (vr 167), none] [] (iup w 168 5 a1) (fun r w1 => T (d + 1) 14 50 [some (vr 167), some (vi a1), x2] (r.toList ++ []) w1 Q) := by
  rw [T_aload_0 c14_39, T_getR 12 1 1 c14_40 rfl rfl rfl rfl, rf_167_1, T_sipush c14_43, T_iload_1 c14_44, T_iast c14_45, T_aload_0 c14_46, T_invv (es := [some (vr 167), none]) (st := [vr 167]) (ks := [2]) (n := 2) (c := 12) (k := 167) (as := []) (rest := []) c14_47 (by decide +kernel) (by decide +kernel) (by decide +kernel) (by decide) rfl rfl (Nat.le_of_ble_eq_true rfl)]
  all_goals try simp only [Int.reduceLE, Int.reduceLT, and_self, ia0_168, lay_167, true_and, Nat.reduceAdd, eq_self_iff_true]
theorem g14_50 {d : Nat} {a2 : Int} {x0 x1 : Option aV} {w : aW} {Q : Option aV → aW → Prop} : T d 14 50 [x0, x1, some (vi a2)] [] w Q = Q (some (vi a2)) w := by
  rw [T_iload_2 c14_50, T_ireti c14_51 (by decide +kernel)]
  all_goals try simp only [true_and, Nat.reduceAdd, eq_self_iff_true]
/-! 15: StringHands.beat.(I)I -/
theorem c15_0 : cd 15 0 = some (.iload 1, 1) := by decide +kernel
theorem c15_1 : cd 15 1 = some (.sipush 1, 1) := by decide +kernel
theorem c15_2 : cd 15 2 = some (.if_icmp .lt 12, 3) := by decide +kernel
theorem c15_5 : cd 15 5 = some (.iload 1, 1) := by decide +kernel
theorem c15_6 : cd 15 6 = some (.sipush 200, 3) := by decide +kernel
theorem c15_9 : cd 15 9 = some (.if_icmp .le 15, 3) := by decide +kernel
theorem c15_12 : cd 15 12 = some (.sipush (-3), 2) := by decide +kernel
theorem c15_14 : cd 15 14 = some (.ireturn, 1) := by decide +kernel
theorem c15_15 : cd 15 15 = some (.aload 0, 1) := by decide +kernel
theorem c15_16 : cd 15 16 = some (.invokevirtual 128, 3) := by decide +kernel
theorem c15_19 : cd 15 19 = some (.sipush 0, 1) := by decide +kernel
theorem c15_20 : cd 15 20 = some (.istore 2, 1) := by decide +kernel
theorem c15_21 : cd 15 21 = some (.sipush 0, 1) := by decide +kernel
theorem c15_22 : cd 15 22 = some (.istore 3, 1) := by decide +kernel
theorem c15_23 : cd 15 23 = some (.iload 3, 1) := by decide +kernel
theorem c15_24 : cd 15 24 = some (.iload 1, 1) := by decide +kernel
theorem c15_25 : cd 15 25 = some (.if_icmp .ge 55, 3) := by decide +kernel
theorem c15_28 : cd 15 28 = some (.iload 2, 1) := by decide +kernel
theorem c15_29 : cd 15 29 = some (.aload 0, 1) := by decide +kernel
theorem c15_30 : cd 15 30 = some (.getfield 2822, 3) := by decide +kernel
theorem c15_33 : cd 15 33 = some (.aload 0, 1) := by decide +kernel
theorem c15_34 : cd 15 34 = some (.getfield 2850, 3) := by decide +kernel
theorem c15_37 : cd 15 37 = some (.aload 0, 1) := by decide +kernel
theorem c15_38 : cd 15 38 = some (.getfield 2854, 3) := by decide +kernel
theorem c15_41 : cd 15 41 = some (.invokevirtual 135, 3) := by decide +kernel
theorem c15_44 : cd 15 44 = some (.invokestatic 132, 3) := by decide +kernel
theorem c15_47 : cd 15 47 = some (.iadd, 1) := by decide +kernel
theorem c15_48 : cd 15 48 = some (.istore 2, 1) := by decide +kernel
theorem c15_49 : cd 15 49 = some (.iinc 3 1, 3) := by decide +kernel
theorem c15_52 : cd 15 52 = some (.goto 23, 3) := by decide +kernel
theorem c15_55 : cd 15 55 = some (.iload 2, 1) := by decide +kernel
theorem c15_56 : cd 15 56 = some (.ireturn, 1) := by decide +kernel
theorem g15_0 {d : Nat} {a1 : Int} {x2 x3 : Option aV} {w : aW} {Q : Option aV → aW → Prop} : T (d + 1) 15 0 [some (vr 0), some (vi a1), x2, x3] [] w Q = ((a1 < 1 → T (d + 1) 15 12 [some (vr 0), some (vi a1), x2, x3] [] w Q) ∧ (¬ (a1 < 1) → ((a1 ≤ 200 → T d 128 0 [some (vr 0), none, none] [] w (fun r w1 => T (d + 1) 15 19 [some (vr 0), some (vi a1), x2, x3] (r.toList ++ []) w1 Q)) ∧ (¬ (a1 ≤ 200) → T (d + 1) 15 12 [some (vr 0), some (vi a1), x2, x3] [] w Q)))) := by
  rw [T_iload_1 c15_0, T_sipush c15_1, T_icmp_lt 12 c15_2 rfl, T_iload_1 c15_5, T_sipush c15_6, T_icmp_le 15 c15_9 rfl, T_aload_0 c15_15, T_invv (es := [some (vr 0), none, none]) (st := [vr 0]) (ks := [2]) (n := 3) (c := 11) (k := 0) (as := []) (rest := []) c15_16 (by decide +kernel) (by decide +kernel) (by decide +kernel) (by decide) rfl rfl (Nat.le_of_ble_eq_true rfl)]
  all_goals try simp only [Int.reduceToNat, lay_0, true_and, Nat.reduceAdd, eq_self_iff_true]
theorem g15_12 {d : Nat} {x0 x1 x2 x3 : Option aV} {w : aW} {Q : Option aV → aW → Prop} : T d 15 12 [x0, x1, x2, x3] [] w Q = Q (some (vi (-3))) w := by
  rw [T_sipush c15_12, T_ireti c15_14 (by decide +kernel)]
  all_goals try simp only [true_and, Nat.reduceAdd, eq_self_iff_true]
theorem g15_19 {d : Nat} {x0 x1 x2 x3 : Option aV} {w : aW} {Q : Option aV → aW → Prop} : T d 15 19 [x0, x1, x2, x3] [] w Q = T d 15 23 [x0, x1, some (vi 0), some (vi 0)] [] w Q := by
  rw [T_sipush c15_19, T_istore_2 c15_20, T_sipush c15_21, T_istore_3 c15_22]
  all_goals try simp only [true_and, Nat.reduceAdd, eq_self_iff_true]
theorem g15_23 {d : Nat} {a1 a2 a3 : Int} {w : aW} {Q : Option aV → aW → Prop} : T (d + 1) 15 23 [some (vr 0), some (vi a1), some (vi a2), some (vi a3)] [] w Q = ((a1 ≤ a3 → Q (some (vi a2)) w) ∧ (¬ (a1 ≤ a3) → T d 135 0 [some (vr 16), some (vr 69), some (vr 79), none, none, none] [] w (fun r w1 => T (d + 1) 15 44 [some (vr 0), some (vi a1), some (vi a2), some (vi a3)] (r.toList ++ [vi a2]) w1 Q))) := by
  rw [T_iload_3 c15_23, T_iload_1 c15_24, T_icmp_ge 55 c15_25 rfl, T_iload_2 c15_55, T_ireti c15_56 (by decide +kernel), T_iload_2 c15_28, T_aload_0 c15_29, T_getR 11 1 1 c15_30 rfl rfl rfl rfl, rf_0_1, T_aload_0 c15_33, T_getR 11 8 8 c15_34 rfl rfl rfl rfl, rf_0_8, T_aload_0 c15_37, T_getR 11 9 9 c15_38 rfl rfl rfl rfl, rf_0_9, T_invv (es := [some (vr 16), some (vr 69), some (vr 79), none, none, none]) (st := [vr 79, vr 69, vr 16, vi a2]) (ks := [2, 2, 2]) (n := 6) (c := 2) (k := 16) (as := [vr 69, vr 79]) (rest := [vi a2]) c15_41 (by decide +kernel) (by decide +kernel) (by decide +kernel) (by decide) rfl rfl (Nat.le_of_ble_eq_true rfl)]
  all_goals try simp only [Int.reduceToNat, lay_0, lay_16, true_and, Nat.reduceAdd, eq_self_iff_true]
theorem g15_44 {d : Nat} {s0 s1 : Int} {x0 x1 x2 x3 : Option aV} {w : aW} {Q : Option aV → aW → Prop} : T (d + 1) 15 44 [x0, x1, x2, x3] [vi s1, vi s0] w Q = T d 132 0 [some (vi s1)] [] w (fun r w1 => T (d + 1) 15 47 [x0, x1, x2, x3] (r.toList ++ [vi s0]) w1 Q) := by
  rw [T_inv (es := [some (vi s1)]) (st := [vi s1, vi s0]) (ks := [0]) (n := 1) (as := [vi s1]) (rest := [vi s0]) c15_44 (by decide +kernel) (by decide +kernel) rfl rfl (Nat.le_of_ble_eq_true rfl)]
  all_goals try simp only [true_and, Nat.reduceAdd, eq_self_iff_true]
theorem g15_47 {d : Nat} {a3 s0 s1 : Int} {x0 x1 x2 : Option aV} {w : aW} {Q : Option aV → aW → Prop} : T d 15 47 [x0, x1, x2, some (vi a3)] [vi s1, vi s0] w Q = T d 15 23 [x0, x1, some (vi (w32 (s0 + s1))), some (vi (w32 (a3 + 1)))] [] w Q := by
  rw [T_iadd c15_47, T_istore_2 c15_48, T_iinc_3 c15_49, T_goto 23 c15_52 rfl]
  all_goals try simp only [true_and, Nat.reduceAdd, eq_self_iff_true]
/-! 16: StringHandsModel.beat.(I)I -/
theorem c16_0 : cd 16 0 = some (.aload 0, 1) := by decide +kernel
theorem c16_1 : cd 16 1 = some (.sipush 0, 1) := by decide +kernel
theorem c16_2 : cd 16 2 = some (.putfield 3072, 3) := by decide +kernel
theorem c16_5 : cd 16 5 = some (.iload 1, 1) := by decide +kernel
theorem c16_6 : cd 16 6 = some (.i2l, 1) := by decide +kernel
theorem c16_7 : cd 16 7 = some (.bipush 1, 1) := by decide +kernel
theorem c16_8 : cd 16 8 = some (.bipush 200, 3) := by decide +kernel
theorem c16_11 : cd 16 11 = some (.invokestatic 105, 3) := by decide +kernel
theorem c16_14 : cd 16 14 = some (.ifCond .ne 20, 3) := by decide +kernel
theorem c16_17 : cd 16 17 = some (.sipush (-3), 2) := by decide +kernel
theorem c16_19 : cd 16 19 = some (.ireturn, 1) := by decide +kernel
theorem c16_20 : cd 16 20 = some (.aload 0, 1) := by decide +kernel
theorem c16_21 : cd 16 21 = some (.invokevirtual 129, 3) := by decide +kernel
theorem c16_24 : cd 16 24 = some (.sipush 0, 1) := by decide +kernel
theorem c16_25 : cd 16 25 = some (.istore 2, 1) := by decide +kernel
theorem c16_26 : cd 16 26 = some (.sipush 0, 1) := by decide +kernel
theorem c16_27 : cd 16 27 = some (.istore 3, 1) := by decide +kernel
theorem c16_28 : cd 16 28 = some (.iload 3, 1) := by decide +kernel
theorem c16_29 : cd 16 29 = some (.iload 1, 1) := by decide +kernel
theorem c16_30 : cd 16 30 = some (.if_icmp .ge 46, 3) := by decide +kernel
theorem c16_33 : cd 16 33 = some (.iload 2, 1) := by decide +kernel
theorem c16_34 : cd 16 34 = some (.aload 0, 1) := by decide +kernel
theorem c16_35 : cd 16 35 = some (.invokevirtual 136, 3) := by decide +kernel
theorem c16_38 : cd 16 38 = some (.iadd, 1) := by decide +kernel
theorem c16_39 : cd 16 39 = some (.istore 2, 1) := by decide +kernel
theorem c16_40 : cd 16 40 = some (.iinc 3 1, 3) := by decide +kernel
theorem c16_43 : cd 16 43 = some (.goto 28, 3) := by decide +kernel
theorem c16_46 : cd 16 46 = some (.aload 0, 1) := by decide +kernel
theorem c16_47 : cd 16 47 = some (.invokevirtual 130, 3) := by decide +kernel
theorem c16_50 : cd 16 50 = some (.iload 2, 1) := by decide +kernel
theorem c16_51 : cd 16 51 = some (.ireturn, 1) := by decide +kernel
theorem g16_0 {d : Nat} {a1 : Int} {x2 x3 : Option aV} {w : aW} {Q : Option aV → aW → Prop} : T (d + 1) 16 0 [some (vr 167), some (vi a1), x2, x3] [] w Q = T d 105 0 [some (vl a1), none, some (vl 1), none, some (vl 200), none] [] (iup w 167 0 0) (fun r w1 => T (d + 1) 16 14 [some (vr 167), some (vi a1), x2, x3] (r.toList ++ []) w1 Q) := by
  rw [T_aload_0 c16_0, T_sipush c16_1, T_putI 12 0 0 c16_2 rfl rfl rfl rfl, T_iload_1 c16_5, T_i2l c16_6, T_bipush c16_7, T_bipush c16_8, T_inv (es := [some (vl a1), none, some (vl 1), none, some (vl 200), none]) (st := [vl 200, vl 1, vl a1]) (ks := [1, 1, 1]) (n := 6) (as := [vl a1, vl 1, vl 200]) (rest := []) c16_11 (by decide +kernel) (by decide +kernel) rfl rfl (Nat.le_of_ble_eq_true rfl)]
  all_goals try simp only [lay_167, true_and, Nat.reduceAdd, eq_self_iff_true]
theorem g16_14 {d : Nat} {s0 : Int} {x1 x2 x3 : Option aV} {w : aW} {Q : Option aV → aW → Prop} : T (d + 1) 16 14 [some (vr 167), x1, x2, x3] [vi s0] w Q = ((¬ s0 = 0 → T d 129 0 [some (vr 167), none] [] w (fun r w1 => T (d + 1) 16 24 [some (vr 167), x1, x2, x3] (r.toList ++ []) w1 Q)) ∧ (¬ (¬ s0 = 0) → Q (some (vi (-3))) w)) := by
  rw [T_if_ne 20 c16_14 rfl, T_aload_0 c16_20, T_invv (es := [some (vr 167), none]) (st := [vr 167]) (ks := [2]) (n := 2) (c := 12) (k := 167) (as := []) (rest := []) c16_21 (by decide +kernel) (by decide +kernel) (by decide +kernel) (by decide) rfl rfl (Nat.le_of_ble_eq_true rfl), T_sipush c16_17, T_ireti c16_19 (by decide +kernel)]
  all_goals try simp only [Int.reduceToNat, lay_167, true_and, Nat.reduceAdd, eq_self_iff_true]
theorem g16_24 {d : Nat} {x0 x1 x2 x3 : Option aV} {w : aW} {Q : Option aV → aW → Prop} : T d 16 24 [x0, x1, x2, x3] [] w Q = T d 16 28 [x0, x1, some (vi 0), some (vi 0)] [] w Q := by
  rw [T_sipush c16_24, T_istore_2 c16_25, T_sipush c16_26, T_istore_3 c16_27]
  all_goals try simp only [true_and, Nat.reduceAdd, eq_self_iff_true]
theorem g16_28 {d : Nat} {a1 a2 a3 : Int} {w : aW} {Q : Option aV → aW → Prop} : T (d + 1) 16 28 [some (vr 167), some (vi a1), some (vi a2), some (vi a3)] [] w Q = ((a1 ≤ a3 → T d 130 0 [some (vr 167), none] [] w (fun r w1 => T (d + 1) 16 50 [some (vr 167), some (vi a1), some (vi a2), some (vi a3)] (r.toList ++ []) w1 Q)) ∧ (¬ (a1 ≤ a3) → T d 136 0 [some (vr 167), none, none, none] [] w (fun r w1 => T (d + 1) 16 38 [some (vr 167), some (vi a1), some (vi a2), some (vi a3)] (r.toList ++ [vi a2]) w1 Q))) := by
  rw [T_iload_3 c16_28, T_iload_1 c16_29, T_icmp_ge 46 c16_30 rfl, T_aload_0 c16_46, T_invv (es := [some (vr 167), none]) (st := [vr 167]) (ks := [2]) (n := 2) (c := 12) (k := 167) (as := []) (rest := []) c16_47 (by decide +kernel) (by decide +kernel) (by decide +kernel) (by decide) rfl rfl (Nat.le_of_ble_eq_true rfl), T_iload_2 c16_33, T_aload_0 c16_34, T_invv (es := [some (vr 167), none, none, none]) (st := [vr 167, vi a2]) (ks := [2]) (n := 4) (c := 12) (k := 167) (as := []) (rest := [vi a2]) c16_35 (by decide +kernel) (by decide +kernel) (by decide +kernel) (by decide) rfl rfl (Nat.le_of_ble_eq_true rfl)]
  all_goals try simp only [Int.reduceToNat, lay_167, true_and, Nat.reduceAdd, eq_self_iff_true]
theorem g16_38 {d : Nat} {a3 s0 s1 : Int} {x0 x1 x2 : Option aV} {w : aW} {Q : Option aV → aW → Prop} : T d 16 38 [x0, x1, x2, some (vi a3)] [vi s1, vi s0] w Q = T d 16 28 [x0, x1, some (vi (w32 (s0 + s1))), some (vi (w32 (a3 + 1)))] [] w Q := by
  rw [T_iadd c16_38, T_istore_2 c16_39, T_iinc_3 c16_40, T_goto 28 c16_43 rfl]
  all_goals try simp only [true_and, Nat.reduceAdd, eq_self_iff_true]
theorem g16_50 {d : Nat} {a2 : Int} {x0 x1 x3 : Option aV} {w : aW} {Q : Option aV → aW → Prop} : T d 16 50 [x0, x1, some (vi a2), x3] [] w Q = Q (some (vi a2)) w := by
  rw [T_iload_2 c16_50, T_ireti c16_51 (by decide +kernel)]
  all_goals try simp only [true_and, Nat.reduceAdd, eq_self_iff_true]
/-! 17: StringHands.cut.(I)I -/
theorem c17_0 : cd 17 0 = some (.aload 0, 1) := by decide +kernel
theorem c17_1 : cd 17 1 = some (.iload 1, 1) := by decide +kernel
theorem c17_2 : cd 17 2 = some (.invokevirtual 126, 3) := by decide +kernel
theorem c17_5 : cd 17 5 = some (.ifCond .ne 11, 3) := by decide +kernel
theorem c17_8 : cd 17 8 = some (.sipush (-2), 2) := by decide +kernel
theorem c17_10 : cd 17 10 = some (.ireturn, 1) := by decide +kernel
theorem c17_11 : cd 17 11 = some (.aload 0, 1) := by decide +kernel
theorem c17_12 : cd 17 12 = some (.getfield 2854, 3) := by decide +kernel
theorem c17_15 : cd 17 15 = some (.getfield 1540, 3) := by decide +kernel
theorem c17_18 : cd 17 18 = some (.iload 1, 1) := by decide +kernel
theorem c17_19 : cd 17 19 = some (.invokestatic 117, 3) := by decide +kernel
theorem c17_22 : cd 17 22 = some (.ifCond .ne 28, 3) := by decide +kernel
theorem c17_25 : cd 17 25 = some (.sipush (-5), 2) := by decide +kernel
theorem c17_27 : cd 17 27 = some (.ireturn, 1) := by decide +kernel
theorem c17_28 : cd 17 28 = some (.aload 0, 1) := by decide +kernel
theorem c17_29 : cd 17 29 = some (.invokevirtual 128, 3) := by decide +kernel
theorem c17_32 : cd 17 32 = some (.aload 0, 1) := by decide +kernel
theorem c17_33 : cd 17 33 = some (.getfield 2854, 3) := by decide +kernel
theorem c17_36 : cd 17 36 = some (.iload 1, 1) := by decide +kernel
theorem c17_37 : cd 17 37 = some (.invokevirtual 137, 3) := by decide +kernel
theorem c17_40 : cd 17 40 = some (.aload 0, 1) := by decide +kernel
theorem c17_41 : cd 17 41 = some (.getfield 2854, 3) := by decide +kernel
theorem c17_44 : cd 17 44 = some (.getfield 1540, 3) := by decide +kernel
theorem c17_47 : cd 17 47 = some (.invokestatic 132, 3) := by decide +kernel
theorem c17_50 : cd 17 50 = some (.ireturn, 1) := by decide +kernel
theorem g17_0 {d : Nat} {a1 : Int} {w : aW} {Q : Option aV → aW → Prop} : T (d + 1) 17 0 [some (vr 0), some (vi a1)] [] w Q = T d 126 0 [some (vr 0), some (vi a1)] [] w (fun r w1 => T (d + 1) 17 5 [some (vr 0), some (vi a1)] (r.toList ++ []) w1 Q) := by
  rw [T_aload_0 c17_0, T_iload_1 c17_1, T_invv (es := [some (vr 0), some (vi a1)]) (st := [vi a1, vr 0]) (ks := [2, 0]) (n := 2) (c := 11) (k := 0) (as := [vi a1]) (rest := []) c17_2 (by decide +kernel) (by decide +kernel) (by decide +kernel) (by decide) rfl rfl (Nat.le_of_ble_eq_true rfl)]
  all_goals try simp only [lay_0, true_and, Nat.reduceAdd, eq_self_iff_true]
theorem g17_5 {d : Nat} {a1 s0 : Int} {w : aW} {Q : Option aV → aW → Prop} : T (d + 1) 17 5 [some (vr 0), some (vi a1)] [vi s0] w Q = ((¬ s0 = 0 → T d 117 0 [some (vi (w 79 1)), some (vi a1)] [] w (fun r w1 => T (d + 1) 17 22 [some (vr 0), some (vi a1)] (r.toList ++ []) w1 Q)) ∧ (¬ (¬ s0 = 0) → Q (some (vi (-2))) w)) := by
  rw [T_if_ne 11 c17_5 rfl, T_aload_0 c17_11, T_getR 11 9 9 c17_12 rfl rfl rfl rfl, rf_0_9, T_getI 6 1 1 c17_15 rfl rfl rfl rfl, T_iload_1 c17_18, T_inv (es := [some (vi (w 79 1)), some (vi a1)]) (st := [vi a1, vi (w 79 1)]) (ks := [0, 0]) (n := 2) (as := [vi (w 79 1), vi a1]) (rest := []) c17_19 (by decide +kernel) (by decide +kernel) rfl rfl (Nat.le_of_ble_eq_true rfl), T_sipush c17_8, T_ireti c17_10 (by decide +kernel)]
  all_goals try simp only [Int.reduceToNat, lay_0, lay_79, true_and, Nat.reduceAdd, eq_self_iff_true]
theorem g17_22 {d : Nat} {s0 : Int} {x1 : Option aV} {w : aW} {Q : Option aV → aW → Prop} : T (d + 1) 17 22 [some (vr 0), x1] [vi s0] w Q = ((¬ s0 = 0 → T d 128 0 [some (vr 0), none, none] [] w (fun r w1 => T (d + 1) 17 32 [some (vr 0), x1] (r.toList ++ []) w1 Q)) ∧ (¬ (¬ s0 = 0) → Q (some (vi (-5))) w)) := by
  rw [T_if_ne 28 c17_22 rfl, T_aload_0 c17_28, T_invv (es := [some (vr 0), none, none]) (st := [vr 0]) (ks := [2]) (n := 3) (c := 11) (k := 0) (as := []) (rest := []) c17_29 (by decide +kernel) (by decide +kernel) (by decide +kernel) (by decide) rfl rfl (Nat.le_of_ble_eq_true rfl), T_sipush c17_25, T_ireti c17_27 (by decide +kernel)]
  all_goals try simp only [Int.reduceToNat, lay_0, true_and, Nat.reduceAdd, eq_self_iff_true]
theorem g17_32 {d : Nat} {a1 : Int} {w : aW} {Q : Option aV → aW → Prop} : T (d + 1) 17 32 [some (vr 0), some (vi a1)] [] w Q = T d 137 0 [some (vr 79), some (vi a1)] [] w (fun r w1 => T (d + 1) 17 40 [some (vr 0), some (vi a1)] (r.toList ++ []) w1 Q) := by
  rw [T_aload_0 c17_32, T_getR 11 9 9 c17_33 rfl rfl rfl rfl, rf_0_9, T_iload_1 c17_36, T_invv (es := [some (vr 79), some (vi a1)]) (st := [vi a1, vr 79]) (ks := [2, 0]) (n := 2) (c := 6) (k := 79) (as := [vi a1]) (rest := []) c17_37 (by decide +kernel) (by decide +kernel) (by decide +kernel) (by decide) rfl rfl (Nat.le_of_ble_eq_true rfl)]
  all_goals try simp only [lay_0, lay_79, true_and, Nat.reduceAdd, eq_self_iff_true]
theorem g17_40 {d : Nat} {x1 : Option aV} {w : aW} {Q : Option aV → aW → Prop} : T (d + 1) 17 40 [some (vr 0), x1] [] w Q = T d 132 0 [some (vi (w 79 1))] [] w (fun r w1 => T (d + 1) 17 50 [some (vr 0), x1] (r.toList ++ []) w1 Q) := by
  rw [T_aload_0 c17_40, T_getR 11 9 9 c17_41 rfl rfl rfl rfl, rf_0_9, T_getI 6 1 1 c17_44 rfl rfl rfl rfl, T_inv (es := [some (vi (w 79 1))]) (st := [vi (w 79 1)]) (ks := [0]) (n := 1) (as := [vi (w 79 1)]) (rest := []) c17_47 (by decide +kernel) (by decide +kernel) rfl rfl (Nat.le_of_ble_eq_true rfl)]
  all_goals try simp only [lay_0, lay_79, true_and, Nat.reduceAdd, eq_self_iff_true]
theorem g17_50 {d : Nat} {s0 : Int} {x0 x1 : Option aV} {w : aW} {Q : Option aV → aW → Prop} : T d 17 50 [x0, x1] [vi s0] w Q = Q (some (vi s0)) w := by
  rw [T_ireti c17_50 (by decide +kernel)]
  all_goals try simp only [true_and, Nat.reduceAdd, eq_self_iff_true]
/-! 18: StringHandsModel.cut.(I)I -/
theorem c18_0 : cd 18 0 = some (.aload 0, 1) := by decide +kernel
theorem c18_1 : cd 18 1 = some (.sipush 0, 1) := by decide +kernel
theorem c18_2 : cd 18 2 = some (.putfield 3072, 3) := by decide +kernel
theorem c18_5 : cd 18 5 = some (.aload 0, 1) := by decide +kernel
theorem c18_6 : cd 18 6 = some (.iload 1, 1) := by decide +kernel
theorem c18_7 : cd 18 7 = some (.i2l, 1) := by decide +kernel
theorem c18_8 : cd 18 8 = some (.invokevirtual 127, 3) := by decide +kernel
theorem c18_11 : cd 18 11 = some (.ifCond .ne 17, 3) := by decide +kernel
theorem c18_14 : cd 18 14 = some (.sipush (-2), 2) := by decide +kernel
theorem c18_16 : cd 18 16 = some (.ireturn, 1) := by decide +kernel
theorem c18_17 : cd 18 17 = some (.aload 0, 1) := by decide +kernel
theorem c18_18 : cd 18 18 = some (.iload 1, 1) := by decide +kernel
theorem c18_19 : cd 18 19 = some (.invokevirtual 138, 3) := by decide +kernel
theorem c18_22 : cd 18 22 = some (.ifCond .ne 28, 3) := by decide +kernel
theorem c18_25 : cd 18 25 = some (.sipush (-5), 2) := by decide +kernel
theorem c18_27 : cd 18 27 = some (.ireturn, 1) := by decide +kernel
theorem c18_28 : cd 18 28 = some (.aload 0, 1) := by decide +kernel
theorem c18_29 : cd 18 29 = some (.invokevirtual 129, 3) := by decide +kernel
theorem c18_32 : cd 18 32 = some (.aload 0, 1) := by decide +kernel
theorem c18_33 : cd 18 33 = some (.getfield 3078, 3) := by decide +kernel
theorem c18_36 : cd 18 36 = some (.sipush 22, 2) := by decide +kernel
theorem c18_38 : cd 18 38 = some (.iload 1, 1) := by decide +kernel
theorem c18_39 : cd 18 39 = some (.iadd, 1) := by decide +kernel
theorem c18_40 : cd 18 40 = some (.sipush 0, 1) := by decide +kernel
theorem c18_41 : cd 18 41 = some (.iastore, 1) := by decide +kernel
theorem c18_42 : cd 18 42 = some (.aload 0, 1) := by decide +kernel
theorem c18_43 : cd 18 43 = some (.invokevirtual 130, 3) := by decide +kernel
theorem c18_46 : cd 18 46 = some (.aload 0, 1) := by decide +kernel
theorem c18_47 : cd 18 47 = some (.invokevirtual 139, 3) := by decide +kernel
theorem c18_50 : cd 18 50 = some (.ireturn, 1) := by decide +kernel
theorem g18_0 {d : Nat} {a1 : Int} {w : aW} {Q : Option aV → aW → Prop} : T (d + 1) 18 0 [some (vr 167), some (vi a1)] [] w Q = T d 127 0 [some (vr 167), some (vl a1), none] [] (iup w 167 0 0) (fun r w1 => T (d + 1) 18 11 [some (vr 167), some (vi a1)] (r.toList ++ []) w1 Q) := by
  rw [T_aload_0 c18_0, T_sipush c18_1, T_putI 12 0 0 c18_2 rfl rfl rfl rfl, T_aload_0 c18_5, T_iload_1 c18_6, T_i2l c18_7, T_invv (es := [some (vr 167), some (vl a1), none]) (st := [vl a1, vr 167]) (ks := [2, 1]) (n := 3) (c := 12) (k := 167) (as := [vl a1]) (rest := []) c18_8 (by decide +kernel) (by decide +kernel) (by decide +kernel) (by decide) rfl rfl (Nat.le_of_ble_eq_true rfl)]
  all_goals try simp only [lay_167, true_and, Nat.reduceAdd, eq_self_iff_true]
theorem g18_11 {d : Nat} {a1 s0 : Int} {w : aW} {Q : Option aV → aW → Prop} : T (d + 1) 18 11 [some (vr 167), some (vi a1)] [vi s0] w Q = ((¬ s0 = 0 → T d 138 0 [some (vr 167), some (vi a1)] [] w (fun r w1 => T (d + 1) 18 22 [some (vr 167), some (vi a1)] (r.toList ++ []) w1 Q)) ∧ (¬ (¬ s0 = 0) → Q (some (vi (-2))) w)) := by
  rw [T_if_ne 17 c18_11 rfl, T_aload_0 c18_17, T_iload_1 c18_18, T_invv (es := [some (vr 167), some (vi a1)]) (st := [vi a1, vr 167]) (ks := [2, 0]) (n := 2) (c := 12) (k := 167) (as := [vi a1]) (rest := []) c18_19 (by decide +kernel) (by decide +kernel) (by decide +kernel) (by decide) rfl rfl (Nat.le_of_ble_eq_true rfl), T_sipush c18_14, T_ireti c18_16 (by decide +kernel)]
  all_goals try simp only [Int.reduceToNat, lay_167, true_and, Nat.reduceAdd, eq_self_iff_true]
theorem g18_22 {d : Nat} {s0 : Int} {x1 : Option aV} {w : aW} {Q : Option aV → aW → Prop} : T (d + 1) 18 22 [some (vr 167), x1] [vi s0] w Q = ((¬ s0 = 0 → T d 129 0 [some (vr 167), none] [] w (fun r w1 => T (d + 1) 18 32 [some (vr 167), x1] (r.toList ++ []) w1 Q)) ∧ (¬ (¬ s0 = 0) → Q (some (vi (-5))) w)) := by
  rw [T_if_ne 28 c18_22 rfl, T_aload_0 c18_28, T_invv (es := [some (vr 167), none]) (st := [vr 167]) (ks := [2]) (n := 2) (c := 12) (k := 167) (as := []) (rest := []) c18_29 (by decide +kernel) (by decide +kernel) (by decide +kernel) (by decide) rfl rfl (Nat.le_of_ble_eq_true rfl), T_sipush c18_25, T_ireti c18_27 (by decide +kernel)]
  all_goals try simp only [Int.reduceToNat, lay_167, true_and, Nat.reduceAdd, eq_self_iff_true]
theorem g18_32 {d : Nat} {a1 : Int} {w : aW} {Q : Option aV → aW → Prop} : T (d + 1) 18 32 [some (vr 167), some (vi a1)] [] w Q = ((0 ≤ w32 (22 + a1) ∧ w32 (22 + a1) < 4932) ∧ T d 130 0 [some (vr 167), none] [] (iup w 168 (w32 (22 + a1)) 0) (fun r w1 => T (d + 1) 18 46 [some (vr 167), some (vi a1)] (r.toList ++ []) w1 Q)) := by
  rw [T_aload_0 c18_32, T_getR 12 1 1 c18_33 rfl rfl rfl rfl, rf_167_1, T_sipush c18_36, T_iload_1 c18_38, T_iadd c18_39, T_sipush c18_40, T_iast c18_41, T_aload_0 c18_42, T_invv (es := [some (vr 167), none]) (st := [vr 167]) (ks := [2]) (n := 2) (c := 12) (k := 167) (as := []) (rest := []) c18_43 (by decide +kernel) (by decide +kernel) (by decide +kernel) (by decide) rfl rfl (Nat.le_of_ble_eq_true rfl)]
  all_goals try simp only [ia0_168, lay_167, true_and, Nat.reduceAdd, eq_self_iff_true]
theorem g18_46 {d : Nat} {x1 : Option aV} {w : aW} {Q : Option aV → aW → Prop} : T (d + 1) 18 46 [some (vr 167), x1] [] w Q = T d 139 0 [some (vr 167), none, none] [] w (fun r w1 => T (d + 1) 18 50 [some (vr 167), x1] (r.toList ++ []) w1 Q) := by
  rw [T_aload_0 c18_46, T_invv (es := [some (vr 167), none, none]) (st := [vr 167]) (ks := [2]) (n := 3) (c := 12) (k := 167) (as := []) (rest := []) c18_47 (by decide +kernel) (by decide +kernel) (by decide +kernel) (by decide) rfl rfl (Nat.le_of_ble_eq_true rfl)]
  all_goals try simp only [lay_167, true_and, Nat.reduceAdd, eq_self_iff_true]
theorem g18_50 {d : Nat} {s0 : Int} {x0 x1 : Option aV} {w : aW} {Q : Option aV → aW → Prop} : T d 18 50 [x0, x1] [vi s0] w Q = Q (some (vi s0)) w := by
  rw [T_ireti c18_50 (by decide +kernel)]
  all_goals try simp only [true_and, Nat.reduceAdd, eq_self_iff_true]
/-! 19: StringHands.tie.(I)I -/
theorem c19_0 : cd 19 0 = some (.aload 0, 1) := by decide +kernel
theorem c19_1 : cd 19 1 = some (.iload 1, 1) := by decide +kernel
theorem c19_2 : cd 19 2 = some (.invokevirtual 126, 3) := by decide +kernel
theorem c19_5 : cd 19 5 = some (.ifCond .ne 11, 3) := by decide +kernel
theorem c19_8 : cd 19 8 = some (.sipush (-2), 2) := by decide +kernel
theorem c19_10 : cd 19 10 = some (.ireturn, 1) := by decide +kernel
theorem c19_11 : cd 19 11 = some (.aload 0, 1) := by decide +kernel
theorem c19_12 : cd 19 12 = some (.getfield 2854, 3) := by decide +kernel
theorem c19_15 : cd 19 15 = some (.getfield 1540, 3) := by decide +kernel
theorem c19_18 : cd 19 18 = some (.iload 1, 1) := by decide +kernel
theorem c19_19 : cd 19 19 = some (.invokestatic 117, 3) := by decide +kernel
theorem c19_22 : cd 19 22 = some (.sipush 1, 1) := by decide +kernel
theorem c19_23 : cd 19 23 = some (.if_icmp .ne 29, 3) := by decide +kernel
theorem c19_26 : cd 19 26 = some (.sipush (-5), 2) := by decide +kernel
theorem c19_28 : cd 19 28 = some (.ireturn, 1) := by decide +kernel
theorem c19_29 : cd 19 29 = some (.aload 0, 1) := by decide +kernel
theorem c19_30 : cd 19 30 = some (.invokevirtual 128, 3) := by decide +kernel
theorem c19_33 : cd 19 33 = some (.aload 0, 1) := by decide +kernel
theorem c19_34 : cd 19 34 = some (.getfield 2854, 3) := by decide +kernel
theorem c19_37 : cd 19 37 = some (.iload 1, 1) := by decide +kernel
theorem c19_38 : cd 19 38 = some (.invokevirtual 140, 3) := by decide +kernel
theorem c19_41 : cd 19 41 = some (.aload 0, 1) := by decide +kernel
theorem c19_42 : cd 19 42 = some (.getfield 2854, 3) := by decide +kernel
theorem c19_45 : cd 19 45 = some (.getfield 1540, 3) := by decide +kernel
theorem c19_48 : cd 19 48 = some (.invokestatic 132, 3) := by decide +kernel
theorem c19_51 : cd 19 51 = some (.ireturn, 1) := by decide +kernel
theorem g19_0 {d : Nat} {a1 : Int} {w : aW} {Q : Option aV → aW → Prop} : T (d + 1) 19 0 [some (vr 0), some (vi a1)] [] w Q = T d 126 0 [some (vr 0), some (vi a1)] [] w (fun r w1 => T (d + 1) 19 5 [some (vr 0), some (vi a1)] (r.toList ++ []) w1 Q) := by
  rw [T_aload_0 c19_0, T_iload_1 c19_1, T_invv (es := [some (vr 0), some (vi a1)]) (st := [vi a1, vr 0]) (ks := [2, 0]) (n := 2) (c := 11) (k := 0) (as := [vi a1]) (rest := []) c19_2 (by decide +kernel) (by decide +kernel) (by decide +kernel) (by decide) rfl rfl (Nat.le_of_ble_eq_true rfl)]
  all_goals try simp only [lay_0, true_and, Nat.reduceAdd, eq_self_iff_true]
theorem g19_5 {d : Nat} {a1 s0 : Int} {w : aW} {Q : Option aV → aW → Prop} : T (d + 1) 19 5 [some (vr 0), some (vi a1)] [vi s0] w Q = ((¬ s0 = 0 → T d 117 0 [some (vi (w 79 1)), some (vi a1)] [] w (fun r w1 => T (d + 1) 19 22 [some (vr 0), some (vi a1)] (r.toList ++ []) w1 Q)) ∧ (¬ (¬ s0 = 0) → Q (some (vi (-2))) w)) := by
  rw [T_if_ne 11 c19_5 rfl, T_aload_0 c19_11, T_getR 11 9 9 c19_12 rfl rfl rfl rfl, rf_0_9, T_getI 6 1 1 c19_15 rfl rfl rfl rfl, T_iload_1 c19_18, T_inv (es := [some (vi (w 79 1)), some (vi a1)]) (st := [vi a1, vi (w 79 1)]) (ks := [0, 0]) (n := 2) (as := [vi (w 79 1), vi a1]) (rest := []) c19_19 (by decide +kernel) (by decide +kernel) rfl rfl (Nat.le_of_ble_eq_true rfl), T_sipush c19_8, T_ireti c19_10 (by decide +kernel)]
  all_goals try simp only [Int.reduceToNat, lay_0, lay_79, true_and, Nat.reduceAdd, eq_self_iff_true]
theorem g19_22 {d : Nat} {s0 : Int} {x1 : Option aV} {w : aW} {Q : Option aV → aW → Prop} : T (d + 1) 19 22 [some (vr 0), x1] [vi s0] w Q = ((¬ s0 = 1 → T d 128 0 [some (vr 0), none, none] [] w (fun r w1 => T (d + 1) 19 33 [some (vr 0), x1] (r.toList ++ []) w1 Q)) ∧ (¬ (¬ s0 = 1) → Q (some (vi (-5))) w)) := by
  rw [T_sipush c19_22, T_icmp_ne 29 c19_23 rfl, T_aload_0 c19_29, T_invv (es := [some (vr 0), none, none]) (st := [vr 0]) (ks := [2]) (n := 3) (c := 11) (k := 0) (as := []) (rest := []) c19_30 (by decide +kernel) (by decide +kernel) (by decide +kernel) (by decide) rfl rfl (Nat.le_of_ble_eq_true rfl), T_sipush c19_26, T_ireti c19_28 (by decide +kernel)]
  all_goals try simp only [Int.reduceToNat, lay_0, true_and, Nat.reduceAdd, eq_self_iff_true]
theorem g19_33 {d : Nat} {a1 : Int} {w : aW} {Q : Option aV → aW → Prop} : T (d + 1) 19 33 [some (vr 0), some (vi a1)] [] w Q = T d 140 0 [some (vr 79), some (vi a1)] [] w (fun r w1 => T (d + 1) 19 41 [some (vr 0), some (vi a1)] (r.toList ++ []) w1 Q) := by
  rw [T_aload_0 c19_33, T_getR 11 9 9 c19_34 rfl rfl rfl rfl, rf_0_9, T_iload_1 c19_37, T_invv (es := [some (vr 79), some (vi a1)]) (st := [vi a1, vr 79]) (ks := [2, 0]) (n := 2) (c := 6) (k := 79) (as := [vi a1]) (rest := []) c19_38 (by decide +kernel) (by decide +kernel) (by decide +kernel) (by decide) rfl rfl (Nat.le_of_ble_eq_true rfl)]
  all_goals try simp only [lay_0, lay_79, true_and, Nat.reduceAdd, eq_self_iff_true]
theorem g19_41 {d : Nat} {x1 : Option aV} {w : aW} {Q : Option aV → aW → Prop} : T (d + 1) 19 41 [some (vr 0), x1] [] w Q = T d 132 0 [some (vi (w 79 1))] [] w (fun r w1 => T (d + 1) 19 51 [some (vr 0), x1] (r.toList ++ []) w1 Q) := by
  rw [T_aload_0 c19_41, T_getR 11 9 9 c19_42 rfl rfl rfl rfl, rf_0_9, T_getI 6 1 1 c19_45 rfl rfl rfl rfl, T_inv (es := [some (vi (w 79 1))]) (st := [vi (w 79 1)]) (ks := [0]) (n := 1) (as := [vi (w 79 1)]) (rest := []) c19_48 (by decide +kernel) (by decide +kernel) rfl rfl (Nat.le_of_ble_eq_true rfl)]
  all_goals try simp only [lay_0, lay_79, true_and, Nat.reduceAdd, eq_self_iff_true]
theorem g19_51 {d : Nat} {s0 : Int} {x0 x1 : Option aV} {w : aW} {Q : Option aV → aW → Prop} : T d 19 51 [x0, x1] [vi s0] w Q = Q (some (vi s0)) w := by
  rw [T_ireti c19_51 (by decide +kernel)]
  all_goals try simp only [true_and, Nat.reduceAdd, eq_self_iff_true]
/-! 20: StringHandsModel.tie.(I)I -/
theorem c20_0 : cd 20 0 = some (.aload 0, 1) := by decide +kernel
theorem c20_1 : cd 20 1 = some (.sipush 0, 1) := by decide +kernel
theorem c20_2 : cd 20 2 = some (.putfield 3072, 3) := by decide +kernel
theorem c20_5 : cd 20 5 = some (.aload 0, 1) := by decide +kernel
theorem c20_6 : cd 20 6 = some (.iload 1, 1) := by decide +kernel
theorem c20_7 : cd 20 7 = some (.i2l, 1) := by decide +kernel
theorem c20_8 : cd 20 8 = some (.invokevirtual 127, 3) := by decide +kernel
theorem c20_11 : cd 20 11 = some (.ifCond .ne 17, 3) := by decide +kernel
theorem c20_14 : cd 20 14 = some (.sipush (-2), 2) := by decide +kernel
theorem c20_16 : cd 20 16 = some (.ireturn, 1) := by decide +kernel
theorem c20_17 : cd 20 17 = some (.aload 0, 1) := by decide +kernel
theorem c20_18 : cd 20 18 = some (.iload 1, 1) := by decide +kernel
theorem c20_19 : cd 20 19 = some (.invokevirtual 138, 3) := by decide +kernel
theorem c20_22 : cd 20 22 = some (.ifCond .eq 28, 3) := by decide +kernel
theorem c20_25 : cd 20 25 = some (.sipush (-5), 2) := by decide +kernel
theorem c20_27 : cd 20 27 = some (.ireturn, 1) := by decide +kernel
theorem c20_28 : cd 20 28 = some (.aload 0, 1) := by decide +kernel
theorem c20_29 : cd 20 29 = some (.invokevirtual 129, 3) := by decide +kernel
theorem c20_32 : cd 20 32 = some (.aload 0, 1) := by decide +kernel
theorem c20_33 : cd 20 33 = some (.iload 1, 1) := by decide +kernel
theorem c20_34 : cd 20 34 = some (.invokevirtual 141, 3) := by decide +kernel
theorem c20_37 : cd 20 37 = some (.aload 0, 1) := by decide +kernel
theorem c20_38 : cd 20 38 = some (.invokevirtual 130, 3) := by decide +kernel
theorem c20_41 : cd 20 41 = some (.aload 0, 1) := by decide +kernel
theorem c20_42 : cd 20 42 = some (.invokevirtual 139, 3) := by decide +kernel
theorem c20_45 : cd 20 45 = some (.ireturn, 1) := by decide +kernel
theorem g20_0 {d : Nat} {a1 : Int} {w : aW} {Q : Option aV → aW → Prop} : T (d + 1) 20 0 [some (vr 167), some (vi a1)] [] w Q = T d 127 0 [some (vr 167), some (vl a1), none] [] (iup w 167 0 0) (fun r w1 => T (d + 1) 20 11 [some (vr 167), some (vi a1)] (r.toList ++ []) w1 Q) := by
  rw [T_aload_0 c20_0, T_sipush c20_1, T_putI 12 0 0 c20_2 rfl rfl rfl rfl, T_aload_0 c20_5, T_iload_1 c20_6, T_i2l c20_7, T_invv (es := [some (vr 167), some (vl a1), none]) (st := [vl a1, vr 167]) (ks := [2, 1]) (n := 3) (c := 12) (k := 167) (as := [vl a1]) (rest := []) c20_8 (by decide +kernel) (by decide +kernel) (by decide +kernel) (by decide) rfl rfl (Nat.le_of_ble_eq_true rfl)]
  all_goals try simp only [lay_167, true_and, Nat.reduceAdd, eq_self_iff_true]
theorem g20_11 {d : Nat} {a1 s0 : Int} {w : aW} {Q : Option aV → aW → Prop} : T (d + 1) 20 11 [some (vr 167), some (vi a1)] [vi s0] w Q = ((¬ s0 = 0 → T d 138 0 [some (vr 167), some (vi a1)] [] w (fun r w1 => T (d + 1) 20 22 [some (vr 167), some (vi a1)] (r.toList ++ []) w1 Q)) ∧ (¬ (¬ s0 = 0) → Q (some (vi (-2))) w)) := by
  rw [T_if_ne 17 c20_11 rfl, T_aload_0 c20_17, T_iload_1 c20_18, T_invv (es := [some (vr 167), some (vi a1)]) (st := [vi a1, vr 167]) (ks := [2, 0]) (n := 2) (c := 12) (k := 167) (as := [vi a1]) (rest := []) c20_19 (by decide +kernel) (by decide +kernel) (by decide +kernel) (by decide) rfl rfl (Nat.le_of_ble_eq_true rfl), T_sipush c20_14, T_ireti c20_16 (by decide +kernel)]
  all_goals try simp only [Int.reduceToNat, lay_167, true_and, Nat.reduceAdd, eq_self_iff_true]
theorem g20_22 {d : Nat} {s0 : Int} {x1 : Option aV} {w : aW} {Q : Option aV → aW → Prop} : T (d + 1) 20 22 [some (vr 167), x1] [vi s0] w Q = ((s0 = 0 → T d 129 0 [some (vr 167), none] [] w (fun r w1 => T (d + 1) 20 32 [some (vr 167), x1] (r.toList ++ []) w1 Q)) ∧ (¬ (s0 = 0) → Q (some (vi (-5))) w)) := by
  rw [T_if_eq 28 c20_22 rfl, T_aload_0 c20_28, T_invv (es := [some (vr 167), none]) (st := [vr 167]) (ks := [2]) (n := 2) (c := 12) (k := 167) (as := []) (rest := []) c20_29 (by decide +kernel) (by decide +kernel) (by decide +kernel) (by decide) rfl rfl (Nat.le_of_ble_eq_true rfl), T_sipush c20_25, T_ireti c20_27 (by decide +kernel)]
  all_goals try simp only [Int.reduceToNat, lay_167, true_and, Nat.reduceAdd, eq_self_iff_true]
theorem g20_32 {d : Nat} {a1 : Int} {w : aW} {Q : Option aV → aW → Prop} : T (d + 1) 20 32 [some (vr 167), some (vi a1)] [] w Q = T d 141 0 [some (vr 167), some (vi a1)] [] w (fun r w1 => T (d + 1) 20 37 [some (vr 167), some (vi a1)] (r.toList ++ []) w1 Q) := by
  rw [T_aload_0 c20_32, T_iload_1 c20_33, T_invv (es := [some (vr 167), some (vi a1)]) (st := [vi a1, vr 167]) (ks := [2, 0]) (n := 2) (c := 12) (k := 167) (as := [vi a1]) (rest := []) c20_34 (by decide +kernel) (by decide +kernel) (by decide +kernel) (by decide) rfl rfl (Nat.le_of_ble_eq_true rfl)]
  all_goals try simp only [lay_167, true_and, Nat.reduceAdd, eq_self_iff_true]
theorem g20_37 {d : Nat} {x1 : Option aV} {w : aW} {Q : Option aV → aW → Prop} : T (d + 1) 20 37 [some (vr 167), x1] [] w Q = T d 130 0 [some (vr 167), none] [] w (fun r w1 => T (d + 1) 20 41 [some (vr 167), x1] (r.toList ++ []) w1 Q) := by
  rw [T_aload_0 c20_37, T_invv (es := [some (vr 167), none]) (st := [vr 167]) (ks := [2]) (n := 2) (c := 12) (k := 167) (as := []) (rest := []) c20_38 (by decide +kernel) (by decide +kernel) (by decide +kernel) (by decide) rfl rfl (Nat.le_of_ble_eq_true rfl)]
  all_goals try simp only [lay_167, true_and, Nat.reduceAdd, eq_self_iff_true]
theorem g20_41 {d : Nat} {x1 : Option aV} {w : aW} {Q : Option aV → aW → Prop} : T (d + 1) 20 41 [some (vr 167), x1] [] w Q = T d 139 0 [some (vr 167), none, none] [] w (fun r w1 => T (d + 1) 20 45 [some (vr 167), x1] (r.toList ++ []) w1 Q) := by
  rw [T_aload_0 c20_41, T_invv (es := [some (vr 167), none, none]) (st := [vr 167]) (ks := [2]) (n := 3) (c := 12) (k := 167) (as := []) (rest := []) c20_42 (by decide +kernel) (by decide +kernel) (by decide +kernel) (by decide) rfl rfl (Nat.le_of_ble_eq_true rfl)]
  all_goals try simp only [lay_167, true_and, Nat.reduceAdd, eq_self_iff_true]
theorem g20_45 {d : Nat} {s0 : Int} {x0 x1 : Option aV} {w : aW} {Q : Option aV → aW → Prop} : T d 20 45 [x0, x1] [vi s0] w Q = Q (some (vi s0)) w := by
  rw [T_ireti c20_45 (by decide +kernel)]
  all_goals try simp only [true_and, Nat.reduceAdd, eq_self_iff_true]
/-! 21: StringHands.moves.(II)I -/
theorem c21_0 : cd 21 0 = some (.aload 0, 1) := by decide +kernel
theorem c21_1 : cd 21 1 = some (.iload 1, 1) := by decide +kernel
theorem c21_2 : cd 21 2 = some (.invokevirtual 126, 3) := by decide +kernel
theorem c21_5 : cd 21 5 = some (.ifCond .eq 16, 3) := by decide +kernel
theorem c21_8 : cd 21 8 = some (.aload 0, 1) := by decide +kernel
theorem c21_9 : cd 21 9 = some (.iload 2, 1) := by decide +kernel
theorem c21_10 : cd 21 10 = some (.invokevirtual 116, 3) := by decide +kernel
theorem c21_13 : cd 21 13 = some (.ifCond .ne 19, 3) := by decide +kernel
theorem c21_16 : cd 21 16 = some (.sipush (-2), 2) := by decide +kernel
theorem c21_18 : cd 21 18 = some (.ireturn, 1) := by decide +kernel
theorem c21_19 : cd 21 19 = some (.aload 0, 1) := by decide +kernel
theorem c21_20 : cd 21 20 = some (.getfield 2854, 3) := by decide +kernel
theorem c21_23 : cd 21 23 = some (.getfield 1546, 3) := by decide +kernel
theorem c21_26 : cd 21 26 = some (.iload 1, 1) := by decide +kernel
theorem c21_27 : cd 21 27 = some (.iaload, 1) := by decide +kernel
theorem c21_28 : cd 21 28 = some (.istore 3, 1) := by decide +kernel
theorem c21_29 : cd 21 29 = some (.iload 2, 1) := by decide +kernel
theorem c21_30 : cd 21 30 = some (.iload 3, 1) := by decide +kernel
theorem c21_31 : cd 21 31 = some (.if_icmp .eq 47, 3) := by decide +kernel
theorem c21_34 : cd 21 34 = some (.iload 2, 1) := by decide +kernel
theorem c21_35 : cd 21 35 = some (.aload 0, 1) := by decide +kernel
theorem c21_36 : cd 21 36 = some (.getfield 2850, 3) := by decide +kernel
theorem c21_39 : cd 21 39 = some (.getfield 2086, 3) := by decide +kernel
theorem c21_42 : cd 21 42 = some (.iload 1, 1) := by decide +kernel
theorem c21_43 : cd 21 43 = some (.iaload, 1) := by decide +kernel
theorem c21_44 : cd 21 44 = some (.if_icmp .ne 50, 3) := by decide +kernel
theorem c21_47 : cd 21 47 = some (.sipush (-5), 2) := by decide +kernel
theorem c21_49 : cd 21 49 = some (.ireturn, 1) := by decide +kernel
theorem c21_50 : cd 21 50 = some (.aload 0, 1) := by decide +kernel
theorem c21_51 : cd 21 51 = some (.invokevirtual 128, 3) := by decide +kernel
theorem c21_54 : cd 21 54 = some (.aload 0, 1) := by decide +kernel
theorem c21_55 : cd 21 55 = some (.getfield 2854, 3) := by decide +kernel
theorem c21_58 : cd 21 58 = some (.getfield 1546, 3) := by decide +kernel
theorem c21_61 : cd 21 61 = some (.iload 1, 1) := by decide +kernel
theorem c21_62 : cd 21 62 = some (.iload 2, 1) := by decide +kernel
theorem c21_63 : cd 21 63 = some (.iastore, 1) := by decide +kernel
theorem c21_64 : cd 21 64 = some (.iload 3, 1) := by decide +kernel
theorem c21_65 : cd 21 65 = some (.ireturn, 1) := by decide +kernel
theorem g21_0 {d : Nat} {a1 : Int} {x2 x3 : Option aV} {w : aW} {Q : Option aV → aW → Prop} : T (d + 1) 21 0 [some (vr 0), some (vi a1), x2, x3] [] w Q = T d 126 0 [some (vr 0), some (vi a1)] [] w (fun r w1 => T (d + 1) 21 5 [some (vr 0), some (vi a1), x2, x3] (r.toList ++ []) w1 Q) := by
  rw [T_aload_0 c21_0, T_iload_1 c21_1, T_invv (es := [some (vr 0), some (vi a1)]) (st := [vi a1, vr 0]) (ks := [2, 0]) (n := 2) (c := 11) (k := 0) (as := [vi a1]) (rest := []) c21_2 (by decide +kernel) (by decide +kernel) (by decide +kernel) (by decide) rfl rfl (Nat.le_of_ble_eq_true rfl)]
  all_goals try simp only [lay_0, true_and, Nat.reduceAdd, eq_self_iff_true]
theorem g21_5 {d : Nat} {a2 s0 : Int} {x1 x3 : Option aV} {w : aW} {Q : Option aV → aW → Prop} : T (d + 1) 21 5 [some (vr 0), x1, some (vi a2), x3] [vi s0] w Q = ((s0 = 0 → T (d + 1) 21 16 [some (vr 0), x1, some (vi a2), x3] [] w Q) ∧ (¬ (s0 = 0) → T d 116 0 [some (vr 0), some (vi a2)] [] w (fun r w1 => T (d + 1) 21 13 [some (vr 0), x1, some (vi a2), x3] (r.toList ++ []) w1 Q))) := by
  rw [T_if_eq 16 c21_5 rfl, T_aload_0 c21_8, T_iload_2 c21_9, T_invv (es := [some (vr 0), some (vi a2)]) (st := [vi a2, vr 0]) (ks := [2, 0]) (n := 2) (c := 11) (k := 0) (as := [vi a2]) (rest := []) c21_10 (by decide +kernel) (by decide +kernel) (by decide +kernel) (by decide) rfl rfl (Nat.le_of_ble_eq_true rfl)]
  all_goals try simp only [Int.reduceToNat, lay_0, true_and, Nat.reduceAdd, eq_self_iff_true]
theorem g21_13 {d : Nat} {a1 a2 s0 : Int} {x3 : Option aV} {w : aW} {Q : Option aV → aW → Prop} : T (d + 1) 21 13 [some (vr 0), some (vi a1), some (vi a2), x3] [vi s0] w Q = ((¬ s0 = 0 → ((0 ≤ a1 ∧ a1 < 16) ∧ ((a2 = w 80 a1 → T (d + 1) 21 47 [some (vr 0), some (vi a1), some (vi a2), some (vi (w 80 a1))] [] w Q) ∧ (¬ (a2 = w 80 a1) → ((0 ≤ a1 ∧ a1 < 16) ∧ ((¬ a2 = w 73 a1 → T d 128 0 [some (vr 0), none, none] [] w (fun r w1 => T (d + 1) 21 54 [some (vr 0), some (vi a1), some (vi a2), some (vi (w 80 a1))] (r.toList ++ []) w1 Q)) ∧ (¬ (¬ a2 = w 73 a1) → T (d + 1) 21 47 [some (vr 0), some (vi a1), some (vi a2), some (vi (w 80 a1))] [] w Q))))))) ∧ (¬ (¬ s0 = 0) → T (d + 1) 21 16 [some (vr 0), some (vi a1), some (vi a2), x3] [] w Q)) := by
  rw [T_if_ne 19 c21_13 rfl, T_aload_0 c21_19, T_getR 11 9 9 c21_20 rfl rfl rfl rfl, rf_0_9, T_getR 6 2 2 c21_23 rfl rfl rfl rfl, rf_79_2, T_iload_1 c21_26, T_iald c21_27, T_istore_3 c21_28, T_iload_2 c21_29, T_iload_3 c21_30, T_icmp_eq 47 c21_31 rfl, T_iload_2 c21_34, T_aload_0 c21_35, T_getR 11 8 8 c21_36 rfl rfl rfl rfl, rf_0_8, T_getR 8 9 9 c21_39 rfl rfl rfl rfl, rf_69_9, T_iload_1 c21_42, T_iald c21_43, T_icmp_ne 50 c21_44 rfl, T_aload_0 c21_50, T_invv (es := [some (vr 0), none, none]) (st := [vr 0]) (ks := [2]) (n := 3) (c := 11) (k := 0) (as := []) (rest := []) c21_51 (by decide +kernel) (by decide +kernel) (by decide +kernel) (by decide) rfl rfl (Nat.le_of_ble_eq_true rfl)]
  all_goals try simp only [Int.reduceToNat, lay_0, lay_69, lay_79, ld_73, ld_80, true_and, Nat.reduceAdd, eq_self_iff_true]
theorem g21_16 {d : Nat} {x0 x1 x2 x3 : Option aV} {w : aW} {Q : Option aV → aW → Prop} : T d 21 16 [x0, x1, x2, x3] [] w Q = Q (some (vi (-2))) w := by
  rw [T_sipush c21_16, T_ireti c21_18 (by decide +kernel)]
  all_goals try simp only [true_and, Nat.reduceAdd, eq_self_iff_true]
theorem g21_47 {d : Nat} {x0 x1 x2 x3 : Option aV} {w : aW} {Q : Option aV → aW → Prop} : T d 21 47 [x0, x1, x2, x3] [] w Q = Q (some (vi (-5))) w := by
  rw [T_sipush c21_47, T_ireti c21_49 (by decide +kernel)]
  all_goals try simp only [true_and, Nat.reduceAdd, eq_self_iff_true]
theorem g21_54 {d : Nat} {a1 a2 a3 : Int} {w : aW} {Q : Option aV → aW → Prop} : T d 21 54 [some (vr 0), some (vi a1), some (vi a2), some (vi a3)] [] w Q = ((0 ≤ a1 ∧ a1 < 16) ∧ Q (some (vi a3)) (iup w 80 a1 a2)) := by
  rw [T_aload_0 c21_54, T_getR 11 9 9 c21_55 rfl rfl rfl rfl, rf_0_9, T_getR 6 2 2 c21_58 rfl rfl rfl rfl, rf_79_2, T_iload_1 c21_61, T_iload_2 c21_62, T_iast c21_63, T_iload_3 c21_64, T_ireti c21_65 (by decide +kernel)]
  all_goals try simp only [ia0_80, lay_0, lay_79, true_and, Nat.reduceAdd, eq_self_iff_true]
/-! 22: StringHandsModel.moves.(II)I -/
theorem c22_0 : cd 22 0 = some (.aload 0, 1) := by decide +kernel
theorem c22_1 : cd 22 1 = some (.sipush 0, 1) := by decide +kernel
theorem c22_2 : cd 22 2 = some (.putfield 3072, 3) := by decide +kernel
theorem c22_5 : cd 22 5 = some (.aload 0, 1) := by decide +kernel
theorem c22_6 : cd 22 6 = some (.iload 1, 1) := by decide +kernel
theorem c22_7 : cd 22 7 = some (.i2l, 1) := by decide +kernel
theorem c22_8 : cd 22 8 = some (.invokevirtual 127, 3) := by decide +kernel
theorem c22_11 : cd 22 11 = some (.ifCond .eq 23, 3) := by decide +kernel
theorem c22_14 : cd 22 14 = some (.aload 0, 1) := by decide +kernel
theorem c22_15 : cd 22 15 = some (.iload 2, 1) := by decide +kernel
theorem c22_16 : cd 22 16 = some (.i2l, 1) := by decide +kernel
theorem c22_17 : cd 22 17 = some (.invokevirtual 121, 3) := by decide +kernel
theorem c22_20 : cd 22 20 = some (.ifCond .ne 26, 3) := by decide +kernel
theorem c22_23 : cd 22 23 = some (.sipush (-2), 2) := by decide +kernel
theorem c22_25 : cd 22 25 = some (.ireturn, 1) := by decide +kernel
theorem c22_26 : cd 22 26 = some (.aload 0, 1) := by decide +kernel
theorem c22_27 : cd 22 27 = some (.getfield 3078, 3) := by decide +kernel
theorem c22_30 : cd 22 30 = some (.sipush 6, 2) := by decide +kernel
theorem c22_32 : cd 22 32 = some (.iload 1, 1) := by decide +kernel
theorem c22_33 : cd 22 33 = some (.iadd, 1) := by decide +kernel
theorem c22_34 : cd 22 34 = some (.iaload, 1) := by decide +kernel
theorem c22_35 : cd 22 35 = some (.istore 3, 1) := by decide +kernel
theorem c22_36 : cd 22 36 = some (.iload 2, 1) := by decide +kernel
theorem c22_37 : cd 22 37 = some (.iload 3, 1) := by decide +kernel
theorem c22_38 : cd 22 38 = some (.if_icmp .eq 54, 3) := by decide +kernel
theorem c22_41 : cd 22 41 = some (.iload 2, 1) := by decide +kernel
theorem c22_42 : cd 22 42 = some (.aload 0, 1) := by decide +kernel
theorem c22_43 : cd 22 43 = some (.getfield 3078, 3) := by decide +kernel
theorem c22_46 : cd 22 46 = some (.sipush 64, 2) := by decide +kernel
theorem c22_48 : cd 22 48 = some (.iload 1, 1) := by decide +kernel
theorem c22_49 : cd 22 49 = some (.iadd, 1) := by decide +kernel
theorem c22_50 : cd 22 50 = some (.iaload, 1) := by decide +kernel
theorem c22_51 : cd 22 51 = some (.if_icmp .ne 57, 3) := by decide +kernel
theorem c22_54 : cd 22 54 = some (.sipush (-5), 2) := by decide +kernel
theorem c22_56 : cd 22 56 = some (.ireturn, 1) := by decide +kernel
theorem c22_57 : cd 22 57 = some (.aload 0, 1) := by decide +kernel
theorem c22_58 : cd 22 58 = some (.invokevirtual 129, 3) := by decide +kernel
theorem c22_61 : cd 22 61 = some (.aload 0, 1) := by decide +kernel
theorem c22_62 : cd 22 62 = some (.getfield 3078, 3) := by decide +kernel
theorem c22_65 : cd 22 65 = some (.sipush 6, 2) := by decide +kernel
theorem c22_67 : cd 22 67 = some (.iload 1, 1) := by decide +kernel
theorem c22_68 : cd 22 68 = some (.iadd, 1) := by decide +kernel
theorem c22_69 : cd 22 69 = some (.iload 2, 1) := by decide +kernel
theorem c22_70 : cd 22 70 = some (.iastore, 1) := by decide +kernel
theorem c22_71 : cd 22 71 = some (.aload 0, 1) := by decide +kernel
theorem c22_72 : cd 22 72 = some (.invokevirtual 130, 3) := by decide +kernel
theorem c22_75 : cd 22 75 = some (.iload 3, 1) := by decide +kernel
theorem c22_76 : cd 22 76 = some (.ireturn, 1) := by decide +kernel
theorem g22_0 {d : Nat} {a1 : Int} {x2 x3 : Option aV} {w : aW} {Q : Option aV → aW → Prop} : T (d + 1) 22 0 [some (vr 167), some (vi a1), x2, x3] [] w Q = T d 127 0 [some (vr 167), some (vl a1), none] [] (iup w 167 0 0) (fun r w1 => T (d + 1) 22 11 [some (vr 167), some (vi a1), x2, x3] (r.toList ++ []) w1 Q) := by
  rw [T_aload_0 c22_0, T_sipush c22_1, T_putI 12 0 0 c22_2 rfl rfl rfl rfl, T_aload_0 c22_5, T_iload_1 c22_6, T_i2l c22_7, T_invv (es := [some (vr 167), some (vl a1), none]) (st := [vl a1, vr 167]) (ks := [2, 1]) (n := 3) (c := 12) (k := 167) (as := [vl a1]) (rest := []) c22_8 (by decide +kernel) (by decide +kernel) (by decide +kernel) (by decide) rfl rfl (Nat.le_of_ble_eq_true rfl)]
  all_goals try simp only [lay_167, true_and, Nat.reduceAdd, eq_self_iff_true]
theorem g22_11 {d : Nat} {a2 s0 : Int} {x1 x3 : Option aV} {w : aW} {Q : Option aV → aW → Prop} : T (d + 1) 22 11 [some (vr 167), x1, some (vi a2), x3] [vi s0] w Q = ((s0 = 0 → T (d + 1) 22 23 [some (vr 167), x1, some (vi a2), x3] [] w Q) ∧ (¬ (s0 = 0) → T d 121 0 [some (vr 167), some (vl a2), none] [] w (fun r w1 => T (d + 1) 22 20 [some (vr 167), x1, some (vi a2), x3] (r.toList ++ []) w1 Q))) := by
  rw [T_if_eq 23 c22_11 rfl, T_aload_0 c22_14, T_iload_2 c22_15, T_i2l c22_16, T_invv (es := [some (vr 167), some (vl a2), none]) (st := [vl a2, vr 167]) (ks := [2, 1]) (n := 3) (c := 12) (k := 167) (as := [vl a2]) (rest := []) c22_17 (by decide +kernel) (by decide +kernel) (by decide +kernel) (by decide) rfl rfl (Nat.le_of_ble_eq_true rfl)]
  all_goals try simp only [Int.reduceToNat, lay_167, true_and, Nat.reduceAdd, eq_self_iff_true]
theorem g22_20 {d : Nat} {a1 a2 s0 : Int} {x3 : Option aV} {w : aW} {Q : Option aV → aW → Prop} : T (d + 1) 22 20 [some (vr 167), some (vi a1), some (vi a2), x3] [vi s0] w Q = ((¬ s0 = 0 → ((0 ≤ w32 (6 + a1) ∧ w32 (6 + a1) < 4932) ∧ ((a2 = w 168 (w32 (6 + a1)) → T (d + 1) 22 54 [some (vr 167), some (vi a1), some (vi a2), some (vi (w 168 (w32 (6 + a1))))] [] w Q) ∧ (¬ (a2 = w 168 (w32 (6 + a1))) → ((0 ≤ w32 (64 + a1) ∧ w32 (64 + a1) < 4932) ∧ ((¬ a2 = w 168 (w32 (64 + a1)) → T d 129 0 [some (vr 167), none] [] w (fun r w1 => T (d + 1) 22 61 [some (vr 167), some (vi a1), some (vi a2), some (vi (w 168 (w32 (6 + a1))))] (r.toList ++ []) w1 Q)) ∧ (¬ (¬ a2 = w 168 (w32 (64 + a1))) → T (d + 1) 22 54 [some (vr 167), some (vi a1), some (vi a2), some (vi (w 168 (w32 (6 + a1))))] [] w Q))))))) ∧ (¬ (¬ s0 = 0) → T (d + 1) 22 23 [some (vr 167), some (vi a1), some (vi a2), x3] [] w Q)) := by
  rw [T_if_ne 26 c22_20 rfl, T_aload_0 c22_26, T_getR 12 1 1 c22_27 rfl rfl rfl rfl, rf_167_1, T_sipush c22_30, T_iload_1 c22_32, T_iadd c22_33, T_iald c22_34, T_istore_3 c22_35, T_iload_2 c22_36, T_iload_3 c22_37, T_icmp_eq 54 c22_38 rfl, T_iload_2 c22_41, T_aload_0 c22_42, T_getR 12 1 1 c22_43 rfl rfl rfl rfl, rf_167_1, T_sipush c22_46, T_iload_1 c22_48, T_iadd c22_49, T_iald c22_50, T_icmp_ne 57 c22_51 rfl, T_aload_0 c22_57, T_invv (es := [some (vr 167), none]) (st := [vr 167]) (ks := [2]) (n := 2) (c := 12) (k := 167) (as := []) (rest := []) c22_58 (by decide +kernel) (by decide +kernel) (by decide +kernel) (by decide) rfl rfl (Nat.le_of_ble_eq_true rfl)]
  all_goals try simp only [Int.reduceToNat, lay_167, ld_168, true_and, Nat.reduceAdd, eq_self_iff_true]
theorem g22_23 {d : Nat} {x0 x1 x2 x3 : Option aV} {w : aW} {Q : Option aV → aW → Prop} : T d 22 23 [x0, x1, x2, x3] [] w Q = Q (some (vi (-2))) w := by
  rw [T_sipush c22_23, T_ireti c22_25 (by decide +kernel)]
  all_goals try simp only [true_and, Nat.reduceAdd, eq_self_iff_true]
theorem g22_54 {d : Nat} {x0 x1 x2 x3 : Option aV} {w : aW} {Q : Option aV → aW → Prop} : T d 22 54 [x0, x1, x2, x3] [] w Q = Q (some (vi (-5))) w := by
  rw [T_sipush c22_54, T_ireti c22_56 (by decide +kernel)]
  all_goals try simp only [true_and, Nat.reduceAdd, eq_self_iff_true]
theorem g22_61 {d : Nat} {a1 a2 : Int} {x3 : Option aV} {w : aW} {Q : Option aV → aW → Prop} : T (d + 1) 22 61 [some (vr 167), some (vi a1), some (vi a2), x3] [] w Q = ((0 ≤ w32 (6 + a1) ∧ w32 (6 + a1) < 4932) ∧ T d 130 0 [some (vr 167), none] [] (iup w 168 (w32 (6 + a1)) a2) (fun r w1 => T (d + 1) 22 75 [some (vr 167), some (vi a1), some (vi a2), x3] (r.toList ++ []) w1 Q)) := by
  rw [T_aload_0 c22_61, T_getR 12 1 1 c22_62 rfl rfl rfl rfl, rf_167_1, T_sipush c22_65, T_iload_1 c22_67, T_iadd c22_68, T_iload_2 c22_69, T_iast c22_70, T_aload_0 c22_71, T_invv (es := [some (vr 167), none]) (st := [vr 167]) (ks := [2]) (n := 2) (c := 12) (k := 167) (as := []) (rest := []) c22_72 (by decide +kernel) (by decide +kernel) (by decide +kernel) (by decide) rfl rfl (Nat.le_of_ble_eq_true rfl)]
  all_goals try simp only [ia0_168, lay_167, true_and, Nat.reduceAdd, eq_self_iff_true]
theorem g22_75 {d : Nat} {a3 : Int} {x0 x1 x2 : Option aV} {w : aW} {Q : Option aV → aW → Prop} : T d 22 75 [x0, x1, x2, some (vi a3)] [] w Q = Q (some (vi a3)) w := by
  rw [T_iload_3 c22_75, T_ireti c22_76 (by decide +kernel)]
  all_goals try simp only [true_and, Nat.reduceAdd, eq_self_iff_true]
/-! 23: StringHands.swap.(I)I -/
theorem c23_0 : cd 23 0 = some (.iload 1, 1) := by decide +kernel
theorem c23_1 : cd 23 1 = some (.ifCond .lt 17, 3) := by decide +kernel
theorem c23_4 : cd 23 4 = some (.iload 1, 1) := by decide +kernel
theorem c23_5 : cd 23 5 = some (.aload 0, 1) := by decide +kernel
theorem c23_6 : cd 23 6 = some (.getfield 2850, 3) := by decide +kernel
theorem c23_9 : cd 23 9 = some (.getfield 2052, 3) := by decide +kernel
theorem c23_12 : cd 23 12 = some (.sipush 1, 1) := by decide +kernel
theorem c23_13 : cd 23 13 = some (.isub, 1) := by decide +kernel
theorem c23_14 : cd 23 14 = some (.if_icmp .lt 20, 3) := by decide +kernel
theorem c23_17 : cd 23 17 = some (.sipush (-3), 2) := by decide +kernel
theorem c23_19 : cd 23 19 = some (.ireturn, 1) := by decide +kernel
theorem c23_20 : cd 23 20 = some (.aload 0, 1) := by decide +kernel
theorem c23_21 : cd 23 21 = some (.invokevirtual 128, 3) := by decide +kernel
theorem c23_24 : cd 23 24 = some (.aload 0, 1) := by decide +kernel
theorem c23_25 : cd 23 25 = some (.getfield 2854, 3) := by decide +kernel
theorem c23_28 : cd 23 28 = some (.iload 1, 1) := by decide +kernel
theorem c23_29 : cd 23 29 = some (.aload 0, 1) := by decide +kernel
theorem c23_30 : cd 23 30 = some (.getfield 2850, 3) := by decide +kernel
theorem c23_33 : cd 23 33 = some (.getfield 2052, 3) := by decide +kernel
theorem c23_36 : cd 23 36 = some (.invokevirtual 142, 3) := by decide +kernel
theorem c23_39 : cd 23 39 = some (.aload 0, 1) := by decide +kernel
theorem c23_40 : cd 23 40 = some (.getfield 2838, 3) := by decide +kernel
theorem c23_43 : cd 23 43 = some (.aload 0, 1) := by decide +kernel
theorem c23_44 : cd 23 44 = some (.getfield 2850, 3) := by decide +kernel
theorem c23_47 : cd 23 47 = some (.aload 0, 1) := by decide +kernel
theorem c23_48 : cd 23 48 = some (.getfield 2854, 3) := by decide +kernel
theorem c23_51 : cd 23 51 = some (.invokevirtual 143, 3) := by decide +kernel
theorem c23_54 : cd 23 54 = some (.ireturn, 1) := by decide +kernel
theorem g23_0 {d : Nat} {a1 : Int} {w : aW} {Q : Option aV → aW → Prop} : T (d + 1) 23 0 [some (vr 0), some (vi a1)] [] w Q = ((a1 < 0 → T (d + 1) 23 17 [some (vr 0), some (vi a1)] [] w Q) ∧ (¬ (a1 < 0) → ((a1 < w32 ((w 69 1) - 1) → T d 128 0 [some (vr 0), none, none] [] w (fun r w1 => T (d + 1) 23 24 [some (vr 0), some (vi a1)] (r.toList ++ []) w1 Q)) ∧ (¬ (a1 < w32 ((w 69 1) - 1)) → T (d + 1) 23 17 [some (vr 0), some (vi a1)] [] w Q)))) := by
  rw [T_iload_1 c23_0, T_if_lt 17 c23_1 rfl, T_iload_1 c23_4, T_aload_0 c23_5, T_getR 11 8 8 c23_6 rfl rfl rfl rfl, rf_0_8, T_getI 8 1 1 c23_9 rfl rfl rfl rfl, T_sipush c23_12, T_isub c23_13, T_icmp_lt 20 c23_14 rfl, T_aload_0 c23_20, T_invv (es := [some (vr 0), none, none]) (st := [vr 0]) (ks := [2]) (n := 3) (c := 11) (k := 0) (as := []) (rest := []) c23_21 (by decide +kernel) (by decide +kernel) (by decide +kernel) (by decide) rfl rfl (Nat.le_of_ble_eq_true rfl)]
  all_goals try simp only [Int.reduceToNat, lay_0, lay_69, true_and, Nat.reduceAdd, eq_self_iff_true]
theorem g23_17 {d : Nat} {x0 x1 : Option aV} {w : aW} {Q : Option aV → aW → Prop} : T d 23 17 [x0, x1] [] w Q = Q (some (vi (-3))) w := by
  rw [T_sipush c23_17, T_ireti c23_19 (by decide +kernel)]
  all_goals try simp only [true_and, Nat.reduceAdd, eq_self_iff_true]
theorem g23_24 {d : Nat} {a1 : Int} {w : aW} {Q : Option aV → aW → Prop} : T (d + 1) 23 24 [some (vr 0), some (vi a1)] [] w Q = T d 142 0 [some (vr 79), some (vi a1), some (vi (w 69 1)), none] [] w (fun r w1 => T (d + 1) 23 39 [some (vr 0), some (vi a1)] (r.toList ++ []) w1 Q) := by
  rw [T_aload_0 c23_24, T_getR 11 9 9 c23_25 rfl rfl rfl rfl, rf_0_9, T_iload_1 c23_28, T_aload_0 c23_29, T_getR 11 8 8 c23_30 rfl rfl rfl rfl, rf_0_8, T_getI 8 1 1 c23_33 rfl rfl rfl rfl, T_invv (es := [some (vr 79), some (vi a1), some (vi (w 69 1)), none]) (st := [vi (w 69 1), vi a1, vr 79]) (ks := [2, 0, 0]) (n := 4) (c := 6) (k := 79) (as := [vi a1, vi (w 69 1)]) (rest := []) c23_36 (by decide +kernel) (by decide +kernel) (by decide +kernel) (by decide) rfl rfl (Nat.le_of_ble_eq_true rfl)]
  all_goals try simp only [lay_0, lay_69, lay_79, true_and, Nat.reduceAdd, eq_self_iff_true]
theorem g23_39 {d : Nat} {x1 : Option aV} {w : aW} {Q : Option aV → aW → Prop} : T (d + 1) 23 39 [some (vr 0), x1] [] w Q = T d 143 0 [some (vr 52), some (vr 69), some (vr 79), none, none, none] [] w (fun r w1 => T (d + 1) 23 54 [some (vr 0), x1] (r.toList ++ []) w1 Q) := by
  rw [T_aload_0 c23_39, T_getR 11 5 5 c23_40 rfl rfl rfl rfl, rf_0_5, T_aload_0 c23_43, T_getR 11 8 8 c23_44 rfl rfl rfl rfl, rf_0_8, T_aload_0 c23_47, T_getR 11 9 9 c23_48 rfl rfl rfl rfl, rf_0_9, T_invv (es := [some (vr 52), some (vr 69), some (vr 79), none, none, none]) (st := [vr 79, vr 69, vr 52]) (ks := [2, 2, 2]) (n := 6) (c := 7) (k := 52) (as := [vr 69, vr 79]) (rest := []) c23_51 (by decide +kernel) (by decide +kernel) (by decide +kernel) (by decide) rfl rfl (Nat.le_of_ble_eq_true rfl)]
  all_goals try simp only [lay_0, lay_52, true_and, Nat.reduceAdd, eq_self_iff_true]
theorem g23_54 {d : Nat} {s0 : Int} {x0 x1 : Option aV} {w : aW} {Q : Option aV → aW → Prop} : T d 23 54 [x0, x1] [vi s0] w Q = Q (some (vi s0)) w := by
  rw [T_ireti c23_54 (by decide +kernel)]
  all_goals try simp only [true_and, Nat.reduceAdd, eq_self_iff_true]
/-! 24: StringHandsModel.swap.(I)I -/
theorem c24_0 : cd 24 0 = some (.aload 0, 1) := by decide +kernel
theorem c24_1 : cd 24 1 = some (.sipush 0, 1) := by decide +kernel
theorem c24_2 : cd 24 2 = some (.putfield 3072, 3) := by decide +kernel
theorem c24_5 : cd 24 5 = some (.iload 1, 1) := by decide +kernel
theorem c24_6 : cd 24 6 = some (.i2l, 1) := by decide +kernel
theorem c24_7 : cd 24 7 = some (.bipush 0, 1) := by decide +kernel
theorem c24_8 : cd 24 8 = some (.aload 0, 1) := by decide +kernel
theorem c24_9 : cd 24 9 = some (.getfield 3078, 3) := by decide +kernel
theorem c24_12 : cd 24 12 = some (.sipush 2, 1) := by decide +kernel
theorem c24_13 : cd 24 13 = some (.iaload, 1) := by decide +kernel
theorem c24_14 : cd 24 14 = some (.sipush 2, 1) := by decide +kernel
theorem c24_15 : cd 24 15 = some (.isub, 1) := by decide +kernel
theorem c24_16 : cd 24 16 = some (.i2l, 1) := by decide +kernel
theorem c24_17 : cd 24 17 = some (.invokestatic 105, 3) := by decide +kernel
theorem c24_20 : cd 24 20 = some (.ifCond .ne 26, 3) := by decide +kernel
theorem c24_23 : cd 24 23 = some (.sipush (-3), 2) := by decide +kernel
theorem c24_25 : cd 24 25 = some (.ireturn, 1) := by decide +kernel
theorem c24_26 : cd 24 26 = some (.aload 0, 1) := by decide +kernel
theorem c24_27 : cd 24 27 = some (.invokevirtual 129, 3) := by decide +kernel
theorem c24_30 : cd 24 30 = some (.aload 0, 1) := by decide +kernel
theorem c24_31 : cd 24 31 = some (.iload 1, 1) := by decide +kernel
theorem c24_32 : cd 24 32 = some (.invokevirtual 144, 3) := by decide +kernel
theorem c24_35 : cd 24 35 = some (.istore 2, 1) := by decide +kernel
theorem c24_36 : cd 24 36 = some (.aload 0, 1) := by decide +kernel
theorem c24_37 : cd 24 37 = some (.iload 1, 1) := by decide +kernel
theorem c24_38 : cd 24 38 = some (.sipush 1, 1) := by decide +kernel
theorem c24_39 : cd 24 39 = some (.iadd, 1) := by decide +kernel
theorem c24_40 : cd 24 40 = some (.invokevirtual 144, 3) := by decide +kernel
theorem c24_43 : cd 24 43 = some (.istore 3, 1) := by decide +kernel
theorem c24_44 : cd 24 44 = some (.aload 0, 1) := by decide +kernel
theorem c24_45 : cd 24 45 = some (.getfield 3078, 3) := by decide +kernel
theorem c24_48 : cd 24 48 = some (.sipush 54, 2) := by decide +kernel
theorem c24_50 : cd 24 50 = some (.iload 2, 1) := by decide +kernel
theorem c24_51 : cd 24 51 = some (.iadd, 1) := by decide +kernel
theorem c24_52 : cd 24 52 = some (.iload 1, 1) := by decide +kernel
theorem c24_53 : cd 24 53 = some (.sipush 1, 1) := by decide +kernel
theorem c24_54 : cd 24 54 = some (.iadd, 1) := by decide +kernel
theorem c24_55 : cd 24 55 = some (.iastore, 1) := by decide +kernel
theorem c24_56 : cd 24 56 = some (.aload 0, 1) := by decide +kernel
theorem c24_57 : cd 24 57 = some (.getfield 3078, 3) := by decide +kernel
theorem c24_60 : cd 24 60 = some (.sipush 54, 2) := by decide +kernel
theorem c24_62 : cd 24 62 = some (.iload 3, 1) := by decide +kernel
theorem c24_63 : cd 24 63 = some (.iadd, 1) := by decide +kernel
theorem c24_64 : cd 24 64 = some (.iload 1, 1) := by decide +kernel
theorem c24_65 : cd 24 65 = some (.iastore, 1) := by decide +kernel
theorem c24_66 : cd 24 66 = some (.aload 0, 1) := by decide +kernel
theorem c24_67 : cd 24 67 = some (.invokevirtual 130, 3) := by decide +kernel
theorem c24_70 : cd 24 70 = some (.aload 0, 1) := by decide +kernel
theorem c24_71 : cd 24 71 = some (.invokevirtual 145, 3) := by decide +kernel
theorem c24_74 : cd 24 74 = some (.ireturn, 1) := by decide +kernel
theorem g24_0 {d : Nat} {a1 : Int} {x2 x3 : Option aV} {w : aW} {Q : Option aV → aW → Prop} : T (d + 1) 24 0 [some (vr 167), some (vi a1), x2, x3] [] w Q = T d 105 0 [some (vl a1), none, some (vl 0), none, some (vl (w32 (((iup w 167 0 0) 168 2) - 2))), none] [] (iup w 167 0 0) (fun r w1 => T (d + 1) 24 20 [some (vr 167), some (vi a1), x2, x3] (r.toList ++ []) w1 Q) := by
  rw [T_aload_0 c24_0, T_sipush c24_1, T_putI 12 0 0 c24_2 rfl rfl rfl rfl, T_iload_1 c24_5, T_i2l c24_6, T_bipush c24_7, T_aload_0 c24_8, T_getR 12 1 1 c24_9 rfl rfl rfl rfl, rf_167_1, T_sipush c24_12, T_iald c24_13, T_sipush c24_14, T_isub c24_15, T_i2l c24_16, T_inv (es := [some (vl a1), none, some (vl 0), none, some (vl (w32 (((iup w 167 0 0) 168 2) - 2))), none]) (st := [vl (w32 (((iup w 167 0 0) 168 2) - 2)), vl 0, vl a1]) (ks := [1, 1, 1]) (n := 6) (as := [vl a1, vl 0, vl (w32 (((iup w 167 0 0) 168 2) - 2))]) (rest := []) c24_17 (by decide +kernel) (by decide +kernel) rfl rfl (Nat.le_of_ble_eq_true rfl)]
  all_goals try simp only [Int.reduceLE, Int.reduceLT, and_self, lay_167, ld_168, true_and, Nat.reduceAdd, eq_self_iff_true]
theorem g24_20 {d : Nat} {s0 : Int} {x1 x2 x3 : Option aV} {w : aW} {Q : Option aV → aW → Prop} : T (d + 1) 24 20 [some (vr 167), x1, x2, x3] [vi s0] w Q = ((¬ s0 = 0 → T d 129 0 [some (vr 167), none] [] w (fun r w1 => T (d + 1) 24 30 [some (vr 167), x1, x2, x3] (r.toList ++ []) w1 Q)) ∧ (¬ (¬ s0 = 0) → Q (some (vi (-3))) w)) := by
  rw [T_if_ne 26 c24_20 rfl, T_aload_0 c24_26, T_invv (es := [some (vr 167), none]) (st := [vr 167]) (ks := [2]) (n := 2) (c := 12) (k := 167) (as := []) (rest := []) c24_27 (by decide +kernel) (by decide +kernel) (by decide +kernel) (by decide) rfl rfl (Nat.le_of_ble_eq_true rfl), T_sipush c24_23, T_ireti c24_25 (by decide +kernel)]
  all_goals try simp only [Int.reduceToNat, lay_167, true_and, Nat.reduceAdd, eq_self_iff_true]
theorem g24_30 {d : Nat} {a1 : Int} {x2 x3 : Option aV} {w : aW} {Q : Option aV → aW → Prop} : T (d + 1) 24 30 [some (vr 167), some (vi a1), x2, x3] [] w Q = T d 144 0 [some (vr 167), some (vi a1), none] [] w (fun r w1 => T (d + 1) 24 35 [some (vr 167), some (vi a1), x2, x3] (r.toList ++ []) w1 Q) := by
  rw [T_aload_0 c24_30, T_iload_1 c24_31, T_invv (es := [some (vr 167), some (vi a1), none]) (st := [vi a1, vr 167]) (ks := [2, 0]) (n := 3) (c := 12) (k := 167) (as := [vi a1]) (rest := []) c24_32 (by decide +kernel) (by decide +kernel) (by decide +kernel) (by decide) rfl rfl (Nat.le_of_ble_eq_true rfl)]
  all_goals try simp only [lay_167, true_and, Nat.reduceAdd, eq_self_iff_true]
theorem g24_35 {d : Nat} {a1 s0 : Int} {x2 x3 : Option aV} {w : aW} {Q : Option aV → aW → Prop} : T (d + 1) 24 35 [some (vr 167), some (vi a1), x2, x3] [vi s0] w Q = T d 144 0 [some (vr 167), some (vi (w32 (a1 + 1))), none] [] w (fun r w1 => T (d + 1) 24 43 [some (vr 167), some (vi a1), some (vi s0), x3] (r.toList ++ []) w1 Q) := by
  rw [T_istore_2 c24_35, T_aload_0 c24_36, T_iload_1 c24_37, T_sipush c24_38, T_iadd c24_39, T_invv (es := [some (vr 167), some (vi (w32 (a1 + 1))), none]) (st := [vi (w32 (a1 + 1)), vr 167]) (ks := [2, 0]) (n := 3) (c := 12) (k := 167) (as := [vi (w32 (a1 + 1))]) (rest := []) c24_40 (by decide +kernel) (by decide +kernel) (by decide +kernel) (by decide) rfl rfl (Nat.le_of_ble_eq_true rfl)]
  all_goals try simp only [lay_167, true_and, Nat.reduceAdd, eq_self_iff_true]
theorem g24_43 {d : Nat} {a1 a2 s0 : Int} {x3 : Option aV} {w : aW} {Q : Option aV → aW → Prop} : T (d + 1) 24 43 [some (vr 167), some (vi a1), some (vi a2), x3] [vi s0] w Q = ((0 ≤ w32 (54 + a2) ∧ w32 (54 + a2) < 4932) ∧ ((0 ≤ w32 (54 + s0) ∧ w32 (54 + s0) < 4932) ∧ T d 130 0 [some (vr 167), none] [] (iup (iup w 168 (w32 (54 + a2)) (w32 (a1 + 1))) 168 (w32 (54 + s0)) a1) (fun r w1 => T (d + 1) 24 70 [some (vr 167), some (vi a1), some (vi a2), some (vi s0)] (r.toList ++ []) w1 Q))) := by
  rw [T_istore_3 c24_43, T_aload_0 c24_44, T_getR 12 1 1 c24_45 rfl rfl rfl rfl, rf_167_1, T_sipush c24_48, T_iload_2 c24_50, T_iadd c24_51, T_iload_1 c24_52, T_sipush c24_53, T_iadd c24_54, T_iast c24_55, T_aload_0 c24_56, T_getR 12 1 1 c24_57 rfl rfl rfl rfl, rf_167_1, T_sipush c24_60, T_iload_3 c24_62, T_iadd c24_63, T_iload_1 c24_64, T_iast c24_65, T_aload_0 c24_66, T_invv (es := [some (vr 167), none]) (st := [vr 167]) (ks := [2]) (n := 2) (c := 12) (k := 167) (as := []) (rest := []) c24_67 (by decide +kernel) (by decide +kernel) (by decide +kernel) (by decide) rfl rfl (Nat.le_of_ble_eq_true rfl)]
  all_goals try simp only [ia0_168, lay_167, true_and, Nat.reduceAdd, eq_self_iff_true]
theorem g24_70 {d : Nat} {x1 x2 x3 : Option aV} {w : aW} {Q : Option aV → aW → Prop} : T (d + 1) 24 70 [some (vr 167), x1, x2, x3] [] w Q = T d 145 0 [some (vr 167), none] [] w (fun r w1 => T (d + 1) 24 74 [some (vr 167), x1, x2, x3] (r.toList ++ []) w1 Q) := by
  rw [T_aload_0 c24_70, T_invv (es := [some (vr 167), none]) (st := [vr 167]) (ks := [2]) (n := 2) (c := 12) (k := 167) (as := []) (rest := []) c24_71 (by decide +kernel) (by decide +kernel) (by decide +kernel) (by decide) rfl rfl (Nat.le_of_ble_eq_true rfl)]
  all_goals try simp only [lay_167, true_and, Nat.reduceAdd, eq_self_iff_true]
theorem g24_74 {d : Nat} {s0 : Int} {x0 x1 x2 x3 : Option aV} {w : aW} {Q : Option aV → aW → Prop} : T d 24 74 [x0, x1, x2, x3] [vi s0] w Q = Q (some (vi s0)) w := by
  rw [T_ireti c24_74 (by decide +kernel)]
  all_goals try simp only [true_and, Nat.reduceAdd, eq_self_iff_true]
/-! 25: StringHands.undo.(I)I -/
theorem c25_0 : cd 25 0 = some (.iload 1, 1) := by decide +kernel
theorem c25_1 : cd 25 1 = some (.sipush 1, 1) := by decide +kernel
theorem c25_2 : cd 25 2 = some (.if_icmp .lt 19, 3) := by decide +kernel
theorem c25_5 : cd 25 5 = some (.iload 1, 1) := by decide +kernel
theorem c25_6 : cd 25 6 = some (.aload 0, 1) := by decide +kernel
theorem c25_7 : cd 25 7 = some (.getfield 2864, 3) := by decide +kernel
theorem c25_10 : cd 25 10 = some (.if_icmp .gt 19, 3) := by decide +kernel
theorem c25_13 : cd 25 13 = some (.iload 1, 1) := by decide +kernel
theorem c25_14 : cd 25 14 = some (.sipush 10, 2) := by decide +kernel
theorem c25_16 : cd 25 16 = some (.if_icmp .le 22, 3) := by decide +kernel
theorem c25_19 : cd 25 19 = some (.sipush (-3), 2) := by decide +kernel
theorem c25_21 : cd 25 21 = some (.ireturn, 1) := by decide +kernel
theorem c25_22 : cd 25 22 = some (.aload 0, 1) := by decide +kernel
theorem c25_23 : cd 25 23 = some (.dup, 1) := by decide +kernel
theorem c25_24 : cd 25 24 = some (.getfield 2864, 3) := by decide +kernel
theorem c25_27 : cd 25 27 = some (.iload 1, 1) := by decide +kernel
theorem c25_28 : cd 25 28 = some (.isub, 1) := by decide +kernel
theorem c25_29 : cd 25 29 = some (.putfield 2864, 3) := by decide +kernel
theorem c25_32 : cd 25 32 = some (.aload 0, 1) := by decide +kernel
theorem c25_33 : cd 25 33 = some (.getfield 2854, 3) := by decide +kernel
theorem c25_36 : cd 25 36 = some (.aload 0, 1) := by decide +kernel
theorem c25_37 : cd 25 37 = some (.getfield 2862, 3) := by decide +kernel
theorem c25_40 : cd 25 40 = some (.aload 0, 1) := by decide +kernel
theorem c25_41 : cd 25 41 = some (.getfield 2864, 3) := by decide +kernel
theorem c25_44 : cd 25 44 = some (.aaload, 1) := by decide +kernel
theorem c25_45 : cd 25 45 = some (.invokevirtual 146, 3) := by decide +kernel
theorem c25_48 : cd 25 48 = some (.aload 0, 1) := by decide +kernel
theorem c25_49 : cd 25 49 = some (.getfield 2864, 3) := by decide +kernel
theorem c25_52 : cd 25 52 = some (.ireturn, 1) := by decide +kernel
theorem g25_0 {d : Nat} {a1 : Int} {w : aW} {Q : Option aV → aW → Prop} : T (d + 1) 25 0 [some (vr 0), some (vi a1)] [] w Q = ((a1 < 1 → T (d + 1) 25 19 [some (vr 0), some (vi a1)] [] w Q) ∧ (¬ (a1 < 1) → ((w 0 12 < a1 → T (d + 1) 25 19 [some (vr 0), some (vi a1)] [] w Q) ∧ (¬ (w 0 12 < a1) → ((a1 ≤ 10 → ((isRA 87 ((iup w 0 12 (w32 ((w 0 12) - a1))) 0 12) = true ∧ (87 = 87 → ((iup w 0 12 (w32 ((w 0 12) - a1))) 87 ((iup w 0 12 (w32 ((w 0 12) - a1))) 0 12)).toNat < 191)) ∧ T d 146 0 [some (vr 79), some (vr (rAt (iup w 0 12 (w32 ((w 0 12) - a1))) 87 ((iup w 0 12 (w32 ((w 0 12) - a1))) 0 12)))] [] (iup w 0 12 (w32 ((w 0 12) - a1))) (fun r w1 => T (d + 1) 25 48 [some (vr 0), some (vi a1)] (r.toList ++ []) w1 Q))) ∧ (¬ (a1 ≤ 10) → T (d + 1) 25 19 [some (vr 0), some (vi a1)] [] w Q)))))) := by
  rw [T_iload_1 c25_0, T_sipush c25_1, T_icmp_lt 19 c25_2 rfl, T_iload_1 c25_5, T_aload_0 c25_6, T_getI 11 12 12 c25_7 rfl rfl rfl rfl, T_icmp_gt 19 c25_10 rfl, T_iload_1 c25_13, T_sipush c25_14, T_icmp_le 22 c25_16 rfl, T_aload_0 c25_22, T_dup_r c25_23, T_getI 11 12 12 c25_24 rfl rfl rfl rfl, T_iload_1 c25_27, T_isub c25_28, T_putI 11 12 12 c25_29 rfl rfl rfl rfl, T_aload_0 c25_32, T_getR 11 9 9 c25_33 rfl rfl rfl rfl, rf_0_9, T_aload_0 c25_36, T_getR 11 11 11 c25_37 rfl rfl rfl rfl, rf_0_11, T_aload_0 c25_40, T_getI 11 12 12 c25_41 rfl rfl rfl rfl, T_aald c25_44, T_invv (es := [some (vr 79), some (vr (rAt (iup w 0 12 (w32 ((w 0 12) - a1))) 87 ((iup w 0 12 (w32 ((w 0 12) - a1))) 0 12)))]) (st := [vr (rAt (iup w 0 12 (w32 ((w 0 12) - a1))) 87 ((iup w 0 12 (w32 ((w 0 12) - a1))) 0 12)), vr 79]) (ks := [2, 2]) (n := 2) (c := 6) (k := 79) (as := [vr (rAt (iup w 0 12 (w32 ((w 0 12) - a1))) 87 ((iup w 0 12 (w32 ((w 0 12) - a1))) 0 12))]) (rest := []) c25_45 (by decide +kernel) (by decide +kernel) (by decide +kernel) (by decide) rfl rfl (Nat.le_of_ble_eq_true rfl)]
  all_goals try simp only [Int.reduceToNat, lay_0, lay_79, true_and, Nat.reduceAdd, eq_self_iff_true]
theorem g25_19 {d : Nat} {x0 x1 : Option aV} {w : aW} {Q : Option aV → aW → Prop} : T d 25 19 [x0, x1] [] w Q = Q (some (vi (-3))) w := by
  rw [T_sipush c25_19, T_ireti c25_21 (by decide +kernel)]
  all_goals try simp only [true_and, Nat.reduceAdd, eq_self_iff_true]
theorem g25_48 {d : Nat} {x1 : Option aV} {w : aW} {Q : Option aV → aW → Prop} : T d 25 48 [some (vr 0), x1] [] w Q = Q (some (vi (w 0 12))) w := by
  rw [T_aload_0 c25_48, T_getI 11 12 12 c25_49 rfl rfl rfl rfl, T_ireti c25_52 (by decide +kernel)]
  all_goals try simp only [lay_0, true_and, Nat.reduceAdd, eq_self_iff_true]
/-! 26: StringHandsModel.undo.(I)I -/
theorem c26_0 : cd 26 0 = some (.aload 0, 1) := by decide +kernel
theorem c26_1 : cd 26 1 = some (.sipush 0, 1) := by decide +kernel
theorem c26_2 : cd 26 2 = some (.putfield 3072, 3) := by decide +kernel
theorem c26_5 : cd 26 5 = some (.iload 1, 1) := by decide +kernel
theorem c26_6 : cd 26 6 = some (.i2l, 1) := by decide +kernel
theorem c26_7 : cd 26 7 = some (.bipush 1, 1) := by decide +kernel
theorem c26_8 : cd 26 8 = some (.bipush 10, 3) := by decide +kernel
theorem c26_11 : cd 26 11 = some (.invokestatic 105, 3) := by decide +kernel
theorem c26_14 : cd 26 14 = some (.ifCond .eq 29, 3) := by decide +kernel
theorem c26_17 : cd 26 17 = some (.iload 1, 1) := by decide +kernel
theorem c26_18 : cd 26 18 = some (.aload 0, 1) := by decide +kernel
theorem c26_19 : cd 26 19 = some (.getfield 3078, 3) := by decide +kernel
theorem c26_22 : cd 26 22 = some (.sipush 152, 3) := by decide +kernel
theorem c26_25 : cd 26 25 = some (.iaload, 1) := by decide +kernel
theorem c26_26 : cd 26 26 = some (.if_icmp .le 32, 3) := by decide +kernel
theorem c26_29 : cd 26 29 = some (.sipush (-3), 2) := by decide +kernel
theorem c26_31 : cd 26 31 = some (.ireturn, 1) := by decide +kernel
theorem c26_32 : cd 26 32 = some (.aload 0, 1) := by decide +kernel
theorem c26_33 : cd 26 33 = some (.getfield 3078, 3) := by decide +kernel
theorem c26_36 : cd 26 36 = some (.sipush 152, 3) := by decide +kernel
theorem c26_39 : cd 26 39 = some (.dup2, 1) := by decide +kernel
theorem c26_40 : cd 26 40 = some (.iaload, 1) := by decide +kernel
theorem c26_41 : cd 26 41 = some (.iload 1, 1) := by decide +kernel
theorem c26_42 : cd 26 42 = some (.isub, 1) := by decide +kernel
theorem c26_43 : cd 26 43 = some (.iastore, 1) := by decide +kernel
theorem c26_44 : cd 26 44 = some (.sipush 0, 1) := by decide +kernel
theorem c26_45 : cd 26 45 = some (.istore 2, 1) := by decide +kernel
theorem c26_46 : cd 26 46 = some (.iload 2, 1) := by decide +kernel
theorem c26_47 : cd 26 47 = some (.sipush 59, 2) := by decide +kernel
theorem c26_49 : cd 26 49 = some (.if_icmp .ge 88, 3) := by decide +kernel
theorem c26_52 : cd 26 52 = some (.aload 0, 1) := by decide +kernel
theorem c26_53 : cd 26 53 = some (.getfield 3078, 3) := by decide +kernel
theorem c26_56 : cd 26 56 = some (.sipush 5, 1) := by decide +kernel
theorem c26_57 : cd 26 57 = some (.iload 2, 1) := by decide +kernel
theorem c26_58 : cd 26 58 = some (.iadd, 1) := by decide +kernel
theorem c26_59 : cd 26 59 = some (.aload 0, 1) := by decide +kernel
theorem c26_60 : cd 26 60 = some (.getfield 3078, 3) := by decide +kernel
theorem c26_63 : cd 26 63 = some (.sipush 153, 3) := by decide +kernel
theorem c26_66 : cd 26 66 = some (.sipush 59, 2) := by decide +kernel
theorem c26_68 : cd 26 68 = some (.aload 0, 1) := by decide +kernel
theorem c26_69 : cd 26 69 = some (.getfield 3078, 3) := by decide +kernel
theorem c26_72 : cd 26 72 = some (.sipush 152, 3) := by decide +kernel
theorem c26_75 : cd 26 75 = some (.iaload, 1) := by decide +kernel
theorem c26_76 : cd 26 76 = some (.imul, 1) := by decide +kernel
theorem c26_77 : cd 26 77 = some (.iadd, 1) := by decide +kernel
theorem c26_78 : cd 26 78 = some (.iload 2, 1) := by decide +kernel
theorem c26_79 : cd 26 79 = some (.iadd, 1) := by decide +kernel
theorem c26_80 : cd 26 80 = some (.iaload, 1) := by decide +kernel
theorem c26_81 : cd 26 81 = some (.iastore, 1) := by decide +kernel
theorem c26_82 : cd 26 82 = some (.iinc 2 1, 3) := by decide +kernel
theorem c26_85 : cd 26 85 = some (.goto 46, 3) := by decide +kernel
theorem c26_88 : cd 26 88 = some (.aload 0, 1) := by decide +kernel
theorem c26_89 : cd 26 89 = some (.getfield 3078, 3) := by decide +kernel
theorem c26_92 : cd 26 92 = some (.sipush 152, 3) := by decide +kernel
theorem c26_95 : cd 26 95 = some (.iaload, 1) := by decide +kernel
theorem c26_96 : cd 26 96 = some (.ireturn, 1) := by decide +kernel
theorem g26_0 {d : Nat} {a1 : Int} {x2 : Option aV} {w : aW} {Q : Option aV → aW → Prop} : T (d + 1) 26 0 [some (vr 167), some (vi a1), x2] [] w Q = T d 105 0 [some (vl a1), none, some (vl 1), none, some (vl 10), none] [] (iup w 167 0 0) (fun r w1 => T (d + 1) 26 14 [some (vr 167), some (vi a1), x2] (r.toList ++ []) w1 Q) := by
  rw [T_aload_0 c26_0, T_sipush c26_1, T_putI 12 0 0 c26_2 rfl rfl rfl rfl, T_iload_1 c26_5, T_i2l c26_6, T_bipush c26_7, T_bipush c26_8, T_inv (es := [some (vl a1), none, some (vl 1), none, some (vl 10), none]) (st := [vl 10, vl 1, vl a1]) (ks := [1, 1, 1]) (n := 6) (as := [vl a1, vl 1, vl 10]) (rest := []) c26_11 (by decide +kernel) (by decide +kernel) rfl rfl (Nat.le_of_ble_eq_true rfl)]
  all_goals try simp only [lay_167, true_and, Nat.reduceAdd, eq_self_iff_true]
theorem g26_14 {d : Nat} {a1 s0 : Int} {x2 : Option aV} {w : aW} {Q : Option aV → aW → Prop} : T d 26 14 [some (vr 167), some (vi a1), x2] [vi s0] w Q = ((s0 = 0 → T d 26 29 [some (vr 167), some (vi a1), x2] [] w Q) ∧ (¬ (s0 = 0) → ((a1 ≤ w 168 152 → T d 26 46 [some (vr 167), some (vi a1), some (vi 0)] [] (iup w 168 152 (w32 ((w 168 152) - a1))) Q) ∧ (¬ (a1 ≤ w 168 152) → T d 26 29 [some (vr 167), some (vi a1), x2] [] w Q)))) := by
  rw [T_if_eq 29 c26_14 rfl, T_iload_1 c26_17, T_aload_0 c26_18, T_getR 12 1 1 c26_19 rfl rfl rfl rfl, rf_167_1, T_sipush c26_22, T_iald c26_25, T_icmp_le 32 c26_26 rfl, T_aload_0 c26_32, T_getR 12 1 1 c26_33 rfl rfl rfl rfl, rf_167_1, T_sipush c26_36, T_dup2 c26_39, T_iald c26_40, T_iload_1 c26_41, T_isub c26_42, T_iast c26_43, T_sipush c26_44, T_istore_2 c26_45]
  all_goals try simp only [Int.reduceLE, Int.reduceLT, Int.reduceToNat, and_self, ia0_168, lay_167, ld_168, true_and, Nat.reduceAdd, eq_self_iff_true]
theorem g26_29 {d : Nat} {x0 x1 x2 : Option aV} {w : aW} {Q : Option aV → aW → Prop} : T d 26 29 [x0, x1, x2] [] w Q = Q (some (vi (-3))) w := by
  rw [T_sipush c26_29, T_ireti c26_31 (by decide +kernel)]
  all_goals try simp only [true_and, Nat.reduceAdd, eq_self_iff_true]
theorem g26_46 {d : Nat} {a2 : Int} {x1 : Option aV} {w : aW} {Q : Option aV → aW → Prop} : T d 26 46 [some (vr 167), x1, some (vi a2)] [] w Q = ((59 ≤ a2 → Q (some (vi (w 168 152))) w) ∧ (¬ (59 ≤ a2) → ((0 ≤ w32 ((w32 (153 + (w32 (59 * (w 168 152))))) + a2) ∧ w32 ((w32 (153 + (w32 (59 * (w 168 152))))) + a2) < 4932) ∧ ((0 ≤ w32 (5 + a2) ∧ w32 (5 + a2) < 4932) ∧ T d 26 46 [some (vr 167), x1, some (vi (w32 (a2 + 1)))] [] (iup w 168 (w32 (5 + a2)) (w 168 (w32 ((w32 (153 + (w32 (59 * (w 168 152))))) + a2)))) Q)))) := by
  rw [T_iload_2 c26_46, T_sipush c26_47, T_icmp_ge 88 c26_49 rfl, T_aload_0 c26_88, T_getR 12 1 1 c26_89 rfl rfl rfl rfl, rf_167_1, T_sipush c26_92, T_iald c26_95, T_ireti c26_96 (by decide +kernel), T_aload_0 c26_52, T_getR 12 1 1 c26_53 rfl rfl rfl rfl, rf_167_1, T_sipush c26_56, T_iload_2 c26_57, T_iadd c26_58, T_aload_0 c26_59, T_getR 12 1 1 c26_60 rfl rfl rfl rfl, rf_167_1, T_sipush c26_63, T_sipush c26_66, T_aload_0 c26_68, T_getR 12 1 1 c26_69 rfl rfl rfl rfl, rf_167_1, T_sipush c26_72, T_iald c26_75, T_imul c26_76, T_iadd c26_77, T_iload_2 c26_78, T_iadd c26_79, T_iald c26_80, T_iast c26_81, T_iinc_2 c26_82, T_goto 46 c26_85 rfl]
  all_goals try simp only [Int.reduceLE, Int.reduceLT, Int.reduceToNat, and_self, ia0_168, lay_167, ld_168, true_and, Nat.reduceAdd, eq_self_iff_true]
/-! 27: StringHands.judge.(II)I -/
theorem c27_0 : cd 27 0 = some (.iload 1, 1) := by decide +kernel
theorem c27_1 : cd 27 1 = some (.invokestatic 147, 3) := by decide +kernel
theorem c27_4 : cd 27 4 = some (.ifCond .eq 16, 3) := by decide +kernel
theorem c27_7 : cd 27 7 = some (.iload 2, 1) := by decide +kernel
theorem c27_8 : cd 27 8 = some (.ifCond .lt 16, 3) := by decide +kernel
theorem c27_11 : cd 27 11 = some (.iload 2, 1) := by decide +kernel
theorem c27_12 : cd 27 12 = some (.sipush 3, 1) := by decide +kernel
theorem c27_13 : cd 27 13 = some (.if_icmp .le 19, 3) := by decide +kernel
theorem c27_16 : cd 27 16 = some (.sipush (-2), 2) := by decide +kernel
theorem c27_18 : cd 27 18 = some (.ireturn, 1) := by decide +kernel
theorem c27_19 : cd 27 19 = some (.aload 0, 1) := by decide +kernel
theorem c27_20 : cd 27 20 = some (.getfield 2870, 3) := by decide +kernel
theorem c27_23 : cd 27 23 = some (.iload 1, 1) := by decide +kernel
theorem c27_24 : cd 27 24 = some (.aaload, 1) := by decide +kernel
theorem c27_25 : cd 27 25 = some (.invokevirtual 148, 3) := by decide +kernel
theorem c27_28 : cd 27 28 = some (.ifCond .eq 34, 3) := by decide +kernel
theorem c27_31 : cd 27 31 = some (.sipush (-6), 2) := by decide +kernel
theorem c27_33 : cd 27 33 = some (.ireturn, 1) := by decide +kernel
theorem c27_34 : cd 27 34 = some (.aload 0, 1) := by decide +kernel
theorem c27_35 : cd 27 35 = some (.getfield 2858, 3) := by decide +kernel
theorem c27_38 : cd 27 38 = some (.aload 0, 1) := by decide +kernel
theorem c27_39 : cd 27 39 = some (.getfield 2854, 3) := by decide +kernel
theorem c27_42 : cd 27 42 = some (.invokevirtual 146, 3) := by decide +kernel
theorem c27_45 : cd 27 45 = some (.aload 0, 1) := by decide +kernel
theorem c27_46 : cd 27 46 = some (.getfield 2822, 3) := by decide +kernel
theorem c27_49 : cd 27 49 = some (.aload 0, 1) := by decide +kernel
theorem c27_50 : cd 27 50 = some (.getfield 2850, 3) := by decide +kernel
theorem c27_53 : cd 27 53 = some (.aload 0, 1) := by decide +kernel
theorem c27_54 : cd 27 54 = some (.getfield 2858, 3) := by decide +kernel
theorem c27_57 : cd 27 57 = some (.aload 0, 1) := by decide +kernel
theorem c27_58 : cd 27 58 = some (.getfield 2870, 3) := by decide +kernel
theorem c27_61 : cd 27 61 = some (.iload 1, 1) := by decide +kernel
theorem c27_62 : cd 27 62 = some (.aaload, 1) := by decide +kernel
theorem c27_63 : cd 27 63 = some (.invokevirtual 149, 3) := by decide +kernel
theorem c27_66 : cd 27 66 = some (.istore 3, 1) := by decide +kernel
theorem c27_67 : cd 27 67 = some (.iload 2, 1) := by decide +kernel
theorem c27_68 : cd 27 68 = some (.tableswitch 128 0 2 #[96, 112, 120], 28) := by decide +kernel
theorem c27_96 : cd 27 96 = some (.aload 0, 1) := by decide +kernel
theorem c27_97 : cd 27 97 = some (.getfield 2822, 3) := by decide +kernel
theorem c27_100 : cd 27 100 = some (.getfield 516, 3) := by decide +kernel
theorem c27_103 : cd 27 103 = some (.ifCond .ne 110, 3) := by decide +kernel
theorem c27_106 : cd 27 106 = some (.sipush (-1), 1) := by decide +kernel
theorem c27_107 : cd 27 107 = some (.goto 111, 3) := by decide +kernel
theorem c27_110 : cd 27 110 = some (.iload 3, 1) := by decide +kernel
theorem c27_111 : cd 27 111 = some (.ireturn, 1) := by decide +kernel
theorem c27_112 : cd 27 112 = some (.aload 0, 1) := by decide +kernel
theorem c27_113 : cd 27 113 = some (.getfield 2822, 3) := by decide +kernel
theorem c27_116 : cd 27 116 = some (.getfield 516, 3) := by decide +kernel
theorem c27_119 : cd 27 119 = some (.ireturn, 1) := by decide +kernel
theorem c27_120 : cd 27 120 = some (.aload 0, 1) := by decide +kernel
theorem c27_121 : cd 27 121 = some (.getfield 2858, 3) := by decide +kernel
theorem c27_124 : cd 27 124 = some (.getfield 1536, 3) := by decide +kernel
theorem c27_127 : cd 27 127 = some (.ireturn, 1) := by decide +kernel
theorem c27_128 : cd 27 128 = some (.aload 0, 1) := by decide +kernel
theorem c27_129 : cd 27 129 = some (.getfield 2858, 3) := by decide +kernel
theorem c27_132 : cd 27 132 = some (.getfield 1540, 3) := by decide +kernel
theorem c27_135 : cd 27 135 = some (.invokestatic 132, 3) := by decide +kernel
theorem c27_138 : cd 27 138 = some (.ireturn, 1) := by decide +kernel
theorem sw27_68 {d : Nat} {ls : List (Option aV)} {st : List aV} {w : aW} {Q : Option aV → aW → Prop} {x : Int} : T d 27 68 ls (vi x :: st) w Q = ((x = 0 → T d 27 96 ls st w Q) ∧ (x = 1 → T d 27 112 ls st w Q) ∧ (x = 2 → T d 27 120 ls st w Q) ∧ (¬ x = 0 ∧ ¬ x = 1 ∧ ¬ x = 2 → T d 27 128 ls st w Q)) := by
  rw [T_tab c27_68]
  apply propext
  constructor
  · intro h
    refine ⟨fun q => by subst q; exact h, fun q => by subst q; exact h, fun q => by subst q; exact h, fun q => ?_⟩
    · have e : (if x < 0 ∨ 2 < x then (128 : Int).toNat else ((#[96, 112, 120] : Array Int).toList.getD (x - 0).toNat 128).toNat) = 128 := by rw [if_pos (by omega)]; rfl
      rw [e] at h; exact h
  · rintro ⟨h0, h1, h2, hd⟩
    by_cases n0 : x = 0
    · subst n0; exact h0 rfl
    by_cases n1 : x = 1
    · subst n1; exact h1 rfl
    by_cases n2 : x = 2
    · subst n2; exact h2 rfl
    · have e : (if x < 0 ∨ 2 < x then (128 : Int).toNat else ((#[96, 112, 120] : Array Int).toList.getD (x - 0).toNat 128).toNat) = 128 := by rw [if_pos (by omega)]; rfl
      rw [e]; exact hd ⟨n0, n1, n2⟩
theorem g27_0 {d : Nat} {a1 : Int} {x0 x2 x3 : Option aV} {w : aW} {Q : Option aV → aW → Prop} : T (d + 1) 27 0 [x0, some (vi a1), x2, x3] [] w Q = T d 147 0 [some (vi a1)] [] w (fun r w1 => T (d + 1) 27 4 [x0, some (vi a1), x2, x3] (r.toList ++ []) w1 Q) := by
  rw [T_iload_1 c27_0, T_inv (es := [some (vi a1)]) (st := [vi a1]) (ks := [0]) (n := 1) (as := [vi a1]) (rest := []) c27_1 (by decide +kernel) (by decide +kernel) rfl rfl (Nat.le_of_ble_eq_true rfl)]
  all_goals try simp only [true_and, Nat.reduceAdd, eq_self_iff_true]
theorem g27_4 {d : Nat} {a1 a2 s0 : Int} {x3 : Option aV} {w : aW} {Q : Option aV → aW → Prop} : T (d + 1) 27 4 [some (vr 0), some (vi a1), some (vi a2), x3] [vi s0] w Q = ((s0 = 0 → T (d + 1) 27 16 [some (vr 0), some (vi a1), some (vi a2), x3] [] w Q) ∧ (¬ (s0 = 0) → ((a2 < 0 → T (d + 1) 27 16 [some (vr 0), some (vi a1), some (vi a2), x3] [] w Q) ∧ (¬ (a2 < 0) → ((a2 ≤ 3 → ((isRA 88 a1 = true ∧ (88 = 87 → (w 87 a1).toNat < 191)) ∧ (lay (rAt w 88 a1) = (3, 0) ∧ T d 148 0 [some (vr (rAt w 88 a1))] [] w (fun r w1 => T (d + 1) 27 28 [some (vr 0), some (vi a1), some (vi a2), x3] (r.toList ++ []) w1 Q)))) ∧ (¬ (a2 ≤ 3) → T (d + 1) 27 16 [some (vr 0), some (vi a1), some (vi a2), x3] [] w Q)))))) := by
  rw [T_if_eq 16 c27_4 rfl, T_iload_2 c27_7, T_if_lt 16 c27_8 rfl, T_iload_2 c27_11, T_sipush c27_12, T_icmp_le 19 c27_13 rfl, T_aload_0 c27_19, T_getR 11 13 13 c27_20 rfl rfl rfl rfl, rf_0_13, T_iload_1 c27_23, T_aald c27_24, T_invv (es := [some (vr (rAt w 88 a1))]) (st := [vr (rAt w 88 a1)]) (ks := [2]) (n := 1) (c := 3) (k := (rAt w 88 a1)) (as := []) (rest := []) c27_25 (by decide +kernel) (by decide +kernel) (by decide +kernel) (by decide) rfl rfl (Nat.le_of_ble_eq_true rfl)]
  all_goals try simp only [Int.reduceToNat, lay_0, true_and, Nat.reduceAdd, eq_self_iff_true]
theorem g27_16 {d : Nat} {x0 x1 x2 x3 : Option aV} {w : aW} {Q : Option aV → aW → Prop} : T d 27 16 [x0, x1, x2, x3] [] w Q = Q (some (vi (-2))) w := by
  rw [T_sipush c27_16, T_ireti c27_18 (by decide +kernel)]
  all_goals try simp only [true_and, Nat.reduceAdd, eq_self_iff_true]
theorem g27_28 {d : Nat} {s0 : Int} {x1 x2 x3 : Option aV} {w : aW} {Q : Option aV → aW → Prop} : T (d + 1) 27 28 [some (vr 0), x1, x2, x3] [vi s0] w Q = ((s0 = 0 → T d 146 0 [some (vr 83), some (vr 79)] [] w (fun r w1 => T (d + 1) 27 45 [some (vr 0), x1, x2, x3] (r.toList ++ []) w1 Q)) ∧ (¬ (s0 = 0) → Q (some (vi (-6))) w)) := by
  rw [T_if_eq 34 c27_28 rfl, T_aload_0 c27_34, T_getR 11 10 10 c27_35 rfl rfl rfl rfl, rf_0_10, T_aload_0 c27_38, T_getR 11 9 9 c27_39 rfl rfl rfl rfl, rf_0_9, T_invv (es := [some (vr 83), some (vr 79)]) (st := [vr 79, vr 83]) (ks := [2, 2]) (n := 2) (c := 6) (k := 83) (as := [vr 79]) (rest := []) c27_42 (by decide +kernel) (by decide +kernel) (by decide +kernel) (by decide) rfl rfl (Nat.le_of_ble_eq_true rfl), T_sipush c27_31, T_ireti c27_33 (by decide +kernel)]
  all_goals try simp only [Int.reduceToNat, lay_0, lay_83, true_and, Nat.reduceAdd, eq_self_iff_true]
theorem g27_45 {d : Nat} {a1 : Int} {x2 x3 : Option aV} {w : aW} {Q : Option aV → aW → Prop} : T (d + 1) 27 45 [some (vr 0), some (vi a1), x2, x3] [] w Q = ((isRA 88 a1 = true ∧ (88 = 87 → (w 87 a1).toNat < 191)) ∧ T d 149 0 [some (vr 16), some (vr 69), some (vr 83), some (vr (rAt w 88 a1)), none] [] w (fun r w1 => T (d + 1) 27 66 [some (vr 0), some (vi a1), x2, x3] (r.toList ++ []) w1 Q)) := by
  rw [T_aload_0 c27_45, T_getR 11 1 1 c27_46 rfl rfl rfl rfl, rf_0_1, T_aload_0 c27_49, T_getR 11 8 8 c27_50 rfl rfl rfl rfl, rf_0_8, T_aload_0 c27_53, T_getR 11 10 10 c27_54 rfl rfl rfl rfl, rf_0_10, T_aload_0 c27_57, T_getR 11 13 13 c27_58 rfl rfl rfl rfl, rf_0_13, T_iload_1 c27_61, T_aald c27_62, T_invv (es := [some (vr 16), some (vr 69), some (vr 83), some (vr (rAt w 88 a1)), none]) (st := [vr (rAt w 88 a1), vr 83, vr 69, vr 16]) (ks := [2, 2, 2, 2]) (n := 5) (c := 2) (k := 16) (as := [vr 69, vr 83, vr (rAt w 88 a1)]) (rest := []) c27_63 (by decide +kernel) (by decide +kernel) (by decide +kernel) (by decide) rfl rfl (Nat.le_of_ble_eq_true rfl)]
  all_goals try simp only [lay_0, lay_16, true_and, Nat.reduceAdd, eq_self_iff_true]
theorem g27_66 {d : Nat} {a2 s0 : Int} {x1 x3 : Option aV} {w : aW} {Q : Option aV → aW → Prop} : T (d + 1) 27 66 [some (vr 0), x1, some (vi a2), x3] [vi s0] w Q = ((a2 = 0 → ((¬ w 16 1 = 0 → T (d + 1) 27 111 [some (vr 0), x1, some (vi a2), some (vi s0)] [vi s0] w Q) ∧ (¬ (¬ w 16 1 = 0) → T (d + 1) 27 111 [some (vr 0), x1, some (vi a2), some (vi s0)] [vi (-1)] w Q))) ∧ (a2 = 1 → Q (some (vi (w 16 1))) w) ∧ (a2 = 2 → Q (some (vi (w 83 0))) w) ∧ (¬ a2 = 0 ∧ ¬ a2 = 1 ∧ ¬ a2 = 2 → T d 132 0 [some (vi (w 83 1))] [] w (fun r w1 => T (d + 1) 27 138 [some (vr 0), x1, some (vi a2), some (vi s0)] (r.toList ++ []) w1 Q))) := by
  rw [T_istore_3 c27_66, T_iload_2 c27_67, sw27_68, T_aload_0 c27_96, T_getR 11 1 1 c27_97 rfl rfl rfl rfl, rf_0_1, T_getI 2 1 1 c27_100 rfl rfl rfl rfl, T_if_ne 110 c27_103 rfl, T_iload_3 c27_110, T_sipush c27_106, T_goto 111 c27_107 rfl, T_aload_0 c27_112, T_getR 11 1 1 c27_113 rfl rfl rfl rfl, rf_0_1, T_getI 2 1 1 c27_116 rfl rfl rfl rfl, T_ireti c27_119 (by decide +kernel), T_aload_0 c27_120, T_getR 11 10 10 c27_121 rfl rfl rfl rfl, rf_0_10, T_getI 6 0 0 c27_124 rfl rfl rfl rfl, T_ireti c27_127 (by decide +kernel), T_aload_0 c27_128, T_getR 11 10 10 c27_129 rfl rfl rfl rfl, rf_0_10, T_getI 6 1 1 c27_132 rfl rfl rfl rfl, T_inv (es := [some (vi (w 83 1))]) (st := [vi (w 83 1)]) (ks := [0]) (n := 1) (as := [vi (w 83 1)]) (rest := []) c27_135 (by decide +kernel) (by decide +kernel) rfl rfl (Nat.le_of_ble_eq_true rfl)]
  all_goals try simp only [Int.reduceToNat, lay_0, lay_16, lay_83, true_and, Nat.reduceAdd, eq_self_iff_true]
theorem g27_111 {d : Nat} {s0 : Int} {x0 x1 x2 x3 : Option aV} {w : aW} {Q : Option aV → aW → Prop} : T d 27 111 [x0, x1, x2, x3] [vi s0] w Q = Q (some (vi s0)) w := by
  rw [T_ireti c27_111 (by decide +kernel)]
  all_goals try simp only [true_and, Nat.reduceAdd, eq_self_iff_true]
theorem g27_138 {d : Nat} {s0 : Int} {x0 x1 x2 x3 : Option aV} {w : aW} {Q : Option aV → aW → Prop} : T d 27 138 [x0, x1, x2, x3] [vi s0] w Q = Q (some (vi s0)) w := by
  rw [T_ireti c27_138 (by decide +kernel)]
  all_goals try simp only [true_and, Nat.reduceAdd, eq_self_iff_true]
/-! 28: StringHandsModel.judge.(II)I -/
theorem c28_0 : cd 28 0 = some (.aload 0, 1) := by decide +kernel
theorem c28_1 : cd 28 1 = some (.sipush 0, 1) := by decide +kernel
theorem c28_2 : cd 28 2 = some (.putfield 3072, 3) := by decide +kernel
theorem c28_5 : cd 28 5 = some (.iload 1, 1) := by decide +kernel
theorem c28_6 : cd 28 6 = some (.i2l, 1) := by decide +kernel
theorem c28_7 : cd 28 7 = some (.bipush 0, 1) := by decide +kernel
theorem c28_8 : cd 28 8 = some (.bipush 3, 3) := by decide +kernel
theorem c28_11 : cd 28 11 = some (.invokestatic 105, 3) := by decide +kernel
theorem c28_14 : cd 28 14 = some (.ifCond .eq 29, 3) := by decide +kernel
theorem c28_17 : cd 28 17 = some (.iload 2, 1) := by decide +kernel
theorem c28_18 : cd 28 18 = some (.i2l, 1) := by decide +kernel
theorem c28_19 : cd 28 19 = some (.bipush 0, 1) := by decide +kernel
theorem c28_20 : cd 28 20 = some (.bipush 3, 3) := by decide +kernel
theorem c28_23 : cd 28 23 = some (.invokestatic 105, 3) := by decide +kernel
theorem c28_26 : cd 28 26 = some (.ifCond .ne 32, 3) := by decide +kernel
theorem c28_29 : cd 28 29 = some (.sipush (-2), 2) := by decide +kernel
theorem c28_31 : cd 28 31 = some (.ireturn, 1) := by decide +kernel
theorem c28_32 : cd 28 32 = some (.aload 0, 1) := by decide +kernel
theorem c28_33 : cd 28 33 = some (.getfield 3210, 3) := by decide +kernel
theorem c28_36 : cd 28 36 = some (.iload 1, 1) := by decide +kernel
theorem c28_37 : cd 28 37 = some (.iaload, 1) := by decide +kernel
theorem c28_38 : cd 28 38 = some (.sipush (-1), 1) := by decide +kernel
theorem c28_39 : cd 28 39 = some (.if_icmp .ne 45, 3) := by decide +kernel
theorem c28_42 : cd 28 42 = some (.sipush (-6), 2) := by decide +kernel
theorem c28_44 : cd 28 44 = some (.ireturn, 1) := by decide +kernel
theorem c28_45 : cd 28 45 = some (.aload 0, 1) := by decide +kernel
theorem c28_46 : cd 28 46 = some (.invokevirtual 129, 3) := by decide +kernel
theorem c28_49 : cd 28 49 = some (.aload 0, 1) := by decide +kernel
theorem c28_50 : cd 28 50 = some (.iload 1, 1) := by decide +kernel
theorem c28_51 : cd 28 51 = some (.invokevirtual 150, 3) := by decide +kernel
theorem c28_54 : cd 28 54 = some (.istore 3, 1) := by decide +kernel
theorem c28_55 : cd 28 55 = some (.aload 0, 1) := by decide +kernel
theorem c28_56 : cd 28 56 = some (.getfield 3078, 3) := by decide +kernel
theorem c28_59 : cd 28 59 = some (.sipush 5, 1) := by decide +kernel
theorem c28_60 : cd 28 60 = some (.iaload, 1) := by decide +kernel
theorem c28_61 : cd 28 61 = some (.istore 4, 2) := by decide +kernel
theorem c28_63 : cd 28 63 = some (.aload 0, 1) := by decide +kernel
theorem c28_64 : cd 28 64 = some (.invokevirtual 139, 3) := by decide +kernel
theorem c28_67 : cd 28 67 = some (.istore 5, 2) := by decide +kernel
theorem c28_69 : cd 28 69 = some (.aload 0, 1) := by decide +kernel
theorem c28_70 : cd 28 70 = some (.invokevirtual 151, 3) := by decide +kernel
theorem c28_73 : cd 28 73 = some (.iload 2, 1) := by decide +kernel
theorem c28_74 : cd 28 74 = some (.ifCond .ne 92, 3) := by decide +kernel
theorem c28_77 : cd 28 77 = some (.aload 0, 1) := by decide +kernel
theorem c28_78 : cd 28 78 = some (.getfield 3140, 3) := by decide +kernel
theorem c28_81 : cd 28 81 = some (.ifCond .ne 88, 3) := by decide +kernel
theorem c28_84 : cd 28 84 = some (.sipush (-1), 1) := by decide +kernel
theorem c28_85 : cd 28 85 = some (.goto 116, 3) := by decide +kernel
theorem c28_88 : cd 28 88 = some (.iload 3, 1) := by decide +kernel
theorem c28_89 : cd 28 89 = some (.goto 116, 3) := by decide +kernel
theorem c28_92 : cd 28 92 = some (.iload 2, 1) := by decide +kernel
theorem c28_93 : cd 28 93 = some (.sipush 1, 1) := by decide +kernel
theorem c28_94 : cd 28 94 = some (.if_icmp .ne 104, 3) := by decide +kernel
theorem c28_97 : cd 28 97 = some (.aload 0, 1) := by decide +kernel
theorem c28_98 : cd 28 98 = some (.getfield 3140, 3) := by decide +kernel
theorem c28_101 : cd 28 101 = some (.goto 116, 3) := by decide +kernel
theorem c28_104 : cd 28 104 = some (.iload 2, 1) := by decide +kernel
theorem c28_105 : cd 28 105 = some (.sipush 2, 1) := by decide +kernel
theorem c28_106 : cd 28 106 = some (.if_icmp .ne 114, 3) := by decide +kernel
theorem c28_109 : cd 28 109 = some (.iload 4, 2) := by decide +kernel
theorem c28_111 : cd 28 111 = some (.goto 116, 3) := by decide +kernel
theorem c28_114 : cd 28 114 = some (.iload 5, 2) := by decide +kernel
theorem c28_116 : cd 28 116 = some (.ireturn, 1) := by decide +kernel
theorem g28_0 {d : Nat} {a1 : Int} {x2 x3 x4 x5 : Option aV} {w : aW} {Q : Option aV → aW → Prop} : T (d + 1) 28 0 [some (vr 167), some (vi a1), x2, x3, x4, x5] [] w Q = T d 105 0 [some (vl a1), none, some (vl 0), none, some (vl 3), none] [] (iup w 167 0 0) (fun r w1 => T (d + 1) 28 14 [some (vr 167), some (vi a1), x2, x3, x4, x5] (r.toList ++ []) w1 Q) := by
  rw [T_aload_0 c28_0, T_sipush c28_1, T_putI 12 0 0 c28_2 rfl rfl rfl rfl, T_iload_1 c28_5, T_i2l c28_6, T_bipush c28_7, T_bipush c28_8, T_inv (es := [some (vl a1), none, some (vl 0), none, some (vl 3), none]) (st := [vl 3, vl 0, vl a1]) (ks := [1, 1, 1]) (n := 6) (as := [vl a1, vl 0, vl 3]) (rest := []) c28_11 (by decide +kernel) (by decide +kernel) rfl rfl (Nat.le_of_ble_eq_true rfl)]
  all_goals try simp only [lay_167, true_and, Nat.reduceAdd, eq_self_iff_true]
theorem g28_14 {d : Nat} {a2 s0 : Int} {x0 x1 x3 x4 x5 : Option aV} {w : aW} {Q : Option aV → aW → Prop} : T (d + 1) 28 14 [x0, x1, some (vi a2), x3, x4, x5] [vi s0] w Q = ((s0 = 0 → T (d + 1) 28 29 [x0, x1, some (vi a2), x3, x4, x5] [] w Q) ∧ (¬ (s0 = 0) → T d 105 0 [some (vl a2), none, some (vl 0), none, some (vl 3), none] [] w (fun r w1 => T (d + 1) 28 26 [x0, x1, some (vi a2), x3, x4, x5] (r.toList ++ []) w1 Q))) := by
  rw [T_if_eq 29 c28_14 rfl, T_iload_2 c28_17, T_i2l c28_18, T_bipush c28_19, T_bipush c28_20, T_inv (es := [some (vl a2), none, some (vl 0), none, some (vl 3), none]) (st := [vl 3, vl 0, vl a2]) (ks := [1, 1, 1]) (n := 6) (as := [vl a2, vl 0, vl 3]) (rest := []) c28_23 (by decide +kernel) (by decide +kernel) rfl rfl (Nat.le_of_ble_eq_true rfl)]
  all_goals try simp only [Int.reduceToNat, true_and, Nat.reduceAdd, eq_self_iff_true]
theorem g28_26 {d : Nat} {a1 s0 : Int} {x2 x3 x4 x5 : Option aV} {w : aW} {Q : Option aV → aW → Prop} : T (d + 1) 28 26 [some (vr 167), some (vi a1), x2, x3, x4, x5] [vi s0] w Q = ((¬ s0 = 0 → ((0 ≤ a1 ∧ a1 < 4) ∧ ((¬ w 188 a1 = (-1) → T d 129 0 [some (vr 167), none] [] w (fun r w1 => T (d + 1) 28 49 [some (vr 167), some (vi a1), x2, x3, x4, x5] (r.toList ++ []) w1 Q)) ∧ (¬ (¬ w 188 a1 = (-1)) → Q (some (vi (-6))) w)))) ∧ (¬ (¬ s0 = 0) → T (d + 1) 28 29 [some (vr 167), some (vi a1), x2, x3, x4, x5] [] w Q)) := by
  rw [T_if_ne 32 c28_26 rfl, T_aload_0 c28_32, T_getR 12 34 34 c28_33 rfl rfl rfl rfl, rf_167_34, T_iload_1 c28_36, T_iald c28_37, T_sipush c28_38, T_icmp_ne 45 c28_39 rfl, T_aload_0 c28_45, T_invv (es := [some (vr 167), none]) (st := [vr 167]) (ks := [2]) (n := 2) (c := 12) (k := 167) (as := []) (rest := []) c28_46 (by decide +kernel) (by decide +kernel) (by decide +kernel) (by decide) rfl rfl (Nat.le_of_ble_eq_true rfl), T_sipush c28_42, T_ireti c28_44 (by decide +kernel)]
  all_goals try simp only [Int.reduceToNat, lay_167, ld_188, true_and, Nat.reduceAdd, eq_self_iff_true]
theorem g28_29 {d : Nat} {x0 x1 x2 x3 x4 x5 : Option aV} {w : aW} {Q : Option aV → aW → Prop} : T d 28 29 [x0, x1, x2, x3, x4, x5] [] w Q = Q (some (vi (-2))) w := by
  rw [T_sipush c28_29, T_ireti c28_31 (by decide +kernel)]
  all_goals try simp only [true_and, Nat.reduceAdd, eq_self_iff_true]
theorem g28_49 {d : Nat} {a1 : Int} {x2 x3 x4 x5 : Option aV} {w : aW} {Q : Option aV → aW → Prop} : T (d + 1) 28 49 [some (vr 167), some (vi a1), x2, x3, x4, x5] [] w Q = T d 150 0 [some (vr 167), some (vi a1), none, none, none] [] w (fun r w1 => T (d + 1) 28 54 [some (vr 167), some (vi a1), x2, x3, x4, x5] (r.toList ++ []) w1 Q) := by
  rw [T_aload_0 c28_49, T_iload_1 c28_50, T_invv (es := [some (vr 167), some (vi a1), none, none, none]) (st := [vi a1, vr 167]) (ks := [2, 0]) (n := 5) (c := 12) (k := 167) (as := [vi a1]) (rest := []) c28_51 (by decide +kernel) (by decide +kernel) (by decide +kernel) (by decide) rfl rfl (Nat.le_of_ble_eq_true rfl)]
  all_goals try simp only [lay_167, true_and, Nat.reduceAdd, eq_self_iff_true]
theorem g28_54 {d : Nat} {s0 : Int} {x1 x2 x3 x4 x5 : Option aV} {w : aW} {Q : Option aV → aW → Prop} : T (d + 1) 28 54 [some (vr 167), x1, x2, x3, x4, x5] [vi s0] w Q = T d 139 0 [some (vr 167), none, none] [] w (fun r w1 => T (d + 1) 28 67 [some (vr 167), x1, x2, some (vi s0), some (vi (w 168 5)), x5] (r.toList ++ []) w1 Q) := by
  rw [T_istore_3 c28_54, T_aload_0 c28_55, T_getR 12 1 1 c28_56 rfl rfl rfl rfl, rf_167_1, T_sipush c28_59, T_iald c28_60, T_istore_4 c28_61, T_aload_0 c28_63, T_invv (es := [some (vr 167), none, none]) (st := [vr 167]) (ks := [2]) (n := 3) (c := 12) (k := 167) (as := []) (rest := []) c28_64 (by decide +kernel) (by decide +kernel) (by decide +kernel) (by decide) rfl rfl (Nat.le_of_ble_eq_true rfl)]
  all_goals try simp only [Int.reduceLE, Int.reduceLT, and_self, lay_167, ld_168, true_and, Nat.reduceAdd, eq_self_iff_true]
theorem g28_67 {d : Nat} {s0 : Int} {x1 x2 x3 x4 x5 : Option aV} {w : aW} {Q : Option aV → aW → Prop} : T (d + 1) 28 67 [some (vr 167), x1, x2, x3, x4, x5] [vi s0] w Q = T d 151 0 [some (vr 167), none] [] w (fun r w1 => T (d + 1) 28 73 [some (vr 167), x1, x2, x3, x4, some (vi s0)] (r.toList ++ []) w1 Q) := by
  rw [T_istore_5 c28_67, T_aload_0 c28_69, T_invv (es := [some (vr 167), none]) (st := [vr 167]) (ks := [2]) (n := 2) (c := 12) (k := 167) (as := []) (rest := []) c28_70 (by decide +kernel) (by decide +kernel) (by decide +kernel) (by decide) rfl rfl (Nat.le_of_ble_eq_true rfl)]
  all_goals try simp only [lay_167, true_and, Nat.reduceAdd, eq_self_iff_true]
theorem g28_73 {d : Nat} {a2 a3 a4 a5 : Int} {x1 : Option aV} {w : aW} {Q : Option aV → aW → Prop} : T d 28 73 [some (vr 167), x1, some (vi a2), some (vi a3), some (vi a4), some (vi a5)] [] w Q = ((¬ a2 = 0 → ((¬ a2 = 1 → ((¬ a2 = 2 → T d 28 116 [some (vr 167), x1, some (vi a2), some (vi a3), some (vi a4), some (vi a5)] [vi a5] w Q) ∧ (¬ (¬ a2 = 2) → T d 28 116 [some (vr 167), x1, some (vi a2), some (vi a3), some (vi a4), some (vi a5)] [vi a4] w Q))) ∧ (¬ (¬ a2 = 1) → T d 28 116 [some (vr 167), x1, some (vi a2), some (vi a3), some (vi a4), some (vi a5)] [vi (w 167 17)] w Q))) ∧ (¬ (¬ a2 = 0) → ((¬ w 167 17 = 0 → T d 28 116 [some (vr 167), x1, some (vi a2), some (vi a3), some (vi a4), some (vi a5)] [vi a3] w Q) ∧ (¬ (¬ w 167 17 = 0) → T d 28 116 [some (vr 167), x1, some (vi a2), some (vi a3), some (vi a4), some (vi a5)] [vi (-1)] w Q)))) := by
  rw [T_iload_2 c28_73, T_if_ne 92 c28_74 rfl, T_iload_2 c28_92, T_sipush c28_93, T_icmp_ne 104 c28_94 rfl, T_iload_2 c28_104, T_sipush c28_105, T_icmp_ne 114 c28_106 rfl, T_iload_5 c28_114, T_iload_4 c28_109, T_goto 116 c28_111 rfl, T_aload_0 c28_97, T_getI 12 17 17 c28_98 rfl rfl rfl rfl, T_goto 116 c28_101 rfl, T_aload_0 c28_77, T_getI 12 17 17 c28_78 rfl rfl rfl rfl, T_if_ne 88 c28_81 rfl, T_iload_3 c28_88, T_goto 116 c28_89 rfl, T_sipush c28_84, T_goto 116 c28_85 rfl]
  all_goals try simp only [Int.reduceToNat, lay_167, true_and, Nat.reduceAdd, eq_self_iff_true]
theorem g28_116 {d : Nat} {s0 : Int} {x0 x1 x2 x3 x4 x5 : Option aV} {w : aW} {Q : Option aV → aW → Prop} : T d 28 116 [x0, x1, x2, x3, x4, x5] [vi s0] w Q = Q (some (vi s0)) w := by
  rw [T_ireti c28_116 (by decide +kernel)]
  all_goals try simp only [true_and, Nat.reduceAdd, eq_self_iff_true]
/-! 29: StringHands.perform.(I)I -/
theorem c29_0 : cd 29 0 = some (.iload 1, 1) := by decide +kernel
theorem c29_1 : cd 29 1 = some (.invokestatic 147, 3) := by decide +kernel
theorem c29_4 : cd 29 4 = some (.ifCond .ne 10, 3) := by decide +kernel
theorem c29_7 : cd 29 7 = some (.sipush (-2), 2) := by decide +kernel
theorem c29_9 : cd 29 9 = some (.ireturn, 1) := by decide +kernel
theorem c29_10 : cd 29 10 = some (.aload 0, 1) := by decide +kernel
theorem c29_11 : cd 29 11 = some (.getfield 2870, 3) := by decide +kernel
theorem c29_14 : cd 29 14 = some (.iload 1, 1) := by decide +kernel
theorem c29_15 : cd 29 15 = some (.aaload, 1) := by decide +kernel
theorem c29_16 : cd 29 16 = some (.invokevirtual 148, 3) := by decide +kernel
theorem c29_19 : cd 29 19 = some (.ifCond .eq 25, 3) := by decide +kernel
theorem c29_22 : cd 29 22 = some (.sipush (-6), 2) := by decide +kernel
theorem c29_24 : cd 29 24 = some (.ireturn, 1) := by decide +kernel
theorem c29_25 : cd 29 25 = some (.aload 0, 1) := by decide +kernel
theorem c29_26 : cd 29 26 = some (.getfield 2858, 3) := by decide +kernel
theorem c29_29 : cd 29 29 = some (.aload 0, 1) := by decide +kernel
theorem c29_30 : cd 29 30 = some (.getfield 2854, 3) := by decide +kernel
theorem c29_33 : cd 29 33 = some (.invokevirtual 146, 3) := by decide +kernel
theorem c29_36 : cd 29 36 = some (.aload 0, 1) := by decide +kernel
theorem c29_37 : cd 29 37 = some (.getfield 2822, 3) := by decide +kernel
theorem c29_40 : cd 29 40 = some (.aload 0, 1) := by decide +kernel
theorem c29_41 : cd 29 41 = some (.getfield 2850, 3) := by decide +kernel
theorem c29_44 : cd 29 44 = some (.aload 0, 1) := by decide +kernel
theorem c29_45 : cd 29 45 = some (.getfield 2858, 3) := by decide +kernel
theorem c29_48 : cd 29 48 = some (.aload 0, 1) := by decide +kernel
theorem c29_49 : cd 29 49 = some (.getfield 2870, 3) := by decide +kernel
theorem c29_52 : cd 29 52 = some (.iload 1, 1) := by decide +kernel
theorem c29_53 : cd 29 53 = some (.aaload, 1) := by decide +kernel
theorem c29_54 : cd 29 54 = some (.invokevirtual 149, 3) := by decide +kernel
theorem c29_57 : cd 29 57 = some (.istore 2, 1) := by decide +kernel
theorem c29_58 : cd 29 58 = some (.iload 2, 1) := by decide +kernel
theorem c29_59 : cd 29 59 = some (.ifCond .le 77, 3) := by decide +kernel
theorem c29_62 : cd 29 62 = some (.aload 0, 1) := by decide +kernel
theorem c29_63 : cd 29 63 = some (.invokevirtual 128, 3) := by decide +kernel
theorem c29_66 : cd 29 66 = some (.aload 0, 1) := by decide +kernel
theorem c29_67 : cd 29 67 = some (.getfield 2854, 3) := by decide +kernel
theorem c29_70 : cd 29 70 = some (.aload 0, 1) := by decide +kernel
theorem c29_71 : cd 29 71 = some (.getfield 2858, 3) := by decide +kernel
theorem c29_74 : cd 29 74 = some (.invokevirtual 146, 3) := by decide +kernel
theorem c29_77 : cd 29 77 = some (.iload 2, 1) := by decide +kernel
theorem c29_78 : cd 29 78 = some (.ireturn, 1) := by decide +kernel
theorem g29_0 {d : Nat} {a1 : Int} {x0 x2 : Option aV} {w : aW} {Q : Option aV → aW → Prop} : T (d + 1) 29 0 [x0, some (vi a1), x2] [] w Q = T d 147 0 [some (vi a1)] [] w (fun r w1 => T (d + 1) 29 4 [x0, some (vi a1), x2] (r.toList ++ []) w1 Q) := by
  rw [T_iload_1 c29_0, T_inv (es := [some (vi a1)]) (st := [vi a1]) (ks := [0]) (n := 1) (as := [vi a1]) (rest := []) c29_1 (by decide +kernel) (by decide +kernel) rfl rfl (Nat.le_of_ble_eq_true rfl)]
  all_goals try simp only [true_and, Nat.reduceAdd, eq_self_iff_true]
theorem g29_4 {d : Nat} {a1 s0 : Int} {x2 : Option aV} {w : aW} {Q : Option aV → aW → Prop} : T (d + 1) 29 4 [some (vr 0), some (vi a1), x2] [vi s0] w Q = ((¬ s0 = 0 → ((isRA 88 a1 = true ∧ (88 = 87 → (w 87 a1).toNat < 191)) ∧ (lay (rAt w 88 a1) = (3, 0) ∧ T d 148 0 [some (vr (rAt w 88 a1))] [] w (fun r w1 => T (d + 1) 29 19 [some (vr 0), some (vi a1), x2] (r.toList ++ []) w1 Q)))) ∧ (¬ (¬ s0 = 0) → Q (some (vi (-2))) w)) := by
  rw [T_if_ne 10 c29_4 rfl, T_aload_0 c29_10, T_getR 11 13 13 c29_11 rfl rfl rfl rfl, rf_0_13, T_iload_1 c29_14, T_aald c29_15, T_invv (es := [some (vr (rAt w 88 a1))]) (st := [vr (rAt w 88 a1)]) (ks := [2]) (n := 1) (c := 3) (k := (rAt w 88 a1)) (as := []) (rest := []) c29_16 (by decide +kernel) (by decide +kernel) (by decide +kernel) (by decide) rfl rfl (Nat.le_of_ble_eq_true rfl), T_sipush c29_7, T_ireti c29_9 (by decide +kernel)]
  all_goals try simp only [Int.reduceToNat, lay_0, true_and, Nat.reduceAdd, eq_self_iff_true]
theorem g29_19 {d : Nat} {s0 : Int} {x1 x2 : Option aV} {w : aW} {Q : Option aV → aW → Prop} : T (d + 1) 29 19 [some (vr 0), x1, x2] [vi s0] w Q = ((s0 = 0 → T d 146 0 [some (vr 83), some (vr 79)] [] w (fun r w1 => T (d + 1) 29 36 [some (vr 0), x1, x2] (r.toList ++ []) w1 Q)) ∧ (¬ (s0 = 0) → Q (some (vi (-6))) w)) := by
  rw [T_if_eq 25 c29_19 rfl, T_aload_0 c29_25, T_getR 11 10 10 c29_26 rfl rfl rfl rfl, rf_0_10, T_aload_0 c29_29, T_getR 11 9 9 c29_30 rfl rfl rfl rfl, rf_0_9, T_invv (es := [some (vr 83), some (vr 79)]) (st := [vr 79, vr 83]) (ks := [2, 2]) (n := 2) (c := 6) (k := 83) (as := [vr 79]) (rest := []) c29_33 (by decide +kernel) (by decide +kernel) (by decide +kernel) (by decide) rfl rfl (Nat.le_of_ble_eq_true rfl), T_sipush c29_22, T_ireti c29_24 (by decide +kernel)]
  all_goals try simp only [Int.reduceToNat, lay_0, lay_83, true_and, Nat.reduceAdd, eq_self_iff_true]
theorem g29_36 {d : Nat} {a1 : Int} {x2 : Option aV} {w : aW} {Q : Option aV → aW → Prop} : T (d + 1) 29 36 [some (vr 0), some (vi a1), x2] [] w Q = ((isRA 88 a1 = true ∧ (88 = 87 → (w 87 a1).toNat < 191)) ∧ T d 149 0 [some (vr 16), some (vr 69), some (vr 83), some (vr (rAt w 88 a1)), none] [] w (fun r w1 => T (d + 1) 29 57 [some (vr 0), some (vi a1), x2] (r.toList ++ []) w1 Q)) := by
  rw [T_aload_0 c29_36, T_getR 11 1 1 c29_37 rfl rfl rfl rfl, rf_0_1, T_aload_0 c29_40, T_getR 11 8 8 c29_41 rfl rfl rfl rfl, rf_0_8, T_aload_0 c29_44, T_getR 11 10 10 c29_45 rfl rfl rfl rfl, rf_0_10, T_aload_0 c29_48, T_getR 11 13 13 c29_49 rfl rfl rfl rfl, rf_0_13, T_iload_1 c29_52, T_aald c29_53, T_invv (es := [some (vr 16), some (vr 69), some (vr 83), some (vr (rAt w 88 a1)), none]) (st := [vr (rAt w 88 a1), vr 83, vr 69, vr 16]) (ks := [2, 2, 2, 2]) (n := 5) (c := 2) (k := 16) (as := [vr 69, vr 83, vr (rAt w 88 a1)]) (rest := []) c29_54 (by decide +kernel) (by decide +kernel) (by decide +kernel) (by decide) rfl rfl (Nat.le_of_ble_eq_true rfl)]
  all_goals try simp only [lay_0, lay_16, true_and, Nat.reduceAdd, eq_self_iff_true]
theorem g29_57 {d : Nat} {s0 : Int} {x1 x2 : Option aV} {w : aW} {Q : Option aV → aW → Prop} : T (d + 1) 29 57 [some (vr 0), x1, x2] [vi s0] w Q = ((s0 ≤ 0 → T (d + 1) 29 77 [some (vr 0), x1, some (vi s0)] [] w Q) ∧ (¬ (s0 ≤ 0) → T d 128 0 [some (vr 0), none, none] [] w (fun r w1 => T (d + 1) 29 66 [some (vr 0), x1, some (vi s0)] (r.toList ++ []) w1 Q))) := by
  rw [T_istore_2 c29_57, T_iload_2 c29_58, T_if_le 77 c29_59 rfl, T_aload_0 c29_62, T_invv (es := [some (vr 0), none, none]) (st := [vr 0]) (ks := [2]) (n := 3) (c := 11) (k := 0) (as := []) (rest := []) c29_63 (by decide +kernel) (by decide +kernel) (by decide +kernel) (by decide) rfl rfl (Nat.le_of_ble_eq_true rfl)]
  all_goals try simp only [Int.reduceToNat, lay_0, true_and, Nat.reduceAdd, eq_self_iff_true]
theorem g29_66 {d : Nat} {x1 x2 : Option aV} {w : aW} {Q : Option aV → aW → Prop} : T (d + 1) 29 66 [some (vr 0), x1, x2] [] w Q = T d 146 0 [some (vr 79), some (vr 83)] [] w (fun r w1 => T (d + 1) 29 77 [some (vr 0), x1, x2] (r.toList ++ []) w1 Q) := by
  rw [T_aload_0 c29_66, T_getR 11 9 9 c29_67 rfl rfl rfl rfl, rf_0_9, T_aload_0 c29_70, T_getR 11 10 10 c29_71 rfl rfl rfl rfl, rf_0_10, T_invv (es := [some (vr 79), some (vr 83)]) (st := [vr 83, vr 79]) (ks := [2, 2]) (n := 2) (c := 6) (k := 79) (as := [vr 83]) (rest := []) c29_74 (by decide +kernel) (by decide +kernel) (by decide +kernel) (by decide) rfl rfl (Nat.le_of_ble_eq_true rfl)]
  all_goals try simp only [lay_0, lay_79, true_and, Nat.reduceAdd, eq_self_iff_true]
theorem g29_77 {d : Nat} {a2 : Int} {x0 x1 : Option aV} {w : aW} {Q : Option aV → aW → Prop} : T d 29 77 [x0, x1, some (vi a2)] [] w Q = Q (some (vi a2)) w := by
  rw [T_iload_2 c29_77, T_ireti c29_78 (by decide +kernel)]
  all_goals try simp only [true_and, Nat.reduceAdd, eq_self_iff_true]
/-! 30: StringHandsModel.perform.(I)I -/
theorem c30_0 : cd 30 0 = some (.aload 0, 1) := by decide +kernel
theorem c30_1 : cd 30 1 = some (.sipush 0, 1) := by decide +kernel
theorem c30_2 : cd 30 2 = some (.putfield 3072, 3) := by decide +kernel
theorem c30_5 : cd 30 5 = some (.iload 1, 1) := by decide +kernel
theorem c30_6 : cd 30 6 = some (.i2l, 1) := by decide +kernel
theorem c30_7 : cd 30 7 = some (.bipush 0, 1) := by decide +kernel
theorem c30_8 : cd 30 8 = some (.bipush 3, 3) := by decide +kernel
theorem c30_11 : cd 30 11 = some (.invokestatic 105, 3) := by decide +kernel
theorem c30_14 : cd 30 14 = some (.ifCond .ne 20, 3) := by decide +kernel
theorem c30_17 : cd 30 17 = some (.sipush (-2), 2) := by decide +kernel
theorem c30_19 : cd 30 19 = some (.ireturn, 1) := by decide +kernel
theorem c30_20 : cd 30 20 = some (.aload 0, 1) := by decide +kernel
theorem c30_21 : cd 30 21 = some (.getfield 3210, 3) := by decide +kernel
theorem c30_24 : cd 30 24 = some (.iload 1, 1) := by decide +kernel
theorem c30_25 : cd 30 25 = some (.iaload, 1) := by decide +kernel
theorem c30_26 : cd 30 26 = some (.sipush (-1), 1) := by decide +kernel
theorem c30_27 : cd 30 27 = some (.if_icmp .ne 33, 3) := by decide +kernel
theorem c30_30 : cd 30 30 = some (.sipush (-6), 2) := by decide +kernel
theorem c30_32 : cd 30 32 = some (.ireturn, 1) := by decide +kernel
theorem c30_33 : cd 30 33 = some (.aload 0, 1) := by decide +kernel
theorem c30_34 : cd 30 34 = some (.invokevirtual 129, 3) := by decide +kernel
theorem c30_37 : cd 30 37 = some (.aload 0, 1) := by decide +kernel
theorem c30_38 : cd 30 38 = some (.iload 1, 1) := by decide +kernel
theorem c30_39 : cd 30 39 = some (.invokevirtual 150, 3) := by decide +kernel
theorem c30_42 : cd 30 42 = some (.istore 2, 1) := by decide +kernel
theorem c30_43 : cd 30 43 = some (.iload 2, 1) := by decide +kernel
theorem c30_44 : cd 30 44 = some (.ifCond .le 51, 3) := by decide +kernel
theorem c30_47 : cd 30 47 = some (.aload 0, 1) := by decide +kernel
theorem c30_48 : cd 30 48 = some (.invokevirtual 130, 3) := by decide +kernel
theorem c30_51 : cd 30 51 = some (.iload 2, 1) := by decide +kernel
theorem c30_52 : cd 30 52 = some (.ireturn, 1) := by decide +kernel
theorem g30_0 {d : Nat} {a1 : Int} {x2 : Option aV} {w : aW} {Q : Option aV → aW → Prop} : T (d + 1) 30 0 [some (vr 167), some (vi a1), x2] [] w Q = T d 105 0 [some (vl a1), none, some (vl 0), none, some (vl 3), none] [] (iup w 167 0 0) (fun r w1 => T (d + 1) 30 14 [some (vr 167), some (vi a1), x2] (r.toList ++ []) w1 Q) := by
  rw [T_aload_0 c30_0, T_sipush c30_1, T_putI 12 0 0 c30_2 rfl rfl rfl rfl, T_iload_1 c30_5, T_i2l c30_6, T_bipush c30_7, T_bipush c30_8, T_inv (es := [some (vl a1), none, some (vl 0), none, some (vl 3), none]) (st := [vl 3, vl 0, vl a1]) (ks := [1, 1, 1]) (n := 6) (as := [vl a1, vl 0, vl 3]) (rest := []) c30_11 (by decide +kernel) (by decide +kernel) rfl rfl (Nat.le_of_ble_eq_true rfl)]
  all_goals try simp only [lay_167, true_and, Nat.reduceAdd, eq_self_iff_true]
theorem g30_14 {d : Nat} {a1 s0 : Int} {x2 : Option aV} {w : aW} {Q : Option aV → aW → Prop} : T (d + 1) 30 14 [some (vr 167), some (vi a1), x2] [vi s0] w Q = ((¬ s0 = 0 → ((0 ≤ a1 ∧ a1 < 4) ∧ ((¬ w 188 a1 = (-1) → T d 129 0 [some (vr 167), none] [] w (fun r w1 => T (d + 1) 30 37 [some (vr 167), some (vi a1), x2] (r.toList ++ []) w1 Q)) ∧ (¬ (¬ w 188 a1 = (-1)) → Q (some (vi (-6))) w)))) ∧ (¬ (¬ s0 = 0) → Q (some (vi (-2))) w)) := by
  rw [T_if_ne 20 c30_14 rfl, T_aload_0 c30_20, T_getR 12 34 34 c30_21 rfl rfl rfl rfl, rf_167_34, T_iload_1 c30_24, T_iald c30_25, T_sipush c30_26, T_icmp_ne 33 c30_27 rfl, T_aload_0 c30_33, T_invv (es := [some (vr 167), none]) (st := [vr 167]) (ks := [2]) (n := 2) (c := 12) (k := 167) (as := []) (rest := []) c30_34 (by decide +kernel) (by decide +kernel) (by decide +kernel) (by decide) rfl rfl (Nat.le_of_ble_eq_true rfl), T_sipush c30_30, T_ireti c30_32 (by decide +kernel), T_sipush c30_17, T_ireti c30_19 (by decide +kernel)]
  all_goals try simp only [Int.reduceToNat, lay_167, ld_188, true_and, Nat.reduceAdd, eq_self_iff_true]
theorem g30_37 {d : Nat} {a1 : Int} {x2 : Option aV} {w : aW} {Q : Option aV → aW → Prop} : T (d + 1) 30 37 [some (vr 167), some (vi a1), x2] [] w Q = T d 150 0 [some (vr 167), some (vi a1), none, none, none] [] w (fun r w1 => T (d + 1) 30 42 [some (vr 167), some (vi a1), x2] (r.toList ++ []) w1 Q) := by
  rw [T_aload_0 c30_37, T_iload_1 c30_38, T_invv (es := [some (vr 167), some (vi a1), none, none, none]) (st := [vi a1, vr 167]) (ks := [2, 0]) (n := 5) (c := 12) (k := 167) (as := [vi a1]) (rest := []) c30_39 (by decide +kernel) (by decide +kernel) (by decide +kernel) (by decide) rfl rfl (Nat.le_of_ble_eq_true rfl)]
  all_goals try simp only [lay_167, true_and, Nat.reduceAdd, eq_self_iff_true]
theorem g30_42 {d : Nat} {s0 : Int} {x1 x2 : Option aV} {w : aW} {Q : Option aV → aW → Prop} : T (d + 1) 30 42 [some (vr 167), x1, x2] [vi s0] w Q = ((s0 ≤ 0 → T (d + 1) 30 51 [some (vr 167), x1, some (vi s0)] [] w Q) ∧ (¬ (s0 ≤ 0) → T d 130 0 [some (vr 167), none] [] w (fun r w1 => T (d + 1) 30 51 [some (vr 167), x1, some (vi s0)] (r.toList ++ []) w1 Q))) := by
  rw [T_istore_2 c30_42, T_iload_2 c30_43, T_if_le 51 c30_44 rfl, T_aload_0 c30_47, T_invv (es := [some (vr 167), none]) (st := [vr 167]) (ks := [2]) (n := 2) (c := 12) (k := 167) (as := []) (rest := []) c30_48 (by decide +kernel) (by decide +kernel) (by decide +kernel) (by decide) rfl rfl (Nat.le_of_ble_eq_true rfl)]
  all_goals try simp only [Int.reduceToNat, lay_167, true_and, Nat.reduceAdd, eq_self_iff_true]
theorem g30_51 {d : Nat} {a2 : Int} {x0 x1 : Option aV} {w : aW} {Q : Option aV → aW → Prop} : T d 30 51 [x0, x1, some (vi a2)] [] w Q = Q (some (vi a2)) w := by
  rw [T_iload_2 c30_51, T_ireti c30_52 (by decide +kernel)]
  all_goals try simp only [true_and, Nat.reduceAdd, eq_self_iff_true]
/-! 31: StringHands.season.(II)I -/
theorem c31_0 : cd 31 0 = some (.iload 2, 1) := by decide +kernel
theorem c31_1 : cd 31 1 = some (.sipush 1, 1) := by decide +kernel
theorem c31_2 : cd 31 2 = some (.if_icmp .lt 11, 3) := by decide +kernel
theorem c31_5 : cd 31 5 = some (.iload 2, 1) := by decide +kernel
theorem c31_6 : cd 31 6 = some (.sipush 60, 2) := by decide +kernel
theorem c31_8 : cd 31 8 = some (.if_icmp .le 14, 3) := by decide +kernel
theorem c31_11 : cd 31 11 = some (.sipush (-3), 2) := by decide +kernel
theorem c31_13 : cd 31 13 = some (.ireturn, 1) := by decide +kernel
theorem c31_14 : cd 31 14 = some (.aload 0, 1) := by decide +kernel
theorem c31_15 : cd 31 15 = some (.getfield 2850, 3) := by decide +kernel
theorem c31_18 : cd 31 18 = some (.getfield 2052, 3) := by decide +kernel
theorem c31_21 : cd 31 21 = some (.ifCond .ne 27, 3) := by decide +kernel
theorem c31_24 : cd 31 24 = some (.sipush (-5), 2) := by decide +kernel
theorem c31_26 : cd 31 26 = some (.ireturn, 1) := by decide +kernel
theorem c31_27 : cd 31 27 = some (.aload 0, 1) := by decide +kernel
theorem c31_28 : cd 31 28 = some (.invokevirtual 128, 3) := by decide +kernel
theorem c31_31 : cd 31 31 = some (.aload 0, 1) := by decide +kernel
theorem c31_32 : cd 31 32 = some (.getfield 2822, 3) := by decide +kernel
theorem c31_35 : cd 31 35 = some (.aload 0, 1) := by decide +kernel
theorem c31_36 : cd 31 36 = some (.getfield 2850, 3) := by decide +kernel
theorem c31_39 : cd 31 39 = some (.aload 0, 1) := by decide +kernel
theorem c31_40 : cd 31 40 = some (.getfield 2854, 3) := by decide +kernel
theorem c31_43 : cd 31 43 = some (.iload 1, 1) := by decide +kernel
theorem c31_44 : cd 31 44 = some (.iload 2, 1) := by decide +kernel
theorem c31_45 : cd 31 45 = some (.invokevirtual 152, 3) := by decide +kernel
theorem c31_48 : cd 31 48 = some (.aload 0, 1) := by decide +kernel
theorem c31_49 : cd 31 49 = some (.getfield 2854, 3) := by decide +kernel
theorem c31_52 : cd 31 52 = some (.getfield 1536, 3) := by decide +kernel
theorem c31_55 : cd 31 55 = some (.ireturn, 1) := by decide +kernel
theorem g31_0 {d : Nat} {a2 : Int} {x1 : Option aV} {w : aW} {Q : Option aV → aW → Prop} : T (d + 1) 31 0 [some (vr 0), x1, some (vi a2)] [] w Q = ((a2 < 1 → T (d + 1) 31 11 [some (vr 0), x1, some (vi a2)] [] w Q) ∧ (¬ (a2 < 1) → ((a2 ≤ 60 → ((¬ w 69 1 = 0 → T d 128 0 [some (vr 0), none, none] [] w (fun r w1 => T (d + 1) 31 31 [some (vr 0), x1, some (vi a2)] (r.toList ++ []) w1 Q)) ∧ (¬ (¬ w 69 1 = 0) → Q (some (vi (-5))) w))) ∧ (¬ (a2 ≤ 60) → T (d + 1) 31 11 [some (vr 0), x1, some (vi a2)] [] w Q)))) := by
  rw [T_iload_2 c31_0, T_sipush c31_1, T_icmp_lt 11 c31_2 rfl, T_iload_2 c31_5, T_sipush c31_6, T_icmp_le 14 c31_8 rfl, T_aload_0 c31_14, T_getR 11 8 8 c31_15 rfl rfl rfl rfl, rf_0_8, T_getI 8 1 1 c31_18 rfl rfl rfl rfl, T_if_ne 27 c31_21 rfl, T_aload_0 c31_27, T_invv (es := [some (vr 0), none, none]) (st := [vr 0]) (ks := [2]) (n := 3) (c := 11) (k := 0) (as := []) (rest := []) c31_28 (by decide +kernel) (by decide +kernel) (by decide +kernel) (by decide) rfl rfl (Nat.le_of_ble_eq_true rfl), T_sipush c31_24, T_ireti c31_26 (by decide +kernel)]
  all_goals try simp only [Int.reduceToNat, lay_0, lay_69, true_and, Nat.reduceAdd, eq_self_iff_true]
theorem g31_11 {d : Nat} {x0 x1 x2 : Option aV} {w : aW} {Q : Option aV → aW → Prop} : T d 31 11 [x0, x1, x2] [] w Q = Q (some (vi (-3))) w := by
  rw [T_sipush c31_11, T_ireti c31_13 (by decide +kernel)]
  all_goals try simp only [true_and, Nat.reduceAdd, eq_self_iff_true]
theorem g31_31 {d : Nat} {a1 a2 : Int} {w : aW} {Q : Option aV → aW → Prop} : T (d + 1) 31 31 [some (vr 0), some (vi a1), some (vi a2)] [] w Q = T d 152 0 [some (vr 16), some (vr 69), some (vr 79), some (vi a1), some (vi a2), none, none, none] [] w (fun r w1 => T (d + 1) 31 48 [some (vr 0), some (vi a1), some (vi a2)] (r.toList ++ []) w1 Q) := by
  rw [T_aload_0 c31_31, T_getR 11 1 1 c31_32 rfl rfl rfl rfl, rf_0_1, T_aload_0 c31_35, T_getR 11 8 8 c31_36 rfl rfl rfl rfl, rf_0_8, T_aload_0 c31_39, T_getR 11 9 9 c31_40 rfl rfl rfl rfl, rf_0_9, T_iload_1 c31_43, T_iload_2 c31_44, T_invv (es := [some (vr 16), some (vr 69), some (vr 79), some (vi a1), some (vi a2), none, none, none]) (st := [vi a2, vi a1, vr 79, vr 69, vr 16]) (ks := [2, 2, 2, 0, 0]) (n := 8) (c := 2) (k := 16) (as := [vr 69, vr 79, vi a1, vi a2]) (rest := []) c31_45 (by decide +kernel) (by decide +kernel) (by decide +kernel) (by decide) rfl rfl (Nat.le_of_ble_eq_true rfl)]
  all_goals try simp only [lay_0, lay_16, true_and, Nat.reduceAdd, eq_self_iff_true]
theorem g31_48 {d : Nat} {x1 x2 : Option aV} {w : aW} {Q : Option aV → aW → Prop} : T d 31 48 [some (vr 0), x1, x2] [] w Q = Q (some (vi (w 79 0))) w := by
  rw [T_aload_0 c31_48, T_getR 11 9 9 c31_49 rfl rfl rfl rfl, rf_0_9, T_getI 6 0 0 c31_52 rfl rfl rfl rfl, T_ireti c31_55 (by decide +kernel)]
  all_goals try simp only [lay_0, lay_79, true_and, Nat.reduceAdd, eq_self_iff_true]
/-! 32: StringHandsModel.season.(II)I -/
theorem c32_0 : cd 32 0 = some (.aload 0, 1) := by decide +kernel
theorem c32_1 : cd 32 1 = some (.sipush 0, 1) := by decide +kernel
theorem c32_2 : cd 32 2 = some (.putfield 3072, 3) := by decide +kernel
theorem c32_5 : cd 32 5 = some (.iload 2, 1) := by decide +kernel
theorem c32_6 : cd 32 6 = some (.i2l, 1) := by decide +kernel
theorem c32_7 : cd 32 7 = some (.bipush 1, 1) := by decide +kernel
theorem c32_8 : cd 32 8 = some (.bipush 60, 3) := by decide +kernel
theorem c32_11 : cd 32 11 = some (.invokestatic 105, 3) := by decide +kernel
theorem c32_14 : cd 32 14 = some (.ifCond .ne 20, 3) := by decide +kernel
theorem c32_17 : cd 32 17 = some (.sipush (-3), 2) := by decide +kernel
theorem c32_19 : cd 32 19 = some (.ireturn, 1) := by decide +kernel
theorem c32_20 : cd 32 20 = some (.aload 0, 1) := by decide +kernel
theorem c32_21 : cd 32 21 = some (.getfield 3078, 3) := by decide +kernel
theorem c32_24 : cd 32 24 = some (.sipush 2, 1) := by decide +kernel
theorem c32_25 : cd 32 25 = some (.iaload, 1) := by decide +kernel
theorem c32_26 : cd 32 26 = some (.ifCond .ne 32, 3) := by decide +kernel
theorem c32_29 : cd 32 29 = some (.sipush (-5), 2) := by decide +kernel
theorem c32_31 : cd 32 31 = some (.ireturn, 1) := by decide +kernel
theorem c32_32 : cd 32 32 = some (.aload 0, 1) := by decide +kernel
theorem c32_33 : cd 32 33 = some (.invokevirtual 129, 3) := by decide +kernel
theorem c32_36 : cd 32 36 = some (.aload 0, 1) := by decide +kernel
theorem c32_37 : cd 32 37 = some (.iload 1, 1) := by decide +kernel
theorem c32_38 : cd 32 38 = some (.putfield 3144, 3) := by decide +kernel
theorem c32_41 : cd 32 41 = some (.sipush 0, 1) := by decide +kernel
theorem c32_42 : cd 32 42 = some (.istore 3, 1) := by decide +kernel
theorem c32_43 : cd 32 43 = some (.iload 3, 1) := by decide +kernel
theorem c32_44 : cd 32 44 = some (.iload 2, 1) := by decide +kernel
theorem c32_45 : cd 32 45 = some (.if_icmp .ge 58, 3) := by decide +kernel
theorem c32_48 : cd 32 48 = some (.aload 0, 1) := by decide +kernel
theorem c32_49 : cd 32 49 = some (.invokevirtual 153, 3) := by decide +kernel
theorem c32_52 : cd 32 52 = some (.iinc 3 1, 3) := by decide +kernel
theorem c32_55 : cd 32 55 = some (.goto 43, 3) := by decide +kernel
theorem c32_58 : cd 32 58 = some (.aload 0, 1) := by decide +kernel
theorem c32_59 : cd 32 59 = some (.invokevirtual 130, 3) := by decide +kernel
theorem c32_62 : cd 32 62 = some (.aload 0, 1) := by decide +kernel
theorem c32_63 : cd 32 63 = some (.getfield 3078, 3) := by decide +kernel
theorem c32_66 : cd 32 66 = some (.sipush 5, 1) := by decide +kernel
theorem c32_67 : cd 32 67 = some (.iaload, 1) := by decide +kernel
theorem c32_68 : cd 32 68 = some (.ireturn, 1) := by decide +kernel
theorem g32_0 {d : Nat} {a2 : Int} {x1 x3 : Option aV} {w : aW} {Q : Option aV → aW → Prop} : T (d + 1) 32 0 [some (vr 167), x1, some (vi a2), x3] [] w Q = T d 105 0 [some (vl a2), none, some (vl 1), none, some (vl 60), none] [] (iup w 167 0 0) (fun r w1 => T (d + 1) 32 14 [some (vr 167), x1, some (vi a2), x3] (r.toList ++ []) w1 Q) := by
  rw [T_aload_0 c32_0, T_sipush c32_1, T_putI 12 0 0 c32_2 rfl rfl rfl rfl, T_iload_2 c32_5, T_i2l c32_6, T_bipush c32_7, T_bipush c32_8, T_inv (es := [some (vl a2), none, some (vl 1), none, some (vl 60), none]) (st := [vl 60, vl 1, vl a2]) (ks := [1, 1, 1]) (n := 6) (as := [vl a2, vl 1, vl 60]) (rest := []) c32_11 (by decide +kernel) (by decide +kernel) rfl rfl (Nat.le_of_ble_eq_true rfl)]
  all_goals try simp only [lay_167, true_and, Nat.reduceAdd, eq_self_iff_true]
theorem g32_14 {d : Nat} {s0 : Int} {x1 x2 x3 : Option aV} {w : aW} {Q : Option aV → aW → Prop} : T (d + 1) 32 14 [some (vr 167), x1, x2, x3] [vi s0] w Q = ((¬ s0 = 0 → ((¬ w 168 2 = 0 → T d 129 0 [some (vr 167), none] [] w (fun r w1 => T (d + 1) 32 36 [some (vr 167), x1, x2, x3] (r.toList ++ []) w1 Q)) ∧ (¬ (¬ w 168 2 = 0) → Q (some (vi (-5))) w))) ∧ (¬ (¬ s0 = 0) → Q (some (vi (-3))) w)) := by
  rw [T_if_ne 20 c32_14 rfl, T_aload_0 c32_20, T_getR 12 1 1 c32_21 rfl rfl rfl rfl, rf_167_1, T_sipush c32_24, T_iald c32_25, T_if_ne 32 c32_26 rfl, T_aload_0 c32_32, T_invv (es := [some (vr 167), none]) (st := [vr 167]) (ks := [2]) (n := 2) (c := 12) (k := 167) (as := []) (rest := []) c32_33 (by decide +kernel) (by decide +kernel) (by decide +kernel) (by decide) rfl rfl (Nat.le_of_ble_eq_true rfl), T_sipush c32_29, T_ireti c32_31 (by decide +kernel), T_sipush c32_17, T_ireti c32_19 (by decide +kernel)]
  all_goals try simp only [Int.reduceLE, Int.reduceLT, Int.reduceToNat, and_self, lay_167, ld_168, true_and, Nat.reduceAdd, eq_self_iff_true]
theorem g32_36 {d : Nat} {a1 : Int} {x2 x3 : Option aV} {w : aW} {Q : Option aV → aW → Prop} : T d 32 36 [some (vr 167), some (vi a1), x2, x3] [] w Q = T d 32 43 [some (vr 167), some (vi a1), x2, some (vi 0)] [] (iup w 167 18 a1) Q := by
  rw [T_aload_0 c32_36, T_iload_1 c32_37, T_putI 12 18 18 c32_38 rfl rfl rfl rfl, T_sipush c32_41, T_istore_3 c32_42]
  all_goals try simp only [lay_167, true_and, Nat.reduceAdd, eq_self_iff_true]
theorem g32_43 {d : Nat} {a2 a3 : Int} {x1 : Option aV} {w : aW} {Q : Option aV → aW → Prop} : T (d + 1) 32 43 [some (vr 167), x1, some (vi a2), some (vi a3)] [] w Q = ((a2 ≤ a3 → T d 130 0 [some (vr 167), none] [] w (fun r w1 => T (d + 1) 32 62 [some (vr 167), x1, some (vi a2), some (vi a3)] (r.toList ++ []) w1 Q)) ∧ (¬ (a2 ≤ a3) → T d 153 0 [some (vr 167), none, none] [] w (fun r w1 => T (d + 1) 32 52 [some (vr 167), x1, some (vi a2), some (vi a3)] (r.toList ++ []) w1 Q))) := by
  rw [T_iload_3 c32_43, T_iload_2 c32_44, T_icmp_ge 58 c32_45 rfl, T_aload_0 c32_58, T_invv (es := [some (vr 167), none]) (st := [vr 167]) (ks := [2]) (n := 2) (c := 12) (k := 167) (as := []) (rest := []) c32_59 (by decide +kernel) (by decide +kernel) (by decide +kernel) (by decide) rfl rfl (Nat.le_of_ble_eq_true rfl), T_aload_0 c32_48, T_invv (es := [some (vr 167), none, none]) (st := [vr 167]) (ks := [2]) (n := 3) (c := 12) (k := 167) (as := []) (rest := []) c32_49 (by decide +kernel) (by decide +kernel) (by decide +kernel) (by decide) rfl rfl (Nat.le_of_ble_eq_true rfl)]
  all_goals try simp only [Int.reduceToNat, lay_167, true_and, Nat.reduceAdd, eq_self_iff_true]
theorem g32_52 {d : Nat} {a3 : Int} {x0 x1 x2 : Option aV} {w : aW} {Q : Option aV → aW → Prop} : T d 32 52 [x0, x1, x2, some (vi a3)] [] w Q = T d 32 43 [x0, x1, x2, some (vi (w32 (a3 + 1)))] [] w Q := by
  rw [T_iinc_3 c32_52, T_goto 43 c32_55 rfl]
  all_goals try simp only [true_and, Nat.reduceAdd, eq_self_iff_true]
theorem g32_62 {d : Nat} {x1 x2 x3 : Option aV} {w : aW} {Q : Option aV → aW → Prop} : T d 32 62 [some (vr 167), x1, x2, x3] [] w Q = Q (some (vi (w 168 5))) w := by
  rw [T_aload_0 c32_62, T_getR 12 1 1 c32_63 rfl rfl rfl rfl, rf_167_1, T_sipush c32_66, T_iald c32_67, T_ireti c32_68 (by decide +kernel)]
  all_goals try simp only [Int.reduceLE, Int.reduceLT, and_self, lay_167, ld_168, true_and, Nat.reduceAdd, eq_self_iff_true]
/-! 33: StringHands.next.(I)I -/
theorem c33_0 : cd 33 0 = some (.aload 0, 1) := by decide +kernel
theorem c33_1 : cd 33 1 = some (.iload 1, 1) := by decide +kernel
theorem c33_2 : cd 33 2 = some (.invokevirtual 131, 3) := by decide +kernel
theorem c33_5 : cd 33 5 = some (.ifCond .ne 11, 3) := by decide +kernel
theorem c33_8 : cd 33 8 = some (.sipush (-3), 2) := by decide +kernel
theorem c33_10 : cd 33 10 = some (.ireturn, 1) := by decide +kernel
theorem c33_11 : cd 33 11 = some (.aload 0, 1) := by decide +kernel
theorem c33_12 : cd 33 12 = some (.getfield 2822, 3) := by decide +kernel
theorem c33_15 : cd 33 15 = some (.aload 0, 1) := by decide +kernel
theorem c33_16 : cd 33 16 = some (.getfield 2850, 3) := by decide +kernel
theorem c33_19 : cd 33 19 = some (.aload 0, 1) := by decide +kernel
theorem c33_20 : cd 33 20 = some (.getfield 2854, 3) := by decide +kernel
theorem c33_23 : cd 33 23 = some (.iload 1, 1) := by decide +kernel
theorem c33_24 : cd 33 24 = some (.invokevirtual 120, 3) := by decide +kernel
theorem c33_27 : cd 33 27 = some (.ireturn, 1) := by decide +kernel
theorem g33_0 {d : Nat} {a1 : Int} {w : aW} {Q : Option aV → aW → Prop} : T (d + 1) 33 0 [some (vr 0), some (vi a1)] [] w Q = T d 131 0 [some (vr 0), some (vi a1)] [] w (fun r w1 => T (d + 1) 33 5 [some (vr 0), some (vi a1)] (r.toList ++ []) w1 Q) := by
  rw [T_aload_0 c33_0, T_iload_1 c33_1, T_invv (es := [some (vr 0), some (vi a1)]) (st := [vi a1, vr 0]) (ks := [2, 0]) (n := 2) (c := 11) (k := 0) (as := [vi a1]) (rest := []) c33_2 (by decide +kernel) (by decide +kernel) (by decide +kernel) (by decide) rfl rfl (Nat.le_of_ble_eq_true rfl)]
  all_goals try simp only [lay_0, true_and, Nat.reduceAdd, eq_self_iff_true]
theorem g33_5 {d : Nat} {a1 s0 : Int} {w : aW} {Q : Option aV → aW → Prop} : T (d + 1) 33 5 [some (vr 0), some (vi a1)] [vi s0] w Q = ((¬ s0 = 0 → T d 120 0 [some (vr 16), some (vr 69), some (vr 79), some (vi a1), none, none, none] [] w (fun r w1 => T (d + 1) 33 27 [some (vr 0), some (vi a1)] (r.toList ++ []) w1 Q)) ∧ (¬ (¬ s0 = 0) → Q (some (vi (-3))) w)) := by
  rw [T_if_ne 11 c33_5 rfl, T_aload_0 c33_11, T_getR 11 1 1 c33_12 rfl rfl rfl rfl, rf_0_1, T_aload_0 c33_15, T_getR 11 8 8 c33_16 rfl rfl rfl rfl, rf_0_8, T_aload_0 c33_19, T_getR 11 9 9 c33_20 rfl rfl rfl rfl, rf_0_9, T_iload_1 c33_23, T_invv (es := [some (vr 16), some (vr 69), some (vr 79), some (vi a1), none, none, none]) (st := [vi a1, vr 79, vr 69, vr 16]) (ks := [2, 2, 2, 0]) (n := 7) (c := 2) (k := 16) (as := [vr 69, vr 79, vi a1]) (rest := []) c33_24 (by decide +kernel) (by decide +kernel) (by decide +kernel) (by decide) rfl rfl (Nat.le_of_ble_eq_true rfl), T_sipush c33_8, T_ireti c33_10 (by decide +kernel)]
  all_goals try simp only [Int.reduceToNat, lay_0, lay_16, true_and, Nat.reduceAdd, eq_self_iff_true]
theorem g33_27 {d : Nat} {s0 : Int} {x0 x1 : Option aV} {w : aW} {Q : Option aV → aW → Prop} : T d 33 27 [x0, x1] [vi s0] w Q = Q (some (vi s0)) w := by
  rw [T_ireti c33_27 (by decide +kernel)]
  all_goals try simp only [true_and, Nat.reduceAdd, eq_self_iff_true]
/-! 34: StringHandsModel.next.(I)I -/
theorem c34_0 : cd 34 0 = some (.aload 0, 1) := by decide +kernel
theorem c34_1 : cd 34 1 = some (.sipush 0, 1) := by decide +kernel
theorem c34_2 : cd 34 2 = some (.putfield 3072, 3) := by decide +kernel
theorem c34_5 : cd 34 5 = some (.aload 0, 1) := by decide +kernel
theorem c34_6 : cd 34 6 = some (.iload 1, 1) := by decide +kernel
theorem c34_7 : cd 34 7 = some (.i2l, 1) := by decide +kernel
theorem c34_8 : cd 34 8 = some (.invokevirtual 133, 3) := by decide +kernel
theorem c34_11 : cd 34 11 = some (.ifCond .eq 22, 3) := by decide +kernel
theorem c34_14 : cd 34 14 = some (.aload 0, 1) := by decide +kernel
theorem c34_15 : cd 34 15 = some (.iload 1, 1) := by decide +kernel
theorem c34_16 : cd 34 16 = some (.invokevirtual 154, 3) := by decide +kernel
theorem c34_19 : cd 34 19 = some (.goto 24, 3) := by decide +kernel
theorem c34_22 : cd 34 22 = some (.sipush (-3), 2) := by decide +kernel
theorem c34_24 : cd 34 24 = some (.ireturn, 1) := by decide +kernel
theorem g34_0 {d : Nat} {a1 : Int} {w : aW} {Q : Option aV → aW → Prop} : T (d + 1) 34 0 [some (vr 167), some (vi a1)] [] w Q = T d 133 0 [some (vr 167), some (vl a1), none] [] (iup w 167 0 0) (fun r w1 => T (d + 1) 34 11 [some (vr 167), some (vi a1)] (r.toList ++ []) w1 Q) := by
  rw [T_aload_0 c34_0, T_sipush c34_1, T_putI 12 0 0 c34_2 rfl rfl rfl rfl, T_aload_0 c34_5, T_iload_1 c34_6, T_i2l c34_7, T_invv (es := [some (vr 167), some (vl a1), none]) (st := [vl a1, vr 167]) (ks := [2, 1]) (n := 3) (c := 12) (k := 167) (as := [vl a1]) (rest := []) c34_8 (by decide +kernel) (by decide +kernel) (by decide +kernel) (by decide) rfl rfl (Nat.le_of_ble_eq_true rfl)]
  all_goals try simp only [lay_167, true_and, Nat.reduceAdd, eq_self_iff_true]
theorem g34_11 {d : Nat} {a1 s0 : Int} {w : aW} {Q : Option aV → aW → Prop} : T (d + 1) 34 11 [some (vr 167), some (vi a1)] [vi s0] w Q = ((s0 = 0 → T (d + 1) 34 24 [some (vr 167), some (vi a1)] [vi (-3)] w Q) ∧ (¬ (s0 = 0) → T d 154 0 [some (vr 167), some (vi a1), none, none] [] w (fun r w1 => T (d + 1) 34 19 [some (vr 167), some (vi a1)] (r.toList ++ []) w1 Q))) := by
  rw [T_if_eq 22 c34_11 rfl, T_sipush c34_22, T_aload_0 c34_14, T_iload_1 c34_15, T_invv (es := [some (vr 167), some (vi a1), none, none]) (st := [vi a1, vr 167]) (ks := [2, 0]) (n := 4) (c := 12) (k := 167) (as := [vi a1]) (rest := []) c34_16 (by decide +kernel) (by decide +kernel) (by decide +kernel) (by decide) rfl rfl (Nat.le_of_ble_eq_true rfl)]
  all_goals try simp only [Int.reduceToNat, lay_167, true_and, Nat.reduceAdd, eq_self_iff_true]
theorem g34_19 {d : Nat} {s0 : Int} {x0 x1 : Option aV} {w : aW} {Q : Option aV → aW → Prop} : T d 34 19 [x0, x1] [vi s0] w Q = T d 34 24 [x0, x1] [vi s0] w Q := by
  rw [T_goto 24 c34_19 rfl]
  all_goals try simp only [true_and, Nat.reduceAdd, eq_self_iff_true]
theorem g34_24 {d : Nat} {s0 : Int} {x0 x1 : Option aV} {w : aW} {Q : Option aV → aW → Prop} : T d 34 24 [x0, x1] [vi s0] w Q = Q (some (vi s0)) w := by
  rw [T_ireti c34_24 (by decide +kernel)]
  all_goals try simp only [true_and, Nat.reduceAdd, eq_self_iff_true]
/-! 35: StringHands.later.(II)I -/
theorem c35_0 : cd 35 0 = some (.aload 0, 1) := by decide +kernel
theorem c35_1 : cd 35 1 = some (.iload 1, 1) := by decide +kernel
theorem c35_2 : cd 35 2 = some (.invokevirtual 131, 3) := by decide +kernel
theorem c35_5 : cd 35 5 = some (.ifCond .eq 19, 3) := by decide +kernel
theorem c35_8 : cd 35 8 = some (.iload 2, 1) := by decide +kernel
theorem c35_9 : cd 35 9 = some (.ifCond .lt 19, 3) := by decide +kernel
theorem c35_12 : cd 35 12 = some (.iload 2, 1) := by decide +kernel
theorem c35_13 : cd 35 13 = some (.sipush 9999, 3) := by decide +kernel
theorem c35_16 : cd 35 16 = some (.if_icmp .le 22, 3) := by decide +kernel
theorem c35_19 : cd 35 19 = some (.sipush (-3), 2) := by decide +kernel
theorem c35_21 : cd 35 21 = some (.ireturn, 1) := by decide +kernel
theorem c35_22 : cd 35 22 = some (.aload 0, 1) := by decide +kernel
theorem c35_23 : cd 35 23 = some (.invokevirtual 155, 3) := by decide +kernel
theorem c35_26 : cd 35 26 = some (.astore 3, 1) := by decide +kernel
theorem c35_27 : cd 35 27 = some (.iload 1, 1) := by decide +kernel
theorem c35_28 : cd 35 28 = some (.istore 4, 2) := by decide +kernel
theorem c35_30 : cd 35 30 = some (.sipush 0, 1) := by decide +kernel
theorem c35_31 : cd 35 31 = some (.istore 5, 2) := by decide +kernel
theorem c35_33 : cd 35 33 = some (.iload 5, 2) := by decide +kernel
theorem c35_35 : cd 35 35 = some (.iload 2, 1) := by decide +kernel
theorem c35_36 : cd 35 36 = some (.if_icmp .ge 51, 3) := by decide +kernel
theorem c35_39 : cd 35 39 = some (.aload 3, 1) := by decide +kernel
theorem c35_40 : cd 35 40 = some (.iload 4, 2) := by decide +kernel
theorem c35_42 : cd 35 42 = some (.iaload, 1) := by decide +kernel
theorem c35_43 : cd 35 43 = some (.istore 4, 2) := by decide +kernel
theorem c35_45 : cd 35 45 = some (.iinc 5 1, 3) := by decide +kernel
theorem c35_48 : cd 35 48 = some (.goto 33, 3) := by decide +kernel
theorem c35_51 : cd 35 51 = some (.iload 4, 2) := by decide +kernel
theorem c35_53 : cd 35 53 = some (.ireturn, 1) := by decide +kernel
theorem g35_0 {d : Nat} {a1 : Int} {x2 x3 x4 x5 : Option aV} {w : aW} {Q : Option aV → aW → Prop} : T (d + 1) 35 0 [some (vr 0), some (vi a1), x2, x3, x4, x5] [] w Q = T d 131 0 [some (vr 0), some (vi a1)] [] w (fun r w1 => T (d + 1) 35 5 [some (vr 0), some (vi a1), x2, x3, x4, x5] (r.toList ++ []) w1 Q) := by
  rw [T_aload_0 c35_0, T_iload_1 c35_1, T_invv (es := [some (vr 0), some (vi a1)]) (st := [vi a1, vr 0]) (ks := [2, 0]) (n := 2) (c := 11) (k := 0) (as := [vi a1]) (rest := []) c35_2 (by decide +kernel) (by decide +kernel) (by decide +kernel) (by decide) rfl rfl (Nat.le_of_ble_eq_true rfl)]
  all_goals try simp only [lay_0, true_and, Nat.reduceAdd, eq_self_iff_true]
theorem g35_5 {d : Nat} {a2 s0 : Int} {x1 x3 x4 x5 : Option aV} {w : aW} {Q : Option aV → aW → Prop} : T (d + 1) 35 5 [some (vr 0), x1, some (vi a2), x3, x4, x5] [vi s0] w Q = ((s0 = 0 → T (d + 1) 35 19 [some (vr 0), x1, some (vi a2), x3, x4, x5] [] w Q) ∧ (¬ (s0 = 0) → ((a2 < 0 → T (d + 1) 35 19 [some (vr 0), x1, some (vi a2), x3, x4, x5] [] w Q) ∧ (¬ (a2 < 0) → ((a2 ≤ 9999 → T d 155 0 [some (vr 0)] [] w (fun r w1 => T (d + 1) 35 26 [some (vr 0), x1, some (vi a2), x3, x4, x5] (r.toList ++ []) w1 Q)) ∧ (¬ (a2 ≤ 9999) → T (d + 1) 35 19 [some (vr 0), x1, some (vi a2), x3, x4, x5] [] w Q)))))) := by
  rw [T_if_eq 19 c35_5 rfl, T_iload_2 c35_8, T_if_lt 19 c35_9 rfl, T_iload_2 c35_12, T_sipush c35_13, T_icmp_le 22 c35_16 rfl, T_aload_0 c35_22, T_invv (es := [some (vr 0)]) (st := [vr 0]) (ks := [2]) (n := 1) (c := 11) (k := 0) (as := []) (rest := []) c35_23 (by decide +kernel) (by decide +kernel) (by decide +kernel) (by decide) rfl rfl (Nat.le_of_ble_eq_true rfl)]
  all_goals try simp only [Int.reduceToNat, lay_0, true_and, Nat.reduceAdd, eq_self_iff_true]
theorem g35_19 {d : Nat} {x0 x1 x2 x3 x4 x5 : Option aV} {w : aW} {Q : Option aV → aW → Prop} : T d 35 19 [x0, x1, x2, x3, x4, x5] [] w Q = Q (some (vi (-3))) w := by
  rw [T_sipush c35_19, T_ireti c35_21 (by decide +kernel)]
  all_goals try simp only [true_and, Nat.reduceAdd, eq_self_iff_true]
theorem g35_26 {d : Nat} {a1 : Int} {s0 : Nat} {x0 x2 x3 x4 x5 : Option aV} {w : aW} {Q : Option aV → aW → Prop} : T d 35 26 [x0, some (vi a1), x2, x3, x4, x5] [vr s0] w Q = T d 35 33 [x0, some (vi a1), x2, some (vr s0), some (vi a1), some (vi 0)] [] w Q := by
  rw [T_astore_3 c35_26, T_iload_1 c35_27, T_istore_4 c35_28, T_sipush c35_30, T_istore_5 c35_31]
  all_goals try simp only [true_and, Nat.reduceAdd, eq_self_iff_true]
theorem g35_33 {d : Nat} {a2 a4 a5 : Int} {r3 : Nat} {x0 x1 : Option aV} {w : aW} {Q : Option aV → aW → Prop} : T d 35 33 [x0, x1, some (vi a2), some (vr r3), some (vi a4), some (vi a5)] [] w Q = ((a2 ≤ a5 → Q (some (vi a4)) w) ∧ (¬ (a2 ≤ a5) → (ldok r3 a4 w ∧ T d 35 33 [x0, x1, some (vi a2), some (vr r3), some (vi (w r3 a4)), some (vi (w32 (a5 + 1)))] [] w Q))) := by
  rw [T_iload_5 c35_33, T_iload_2 c35_35, T_icmp_ge 51 c35_36 rfl, T_iload_4 c35_51, T_ireti c35_53 (by decide +kernel), T_aload_3 c35_39, T_iload_4 c35_40, T_iald c35_42, T_istore_4 c35_43, T_iinc_5 c35_45, T_goto 33 c35_48 rfl]
  all_goals try simp only [Int.reduceToNat, true_and, Nat.reduceAdd, eq_self_iff_true]
/-! 36: StringHandsModel.later.(II)I -/
theorem c36_0 : cd 36 0 = some (.aload 0, 1) := by decide +kernel
theorem c36_1 : cd 36 1 = some (.sipush 0, 1) := by decide +kernel
theorem c36_2 : cd 36 2 = some (.putfield 3072, 3) := by decide +kernel
theorem c36_5 : cd 36 5 = some (.aload 0, 1) := by decide +kernel
theorem c36_6 : cd 36 6 = some (.iload 1, 1) := by decide +kernel
theorem c36_7 : cd 36 7 = some (.i2l, 1) := by decide +kernel
theorem c36_8 : cd 36 8 = some (.invokevirtual 133, 3) := by decide +kernel
theorem c36_11 : cd 36 11 = some (.ifCond .eq 26, 3) := by decide +kernel
theorem c36_14 : cd 36 14 = some (.iload 2, 1) := by decide +kernel
theorem c36_15 : cd 36 15 = some (.i2l, 1) := by decide +kernel
theorem c36_16 : cd 36 16 = some (.bipush 0, 1) := by decide +kernel
theorem c36_17 : cd 36 17 = some (.bipush 9999, 3) := by decide +kernel
theorem c36_20 : cd 36 20 = some (.invokestatic 105, 3) := by decide +kernel
theorem c36_23 : cd 36 23 = some (.ifCond .ne 29, 3) := by decide +kernel
theorem c36_26 : cd 36 26 = some (.sipush (-3), 2) := by decide +kernel
theorem c36_28 : cd 36 28 = some (.ireturn, 1) := by decide +kernel
theorem c36_29 : cd 36 29 = some (.aload 0, 1) := by decide +kernel
theorem c36_30 : cd 36 30 = some (.invokevirtual 156, 3) := by decide +kernel
theorem c36_33 : cd 36 33 = some (.aload 0, 1) := by decide +kernel
theorem c36_34 : cd 36 34 = some (.iload 1, 1) := by decide +kernel
theorem c36_35 : cd 36 35 = some (.iload 2, 1) := by decide +kernel
theorem c36_36 : cd 36 36 = some (.invokevirtual 157, 3) := by decide +kernel
theorem c36_39 : cd 36 39 = some (.ireturn, 1) := by decide +kernel
theorem g36_0 {d : Nat} {a1 : Int} {x2 : Option aV} {w : aW} {Q : Option aV → aW → Prop} : T (d + 1) 36 0 [some (vr 167), some (vi a1), x2] [] w Q = T d 133 0 [some (vr 167), some (vl a1), none] [] (iup w 167 0 0) (fun r w1 => T (d + 1) 36 11 [some (vr 167), some (vi a1), x2] (r.toList ++ []) w1 Q) := by
  rw [T_aload_0 c36_0, T_sipush c36_1, T_putI 12 0 0 c36_2 rfl rfl rfl rfl, T_aload_0 c36_5, T_iload_1 c36_6, T_i2l c36_7, T_invv (es := [some (vr 167), some (vl a1), none]) (st := [vl a1, vr 167]) (ks := [2, 1]) (n := 3) (c := 12) (k := 167) (as := [vl a1]) (rest := []) c36_8 (by decide +kernel) (by decide +kernel) (by decide +kernel) (by decide) rfl rfl (Nat.le_of_ble_eq_true rfl)]
  all_goals try simp only [lay_167, true_and, Nat.reduceAdd, eq_self_iff_true]
theorem g36_11 {d : Nat} {a2 s0 : Int} {x0 x1 : Option aV} {w : aW} {Q : Option aV → aW → Prop} : T (d + 1) 36 11 [x0, x1, some (vi a2)] [vi s0] w Q = ((s0 = 0 → T (d + 1) 36 26 [x0, x1, some (vi a2)] [] w Q) ∧ (¬ (s0 = 0) → T d 105 0 [some (vl a2), none, some (vl 0), none, some (vl 9999), none] [] w (fun r w1 => T (d + 1) 36 23 [x0, x1, some (vi a2)] (r.toList ++ []) w1 Q))) := by
  rw [T_if_eq 26 c36_11 rfl, T_iload_2 c36_14, T_i2l c36_15, T_bipush c36_16, T_bipush c36_17, T_inv (es := [some (vl a2), none, some (vl 0), none, some (vl 9999), none]) (st := [vl 9999, vl 0, vl a2]) (ks := [1, 1, 1]) (n := 6) (as := [vl a2, vl 0, vl 9999]) (rest := []) c36_20 (by decide +kernel) (by decide +kernel) rfl rfl (Nat.le_of_ble_eq_true rfl)]
  all_goals try simp only [Int.reduceToNat, true_and, Nat.reduceAdd, eq_self_iff_true]
theorem g36_23 {d : Nat} {s0 : Int} {x1 x2 : Option aV} {w : aW} {Q : Option aV → aW → Prop} : T (d + 1) 36 23 [some (vr 167), x1, x2] [vi s0] w Q = ((¬ s0 = 0 → T d 156 0 [some (vr 167), none] [] w (fun r w1 => T (d + 1) 36 33 [some (vr 167), x1, x2] (r.toList ++ []) w1 Q)) ∧ (¬ (¬ s0 = 0) → T (d + 1) 36 26 [some (vr 167), x1, x2] [] w Q)) := by
  rw [T_if_ne 29 c36_23 rfl, T_aload_0 c36_29, T_invv (es := [some (vr 167), none]) (st := [vr 167]) (ks := [2]) (n := 2) (c := 12) (k := 167) (as := []) (rest := []) c36_30 (by decide +kernel) (by decide +kernel) (by decide +kernel) (by decide) rfl rfl (Nat.le_of_ble_eq_true rfl)]
  all_goals try simp only [Int.reduceToNat, lay_167, true_and, Nat.reduceAdd, eq_self_iff_true]
theorem g36_26 {d : Nat} {x0 x1 x2 : Option aV} {w : aW} {Q : Option aV → aW → Prop} : T d 36 26 [x0, x1, x2] [] w Q = Q (some (vi (-3))) w := by
  rw [T_sipush c36_26, T_ireti c36_28 (by decide +kernel)]
  all_goals try simp only [true_and, Nat.reduceAdd, eq_self_iff_true]
theorem g36_33 {d : Nat} {a1 a2 : Int} {w : aW} {Q : Option aV → aW → Prop} : T (d + 1) 36 33 [some (vr 167), some (vi a1), some (vi a2)] [] w Q = T d 157 0 [some (vr 167), some (vi a1), some (vi a2), none, none] [] w (fun r w1 => T (d + 1) 36 39 [some (vr 167), some (vi a1), some (vi a2)] (r.toList ++ []) w1 Q) := by
  rw [T_aload_0 c36_33, T_iload_1 c36_34, T_iload_2 c36_35, T_invv (es := [some (vr 167), some (vi a1), some (vi a2), none, none]) (st := [vi a2, vi a1, vr 167]) (ks := [2, 0, 0]) (n := 5) (c := 12) (k := 167) (as := [vi a1, vi a2]) (rest := []) c36_36 (by decide +kernel) (by decide +kernel) (by decide +kernel) (by decide) rfl rfl (Nat.le_of_ble_eq_true rfl)]
  all_goals try simp only [lay_167, true_and, Nat.reduceAdd, eq_self_iff_true]
theorem g36_39 {d : Nat} {s0 : Int} {x0 x1 x2 : Option aV} {w : aW} {Q : Option aV → aW → Prop} : T d 36 39 [x0, x1, x2] [vi s0] w Q = Q (some (vi s0)) w := by
  rw [T_ireti c36_39 (by decide +kernel)]
  all_goals try simp only [true_and, Nat.reduceAdd, eq_self_iff_true]
/-! 37: StringHands.round.(II)I -/
theorem c37_0 : cd 37 0 = some (.iload 2, 1) := by decide +kernel
theorem c37_1 : cd 37 1 = some (.ifCond .lt 9, 3) := by decide +kernel
theorem c37_4 : cd 37 4 = some (.iload 2, 1) := by decide +kernel
theorem c37_5 : cd 37 5 = some (.sipush 2, 1) := by decide +kernel
theorem c37_6 : cd 37 6 = some (.if_icmp .le 12, 3) := by decide +kernel
theorem c37_9 : cd 37 9 = some (.sipush (-2), 2) := by decide +kernel
theorem c37_11 : cd 37 11 = some (.ireturn, 1) := by decide +kernel
theorem c37_12 : cd 37 12 = some (.aload 0, 1) := by decide +kernel
theorem c37_13 : cd 37 13 = some (.iload 1, 1) := by decide +kernel
theorem c37_14 : cd 37 14 = some (.invokevirtual 131, 3) := by decide +kernel
theorem c37_17 : cd 37 17 = some (.ifCond .ne 23, 3) := by decide +kernel
theorem c37_20 : cd 37 20 = some (.sipush (-3), 2) := by decide +kernel
theorem c37_22 : cd 37 22 = some (.ireturn, 1) := by decide +kernel
theorem c37_23 : cd 37 23 = some (.aload 0, 1) := by decide +kernel
theorem c37_24 : cd 37 24 = some (.invokevirtual 158, 3) := by decide +kernel
theorem c37_27 : cd 37 27 = some (.iload 2, 1) := by decide +kernel
theorem c37_28 : cd 37 28 = some (.lookupswitch 76 #[(0, 56), (1, 66)], 28) := by decide +kernel
theorem c37_56 : cd 37 56 = some (.aload 0, 1) := by decide +kernel
theorem c37_57 : cd 37 57 = some (.getfield 2826, 3) := by decide +kernel
theorem c37_60 : cd 37 60 = some (.getfield 14, 3) := by decide +kernel
theorem c37_63 : cd 37 63 = some (.iload 1, 1) := by decide +kernel
theorem c37_64 : cd 37 64 = some (.iaload, 1) := by decide +kernel
theorem c37_65 : cd 37 65 = some (.ireturn, 1) := by decide +kernel
theorem c37_66 : cd 37 66 = some (.aload 0, 1) := by decide +kernel
theorem c37_67 : cd 37 67 = some (.getfield 2826, 3) := by decide +kernel
theorem c37_70 : cd 37 70 = some (.getfield 10, 3) := by decide +kernel
theorem c37_73 : cd 37 73 = some (.iload 1, 1) := by decide +kernel
theorem c37_74 : cd 37 74 = some (.iaload, 1) := by decide +kernel
theorem c37_75 : cd 37 75 = some (.ireturn, 1) := by decide +kernel
theorem c37_76 : cd 37 76 = some (.aload 0, 1) := by decide +kernel
theorem c37_77 : cd 37 77 = some (.getfield 2826, 3) := by decide +kernel
theorem c37_80 : cd 37 80 = some (.getfield 18, 3) := by decide +kernel
theorem c37_83 : cd 37 83 = some (.iload 1, 1) := by decide +kernel
theorem c37_84 : cd 37 84 = some (.iaload, 1) := by decide +kernel
theorem c37_85 : cd 37 85 = some (.ireturn, 1) := by decide +kernel
theorem sw37_28 {d : Nat} {ls : List (Option aV)} {st : List aV} {w : aW} {Q : Option aV → aW → Prop} {x : Int} : T d 37 28 ls (vi x :: st) w Q = ((x = 0 → T d 37 56 ls st w Q) ∧ (x = 1 → T d 37 66 ls st w Q) ∧ (¬ x = 0 ∧ ¬ x = 1 → T d 37 76 ls st w Q)) := by
  rw [T_lkp c37_28]
  apply propext
  constructor
  · intro h
    refine ⟨fun q => by subst q; exact h, fun q => by subst q; exact h, fun q => ?_⟩
    · have e : (lkp (#[(0, 56), (1, 66)] : Array (Int × Int)).toList 76 x).toNat = 76 := by simp [lkp, q]
      rw [e] at h; exact h
  · rintro ⟨h0, h1, hd⟩
    by_cases n0 : x = 0
    · subst n0; exact h0 rfl
    by_cases n1 : x = 1
    · subst n1; exact h1 rfl
    · have e : (lkp (#[(0, 56), (1, 66)] : Array (Int × Int)).toList 76 x).toNat = 76 := by simp [lkp, n0, n1]
      rw [e]; exact hd ⟨n0, n1⟩
theorem g37_0 {d : Nat} {a1 a2 : Int} {w : aW} {Q : Option aV → aW → Prop} : T (d + 1) 37 0 [some (vr 0), some (vi a1), some (vi a2)] [] w Q = ((a2 < 0 → T (d + 1) 37 9 [some (vr 0), some (vi a1), some (vi a2)] [] w Q) ∧ (¬ (a2 < 0) → ((a2 ≤ 2 → T d 131 0 [some (vr 0), some (vi a1)] [] w (fun r w1 => T (d + 1) 37 17 [some (vr 0), some (vi a1), some (vi a2)] (r.toList ++ []) w1 Q)) ∧ (¬ (a2 ≤ 2) → T (d + 1) 37 9 [some (vr 0), some (vi a1), some (vi a2)] [] w Q)))) := by
  rw [T_iload_2 c37_0, T_if_lt 9 c37_1 rfl, T_iload_2 c37_4, T_sipush c37_5, T_icmp_le 12 c37_6 rfl, T_aload_0 c37_12, T_iload_1 c37_13, T_invv (es := [some (vr 0), some (vi a1)]) (st := [vi a1, vr 0]) (ks := [2, 0]) (n := 2) (c := 11) (k := 0) (as := [vi a1]) (rest := []) c37_14 (by decide +kernel) (by decide +kernel) (by decide +kernel) (by decide) rfl rfl (Nat.le_of_ble_eq_true rfl)]
  all_goals try simp only [Int.reduceToNat, lay_0, true_and, Nat.reduceAdd, eq_self_iff_true]
theorem g37_9 {d : Nat} {x0 x1 x2 : Option aV} {w : aW} {Q : Option aV → aW → Prop} : T d 37 9 [x0, x1, x2] [] w Q = Q (some (vi (-2))) w := by
  rw [T_sipush c37_9, T_ireti c37_11 (by decide +kernel)]
  all_goals try simp only [true_and, Nat.reduceAdd, eq_self_iff_true]
theorem g37_17 {d : Nat} {s0 : Int} {x1 x2 : Option aV} {w : aW} {Q : Option aV → aW → Prop} : T (d + 1) 37 17 [some (vr 0), x1, x2] [vi s0] w Q = ((¬ s0 = 0 → T d 158 0 [some (vr 0)] [] w (fun r w1 => T (d + 1) 37 27 [some (vr 0), x1, x2] (r.toList ++ []) w1 Q)) ∧ (¬ (¬ s0 = 0) → Q (some (vi (-3))) w)) := by
  rw [T_if_ne 23 c37_17 rfl, T_aload_0 c37_23, T_invv (es := [some (vr 0)]) (st := [vr 0]) (ks := [2]) (n := 1) (c := 11) (k := 0) (as := []) (rest := []) c37_24 (by decide +kernel) (by decide +kernel) (by decide +kernel) (by decide) rfl rfl (Nat.le_of_ble_eq_true rfl), T_sipush c37_20, T_ireti c37_22 (by decide +kernel)]
  all_goals try simp only [Int.reduceToNat, lay_0, true_and, Nat.reduceAdd, eq_self_iff_true]
theorem g37_27 {d : Nat} {a1 a2 : Int} {w : aW} {Q : Option aV → aW → Prop} : T d 37 27 [some (vr 0), some (vi a1), some (vi a2)] [] w Q = ((a2 = 0 → ((0 ≤ a1 ∧ a1 < 1024) ∧ Q (some (vi (w 22 a1))) w)) ∧ (a2 = 1 → ((0 ≤ a1 ∧ a1 < 1024) ∧ Q (some (vi (w 21 a1))) w)) ∧ (¬ a2 = 0 ∧ ¬ a2 = 1 → ((0 ≤ a1 ∧ a1 < 1024) ∧ Q (some (vi (w 23 a1))) w))) := by
  rw [T_iload_2 c37_27, sw37_28, T_aload_0 c37_56, T_getR 11 2 2 c37_57 rfl rfl rfl rfl, rf_0_2, T_getR 0 3 3 c37_60 rfl rfl rfl rfl, rf_19_3, T_iload_1 c37_63, T_iald c37_64, T_ireti c37_65 (by decide +kernel), T_aload_0 c37_66, T_getR 11 2 2 c37_67 rfl rfl rfl rfl, rf_0_2, T_getR 0 2 2 c37_70 rfl rfl rfl rfl, rf_19_2, T_iload_1 c37_73, T_iald c37_74, T_ireti c37_75 (by decide +kernel), T_aload_0 c37_76, T_getR 11 2 2 c37_77 rfl rfl rfl rfl, rf_0_2, T_getR 0 4 4 c37_80 rfl rfl rfl rfl, rf_19_4, T_iload_1 c37_83, T_iald c37_84, T_ireti c37_85 (by decide +kernel)]
  all_goals try simp only [lay_0, lay_19, ld_21, ld_22, ld_23, true_and, Nat.reduceAdd, eq_self_iff_true]
/-! 38: StringHandsModel.round.(II)I -/
theorem c38_0 : cd 38 0 = some (.aload 0, 1) := by decide +kernel
theorem c38_1 : cd 38 1 = some (.sipush 0, 1) := by decide +kernel
theorem c38_2 : cd 38 2 = some (.putfield 3072, 3) := by decide +kernel
theorem c38_5 : cd 38 5 = some (.iload 2, 1) := by decide +kernel
theorem c38_6 : cd 38 6 = some (.i2l, 1) := by decide +kernel
theorem c38_7 : cd 38 7 = some (.bipush 0, 1) := by decide +kernel
theorem c38_8 : cd 38 8 = some (.bipush 2, 3) := by decide +kernel
theorem c38_11 : cd 38 11 = some (.invokestatic 105, 3) := by decide +kernel
theorem c38_14 : cd 38 14 = some (.ifCond .ne 20, 3) := by decide +kernel
theorem c38_17 : cd 38 17 = some (.sipush (-2), 2) := by decide +kernel
theorem c38_19 : cd 38 19 = some (.ireturn, 1) := by decide +kernel
theorem c38_20 : cd 38 20 = some (.aload 0, 1) := by decide +kernel
theorem c38_21 : cd 38 21 = some (.iload 1, 1) := by decide +kernel
theorem c38_22 : cd 38 22 = some (.i2l, 1) := by decide +kernel
theorem c38_23 : cd 38 23 = some (.invokevirtual 133, 3) := by decide +kernel
theorem c38_26 : cd 38 26 = some (.ifCond .ne 32, 3) := by decide +kernel
theorem c38_29 : cd 38 29 = some (.sipush (-3), 2) := by decide +kernel
theorem c38_31 : cd 38 31 = some (.ireturn, 1) := by decide +kernel
theorem c38_32 : cd 38 32 = some (.aload 0, 1) := by decide +kernel
theorem c38_33 : cd 38 33 = some (.invokevirtual 159, 3) := by decide +kernel
theorem c38_36 : cd 38 36 = some (.iload 2, 1) := by decide +kernel
theorem c38_37 : cd 38 37 = some (.ifCond .ne 48, 3) := by decide +kernel
theorem c38_40 : cd 38 40 = some (.aload 0, 1) := by decide +kernel
theorem c38_41 : cd 38 41 = some (.iload 1, 1) := by decide +kernel
theorem c38_42 : cd 38 42 = some (.invokevirtual 160, 3) := by decide +kernel
theorem c38_45 : cd 38 45 = some (.goto 68, 3) := by decide +kernel
theorem c38_48 : cd 38 48 = some (.iload 2, 1) := by decide +kernel
theorem c38_49 : cd 38 49 = some (.sipush 1, 1) := by decide +kernel
theorem c38_50 : cd 38 50 = some (.if_icmp .ne 62, 3) := by decide +kernel
theorem c38_53 : cd 38 53 = some (.aload 0, 1) := by decide +kernel
theorem c38_54 : cd 38 54 = some (.getfield 3154, 3) := by decide +kernel
theorem c38_57 : cd 38 57 = some (.iload 1, 1) := by decide +kernel
theorem c38_58 : cd 38 58 = some (.iaload, 1) := by decide +kernel
theorem c38_59 : cd 38 59 = some (.goto 68, 3) := by decide +kernel
theorem c38_62 : cd 38 62 = some (.aload 0, 1) := by decide +kernel
theorem c38_63 : cd 38 63 = some (.getfield 3158, 3) := by decide +kernel
theorem c38_66 : cd 38 66 = some (.iload 1, 1) := by decide +kernel
theorem c38_67 : cd 38 67 = some (.iaload, 1) := by decide +kernel
theorem c38_68 : cd 38 68 = some (.ireturn, 1) := by decide +kernel
theorem g38_0 {d : Nat} {a2 : Int} {x1 : Option aV} {w : aW} {Q : Option aV → aW → Prop} : T (d + 1) 38 0 [some (vr 167), x1, some (vi a2)] [] w Q = T d 105 0 [some (vl a2), none, some (vl 0), none, some (vl 2), none] [] (iup w 167 0 0) (fun r w1 => T (d + 1) 38 14 [some (vr 167), x1, some (vi a2)] (r.toList ++ []) w1 Q) := by
  rw [T_aload_0 c38_0, T_sipush c38_1, T_putI 12 0 0 c38_2 rfl rfl rfl rfl, T_iload_2 c38_5, T_i2l c38_6, T_bipush c38_7, T_bipush c38_8, T_inv (es := [some (vl a2), none, some (vl 0), none, some (vl 2), none]) (st := [vl 2, vl 0, vl a2]) (ks := [1, 1, 1]) (n := 6) (as := [vl a2, vl 0, vl 2]) (rest := []) c38_11 (by decide +kernel) (by decide +kernel) rfl rfl (Nat.le_of_ble_eq_true rfl)]
  all_goals try simp only [lay_167, true_and, Nat.reduceAdd, eq_self_iff_true]
theorem g38_14 {d : Nat} {a1 s0 : Int} {x2 : Option aV} {w : aW} {Q : Option aV → aW → Prop} : T (d + 1) 38 14 [some (vr 167), some (vi a1), x2] [vi s0] w Q = ((¬ s0 = 0 → T d 133 0 [some (vr 167), some (vl a1), none] [] w (fun r w1 => T (d + 1) 38 26 [some (vr 167), some (vi a1), x2] (r.toList ++ []) w1 Q)) ∧ (¬ (¬ s0 = 0) → Q (some (vi (-2))) w)) := by
  rw [T_if_ne 20 c38_14 rfl, T_aload_0 c38_20, T_iload_1 c38_21, T_i2l c38_22, T_invv (es := [some (vr 167), some (vl a1), none]) (st := [vl a1, vr 167]) (ks := [2, 1]) (n := 3) (c := 12) (k := 167) (as := [vl a1]) (rest := []) c38_23 (by decide +kernel) (by decide +kernel) (by decide +kernel) (by decide) rfl rfl (Nat.le_of_ble_eq_true rfl), T_sipush c38_17, T_ireti c38_19 (by decide +kernel)]
  all_goals try simp only [Int.reduceToNat, lay_167, true_and, Nat.reduceAdd, eq_self_iff_true]
theorem g38_26 {d : Nat} {s0 : Int} {x1 x2 : Option aV} {w : aW} {Q : Option aV → aW → Prop} : T (d + 1) 38 26 [some (vr 167), x1, x2] [vi s0] w Q = ((¬ s0 = 0 → T d 159 0 [some (vr 167), none, none, none, none, none] [] w (fun r w1 => T (d + 1) 38 36 [some (vr 167), x1, x2] (r.toList ++ []) w1 Q)) ∧ (¬ (¬ s0 = 0) → Q (some (vi (-3))) w)) := by
  rw [T_if_ne 32 c38_26 rfl, T_aload_0 c38_32, T_invv (es := [some (vr 167), none, none, none, none, none]) (st := [vr 167]) (ks := [2]) (n := 6) (c := 12) (k := 167) (as := []) (rest := []) c38_33 (by decide +kernel) (by decide +kernel) (by decide +kernel) (by decide) rfl rfl (Nat.le_of_ble_eq_true rfl), T_sipush c38_29, T_ireti c38_31 (by decide +kernel)]
  all_goals try simp only [Int.reduceToNat, lay_167, true_and, Nat.reduceAdd, eq_self_iff_true]
theorem g38_36 {d : Nat} {a1 a2 : Int} {w : aW} {Q : Option aV → aW → Prop} : T (d + 1) 38 36 [some (vr 167), some (vi a1), some (vi a2)] [] w Q = ((¬ a2 = 0 → ((¬ a2 = 1 → ((0 ≤ a1 ∧ a1 < 1024) ∧ T (d + 1) 38 68 [some (vr 167), some (vi a1), some (vi a2)] [vi (w 176 a1)] w Q)) ∧ (¬ (¬ a2 = 1) → ((0 ≤ a1 ∧ a1 < 1024) ∧ T (d + 1) 38 68 [some (vr 167), some (vi a1), some (vi a2)] [vi (w 175 a1)] w Q)))) ∧ (¬ (¬ a2 = 0) → T d 160 0 [some (vr 167), some (vi a1), none, none] [] w (fun r w1 => T (d + 1) 38 45 [some (vr 167), some (vi a1), some (vi a2)] (r.toList ++ []) w1 Q))) := by
  rw [T_iload_2 c38_36, T_if_ne 48 c38_37 rfl, T_iload_2 c38_48, T_sipush c38_49, T_icmp_ne 62 c38_50 rfl, T_aload_0 c38_62, T_getR 12 21 21 c38_63 rfl rfl rfl rfl, rf_167_21, T_iload_1 c38_66, T_iald c38_67, T_aload_0 c38_53, T_getR 12 20 20 c38_54 rfl rfl rfl rfl, rf_167_20, T_iload_1 c38_57, T_iald c38_58, T_goto 68 c38_59 rfl, T_aload_0 c38_40, T_iload_1 c38_41, T_invv (es := [some (vr 167), some (vi a1), none, none]) (st := [vi a1, vr 167]) (ks := [2, 0]) (n := 4) (c := 12) (k := 167) (as := [vi a1]) (rest := []) c38_42 (by decide +kernel) (by decide +kernel) (by decide +kernel) (by decide) rfl rfl (Nat.le_of_ble_eq_true rfl)]
  all_goals try simp only [Int.reduceToNat, lay_167, ld_175, ld_176, true_and, Nat.reduceAdd, eq_self_iff_true]
theorem g38_45 {d : Nat} {s0 : Int} {x0 x1 x2 : Option aV} {w : aW} {Q : Option aV → aW → Prop} : T d 38 45 [x0, x1, x2] [vi s0] w Q = T d 38 68 [x0, x1, x2] [vi s0] w Q := by
  rw [T_goto 68 c38_45 rfl]
  all_goals try simp only [true_and, Nat.reduceAdd, eq_self_iff_true]
theorem g38_68 {d : Nat} {s0 : Int} {x0 x1 x2 : Option aV} {w : aW} {Q : Option aV → aW → Prop} : T d 38 68 [x0, x1, x2] [vi s0] w Q = Q (some (vi s0)) w := by
  rw [T_ireti c38_68 (by decide +kernel)]
  all_goals try simp only [true_and, Nat.reduceAdd, eq_self_iff_true]
/-! 39: StringHands.rests.(I)I -/
theorem c39_0 : cd 39 0 = some (.aload 0, 1) := by decide +kernel
theorem c39_1 : cd 39 1 = some (.invokevirtual 155, 3) := by decide +kernel
theorem c39_4 : cd 39 4 = some (.astore 2, 1) := by decide +kernel
theorem c39_5 : cd 39 5 = some (.aload 0, 1) := by decide +kernel
theorem c39_6 : cd 39 6 = some (.getfield 2826, 3) := by decide +kernel
theorem c39_9 : cd 39 9 = some (.invokevirtual 161, 3) := by decide +kernel
theorem c39_12 : cd 39 12 = some (.sipush 0, 1) := by decide +kernel
theorem c39_13 : cd 39 13 = some (.istore 3, 1) := by decide +kernel
theorem c39_14 : cd 39 14 = some (.iload 3, 1) := by decide +kernel
theorem c39_15 : cd 39 15 = some (.aload 0, 1) := by decide +kernel
theorem c39_16 : cd 39 16 = some (.getfield 2826, 3) := by decide +kernel
theorem c39_19 : cd 39 19 = some (.getfield 0, 3) := by decide +kernel
theorem c39_22 : cd 39 22 = some (.if_icmp .ge 46, 3) := by decide +kernel
theorem c39_25 : cd 39 25 = some (.aload 2, 1) := by decide +kernel
theorem c39_26 : cd 39 26 = some (.iload 3, 1) := by decide +kernel
theorem c39_27 : cd 39 27 = some (.iaload, 1) := by decide +kernel
theorem c39_28 : cd 39 28 = some (.iload 3, 1) := by decide +kernel
theorem c39_29 : cd 39 29 = some (.if_icmp .ne 40, 3) := by decide +kernel
theorem c39_32 : cd 39 32 = some (.aload 0, 1) := by decide +kernel
theorem c39_33 : cd 39 33 = some (.getfield 2826, 3) := by decide +kernel
theorem c39_36 : cd 39 36 = some (.iload 3, 1) := by decide +kernel
theorem c39_37 : cd 39 37 = some (.invokevirtual 162, 3) := by decide +kernel
theorem c39_40 : cd 39 40 = some (.iinc 3 1, 3) := by decide +kernel
theorem c39_43 : cd 39 43 = some (.goto 14, 3) := by decide +kernel
theorem c39_46 : cd 39 46 = some (.aload 0, 1) := by decide +kernel
theorem c39_47 : cd 39 47 = some (.getfield 2826, 3) := by decide +kernel
theorem c39_50 : cd 39 50 = some (.iload 1, 1) := by decide +kernel
theorem c39_51 : cd 39 51 = some (.invokevirtual 163, 3) := by decide +kernel
theorem c39_54 : cd 39 54 = some (.ireturn, 1) := by decide +kernel
theorem g39_0 {d : Nat} {x1 x2 x3 : Option aV} {w : aW} {Q : Option aV → aW → Prop} : T (d + 1) 39 0 [some (vr 0), x1, x2, x3] [] w Q = T d 155 0 [some (vr 0)] [] w (fun r w1 => T (d + 1) 39 4 [some (vr 0), x1, x2, x3] (r.toList ++ []) w1 Q) := by
  rw [T_aload_0 c39_0, T_invv (es := [some (vr 0)]) (st := [vr 0]) (ks := [2]) (n := 1) (c := 11) (k := 0) (as := []) (rest := []) c39_1 (by decide +kernel) (by decide +kernel) (by decide +kernel) (by decide) rfl rfl (Nat.le_of_ble_eq_true rfl)]
  all_goals try simp only [lay_0, true_and, Nat.reduceAdd, eq_self_iff_true]
theorem g39_4 {d : Nat} {s0 : Nat} {x1 x2 x3 : Option aV} {w : aW} {Q : Option aV → aW → Prop} : T (d + 1) 39 4 [some (vr 0), x1, x2, x3] [vr s0] w Q = T d 161 0 [some (vr 19)] [] w (fun r w1 => T (d + 1) 39 12 [some (vr 0), x1, some (vr s0), x3] (r.toList ++ []) w1 Q) := by
  rw [T_astore_2 c39_4, T_aload_0 c39_5, T_getR 11 2 2 c39_6 rfl rfl rfl rfl, rf_0_2, T_invv (es := [some (vr 19)]) (st := [vr 19]) (ks := [2]) (n := 1) (c := 0) (k := 19) (as := []) (rest := []) c39_9 (by decide +kernel) (by decide +kernel) (by decide +kernel) (by decide) rfl rfl (Nat.le_of_ble_eq_true rfl)]
  all_goals try simp only [lay_0, lay_19, true_and, Nat.reduceAdd, eq_self_iff_true]
theorem g39_12 {d : Nat} {x0 x1 x2 x3 : Option aV} {w : aW} {Q : Option aV → aW → Prop} : T d 39 12 [x0, x1, x2, x3] [] w Q = T d 39 14 [x0, x1, x2, some (vi 0)] [] w Q := by
  rw [T_sipush c39_12, T_istore_3 c39_13]
  all_goals try simp only [true_and, Nat.reduceAdd, eq_self_iff_true]
theorem g39_14 {d : Nat} {a1 a3 : Int} {r2 : Nat} {w : aW} {Q : Option aV → aW → Prop} : T (d + 1) 39 14 [some (vr 0), some (vi a1), some (vr r2), some (vi a3)] [] w Q = ((w 19 0 ≤ a3 → T d 163 0 [some (vr 19), some (vi a1)] [] w (fun r w1 => T (d + 1) 39 54 [some (vr 0), some (vi a1), some (vr r2), some (vi a3)] (r.toList ++ []) w1 Q)) ∧ (¬ (w 19 0 ≤ a3) → (ldok r2 a3 w ∧ ((¬ w r2 a3 = a3 → T (d + 1) 39 40 [some (vr 0), some (vi a1), some (vr r2), some (vi a3)] [] w Q) ∧ (¬ (¬ w r2 a3 = a3) → T d 162 0 [some (vr 19), some (vi a3)] [] w (fun r w1 => T (d + 1) 39 40 [some (vr 0), some (vi a1), some (vr r2), some (vi a3)] (r.toList ++ []) w1 Q)))))) := by
  rw [T_iload_3 c39_14, T_aload_0 c39_15, T_getR 11 2 2 c39_16 rfl rfl rfl rfl, rf_0_2, T_getI 0 0 0 c39_19 rfl rfl rfl rfl, T_icmp_ge 46 c39_22 rfl, T_aload_0 c39_46, T_getR 11 2 2 c39_47 rfl rfl rfl rfl, rf_0_2, T_iload_1 c39_50, T_invv (es := [some (vr 19), some (vi a1)]) (st := [vi a1, vr 19]) (ks := [2, 0]) (n := 2) (c := 0) (k := 19) (as := [vi a1]) (rest := []) c39_51 (by decide +kernel) (by decide +kernel) (by decide +kernel) (by decide) rfl rfl (Nat.le_of_ble_eq_true rfl), T_aload_2 c39_25, T_iload_3 c39_26, T_iald c39_27, T_iload_3 c39_28, T_icmp_ne 40 c39_29 rfl, T_aload_0 c39_32, T_getR 11 2 2 c39_33 rfl rfl rfl rfl, rf_0_2, T_iload_3 c39_36, T_invv (es := [some (vr 19), some (vi a3)]) (st := [vi a3, vr 19]) (ks := [2, 0]) (n := 2) (c := 0) (k := 19) (as := [vi a3]) (rest := []) c39_37 (by decide +kernel) (by decide +kernel) (by decide +kernel) (by decide) rfl rfl (Nat.le_of_ble_eq_true rfl)]
  all_goals try simp only [Int.reduceToNat, lay_0, lay_19, true_and, Nat.reduceAdd, eq_self_iff_true]
theorem g39_40 {d : Nat} {a3 : Int} {x0 x1 x2 : Option aV} {w : aW} {Q : Option aV → aW → Prop} : T d 39 40 [x0, x1, x2, some (vi a3)] [] w Q = T d 39 14 [x0, x1, x2, some (vi (w32 (a3 + 1)))] [] w Q := by
  rw [T_iinc_3 c39_40, T_goto 14 c39_43 rfl]
  all_goals try simp only [true_and, Nat.reduceAdd, eq_self_iff_true]
theorem g39_54 {d : Nat} {s0 : Int} {x0 x1 x2 x3 : Option aV} {w : aW} {Q : Option aV → aW → Prop} : T d 39 54 [x0, x1, x2, x3] [vi s0] w Q = Q (some (vi s0)) w := by
  rw [T_ireti c39_54 (by decide +kernel)]
  all_goals try simp only [true_and, Nat.reduceAdd, eq_self_iff_true]
/-! 40: StringHandsModel.rests.(I)I -/
theorem c40_0 : cd 40 0 = some (.aload 0, 1) := by decide +kernel
theorem c40_1 : cd 40 1 = some (.sipush 0, 1) := by decide +kernel
theorem c40_2 : cd 40 2 = some (.putfield 3072, 3) := by decide +kernel
theorem c40_5 : cd 40 5 = some (.aload 0, 1) := by decide +kernel
theorem c40_6 : cd 40 6 = some (.invokevirtual 156, 3) := by decide +kernel
theorem c40_9 : cd 40 9 = some (.sipush 0, 1) := by decide +kernel
theorem c40_10 : cd 40 10 = some (.istore 2, 1) := by decide +kernel
theorem c40_11 : cd 40 11 = some (.sipush 0, 1) := by decide +kernel
theorem c40_12 : cd 40 12 = some (.istore 3, 1) := by decide +kernel
theorem c40_13 : cd 40 13 = some (.iload 3, 1) := by decide +kernel
theorem c40_14 : cd 40 14 = some (.aload 0, 1) := by decide +kernel
theorem c40_15 : cd 40 15 = some (.invokevirtual 164, 3) := by decide +kernel
theorem c40_18 : cd 40 18 = some (.if_icmp .ge 50, 3) := by decide +kernel
theorem c40_21 : cd 40 21 = some (.aload 0, 1) := by decide +kernel
theorem c40_22 : cd 40 22 = some (.getfield 3150, 3) := by decide +kernel
theorem c40_25 : cd 40 25 = some (.iload 3, 1) := by decide +kernel
theorem c40_26 : cd 40 26 = some (.iaload, 1) := by decide +kernel
theorem c40_27 : cd 40 27 = some (.iload 3, 1) := by decide +kernel
theorem c40_28 : cd 40 28 = some (.if_icmp .eq 34, 3) := by decide +kernel
theorem c40_31 : cd 40 31 = some (.goto 44, 3) := by decide +kernel
theorem c40_34 : cd 40 34 = some (.iload 2, 1) := by decide +kernel
theorem c40_35 : cd 40 35 = some (.iload 1, 1) := by decide +kernel
theorem c40_36 : cd 40 36 = some (.if_icmp .ne 41, 3) := by decide +kernel
theorem c40_39 : cd 40 39 = some (.iload 3, 1) := by decide +kernel
theorem c40_40 : cd 40 40 = some (.ireturn, 1) := by decide +kernel
theorem c40_41 : cd 40 41 = some (.iinc 2 1, 3) := by decide +kernel
theorem c40_44 : cd 40 44 = some (.iinc 3 1, 3) := by decide +kernel
theorem c40_47 : cd 40 47 = some (.goto 13, 3) := by decide +kernel
theorem c40_50 : cd 40 50 = some (.iload 1, 1) := by decide +kernel
theorem c40_51 : cd 40 51 = some (.sipush (-1), 1) := by decide +kernel
theorem c40_52 : cd 40 52 = some (.if_icmp .ne 59, 3) := by decide +kernel
theorem c40_55 : cd 40 55 = some (.iload 2, 1) := by decide +kernel
theorem c40_56 : cd 40 56 = some (.goto 60, 3) := by decide +kernel
theorem c40_59 : cd 40 59 = some (.sipush (-1), 1) := by decide +kernel
theorem c40_60 : cd 40 60 = some (.ireturn, 1) := by decide +kernel
theorem g40_0 {d : Nat} {x1 x2 x3 : Option aV} {w : aW} {Q : Option aV → aW → Prop} : T (d + 1) 40 0 [some (vr 167), x1, x2, x3] [] w Q = T d 156 0 [some (vr 167), none] [] (iup w 167 0 0) (fun r w1 => T (d + 1) 40 9 [some (vr 167), x1, x2, x3] (r.toList ++ []) w1 Q) := by
  rw [T_aload_0 c40_0, T_sipush c40_1, T_putI 12 0 0 c40_2 rfl rfl rfl rfl, T_aload_0 c40_5, T_invv (es := [some (vr 167), none]) (st := [vr 167]) (ks := [2]) (n := 2) (c := 12) (k := 167) (as := []) (rest := []) c40_6 (by decide +kernel) (by decide +kernel) (by decide +kernel) (by decide) rfl rfl (Nat.le_of_ble_eq_true rfl)]
  all_goals try simp only [lay_167, true_and, Nat.reduceAdd, eq_self_iff_true]
theorem g40_9 {d : Nat} {x0 x1 x2 x3 : Option aV} {w : aW} {Q : Option aV → aW → Prop} : T d 40 9 [x0, x1, x2, x3] [] w Q = T d 40 13 [x0, x1, some (vi 0), some (vi 0)] [] w Q := by
  rw [T_sipush c40_9, T_istore_2 c40_10, T_sipush c40_11, T_istore_3 c40_12]
  all_goals try simp only [true_and, Nat.reduceAdd, eq_self_iff_true]
theorem g40_13 {d : Nat} {a3 : Int} {x1 x2 : Option aV} {w : aW} {Q : Option aV → aW → Prop} : T (d + 1) 40 13 [some (vr 167), x1, x2, some (vi a3)] [] w Q = T d 164 0 [some (vr 167)] [] w (fun r w1 => T (d + 1) 40 18 [some (vr 167), x1, x2, some (vi a3)] (r.toList ++ [vi a3]) w1 Q) := by
  rw [T_iload_3 c40_13, T_aload_0 c40_14, T_invv (es := [some (vr 167)]) (st := [vr 167, vi a3]) (ks := [2]) (n := 1) (c := 12) (k := 167) (as := []) (rest := [vi a3]) c40_15 (by decide +kernel) (by decide +kernel) (by decide +kernel) (by decide) rfl rfl (Nat.le_of_ble_eq_true rfl)]
  all_goals try simp only [lay_167, true_and, Nat.reduceAdd, eq_self_iff_true]
theorem g40_18 {d : Nat} {a1 a2 a3 s0 s1 : Int} {w : aW} {Q : Option aV → aW → Prop} : T d 40 18 [some (vr 167), some (vi a1), some (vi a2), some (vi a3)] [vi s1, vi s0] w Q = ((s1 ≤ s0 → ((¬ a1 = (-1) → T d 40 60 [some (vr 167), some (vi a1), some (vi a2), some (vi a3)] [vi (-1)] w Q) ∧ (¬ (¬ a1 = (-1)) → T d 40 60 [some (vr 167), some (vi a1), some (vi a2), some (vi a3)] [vi a2] w Q))) ∧ (¬ (s1 ≤ s0) → ((0 ≤ a3 ∧ a3 < 1024) ∧ ((w 174 a3 = a3 → ((¬ a2 = a1 → T d 40 44 [some (vr 167), some (vi a1), some (vi (w32 (a2 + 1))), some (vi a3)] [] w Q) ∧ (¬ (¬ a2 = a1) → Q (some (vi a3)) w))) ∧ (¬ (w 174 a3 = a3) → T d 40 44 [some (vr 167), some (vi a1), some (vi a2), some (vi a3)] [] w Q))))) := by
  rw [T_icmp_ge 50 c40_18 rfl, T_iload_1 c40_50, T_sipush c40_51, T_icmp_ne 59 c40_52 rfl, T_sipush c40_59, T_iload_2 c40_55, T_goto 60 c40_56 rfl, T_aload_0 c40_21, T_getR 12 19 19 c40_22 rfl rfl rfl rfl, rf_167_19, T_iload_3 c40_25, T_iald c40_26, T_iload_3 c40_27, T_icmp_eq 34 c40_28 rfl, T_iload_2 c40_34, T_iload_1 c40_35, T_icmp_ne 41 c40_36 rfl, T_iinc_2 c40_41, T_iload_3 c40_39, T_ireti c40_40 (by decide +kernel), T_goto 44 c40_31 rfl]
  all_goals try simp only [Int.reduceToNat, lay_167, ld_174, true_and, Nat.reduceAdd, eq_self_iff_true]
theorem g40_44 {d : Nat} {a3 : Int} {x0 x1 x2 : Option aV} {w : aW} {Q : Option aV → aW → Prop} : T d 40 44 [x0, x1, x2, some (vi a3)] [] w Q = T d 40 13 [x0, x1, x2, some (vi (w32 (a3 + 1)))] [] w Q := by
  rw [T_iinc_3 c40_44, T_goto 13 c40_47 rfl]
  all_goals try simp only [true_and, Nat.reduceAdd, eq_self_iff_true]
theorem g40_60 {d : Nat} {s0 : Int} {x0 x1 x2 x3 : Option aV} {w : aW} {Q : Option aV → aW → Prop} : T d 40 60 [x0, x1, x2, x3] [vi s0] w Q = Q (some (vi s0)) w := by
  rw [T_ireti c40_60 (by decide +kernel)]
  all_goals try simp only [true_and, Nat.reduceAdd, eq_self_iff_true]
/-! 41: StringHands.rings.(I)I -/
theorem c41_0 : cd 41 0 = some (.aload 0, 1) := by decide +kernel
theorem c41_1 : cd 41 1 = some (.invokevirtual 158, 3) := by decide +kernel
theorem c41_4 : cd 41 4 = some (.aload 0, 1) := by decide +kernel
theorem c41_5 : cd 41 5 = some (.getfield 2826, 3) := by decide +kernel
theorem c41_8 : cd 41 8 = some (.invokevirtual 161, 3) := by decide +kernel
theorem c41_11 : cd 41 11 = some (.sipush 0, 1) := by decide +kernel
theorem c41_12 : cd 41 12 = some (.istore 2, 1) := by decide +kernel
theorem c41_13 : cd 41 13 = some (.iload 2, 1) := by decide +kernel
theorem c41_14 : cd 41 14 = some (.aload 0, 1) := by decide +kernel
theorem c41_15 : cd 41 15 = some (.getfield 2826, 3) := by decide +kernel
theorem c41_18 : cd 41 18 = some (.getfield 0, 3) := by decide +kernel
theorem c41_21 : cd 41 21 = some (.if_icmp .ge 51, 3) := by decide +kernel
theorem c41_24 : cd 41 24 = some (.aload 0, 1) := by decide +kernel
theorem c41_25 : cd 41 25 = some (.getfield 2826, 3) := by decide +kernel
theorem c41_28 : cd 41 28 = some (.getfield 18, 3) := by decide +kernel
theorem c41_31 : cd 41 31 = some (.iload 2, 1) := by decide +kernel
theorem c41_32 : cd 41 32 = some (.iaload, 1) := by decide +kernel
theorem c41_33 : cd 41 33 = some (.iload 2, 1) := by decide +kernel
theorem c41_34 : cd 41 34 = some (.if_icmp .ne 45, 3) := by decide +kernel
theorem c41_37 : cd 41 37 = some (.aload 0, 1) := by decide +kernel
theorem c41_38 : cd 41 38 = some (.getfield 2826, 3) := by decide +kernel
theorem c41_41 : cd 41 41 = some (.iload 2, 1) := by decide +kernel
theorem c41_42 : cd 41 42 = some (.invokevirtual 162, 3) := by decide +kernel
theorem c41_45 : cd 41 45 = some (.iinc 2 1, 3) := by decide +kernel
theorem c41_48 : cd 41 48 = some (.goto 13, 3) := by decide +kernel
theorem c41_51 : cd 41 51 = some (.aload 0, 1) := by decide +kernel
theorem c41_52 : cd 41 52 = some (.getfield 2826, 3) := by decide +kernel
theorem c41_55 : cd 41 55 = some (.iload 1, 1) := by decide +kernel
theorem c41_56 : cd 41 56 = some (.invokevirtual 163, 3) := by decide +kernel
theorem c41_59 : cd 41 59 = some (.ireturn, 1) := by decide +kernel
theorem g41_0 {d : Nat} {x1 x2 : Option aV} {w : aW} {Q : Option aV → aW → Prop} : T (d + 1) 41 0 [some (vr 0), x1, x2] [] w Q = T d 158 0 [some (vr 0)] [] w (fun r w1 => T (d + 1) 41 4 [some (vr 0), x1, x2] (r.toList ++ []) w1 Q) := by
  rw [T_aload_0 c41_0, T_invv (es := [some (vr 0)]) (st := [vr 0]) (ks := [2]) (n := 1) (c := 11) (k := 0) (as := []) (rest := []) c41_1 (by decide +kernel) (by decide +kernel) (by decide +kernel) (by decide) rfl rfl (Nat.le_of_ble_eq_true rfl)]
  all_goals try simp only [lay_0, true_and, Nat.reduceAdd, eq_self_iff_true]
theorem g41_4 {d : Nat} {x1 x2 : Option aV} {w : aW} {Q : Option aV → aW → Prop} : T (d + 1) 41 4 [some (vr 0), x1, x2] [] w Q = T d 161 0 [some (vr 19)] [] w (fun r w1 => T (d + 1) 41 11 [some (vr 0), x1, x2] (r.toList ++ []) w1 Q) := by
  rw [T_aload_0 c41_4, T_getR 11 2 2 c41_5 rfl rfl rfl rfl, rf_0_2, T_invv (es := [some (vr 19)]) (st := [vr 19]) (ks := [2]) (n := 1) (c := 0) (k := 19) (as := []) (rest := []) c41_8 (by decide +kernel) (by decide +kernel) (by decide +kernel) (by decide) rfl rfl (Nat.le_of_ble_eq_true rfl)]
  all_goals try simp only [lay_0, lay_19, true_and, Nat.reduceAdd, eq_self_iff_true]
theorem g41_11 {d : Nat} {x0 x1 x2 : Option aV} {w : aW} {Q : Option aV → aW → Prop} : T d 41 11 [x0, x1, x2] [] w Q = T d 41 13 [x0, x1, some (vi 0)] [] w Q := by
  rw [T_sipush c41_11, T_istore_2 c41_12]
  all_goals try simp only [true_and, Nat.reduceAdd, eq_self_iff_true]
theorem g41_13 {d : Nat} {a1 a2 : Int} {w : aW} {Q : Option aV → aW → Prop} : T (d + 1) 41 13 [some (vr 0), some (vi a1), some (vi a2)] [] w Q = ((w 19 0 ≤ a2 → T d 163 0 [some (vr 19), some (vi a1)] [] w (fun r w1 => T (d + 1) 41 59 [some (vr 0), some (vi a1), some (vi a2)] (r.toList ++ []) w1 Q)) ∧ (¬ (w 19 0 ≤ a2) → ((0 ≤ a2 ∧ a2 < 1024) ∧ ((¬ w 23 a2 = a2 → T (d + 1) 41 45 [some (vr 0), some (vi a1), some (vi a2)] [] w Q) ∧ (¬ (¬ w 23 a2 = a2) → T d 162 0 [some (vr 19), some (vi a2)] [] w (fun r w1 => T (d + 1) 41 45 [some (vr 0), some (vi a1), some (vi a2)] (r.toList ++ []) w1 Q)))))) := by
  rw [T_iload_2 c41_13, T_aload_0 c41_14, T_getR 11 2 2 c41_15 rfl rfl rfl rfl, rf_0_2, T_getI 0 0 0 c41_18 rfl rfl rfl rfl, T_icmp_ge 51 c41_21 rfl, T_aload_0 c41_51, T_getR 11 2 2 c41_52 rfl rfl rfl rfl, rf_0_2, T_iload_1 c41_55, T_invv (es := [some (vr 19), some (vi a1)]) (st := [vi a1, vr 19]) (ks := [2, 0]) (n := 2) (c := 0) (k := 19) (as := [vi a1]) (rest := []) c41_56 (by decide +kernel) (by decide +kernel) (by decide +kernel) (by decide) rfl rfl (Nat.le_of_ble_eq_true rfl), T_aload_0 c41_24, T_getR 11 2 2 c41_25 rfl rfl rfl rfl, rf_0_2, T_getR 0 4 4 c41_28 rfl rfl rfl rfl, rf_19_4, T_iload_2 c41_31, T_iald c41_32, T_iload_2 c41_33, T_icmp_ne 45 c41_34 rfl, T_aload_0 c41_37, T_getR 11 2 2 c41_38 rfl rfl rfl rfl, rf_0_2, T_iload_2 c41_41, T_invv (es := [some (vr 19), some (vi a2)]) (st := [vi a2, vr 19]) (ks := [2, 0]) (n := 2) (c := 0) (k := 19) (as := [vi a2]) (rest := []) c41_42 (by decide +kernel) (by decide +kernel) (by decide +kernel) (by decide) rfl rfl (Nat.le_of_ble_eq_true rfl)]
  all_goals try simp only [Int.reduceToNat, lay_0, lay_19, ld_23, true_and, Nat.reduceAdd, eq_self_iff_true]
theorem g41_45 {d : Nat} {a2 : Int} {x0 x1 : Option aV} {w : aW} {Q : Option aV → aW → Prop} : T d 41 45 [x0, x1, some (vi a2)] [] w Q = T d 41 13 [x0, x1, some (vi (w32 (a2 + 1)))] [] w Q := by
  rw [T_iinc_2 c41_45, T_goto 13 c41_48 rfl]
  all_goals try simp only [true_and, Nat.reduceAdd, eq_self_iff_true]
theorem g41_59 {d : Nat} {s0 : Int} {x0 x1 x2 : Option aV} {w : aW} {Q : Option aV → aW → Prop} : T d 41 59 [x0, x1, x2] [vi s0] w Q = Q (some (vi s0)) w := by
  rw [T_ireti c41_59 (by decide +kernel)]
  all_goals try simp only [true_and, Nat.reduceAdd, eq_self_iff_true]
/-! 42: StringHandsModel.rings.(I)I -/
theorem c42_0 : cd 42 0 = some (.aload 0, 1) := by decide +kernel
theorem c42_1 : cd 42 1 = some (.sipush 0, 1) := by decide +kernel
theorem c42_2 : cd 42 2 = some (.putfield 3072, 3) := by decide +kernel
theorem c42_5 : cd 42 5 = some (.aload 0, 1) := by decide +kernel
theorem c42_6 : cd 42 6 = some (.invokevirtual 159, 3) := by decide +kernel
theorem c42_9 : cd 42 9 = some (.sipush 0, 1) := by decide +kernel
theorem c42_10 : cd 42 10 = some (.istore 2, 1) := by decide +kernel
theorem c42_11 : cd 42 11 = some (.sipush 0, 1) := by decide +kernel
theorem c42_12 : cd 42 12 = some (.istore 3, 1) := by decide +kernel
theorem c42_13 : cd 42 13 = some (.iload 3, 1) := by decide +kernel
theorem c42_14 : cd 42 14 = some (.aload 0, 1) := by decide +kernel
theorem c42_15 : cd 42 15 = some (.invokevirtual 164, 3) := by decide +kernel
theorem c42_18 : cd 42 18 = some (.if_icmp .ge 50, 3) := by decide +kernel
theorem c42_21 : cd 42 21 = some (.aload 0, 1) := by decide +kernel
theorem c42_22 : cd 42 22 = some (.getfield 3158, 3) := by decide +kernel
theorem c42_25 : cd 42 25 = some (.iload 3, 1) := by decide +kernel
theorem c42_26 : cd 42 26 = some (.iaload, 1) := by decide +kernel
theorem c42_27 : cd 42 27 = some (.iload 3, 1) := by decide +kernel
theorem c42_28 : cd 42 28 = some (.if_icmp .eq 34, 3) := by decide +kernel
theorem c42_31 : cd 42 31 = some (.goto 44, 3) := by decide +kernel
theorem c42_34 : cd 42 34 = some (.iload 2, 1) := by decide +kernel
theorem c42_35 : cd 42 35 = some (.iload 1, 1) := by decide +kernel
theorem c42_36 : cd 42 36 = some (.if_icmp .ne 41, 3) := by decide +kernel
theorem c42_39 : cd 42 39 = some (.iload 3, 1) := by decide +kernel
theorem c42_40 : cd 42 40 = some (.ireturn, 1) := by decide +kernel
theorem c42_41 : cd 42 41 = some (.iinc 2 1, 3) := by decide +kernel
theorem c42_44 : cd 42 44 = some (.iinc 3 1, 3) := by decide +kernel
theorem c42_47 : cd 42 47 = some (.goto 13, 3) := by decide +kernel
theorem c42_50 : cd 42 50 = some (.iload 1, 1) := by decide +kernel
theorem c42_51 : cd 42 51 = some (.sipush (-1), 1) := by decide +kernel
theorem c42_52 : cd 42 52 = some (.if_icmp .ne 59, 3) := by decide +kernel
theorem c42_55 : cd 42 55 = some (.iload 2, 1) := by decide +kernel
theorem c42_56 : cd 42 56 = some (.goto 60, 3) := by decide +kernel
theorem c42_59 : cd 42 59 = some (.sipush (-1), 1) := by decide +kernel
theorem c42_60 : cd 42 60 = some (.ireturn, 1) := by decide +kernel
theorem g42_0 {d : Nat} {x1 x2 x3 : Option aV} {w : aW} {Q : Option aV → aW → Prop} : T (d + 1) 42 0 [some (vr 167), x1, x2, x3] [] w Q = T d 159 0 [some (vr 167), none, none, none, none, none] [] (iup w 167 0 0) (fun r w1 => T (d + 1) 42 9 [some (vr 167), x1, x2, x3] (r.toList ++ []) w1 Q) := by
  rw [T_aload_0 c42_0, T_sipush c42_1, T_putI 12 0 0 c42_2 rfl rfl rfl rfl, T_aload_0 c42_5, T_invv (es := [some (vr 167), none, none, none, none, none]) (st := [vr 167]) (ks := [2]) (n := 6) (c := 12) (k := 167) (as := []) (rest := []) c42_6 (by decide +kernel) (by decide +kernel) (by decide +kernel) (by decide) rfl rfl (Nat.le_of_ble_eq_true rfl)]
  all_goals try simp only [lay_167, true_and, Nat.reduceAdd, eq_self_iff_true]
theorem g42_9 {d : Nat} {x0 x1 x2 x3 : Option aV} {w : aW} {Q : Option aV → aW → Prop} : T d 42 9 [x0, x1, x2, x3] [] w Q = T d 42 13 [x0, x1, some (vi 0), some (vi 0)] [] w Q := by
  rw [T_sipush c42_9, T_istore_2 c42_10, T_sipush c42_11, T_istore_3 c42_12]
  all_goals try simp only [true_and, Nat.reduceAdd, eq_self_iff_true]
theorem g42_13 {d : Nat} {a3 : Int} {x1 x2 : Option aV} {w : aW} {Q : Option aV → aW → Prop} : T (d + 1) 42 13 [some (vr 167), x1, x2, some (vi a3)] [] w Q = T d 164 0 [some (vr 167)] [] w (fun r w1 => T (d + 1) 42 18 [some (vr 167), x1, x2, some (vi a3)] (r.toList ++ [vi a3]) w1 Q) := by
  rw [T_iload_3 c42_13, T_aload_0 c42_14, T_invv (es := [some (vr 167)]) (st := [vr 167, vi a3]) (ks := [2]) (n := 1) (c := 12) (k := 167) (as := []) (rest := [vi a3]) c42_15 (by decide +kernel) (by decide +kernel) (by decide +kernel) (by decide) rfl rfl (Nat.le_of_ble_eq_true rfl)]
  all_goals try simp only [lay_167, true_and, Nat.reduceAdd, eq_self_iff_true]
theorem g42_18 {d : Nat} {a1 a2 a3 s0 s1 : Int} {w : aW} {Q : Option aV → aW → Prop} : T d 42 18 [some (vr 167), some (vi a1), some (vi a2), some (vi a3)] [vi s1, vi s0] w Q = ((s1 ≤ s0 → ((¬ a1 = (-1) → T d 42 60 [some (vr 167), some (vi a1), some (vi a2), some (vi a3)] [vi (-1)] w Q) ∧ (¬ (¬ a1 = (-1)) → T d 42 60 [some (vr 167), some (vi a1), some (vi a2), some (vi a3)] [vi a2] w Q))) ∧ (¬ (s1 ≤ s0) → ((0 ≤ a3 ∧ a3 < 1024) ∧ ((w 176 a3 = a3 → ((¬ a2 = a1 → T d 42 44 [some (vr 167), some (vi a1), some (vi (w32 (a2 + 1))), some (vi a3)] [] w Q) ∧ (¬ (¬ a2 = a1) → Q (some (vi a3)) w))) ∧ (¬ (w 176 a3 = a3) → T d 42 44 [some (vr 167), some (vi a1), some (vi a2), some (vi a3)] [] w Q))))) := by
  rw [T_icmp_ge 50 c42_18 rfl, T_iload_1 c42_50, T_sipush c42_51, T_icmp_ne 59 c42_52 rfl, T_sipush c42_59, T_iload_2 c42_55, T_goto 60 c42_56 rfl, T_aload_0 c42_21, T_getR 12 21 21 c42_22 rfl rfl rfl rfl, rf_167_21, T_iload_3 c42_25, T_iald c42_26, T_iload_3 c42_27, T_icmp_eq 34 c42_28 rfl, T_iload_2 c42_34, T_iload_1 c42_35, T_icmp_ne 41 c42_36 rfl, T_iinc_2 c42_41, T_iload_3 c42_39, T_ireti c42_40 (by decide +kernel), T_goto 44 c42_31 rfl]
  all_goals try simp only [Int.reduceToNat, lay_167, ld_176, true_and, Nat.reduceAdd, eq_self_iff_true]
theorem g42_44 {d : Nat} {a3 : Int} {x0 x1 x2 : Option aV} {w : aW} {Q : Option aV → aW → Prop} : T d 42 44 [x0, x1, x2, some (vi a3)] [] w Q = T d 42 13 [x0, x1, x2, some (vi (w32 (a3 + 1)))] [] w Q := by
  rw [T_iinc_3 c42_44, T_goto 13 c42_47 rfl]
  all_goals try simp only [true_and, Nat.reduceAdd, eq_self_iff_true]
theorem g42_60 {d : Nat} {s0 : Int} {x0 x1 x2 x3 : Option aV} {w : aW} {Q : Option aV → aW → Prop} : T d 42 60 [x0, x1, x2, x3] [vi s0] w Q = Q (some (vi s0)) w := by
  rw [T_ireti c42_60 (by decide +kernel)]
  all_goals try simp only [true_and, Nat.reduceAdd, eq_self_iff_true]
/-! 43: StringHands.basin.(I)I -/
theorem c43_0 : cd 43 0 = some (.aload 0, 1) := by decide +kernel
theorem c43_1 : cd 43 1 = some (.iload 1, 1) := by decide +kernel
theorem c43_2 : cd 43 2 = some (.invokevirtual 131, 3) := by decide +kernel
theorem c43_5 : cd 43 5 = some (.ifCond .ne 11, 3) := by decide +kernel
theorem c43_8 : cd 43 8 = some (.sipush (-3), 2) := by decide +kernel
theorem c43_10 : cd 43 10 = some (.ireturn, 1) := by decide +kernel
theorem c43_11 : cd 43 11 = some (.aload 0, 1) := by decide +kernel
theorem c43_12 : cd 43 12 = some (.invokevirtual 158, 3) := by decide +kernel
theorem c43_15 : cd 43 15 = some (.sipush 0, 1) := by decide +kernel
theorem c43_16 : cd 43 16 = some (.istore 2, 1) := by decide +kernel
theorem c43_17 : cd 43 17 = some (.sipush 0, 1) := by decide +kernel
theorem c43_18 : cd 43 18 = some (.istore 3, 1) := by decide +kernel
theorem c43_19 : cd 43 19 = some (.iload 3, 1) := by decide +kernel
theorem c43_20 : cd 43 20 = some (.aload 0, 1) := by decide +kernel
theorem c43_21 : cd 43 21 = some (.getfield 2826, 3) := by decide +kernel
theorem c43_24 : cd 43 24 = some (.getfield 0, 3) := by decide +kernel
theorem c43_27 : cd 43 27 = some (.if_icmp .ge 60, 3) := by decide +kernel
theorem c43_30 : cd 43 30 = some (.aload 0, 1) := by decide +kernel
theorem c43_31 : cd 43 31 = some (.getfield 2826, 3) := by decide +kernel
theorem c43_34 : cd 43 34 = some (.getfield 18, 3) := by decide +kernel
theorem c43_37 : cd 43 37 = some (.iload 3, 1) := by decide +kernel
theorem c43_38 : cd 43 38 = some (.iaload, 1) := by decide +kernel
theorem c43_39 : cd 43 39 = some (.aload 0, 1) := by decide +kernel
theorem c43_40 : cd 43 40 = some (.getfield 2826, 3) := by decide +kernel
theorem c43_43 : cd 43 43 = some (.getfield 18, 3) := by decide +kernel
theorem c43_46 : cd 43 46 = some (.iload 1, 1) := by decide +kernel
theorem c43_47 : cd 43 47 = some (.iaload, 1) := by decide +kernel
theorem c43_48 : cd 43 48 = some (.if_icmp .ne 54, 3) := by decide +kernel
theorem c43_51 : cd 43 51 = some (.iinc 2 1, 3) := by decide +kernel
theorem c43_54 : cd 43 54 = some (.iinc 3 1, 3) := by decide +kernel
theorem c43_57 : cd 43 57 = some (.goto 19, 3) := by decide +kernel
theorem c43_60 : cd 43 60 = some (.iload 2, 1) := by decide +kernel
theorem c43_61 : cd 43 61 = some (.ireturn, 1) := by decide +kernel
theorem g43_0 {d : Nat} {a1 : Int} {x2 x3 : Option aV} {w : aW} {Q : Option aV → aW → Prop} : T (d + 1) 43 0 [some (vr 0), some (vi a1), x2, x3] [] w Q = T d 131 0 [some (vr 0), some (vi a1)] [] w (fun r w1 => T (d + 1) 43 5 [some (vr 0), some (vi a1), x2, x3] (r.toList ++ []) w1 Q) := by
  rw [T_aload_0 c43_0, T_iload_1 c43_1, T_invv (es := [some (vr 0), some (vi a1)]) (st := [vi a1, vr 0]) (ks := [2, 0]) (n := 2) (c := 11) (k := 0) (as := [vi a1]) (rest := []) c43_2 (by decide +kernel) (by decide +kernel) (by decide +kernel) (by decide) rfl rfl (Nat.le_of_ble_eq_true rfl)]
  all_goals try simp only [lay_0, true_and, Nat.reduceAdd, eq_self_iff_true]
theorem g43_5 {d : Nat} {s0 : Int} {x1 x2 x3 : Option aV} {w : aW} {Q : Option aV → aW → Prop} : T (d + 1) 43 5 [some (vr 0), x1, x2, x3] [vi s0] w Q = ((¬ s0 = 0 → T d 158 0 [some (vr 0)] [] w (fun r w1 => T (d + 1) 43 15 [some (vr 0), x1, x2, x3] (r.toList ++ []) w1 Q)) ∧ (¬ (¬ s0 = 0) → Q (some (vi (-3))) w)) := by
  rw [T_if_ne 11 c43_5 rfl, T_aload_0 c43_11, T_invv (es := [some (vr 0)]) (st := [vr 0]) (ks := [2]) (n := 1) (c := 11) (k := 0) (as := []) (rest := []) c43_12 (by decide +kernel) (by decide +kernel) (by decide +kernel) (by decide) rfl rfl (Nat.le_of_ble_eq_true rfl), T_sipush c43_8, T_ireti c43_10 (by decide +kernel)]
  all_goals try simp only [Int.reduceToNat, lay_0, true_and, Nat.reduceAdd, eq_self_iff_true]
theorem g43_15 {d : Nat} {x0 x1 x2 x3 : Option aV} {w : aW} {Q : Option aV → aW → Prop} : T d 43 15 [x0, x1, x2, x3] [] w Q = T d 43 19 [x0, x1, some (vi 0), some (vi 0)] [] w Q := by
  rw [T_sipush c43_15, T_istore_2 c43_16, T_sipush c43_17, T_istore_3 c43_18]
  all_goals try simp only [true_and, Nat.reduceAdd, eq_self_iff_true]
theorem g43_19 {d : Nat} {a1 a2 a3 : Int} {w : aW} {Q : Option aV → aW → Prop} : T d 43 19 [some (vr 0), some (vi a1), some (vi a2), some (vi a3)] [] w Q = ((w 19 0 ≤ a3 → Q (some (vi a2)) w) ∧ (¬ (w 19 0 ≤ a3) → ((0 ≤ a3 ∧ a3 < 1024) ∧ ((0 ≤ a1 ∧ a1 < 1024) ∧ ((¬ w 23 a3 = w 23 a1 → T d 43 54 [some (vr 0), some (vi a1), some (vi a2), some (vi a3)] [] w Q) ∧ (¬ (¬ w 23 a3 = w 23 a1) → T d 43 54 [some (vr 0), some (vi a1), some (vi (w32 (a2 + 1))), some (vi a3)] [] w Q)))))) := by
  rw [T_iload_3 c43_19, T_aload_0 c43_20, T_getR 11 2 2 c43_21 rfl rfl rfl rfl, rf_0_2, T_getI 0 0 0 c43_24 rfl rfl rfl rfl, T_icmp_ge 60 c43_27 rfl, T_iload_2 c43_60, T_ireti c43_61 (by decide +kernel), T_aload_0 c43_30, T_getR 11 2 2 c43_31 rfl rfl rfl rfl, rf_0_2, T_getR 0 4 4 c43_34 rfl rfl rfl rfl, rf_19_4, T_iload_3 c43_37, T_iald c43_38, T_aload_0 c43_39, T_getR 11 2 2 c43_40 rfl rfl rfl rfl, rf_0_2, T_getR 0 4 4 c43_43 rfl rfl rfl rfl, rf_19_4, T_iload_1 c43_46, T_iald c43_47, T_icmp_ne 54 c43_48 rfl, T_iinc_2 c43_51]
  all_goals try simp only [Int.reduceToNat, lay_0, lay_19, ld_23, true_and, Nat.reduceAdd, eq_self_iff_true]
theorem g43_54 {d : Nat} {a3 : Int} {x0 x1 x2 : Option aV} {w : aW} {Q : Option aV → aW → Prop} : T d 43 54 [x0, x1, x2, some (vi a3)] [] w Q = T d 43 19 [x0, x1, x2, some (vi (w32 (a3 + 1)))] [] w Q := by
  rw [T_iinc_3 c43_54, T_goto 19 c43_57 rfl]
  all_goals try simp only [true_and, Nat.reduceAdd, eq_self_iff_true]
