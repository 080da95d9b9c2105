/-! 44: StringHandsModel.basin.(I)I -/
theorem c44_0 : cd 44 0 = some (.aload 0, 1) := by decide +kernel
theorem c44_1 : cd 44 1 = some (.sipush 0, 1) := by decide +kernel
theorem c44_2 : cd 44 2 = some (.putfield 3072, 3) := by decide +kernel
theorem c44_5 : cd 44 5 = some (.aload 0, 1) := by decide +kernel
theorem c44_6 : cd 44 6 = some (.iload 1, 1) := by decide +kernel
theorem c44_7 : cd 44 7 = some (.i2l, 1) := by decide +kernel
theorem c44_8 : cd 44 8 = some (.invokevirtual 133, 3) := by decide +kernel
theorem c44_11 : cd 44 11 = some (.ifCond .ne 17, 3) := by decide +kernel
theorem c44_14 : cd 44 14 = some (.sipush (-3), 2) := by decide +kernel
theorem c44_16 : cd 44 16 = some (.ireturn, 1) := by decide +kernel
theorem c44_17 : cd 44 17 = some (.aload 0, 1) := by decide +kernel
theorem c44_18 : cd 44 18 = some (.invokevirtual 159, 3) := by decide +kernel
theorem c44_21 : cd 44 21 = some (.sipush 0, 1) := by decide +kernel
theorem c44_22 : cd 44 22 = some (.istore 2, 1) := by decide +kernel
theorem c44_23 : cd 44 23 = some (.sipush 0, 1) := by decide +kernel
theorem c44_24 : cd 44 24 = some (.istore 3, 1) := by decide +kernel
theorem c44_25 : cd 44 25 = some (.iload 3, 1) := by decide +kernel
theorem c44_26 : cd 44 26 = some (.aload 0, 1) := by decide +kernel
theorem c44_27 : cd 44 27 = some (.invokevirtual 164, 3) := by decide +kernel
theorem c44_30 : cd 44 30 = some (.if_icmp .ge 62, 3) := by decide +kernel
theorem c44_33 : cd 44 33 = some (.iload 2, 1) := by decide +kernel
theorem c44_34 : cd 44 34 = some (.aload 0, 1) := by decide +kernel
theorem c44_35 : cd 44 35 = some (.getfield 3158, 3) := by decide +kernel
theorem c44_38 : cd 44 38 = some (.iload 3, 1) := by decide +kernel
theorem c44_39 : cd 44 39 = some (.iaload, 1) := by decide +kernel
theorem c44_40 : cd 44 40 = some (.aload 0, 1) := by decide +kernel
theorem c44_41 : cd 44 41 = some (.getfield 3158, 3) := by decide +kernel
theorem c44_44 : cd 44 44 = some (.iload 1, 1) := by decide +kernel
theorem c44_45 : cd 44 45 = some (.iaload, 1) := by decide +kernel
theorem c44_46 : cd 44 46 = some (.if_icmp .ne 53, 3) := by decide +kernel
theorem c44_49 : cd 44 49 = some (.sipush 1, 1) := by decide +kernel
theorem c44_50 : cd 44 50 = some (.goto 54, 3) := by decide +kernel
theorem c44_53 : cd 44 53 = some (.sipush 0, 1) := by decide +kernel
theorem c44_54 : cd 44 54 = some (.iadd, 1) := by decide +kernel
theorem c44_55 : cd 44 55 = some (.istore 2, 1) := by decide +kernel
theorem c44_56 : cd 44 56 = some (.iinc 3 1, 3) := by decide +kernel
theorem c44_59 : cd 44 59 = some (.goto 25, 3) := by decide +kernel
theorem c44_62 : cd 44 62 = some (.iload 2, 1) := by decide +kernel
theorem c44_63 : cd 44 63 = some (.ireturn, 1) := by decide +kernel
theorem g44_0 {d : Nat} {a1 : Int} {x2 x3 : Option aV} {w : aW} {Q : Option aV → aW → Prop} : T (d + 1) 44 0 [some (vr 167), some (vi a1), x2, x3] [] w Q = T d 133 0 [some (vr 167), some (vl a1), none] [] (iup w 167 0 0) (fun r w1 => T (d + 1) 44 11 [some (vr 167), some (vi a1), x2, x3] (r.toList ++ []) w1 Q) := by
  rw [T_aload_0 c44_0, T_sipush c44_1, T_putI 12 0 0 c44_2 rfl rfl rfl rfl, T_aload_0 c44_5, T_iload_1 c44_6, T_i2l c44_7, T_invv (es := [some (vr 167), some (vl a1), none]) (st := [vl a1, vr 167]) (ks := [2, 1]) (n := 3) (c := 12) (k := 167) (as := [vl a1]) (rest := []) c44_8 (by decide +kernel) (by decide +kernel) (by decide +kernel) (by decide) rfl rfl (Nat.le_of_ble_eq_true rfl)]
  all_goals try simp only [lay_167, true_and, Nat.reduceAdd, eq_self_iff_true]
theorem g44_11 {d : Nat} {s0 : Int} {x1 x2 x3 : Option aV} {w : aW} {Q : Option aV → aW → Prop} : T (d + 1) 44 11 [some (vr 167), x1, x2, x3] [vi s0] w Q = ((¬ s0 = 0 → T d 159 0 [some (vr 167), none, none, none, none, none] [] w (fun r w1 => T (d + 1) 44 21 [some (vr 167), x1, x2, x3] (r.toList ++ []) w1 Q)) ∧ (¬ (¬ s0 = 0) → Q (some (vi (-3))) w)) := by
  rw [T_if_ne 17 c44_11 rfl, T_aload_0 c44_17, T_invv (es := [some (vr 167), none, none, none, none, none]) (st := [vr 167]) (ks := [2]) (n := 6) (c := 12) (k := 167) (as := []) (rest := []) c44_18 (by decide +kernel) (by decide +kernel) (by decide +kernel) (by decide) rfl rfl (Nat.le_of_ble_eq_true rfl), T_sipush c44_14, T_ireti c44_16 (by decide +kernel)]
  all_goals try simp only [Int.reduceToNat, lay_167, true_and, Nat.reduceAdd, eq_self_iff_true]
theorem g44_21 {d : Nat} {x0 x1 x2 x3 : Option aV} {w : aW} {Q : Option aV → aW → Prop} : T d 44 21 [x0, x1, x2, x3] [] w Q = T d 44 25 [x0, x1, some (vi 0), some (vi 0)] [] w Q := by
  rw [T_sipush c44_21, T_istore_2 c44_22, T_sipush c44_23, T_istore_3 c44_24]
  all_goals try simp only [true_and, Nat.reduceAdd, eq_self_iff_true]
theorem g44_25 {d : Nat} {a3 : Int} {x1 x2 : Option aV} {w : aW} {Q : Option aV → aW → Prop} : T (d + 1) 44 25 [some (vr 167), x1, x2, some (vi a3)] [] w Q = T d 164 0 [some (vr 167)] [] w (fun r w1 => T (d + 1) 44 30 [some (vr 167), x1, x2, some (vi a3)] (r.toList ++ [vi a3]) w1 Q) := by
  rw [T_iload_3 c44_25, T_aload_0 c44_26, T_invv (es := [some (vr 167)]) (st := [vr 167, vi a3]) (ks := [2]) (n := 1) (c := 12) (k := 167) (as := []) (rest := [vi a3]) c44_27 (by decide +kernel) (by decide +kernel) (by decide +kernel) (by decide) rfl rfl (Nat.le_of_ble_eq_true rfl)]
  all_goals try simp only [lay_167, true_and, Nat.reduceAdd, eq_self_iff_true]
theorem g44_30 {d : Nat} {a1 a2 a3 s0 s1 : Int} {w : aW} {Q : Option aV → aW → Prop} : T d 44 30 [some (vr 167), some (vi a1), some (vi a2), some (vi a3)] [vi s1, vi s0] w Q = ((s1 ≤ s0 → Q (some (vi a2)) w) ∧ (¬ (s1 ≤ s0) → ((0 ≤ a3 ∧ a3 < 1024) ∧ ((0 ≤ a1 ∧ a1 < 1024) ∧ ((¬ w 176 a3 = w 176 a1 → T d 44 54 [some (vr 167), some (vi a1), some (vi a2), some (vi a3)] [vi 0, vi a2] w Q) ∧ (¬ (¬ w 176 a3 = w 176 a1) → T d 44 54 [some (vr 167), some (vi a1), some (vi a2), some (vi a3)] [vi 1, vi a2] w Q)))))) := by
  rw [T_icmp_ge 62 c44_30 rfl, T_iload_2 c44_62, T_ireti c44_63 (by decide +kernel), T_iload_2 c44_33, T_aload_0 c44_34, T_getR 12 21 21 c44_35 rfl rfl rfl rfl, rf_167_21, T_iload_3 c44_38, T_iald c44_39, T_aload_0 c44_40, T_getR 12 21 21 c44_41 rfl rfl rfl rfl, rf_167_21, T_iload_1 c44_44, T_iald c44_45, T_icmp_ne 53 c44_46 rfl, T_sipush c44_53, T_sipush c44_49, T_goto 54 c44_50 rfl]
  all_goals try simp only [Int.reduceToNat, lay_167, ld_176, true_and, Nat.reduceAdd, eq_self_iff_true]
theorem g44_54 {d : Nat} {a3 s0 s1 : Int} {x0 x1 x2 : Option aV} {w : aW} {Q : Option aV → aW → Prop} : T d 44 54 [x0, x1, x2, some (vi a3)] [vi s1, vi s0] w Q = T d 44 25 [x0, x1, some (vi (w32 (s0 + s1))), some (vi (w32 (a3 + 1)))] [] w Q := by
  rw [T_iadd c44_54, T_istore_2 c44_55, T_iinc_3 c44_56, T_goto 25 c44_59 rfl]
  all_goals try simp only [true_and, Nat.reduceAdd, eq_self_iff_true]
/-! 45: StringHands.gardens.()I -/
theorem c45_0 : cd 45 0 = some (.aload 0, 1) := by decide +kernel
theorem c45_1 : cd 45 1 = some (.invokevirtual 155, 3) := by decide +kernel
theorem c45_4 : cd 45 4 = some (.pop, 1) := by decide +kernel
theorem c45_5 : cd 45 5 = some (.aload 0, 1) := by decide +kernel
theorem c45_6 : cd 45 6 = some (.getfield 2826, 3) := by decide +kernel
theorem c45_9 : cd 45 9 = some (.invokevirtual 165, 3) := by decide +kernel
theorem c45_12 : cd 45 12 = some (.ireturn, 1) := by decide +kernel
theorem g45_0 {d : Nat} {w : aW} {Q : Option aV → aW → Prop} : T (d + 1) 45 0 [some (vr 0)] [] w Q = T d 155 0 [some (vr 0)] [] w (fun r w1 => T (d + 1) 45 4 [some (vr 0)] (r.toList ++ []) w1 Q) := by
  rw [T_aload_0 c45_0, T_invv (es := [some (vr 0)]) (st := [vr 0]) (ks := [2]) (n := 1) (c := 11) (k := 0) (as := []) (rest := []) c45_1 (by decide +kernel) (by decide +kernel) (by decide +kernel) (by decide) rfl rfl (Nat.le_of_ble_eq_true rfl)]
  all_goals try simp only [lay_0, true_and, Nat.reduceAdd, eq_self_iff_true]
theorem g45_4 {d : Nat} {s0 : Nat} {w : aW} {Q : Option aV → aW → Prop} : T (d + 1) 45 4 [some (vr 0)] [vr s0] w Q = T d 165 0 [some (vr 19), none, none] [] w (fun r w1 => T (d + 1) 45 12 [some (vr 0)] (r.toList ++ []) w1 Q) := by
  rw [T_pop_r c45_4, T_aload_0 c45_5, T_getR 11 2 2 c45_6 rfl rfl rfl rfl, rf_0_2, T_invv (es := [some (vr 19), none, none]) (st := [vr 19]) (ks := [2]) (n := 3) (c := 0) (k := 19) (as := []) (rest := []) c45_9 (by decide +kernel) (by decide +kernel) (by decide +kernel) (by decide) rfl rfl (Nat.le_of_ble_eq_true rfl)]
  all_goals try simp only [lay_0, lay_19, true_and, Nat.reduceAdd, eq_self_iff_true]
theorem g45_12 {d : Nat} {s0 : Int} {x0 : Option aV} {w : aW} {Q : Option aV → aW → Prop} : T d 45 12 [x0] [vi s0] w Q = Q (some (vi s0)) w := by
  rw [T_ireti c45_12 (by decide +kernel)]
  all_goals try simp only [true_and, Nat.reduceAdd, eq_self_iff_true]
/-! 46: StringHandsModel.gardens.()I -/
theorem c46_0 : cd 46 0 = some (.aload 0, 1) := by decide +kernel
theorem c46_1 : cd 46 1 = some (.sipush 0, 1) := by decide +kernel
theorem c46_2 : cd 46 2 = some (.putfield 3072, 3) := by decide +kernel
theorem c46_5 : cd 46 5 = some (.aload 0, 1) := by decide +kernel
theorem c46_6 : cd 46 6 = some (.invokevirtual 156, 3) := by decide +kernel
theorem c46_9 : cd 46 9 = some (.sipush 0, 1) := by decide +kernel
theorem c46_10 : cd 46 10 = some (.istore 1, 1) := by decide +kernel
theorem c46_11 : cd 46 11 = some (.iload 1, 1) := by decide +kernel
theorem c46_12 : cd 46 12 = some (.aload 0, 1) := by decide +kernel
theorem c46_13 : cd 46 13 = some (.invokevirtual 164, 3) := by decide +kernel
theorem c46_16 : cd 46 16 = some (.if_icmp .ge 32, 3) := by decide +kernel
theorem c46_19 : cd 46 19 = some (.aload 0, 1) := by decide +kernel
theorem c46_20 : cd 46 20 = some (.getfield 3162, 3) := by decide +kernel
theorem c46_23 : cd 46 23 = some (.iload 1, 1) := by decide +kernel
theorem c46_24 : cd 46 24 = some (.sipush 0, 1) := by decide +kernel
theorem c46_25 : cd 46 25 = some (.iastore, 1) := by decide +kernel
theorem c46_26 : cd 46 26 = some (.iinc 1 1, 3) := by decide +kernel
theorem c46_29 : cd 46 29 = some (.goto 11, 3) := by decide +kernel
theorem c46_32 : cd 46 32 = some (.sipush 0, 1) := by decide +kernel
theorem c46_33 : cd 46 33 = some (.istore 1, 1) := by decide +kernel
theorem c46_34 : cd 46 34 = some (.iload 1, 1) := by decide +kernel
theorem c46_35 : cd 46 35 = some (.aload 0, 1) := by decide +kernel
theorem c46_36 : cd 46 36 = some (.invokevirtual 164, 3) := by decide +kernel
theorem c46_39 : cd 46 39 = some (.if_icmp .ge 60, 3) := by decide +kernel
theorem c46_42 : cd 46 42 = some (.aload 0, 1) := by decide +kernel
theorem c46_43 : cd 46 43 = some (.getfield 3162, 3) := by decide +kernel
theorem c46_46 : cd 46 46 = some (.aload 0, 1) := by decide +kernel
theorem c46_47 : cd 46 47 = some (.getfield 3150, 3) := by decide +kernel
theorem c46_50 : cd 46 50 = some (.iload 1, 1) := by decide +kernel
theorem c46_51 : cd 46 51 = some (.iaload, 1) := by decide +kernel
theorem c46_52 : cd 46 52 = some (.sipush 1, 1) := by decide +kernel
theorem c46_53 : cd 46 53 = some (.iastore, 1) := by decide +kernel
theorem c46_54 : cd 46 54 = some (.iinc 1 1, 3) := by decide +kernel
theorem c46_57 : cd 46 57 = some (.goto 34, 3) := by decide +kernel
theorem c46_60 : cd 46 60 = some (.sipush 0, 1) := by decide +kernel
theorem c46_61 : cd 46 61 = some (.istore 1, 1) := by decide +kernel
theorem c46_62 : cd 46 62 = some (.sipush 0, 1) := by decide +kernel
theorem c46_63 : cd 46 63 = some (.istore 2, 1) := by decide +kernel
theorem c46_64 : cd 46 64 = some (.iload 2, 1) := by decide +kernel
theorem c46_65 : cd 46 65 = some (.aload 0, 1) := by decide +kernel
theorem c46_66 : cd 46 66 = some (.invokevirtual 164, 3) := by decide +kernel
theorem c46_69 : cd 46 69 = some (.if_icmp .ge 89, 3) := by decide +kernel
theorem c46_72 : cd 46 72 = some (.iload 1, 1) := by decide +kernel
theorem c46_73 : cd 46 73 = some (.sipush 1, 1) := by decide +kernel
theorem c46_74 : cd 46 74 = some (.aload 0, 1) := by decide +kernel
theorem c46_75 : cd 46 75 = some (.getfield 3162, 3) := by decide +kernel
theorem c46_78 : cd 46 78 = some (.iload 2, 1) := by decide +kernel
theorem c46_79 : cd 46 79 = some (.iaload, 1) := by decide +kernel
theorem c46_80 : cd 46 80 = some (.isub, 1) := by decide +kernel
theorem c46_81 : cd 46 81 = some (.iadd, 1) := by decide +kernel
theorem c46_82 : cd 46 82 = some (.istore 1, 1) := by decide +kernel
theorem c46_83 : cd 46 83 = some (.iinc 2 1, 3) := by decide +kernel
theorem c46_86 : cd 46 86 = some (.goto 64, 3) := by decide +kernel
theorem c46_89 : cd 46 89 = some (.iload 1, 1) := by decide +kernel
theorem c46_90 : cd 46 90 = some (.ireturn, 1) := by decide +kernel
theorem g46_0 {d : Nat} {x1 x2 : Option aV} {w : aW} {Q : Option aV → aW → Prop} : T (d + 1) 46 0 [some (vr 167), x1, x2] [] w Q = T d 156 0 [some (vr 167), none] [] (iup w 167 0 0) (fun r w1 => T (d + 1) 46 9 [some (vr 167), x1, x2] (r.toList ++ []) w1 Q) := by
  rw [T_aload_0 c46_0, T_sipush c46_1, T_putI 12 0 0 c46_2 rfl rfl rfl rfl, T_aload_0 c46_5, T_invv (es := [some (vr 167), none]) (st := [vr 167]) (ks := [2]) (n := 2) (c := 12) (k := 167) (as := []) (rest := []) c46_6 (by decide +kernel) (by decide +kernel) (by decide +kernel) (by decide) rfl rfl (Nat.le_of_ble_eq_true rfl)]
  all_goals try simp only [lay_167, true_and, Nat.reduceAdd, eq_self_iff_true]
theorem g46_9 {d : Nat} {x0 x1 x2 : Option aV} {w : aW} {Q : Option aV → aW → Prop} : T d 46 9 [x0, x1, x2] [] w Q = T d 46 11 [x0, some (vi 0), x2] [] w Q := by
  rw [T_sipush c46_9, T_istore_1 c46_10]
  all_goals try simp only [true_and, Nat.reduceAdd, eq_self_iff_true]
theorem g46_11 {d : Nat} {a1 : Int} {x2 : Option aV} {w : aW} {Q : Option aV → aW → Prop} : T (d + 1) 46 11 [some (vr 167), some (vi a1), x2] [] w Q = T d 164 0 [some (vr 167)] [] w (fun r w1 => T (d + 1) 46 16 [some (vr 167), some (vi a1), x2] (r.toList ++ [vi a1]) w1 Q) := by
  rw [T_iload_1 c46_11, T_aload_0 c46_12, T_invv (es := [some (vr 167)]) (st := [vr 167, vi a1]) (ks := [2]) (n := 1) (c := 12) (k := 167) (as := []) (rest := [vi a1]) c46_13 (by decide +kernel) (by decide +kernel) (by decide +kernel) (by decide) rfl rfl (Nat.le_of_ble_eq_true rfl)]
  all_goals try simp only [lay_167, true_and, Nat.reduceAdd, eq_self_iff_true]
theorem g46_16 {d : Nat} {a1 s0 s1 : Int} {x2 : Option aV} {w : aW} {Q : Option aV → aW → Prop} : T d 46 16 [some (vr 167), some (vi a1), x2] [vi s1, vi s0] w Q = ((s1 ≤ s0 → T d 46 34 [some (vr 167), some (vi 0), x2] [] w Q) ∧ (¬ (s1 ≤ s0) → ((0 ≤ a1 ∧ a1 < 1024) ∧ T d 46 11 [some (vr 167), some (vi (w32 (a1 + 1))), x2] [] (iup w 177 a1 0) Q))) := by
  rw [T_icmp_ge 32 c46_16 rfl, T_sipush c46_32, T_istore_1 c46_33, T_aload_0 c46_19, T_getR 12 22 22 c46_20 rfl rfl rfl rfl, rf_167_22, T_iload_1 c46_23, T_sipush c46_24, T_iast c46_25, T_iinc_1 c46_26, T_goto 11 c46_29 rfl]
  all_goals try simp only [Int.reduceToNat, ia0_177, lay_167, true_and, Nat.reduceAdd, eq_self_iff_true]
theorem g46_34 {d : Nat} {a1 : Int} {x2 : Option aV} {w : aW} {Q : Option aV → aW → Prop} : T (d + 1) 46 34 [some (vr 167), some (vi a1), x2] [] w Q = T d 164 0 [some (vr 167)] [] w (fun r w1 => T (d + 1) 46 39 [some (vr 167), some (vi a1), x2] (r.toList ++ [vi a1]) w1 Q) := by
  rw [T_iload_1 c46_34, T_aload_0 c46_35, T_invv (es := [some (vr 167)]) (st := [vr 167, vi a1]) (ks := [2]) (n := 1) (c := 12) (k := 167) (as := []) (rest := [vi a1]) c46_36 (by decide +kernel) (by decide +kernel) (by decide +kernel) (by decide) rfl rfl (Nat.le_of_ble_eq_true rfl)]
  all_goals try simp only [lay_167, true_and, Nat.reduceAdd, eq_self_iff_true]
theorem g46_39 {d : Nat} {a1 s0 s1 : Int} {x2 : Option aV} {w : aW} {Q : Option aV → aW → Prop} : T d 46 39 [some (vr 167), some (vi a1), x2] [vi s1, vi s0] w Q = ((s1 ≤ s0 → T d 46 64 [some (vr 167), some (vi 0), some (vi 0)] [] w Q) ∧ (¬ (s1 ≤ s0) → ((0 ≤ a1 ∧ a1 < 1024) ∧ ((0 ≤ w 174 a1 ∧ w 174 a1 < 1024) ∧ T d 46 34 [some (vr 167), some (vi (w32 (a1 + 1))), x2] [] (iup w 177 (w 174 a1) 1) Q)))) := by
  rw [T_icmp_ge 60 c46_39 rfl, T_sipush c46_60, T_istore_1 c46_61, T_sipush c46_62, T_istore_2 c46_63, T_aload_0 c46_42, T_getR 12 22 22 c46_43 rfl rfl rfl rfl, rf_167_22, T_aload_0 c46_46, T_getR 12 19 19 c46_47 rfl rfl rfl rfl, rf_167_19, T_iload_1 c46_50, T_iald c46_51, T_sipush c46_52, T_iast c46_53, T_iinc_1 c46_54, T_goto 34 c46_57 rfl]
  all_goals try simp only [Int.reduceToNat, ia0_177, lay_167, ld_174, true_and, Nat.reduceAdd, eq_self_iff_true]
theorem g46_64 {d : Nat} {a2 : Int} {x1 : Option aV} {w : aW} {Q : Option aV → aW → Prop} : T (d + 1) 46 64 [some (vr 167), x1, some (vi a2)] [] w Q = T d 164 0 [some (vr 167)] [] w (fun r w1 => T (d + 1) 46 69 [some (vr 167), x1, some (vi a2)] (r.toList ++ [vi a2]) w1 Q) := by
  rw [T_iload_2 c46_64, T_aload_0 c46_65, T_invv (es := [some (vr 167)]) (st := [vr 167, vi a2]) (ks := [2]) (n := 1) (c := 12) (k := 167) (as := []) (rest := [vi a2]) c46_66 (by decide +kernel) (by decide +kernel) (by decide +kernel) (by decide) rfl rfl (Nat.le_of_ble_eq_true rfl)]
  all_goals try simp only [lay_167, true_and, Nat.reduceAdd, eq_self_iff_true]
theorem g46_69 {d : Nat} {a1 a2 s0 s1 : Int} {w : aW} {Q : Option aV → aW → Prop} : T d 46 69 [some (vr 167), some (vi a1), some (vi a2)] [vi s1, vi s0] w Q = ((s1 ≤ s0 → Q (some (vi a1)) w) ∧ (¬ (s1 ≤ s0) → ((0 ≤ a2 ∧ a2 < 1024) ∧ T d 46 64 [some (vr 167), some (vi (w32 (a1 + (w32 (1 - (w 177 a2)))))), some (vi (w32 (a2 + 1)))] [] w Q))) := by
  rw [T_icmp_ge 89 c46_69 rfl, T_iload_1 c46_89, T_ireti c46_90 (by decide +kernel), T_iload_1 c46_72, T_sipush c46_73, T_aload_0 c46_74, T_getR 12 22 22 c46_75 rfl rfl rfl rfl, rf_167_22, T_iload_2 c46_78, T_iald c46_79, T_isub c46_80, T_iadd c46_81, T_istore_1 c46_82, T_iinc_2 c46_83, T_goto 64 c46_86 rfl]
  all_goals try simp only [Int.reduceToNat, lay_167, ld_177, true_and, Nat.reduceAdd, eq_self_iff_true]
/-! 47: StringHands.farthest.()I -/
theorem c47_0 : cd 47 0 = some (.aload 0, 1) := by decide +kernel
theorem c47_1 : cd 47 1 = some (.invokevirtual 158, 3) := by decide +kernel
theorem c47_4 : cd 47 4 = some (.sipush 0, 1) := by decide +kernel
theorem c47_5 : cd 47 5 = some (.istore 1, 1) := by decide +kernel
theorem c47_6 : cd 47 6 = some (.sipush 1, 1) := by decide +kernel
theorem c47_7 : cd 47 7 = some (.istore 2, 1) := by decide +kernel
theorem c47_8 : cd 47 8 = some (.iload 2, 1) := by decide +kernel
theorem c47_9 : cd 47 9 = some (.aload 0, 1) := by decide +kernel
theorem c47_10 : cd 47 10 = some (.getfield 2826, 3) := by decide +kernel
theorem c47_13 : cd 47 13 = some (.getfield 0, 3) := by decide +kernel
theorem c47_16 : cd 47 16 = some (.if_icmp .ge 48, 3) := by decide +kernel
theorem c47_19 : cd 47 19 = some (.aload 0, 1) := by decide +kernel
theorem c47_20 : cd 47 20 = some (.getfield 2826, 3) := by decide +kernel
theorem c47_23 : cd 47 23 = some (.getfield 10, 3) := by decide +kernel
theorem c47_26 : cd 47 26 = some (.iload 2, 1) := by decide +kernel
theorem c47_27 : cd 47 27 = some (.iaload, 1) := by decide +kernel
theorem c47_28 : cd 47 28 = some (.aload 0, 1) := by decide +kernel
theorem c47_29 : cd 47 29 = some (.getfield 2826, 3) := by decide +kernel
theorem c47_32 : cd 47 32 = some (.getfield 10, 3) := by decide +kernel
theorem c47_35 : cd 47 35 = some (.iload 1, 1) := by decide +kernel
theorem c47_36 : cd 47 36 = some (.iaload, 1) := by decide +kernel
theorem c47_37 : cd 47 37 = some (.if_icmp .le 42, 3) := by decide +kernel
theorem c47_40 : cd 47 40 = some (.iload 2, 1) := by decide +kernel
theorem c47_41 : cd 47 41 = some (.istore 1, 1) := by decide +kernel
theorem c47_42 : cd 47 42 = some (.iinc 2 1, 3) := by decide +kernel
theorem c47_45 : cd 47 45 = some (.goto 8, 3) := by decide +kernel
theorem c47_48 : cd 47 48 = some (.iload 1, 1) := by decide +kernel
theorem c47_49 : cd 47 49 = some (.ireturn, 1) := by decide +kernel
theorem g47_0 {d : Nat} {x1 x2 : Option aV} {w : aW} {Q : Option aV → aW → Prop} : T (d + 1) 47 0 [some (vr 0), x1, x2] [] w Q = T d 158 0 [some (vr 0)] [] w (fun r w1 => T (d + 1) 47 4 [some (vr 0), x1, x2] (r.toList ++ []) w1 Q) := by
  rw [T_aload_0 c47_0, T_invv (es := [some (vr 0)]) (st := [vr 0]) (ks := [2]) (n := 1) (c := 11) (k := 0) (as := []) (rest := []) c47_1 (by decide +kernel) (by decide +kernel) (by decide +kernel) (by decide) rfl rfl (Nat.le_of_ble_eq_true rfl)]
  all_goals try simp only [lay_0, true_and, Nat.reduceAdd, eq_self_iff_true]
theorem g47_4 {d : Nat} {x0 x1 x2 : Option aV} {w : aW} {Q : Option aV → aW → Prop} : T d 47 4 [x0, x1, x2] [] w Q = T d 47 8 [x0, some (vi 0), some (vi 1)] [] w Q := by
  rw [T_sipush c47_4, T_istore_1 c47_5, T_sipush c47_6, T_istore_2 c47_7]
  all_goals try simp only [true_and, Nat.reduceAdd, eq_self_iff_true]
theorem g47_8 {d : Nat} {a1 a2 : Int} {w : aW} {Q : Option aV → aW → Prop} : T d 47 8 [some (vr 0), some (vi a1), some (vi a2)] [] w Q = ((w 19 0 ≤ a2 → Q (some (vi a1)) w) ∧ (¬ (w 19 0 ≤ a2) → ((0 ≤ a2 ∧ a2 < 1024) ∧ ((0 ≤ a1 ∧ a1 < 1024) ∧ ((w 21 a2 ≤ w 21 a1 → T d 47 42 [some (vr 0), some (vi a1), some (vi a2)] [] w Q) ∧ (¬ (w 21 a2 ≤ w 21 a1) → T d 47 42 [some (vr 0), some (vi a2), some (vi a2)] [] w Q)))))) := by
  rw [T_iload_2 c47_8, T_aload_0 c47_9, T_getR 11 2 2 c47_10 rfl rfl rfl rfl, rf_0_2, T_getI 0 0 0 c47_13 rfl rfl rfl rfl, T_icmp_ge 48 c47_16 rfl, T_iload_1 c47_48, T_ireti c47_49 (by decide +kernel), T_aload_0 c47_19, T_getR 11 2 2 c47_20 rfl rfl rfl rfl, rf_0_2, T_getR 0 2 2 c47_23 rfl rfl rfl rfl, rf_19_2, T_iload_2 c47_26, T_iald c47_27, T_aload_0 c47_28, T_getR 11 2 2 c47_29 rfl rfl rfl rfl, rf_0_2, T_getR 0 2 2 c47_32 rfl rfl rfl rfl, rf_19_2, T_iload_1 c47_35, T_iald c47_36, T_icmp_le 42 c47_37 rfl, T_iload_2 c47_40, T_istore_1 c47_41]
  all_goals try simp only [Int.reduceToNat, lay_0, lay_19, ld_21, true_and, Nat.reduceAdd, eq_self_iff_true]
theorem g47_42 {d : Nat} {a2 : Int} {x0 x1 : Option aV} {w : aW} {Q : Option aV → aW → Prop} : T d 47 42 [x0, x1, some (vi a2)] [] w Q = T d 47 8 [x0, x1, some (vi (w32 (a2 + 1)))] [] w Q := by
  rw [T_iinc_2 c47_42, T_goto 8 c47_45 rfl]
  all_goals try simp only [true_and, Nat.reduceAdd, eq_self_iff_true]
/-! 48: StringHandsModel.farthest.()I -/
theorem c48_0 : cd 48 0 = some (.aload 0, 1) := by decide +kernel
theorem c48_1 : cd 48 1 = some (.sipush 0, 1) := by decide +kernel
theorem c48_2 : cd 48 2 = some (.putfield 3072, 3) := by decide +kernel
theorem c48_5 : cd 48 5 = some (.aload 0, 1) := by decide +kernel
theorem c48_6 : cd 48 6 = some (.invokevirtual 159, 3) := by decide +kernel
theorem c48_9 : cd 48 9 = some (.sipush 0, 1) := by decide +kernel
theorem c48_10 : cd 48 10 = some (.istore 1, 1) := by decide +kernel
theorem c48_11 : cd 48 11 = some (.sipush 1, 1) := by decide +kernel
theorem c48_12 : cd 48 12 = some (.istore 2, 1) := by decide +kernel
theorem c48_13 : cd 48 13 = some (.iload 2, 1) := by decide +kernel
theorem c48_14 : cd 48 14 = some (.aload 0, 1) := by decide +kernel
theorem c48_15 : cd 48 15 = some (.invokevirtual 164, 3) := by decide +kernel
theorem c48_18 : cd 48 18 = some (.if_icmp .ge 44, 3) := by decide +kernel
theorem c48_21 : cd 48 21 = some (.aload 0, 1) := by decide +kernel
theorem c48_22 : cd 48 22 = some (.getfield 3154, 3) := by decide +kernel
theorem c48_25 : cd 48 25 = some (.iload 2, 1) := by decide +kernel
theorem c48_26 : cd 48 26 = some (.iaload, 1) := by decide +kernel
theorem c48_27 : cd 48 27 = some (.aload 0, 1) := by decide +kernel
theorem c48_28 : cd 48 28 = some (.getfield 3154, 3) := by decide +kernel
theorem c48_31 : cd 48 31 = some (.iload 1, 1) := by decide +kernel
theorem c48_32 : cd 48 32 = some (.iaload, 1) := by decide +kernel
theorem c48_33 : cd 48 33 = some (.if_icmp .le 38, 3) := by decide +kernel
theorem c48_36 : cd 48 36 = some (.iload 2, 1) := by decide +kernel
theorem c48_37 : cd 48 37 = some (.istore 1, 1) := by decide +kernel
theorem c48_38 : cd 48 38 = some (.iinc 2 1, 3) := by decide +kernel
theorem c48_41 : cd 48 41 = some (.goto 13, 3) := by decide +kernel
theorem c48_44 : cd 48 44 = some (.iload 1, 1) := by decide +kernel
theorem c48_45 : cd 48 45 = some (.ireturn, 1) := by decide +kernel
theorem g48_0 {d : Nat} {x1 x2 : Option aV} {w : aW} {Q : Option aV → aW → Prop} : T (d + 1) 48 0 [some (vr 167), x1, x2] [] w Q = T d 159 0 [some (vr 167), none, none, none, none, none] [] (iup w 167 0 0) (fun r w1 => T (d + 1) 48 9 [some (vr 167), x1, x2] (r.toList ++ []) w1 Q) := by
  rw [T_aload_0 c48_0, T_sipush c48_1, T_putI 12 0 0 c48_2 rfl rfl rfl rfl, T_aload_0 c48_5, T_invv (es := [some (vr 167), none, none, none, none, none]) (st := [vr 167]) (ks := [2]) (n := 6) (c := 12) (k := 167) (as := []) (rest := []) c48_6 (by decide +kernel) (by decide +kernel) (by decide +kernel) (by decide) rfl rfl (Nat.le_of_ble_eq_true rfl)]
  all_goals try simp only [lay_167, true_and, Nat.reduceAdd, eq_self_iff_true]
theorem g48_9 {d : Nat} {x0 x1 x2 : Option aV} {w : aW} {Q : Option aV → aW → Prop} : T d 48 9 [x0, x1, x2] [] w Q = T d 48 13 [x0, some (vi 0), some (vi 1)] [] w Q := by
  rw [T_sipush c48_9, T_istore_1 c48_10, T_sipush c48_11, T_istore_2 c48_12]
  all_goals try simp only [true_and, Nat.reduceAdd, eq_self_iff_true]
theorem g48_13 {d : Nat} {a2 : Int} {x1 : Option aV} {w : aW} {Q : Option aV → aW → Prop} : T (d + 1) 48 13 [some (vr 167), x1, some (vi a2)] [] w Q = T d 164 0 [some (vr 167)] [] w (fun r w1 => T (d + 1) 48 18 [some (vr 167), x1, some (vi a2)] (r.toList ++ [vi a2]) w1 Q) := by
  rw [T_iload_2 c48_13, T_aload_0 c48_14, T_invv (es := [some (vr 167)]) (st := [vr 167, vi a2]) (ks := [2]) (n := 1) (c := 12) (k := 167) (as := []) (rest := [vi a2]) c48_15 (by decide +kernel) (by decide +kernel) (by decide +kernel) (by decide) rfl rfl (Nat.le_of_ble_eq_true rfl)]
  all_goals try simp only [lay_167, true_and, Nat.reduceAdd, eq_self_iff_true]
theorem g48_18 {d : Nat} {a1 a2 s0 s1 : Int} {w : aW} {Q : Option aV → aW → Prop} : T d 48 18 [some (vr 167), some (vi a1), some (vi a2)] [vi s1, vi s0] w Q = ((s1 ≤ s0 → Q (some (vi a1)) w) ∧ (¬ (s1 ≤ s0) → ((0 ≤ a2 ∧ a2 < 1024) ∧ ((0 ≤ a1 ∧ a1 < 1024) ∧ ((w 175 a2 ≤ w 175 a1 → T d 48 38 [some (vr 167), some (vi a1), some (vi a2)] [] w Q) ∧ (¬ (w 175 a2 ≤ w 175 a1) → T d 48 38 [some (vr 167), some (vi a2), some (vi a2)] [] w Q)))))) := by
  rw [T_icmp_ge 44 c48_18 rfl, T_iload_1 c48_44, T_ireti c48_45 (by decide +kernel), T_aload_0 c48_21, T_getR 12 20 20 c48_22 rfl rfl rfl rfl, rf_167_20, T_iload_2 c48_25, T_iald c48_26, T_aload_0 c48_27, T_getR 12 20 20 c48_28 rfl rfl rfl rfl, rf_167_20, T_iload_1 c48_31, T_iald c48_32, T_icmp_le 38 c48_33 rfl, T_iload_2 c48_36, T_istore_1 c48_37]
  all_goals try simp only [Int.reduceToNat, lay_167, ld_175, true_and, Nat.reduceAdd, eq_self_iff_true]
theorem g48_38 {d : Nat} {a2 : Int} {x0 x1 : Option aV} {w : aW} {Q : Option aV → aW → Prop} : T d 48 38 [x0, x1, some (vi a2)] [] w Q = T d 48 13 [x0, x1, some (vi (w32 (a2 + 1)))] [] w Q := by
  rw [T_iinc_2 c48_38, T_goto 13 c48_41 rfl]
  all_goals try simp only [true_and, Nat.reduceAdd, eq_self_iff_true]
/-! 49: StringHands.soonest.(II)I -/
theorem c49_0 : cd 49 0 = some (.iload 2, 1) := by decide +kernel
theorem c49_1 : cd 49 1 = some (.sipush 10, 2) := by decide +kernel
theorem c49_3 : cd 49 3 = some (.if_icmp .lt 16, 3) := by decide +kernel
theorem c49_6 : cd 49 6 = some (.iload 2, 1) := by decide +kernel
theorem c49_7 : cd 49 7 = some (.sipush 50, 2) := by decide +kernel
theorem c49_9 : cd 49 9 = some (.if_icmp .ge 16, 3) := by decide +kernel
theorem c49_12 : cd 49 12 = some (.sipush 1, 1) := by decide +kernel
theorem c49_13 : cd 49 13 = some (.goto 17, 3) := by decide +kernel
theorem c49_16 : cd 49 16 = some (.sipush 0, 1) := by decide +kernel
theorem c49_17 : cd 49 17 = some (.istore 3, 1) := by decide +kernel
theorem c49_18 : cd 49 18 = some (.iload 2, 1) := by decide +kernel
theorem c49_19 : cd 49 19 = some (.ifCond .eq 34, 3) := by decide +kernel
theorem c49_22 : cd 49 22 = some (.iload 2, 1) := by decide +kernel
theorem c49_23 : cd 49 23 = some (.sipush 1, 1) := by decide +kernel
theorem c49_24 : cd 49 24 = some (.if_icmp .eq 34, 3) := by decide +kernel
theorem c49_27 : cd 49 27 = some (.iload 3, 1) := by decide +kernel
theorem c49_28 : cd 49 28 = some (.ifCond .ne 34, 3) := by decide +kernel
theorem c49_31 : cd 49 31 = some (.sipush (-2), 2) := by decide +kernel
theorem c49_33 : cd 49 33 = some (.ireturn, 1) := by decide +kernel
theorem c49_34 : cd 49 34 = some (.aload 0, 1) := by decide +kernel
theorem c49_35 : cd 49 35 = some (.iload 1, 1) := by decide +kernel
theorem c49_36 : cd 49 36 = some (.invokevirtual 131, 3) := by decide +kernel
theorem c49_39 : cd 49 39 = some (.ifCond .ne 45, 3) := by decide +kernel
theorem c49_42 : cd 49 42 = some (.sipush (-3), 2) := by decide +kernel
theorem c49_44 : cd 49 44 = some (.ireturn, 1) := by decide +kernel
theorem c49_45 : cd 49 45 = some (.aload 0, 1) := by decide +kernel
theorem c49_46 : cd 49 46 = some (.getfield 2830, 3) := by decide +kernel
theorem c49_49 : cd 49 49 = some (.aload 0, 1) := by decide +kernel
theorem c49_50 : cd 49 50 = some (.invokevirtual 155, 3) := by decide +kernel
theorem c49_53 : cd 49 53 = some (.aload 0, 1) := by decide +kernel
theorem c49_54 : cd 49 54 = some (.getfield 2850, 3) := by decide +kernel
theorem c49_57 : cd 49 57 = some (.getfield 2052, 3) := by decide +kernel
theorem c49_60 : cd 49 60 = some (.aload 0, 1) := by decide +kernel
theorem c49_61 : cd 49 61 = some (.getfield 2854, 3) := by decide +kernel
theorem c49_64 : cd 49 64 = some (.getfield 1536, 3) := by decide +kernel
theorem c49_67 : cd 49 67 = some (.iload 1, 1) := by decide +kernel
theorem c49_68 : cd 49 68 = some (.invokevirtual 166, 3) := by decide +kernel
theorem c49_71 : cd 49 71 = some (.ifCond .ne 76, 3) := by decide +kernel
theorem c49_74 : cd 49 74 = some (.sipush (-1), 1) := by decide +kernel
theorem c49_75 : cd 49 75 = some (.ireturn, 1) := by decide +kernel
theorem c49_76 : cd 49 76 = some (.iload 2, 1) := by decide +kernel
theorem c49_77 : cd 49 77 = some (.ifCond .ne 88, 3) := by decide +kernel
theorem c49_80 : cd 49 80 = some (.aload 0, 1) := by decide +kernel
theorem c49_81 : cd 49 81 = some (.getfield 2830, 3) := by decide +kernel
theorem c49_84 : cd 49 84 = some (.getfield 2560, 3) := by decide +kernel
theorem c49_87 : cd 49 87 = some (.ireturn, 1) := by decide +kernel
theorem c49_88 : cd 49 88 = some (.iload 2, 1) := by decide +kernel
theorem c49_89 : cd 49 89 = some (.sipush 1, 1) := by decide +kernel
theorem c49_90 : cd 49 90 = some (.if_icmp .ne 101, 3) := by decide +kernel
theorem c49_93 : cd 49 93 = some (.aload 0, 1) := by decide +kernel
theorem c49_94 : cd 49 94 = some (.getfield 2830, 3) := by decide +kernel
theorem c49_97 : cd 49 97 = some (.getfield 2564, 3) := by decide +kernel
theorem c49_100 : cd 49 100 = some (.ireturn, 1) := by decide +kernel
theorem c49_101 : cd 49 101 = some (.iload 2, 1) := by decide +kernel
theorem c49_102 : cd 49 102 = some (.sipush 10, 2) := by decide +kernel
theorem c49_104 : cd 49 104 = some (.isub, 1) := by decide +kernel
theorem c49_105 : cd 49 105 = some (.aload 0, 1) := by decide +kernel
theorem c49_106 : cd 49 106 = some (.getfield 2830, 3) := by decide +kernel
theorem c49_109 : cd 49 109 = some (.getfield 2560, 3) := by decide +kernel
theorem c49_112 : cd 49 112 = some (.if_icmp .ge 130, 3) := by decide +kernel
theorem c49_115 : cd 49 115 = some (.aload 0, 1) := by decide +kernel
theorem c49_116 : cd 49 116 = some (.getfield 2830, 3) := by decide +kernel
theorem c49_119 : cd 49 119 = some (.getfield 2570, 3) := by decide +kernel
theorem c49_122 : cd 49 122 = some (.iload 2, 1) := by decide +kernel
theorem c49_123 : cd 49 123 = some (.sipush 10, 2) := by decide +kernel
theorem c49_125 : cd 49 125 = some (.isub, 1) := by decide +kernel
theorem c49_126 : cd 49 126 = some (.iaload, 1) := by decide +kernel
theorem c49_127 : cd 49 127 = some (.goto 131, 3) := by decide +kernel
theorem c49_130 : cd 49 130 = some (.sipush (-1), 1) := by decide +kernel
theorem c49_131 : cd 49 131 = some (.ireturn, 1) := by decide +kernel
theorem g49_0 {d : Nat} {a2 : Int} {x0 x1 x3 : Option aV} {w : aW} {Q : Option aV → aW → Prop} : T d 49 0 [x0, x1, some (vi a2), x3] [] w Q = ((a2 < 10 → T d 49 16 [x0, x1, some (vi a2), x3] [] w Q) ∧ (¬ (a2 < 10) → ((50 ≤ a2 → T d 49 16 [x0, x1, some (vi a2), x3] [] w Q) ∧ (¬ (50 ≤ a2) → T d 49 17 [x0, x1, some (vi a2), x3] [vi 1] w Q)))) := by
  rw [T_iload_2 c49_0, T_sipush c49_1, T_icmp_lt 16 c49_3 rfl, T_iload_2 c49_6, T_sipush c49_7, T_icmp_ge 16 c49_9 rfl, T_sipush c49_12, T_goto 17 c49_13 rfl]
  all_goals try simp only [Int.reduceToNat, true_and, Nat.reduceAdd, eq_self_iff_true]
theorem g49_16 {d : Nat} {x0 x1 x2 x3 : Option aV} {w : aW} {Q : Option aV → aW → Prop} : T d 49 16 [x0, x1, x2, x3] [] w Q = T d 49 17 [x0, x1, x2, x3] [vi 0] w Q := by
  rw [T_sipush c49_16]
  all_goals try simp only [true_and, Nat.reduceAdd, eq_self_iff_true]
theorem g49_17 {d : Nat} {a2 s0 : Int} {x0 x1 x3 : Option aV} {w : aW} {Q : Option aV → aW → Prop} : T d 49 17 [x0, x1, some (vi a2), x3] [vi s0] w Q = ((a2 = 0 → T d 49 34 [x0, x1, some (vi a2), some (vi s0)] [] w Q) ∧ (¬ (a2 = 0) → ((a2 = 1 → T d 49 34 [x0, x1, some (vi a2), some (vi s0)] [] w Q) ∧ (¬ (a2 = 1) → ((¬ s0 = 0 → T d 49 34 [x0, x1, some (vi a2), some (vi s0)] [] w Q) ∧ (¬ (¬ s0 = 0) → Q (some (vi (-2))) w)))))) := by
  rw [T_istore_3 c49_17, T_iload_2 c49_18, T_if_eq 34 c49_19 rfl, T_iload_2 c49_22, T_sipush c49_23, T_icmp_eq 34 c49_24 rfl, T_iload_3 c49_27, T_if_ne 34 c49_28 rfl, T_sipush c49_31, T_ireti c49_33 (by decide +kernel)]
  all_goals try simp only [Int.reduceToNat, true_and, Nat.reduceAdd, eq_self_iff_true]
theorem g49_34 {d : Nat} {a1 : Int} {x2 x3 : Option aV} {w : aW} {Q : Option aV → aW → Prop} : T (d + 1) 49 34 [some (vr 0), some (vi a1), x2, x3] [] w Q = T d 131 0 [some (vr 0), some (vi a1)] [] w (fun r w1 => T (d + 1) 49 39 [some (vr 0), some (vi a1), x2, x3] (r.toList ++ []) w1 Q) := by
  rw [T_aload_0 c49_34, T_iload_1 c49_35, T_invv (es := [some (vr 0), some (vi a1)]) (st := [vi a1, vr 0]) (ks := [2, 0]) (n := 2) (c := 11) (k := 0) (as := [vi a1]) (rest := []) c49_36 (by decide +kernel) (by decide +kernel) (by decide +kernel) (by decide) rfl rfl (Nat.le_of_ble_eq_true rfl)]
  all_goals try simp only [lay_0, true_and, Nat.reduceAdd, eq_self_iff_true]
theorem g49_39 {d : Nat} {s0 : Int} {x1 x2 x3 : Option aV} {w : aW} {Q : Option aV → aW → Prop} : T (d + 1) 49 39 [some (vr 0), x1, x2, x3] [vi s0] w Q = ((¬ s0 = 0 → T d 155 0 [some (vr 0)] [] w (fun r w1 => T (d + 1) 49 53 [some (vr 0), x1, x2, x3] (r.toList ++ [vr 27]) w1 Q)) ∧ (¬ (¬ s0 = 0) → Q (some (vi (-3))) w)) := by
  rw [T_if_ne 45 c49_39 rfl, T_aload_0 c49_45, T_getR 11 3 3 c49_46 rfl rfl rfl rfl, rf_0_3, T_aload_0 c49_49, T_invv (es := [some (vr 0)]) (st := [vr 0, vr 27]) (ks := [2]) (n := 1) (c := 11) (k := 0) (as := []) (rest := [vr 27]) c49_50 (by decide +kernel) (by decide +kernel) (by decide +kernel) (by decide) rfl rfl (Nat.le_of_ble_eq_true rfl), T_sipush c49_42, T_ireti c49_44 (by decide +kernel)]
  all_goals try simp only [Int.reduceToNat, lay_0, true_and, Nat.reduceAdd, eq_self_iff_true]
theorem g49_53 {d : Nat} {a1 : Int} {s0 s1 : Nat} {x2 x3 : Option aV} {w : aW} {Q : Option aV → aW → Prop} : T (d + 1) 49 53 [some (vr 0), some (vi a1), x2, x3] [vr s1, vr s0] w Q = (lay s0 = (10, 0) ∧ T d 166 0 [some (vr s0), some (vr s1), some (vi (w 69 1)), some (vi (w 79 0)), some (vi a1), none] [] w (fun r w1 => T (d + 1) 49 71 [some (vr 0), some (vi a1), x2, x3] (r.toList ++ []) w1 Q)) := by
  rw [T_aload_0 c49_53, T_getR 11 8 8 c49_54 rfl rfl rfl rfl, rf_0_8, T_getI 8 1 1 c49_57 rfl rfl rfl rfl, T_aload_0 c49_60, T_getR 11 9 9 c49_61 rfl rfl rfl rfl, rf_0_9, T_getI 6 0 0 c49_64 rfl rfl rfl rfl, T_iload_1 c49_67, T_invv (es := [some (vr s0), some (vr s1), some (vi (w 69 1)), some (vi (w 79 0)), some (vi a1), none]) (st := [vi a1, vi (w 79 0), vi (w 69 1), vr s1, vr s0]) (ks := [2, 2, 0, 0, 0]) (n := 6) (c := 10) (k := s0) (as := [vr s1, vi (w 69 1), vi (w 79 0), vi a1]) (rest := []) c49_68 (by decide +kernel) (by decide +kernel) (by decide +kernel) (by decide) rfl rfl (Nat.le_of_ble_eq_true rfl)]
  all_goals try simp only [lay_0, lay_69, lay_79, true_and, Nat.reduceAdd, eq_self_iff_true]
theorem g49_71 {d : Nat} {a2 s0 : Int} {x1 x3 : Option aV} {w : aW} {Q : Option aV → aW → Prop} : T d 49 71 [some (vr 0), x1, some (vi a2), x3] [vi s0] w Q = ((¬ s0 = 0 → ((¬ a2 = 0 → ((¬ a2 = 1 → ((w 27 0 ≤ w32 (a2 - 10) → T d 49 131 [some (vr 0), x1, some (vi a2), x3] [vi (-1)] w Q) ∧ (¬ (w 27 0 ≤ w32 (a2 - 10)) → ((0 ≤ w32 (a2 - 10) ∧ w32 (a2 - 10) < 40) ∧ T d 49 131 [some (vr 0), x1, some (vi a2), x3] [vi (w 28 (w32 (a2 - 10)))] w Q)))) ∧ (¬ (¬ a2 = 1) → Q (some (vi (w 27 1))) w))) ∧ (¬ (¬ a2 = 0) → Q (some (vi (w 27 0))) w))) ∧ (¬ (¬ s0 = 0) → Q (some (vi (-1))) w)) := by
  rw [T_if_ne 76 c49_71 rfl, T_iload_2 c49_76, T_if_ne 88 c49_77 rfl, T_iload_2 c49_88, T_sipush c49_89, T_icmp_ne 101 c49_90 rfl, T_iload_2 c49_101, T_sipush c49_102, T_isub c49_104, T_aload_0 c49_105, T_getR 11 3 3 c49_106 rfl rfl rfl rfl, rf_0_3, T_getI 10 0 0 c49_109 rfl rfl rfl rfl, T_icmp_ge 130 c49_112 rfl, T_sipush c49_130, T_aload_0 c49_115, T_getR 11 3 3 c49_116 rfl rfl rfl rfl, rf_0_3, T_getR 10 2 2 c49_119 rfl rfl rfl rfl, rf_27_2, T_iload_2 c49_122, T_sipush c49_123, T_isub c49_125, T_iald c49_126, T_goto 131 c49_127 rfl, T_aload_0 c49_93, T_getR 11 3 3 c49_94 rfl rfl rfl rfl, rf_0_3, T_getI 10 1 1 c49_97 rfl rfl rfl rfl, T_ireti c49_100 (by decide +kernel), T_aload_0 c49_80, T_getR 11 3 3 c49_81 rfl rfl rfl rfl, rf_0_3, T_getI 10 0 0 c49_84 rfl rfl rfl rfl, T_ireti c49_87 (by decide +kernel), T_sipush c49_74, T_ireti c49_75 (by decide +kernel)]
  all_goals try simp only [Int.reduceToNat, lay_0, lay_27, ld_28, true_and, Nat.reduceAdd, eq_self_iff_true]
theorem g49_131 {d : Nat} {s0 : Int} {x0 x1 x2 x3 : Option aV} {w : aW} {Q : Option aV → aW → Prop} : T d 49 131 [x0, x1, x2, x3] [vi s0] w Q = Q (some (vi s0)) w := by
  rw [T_ireti c49_131 (by decide +kernel)]
  all_goals try simp only [true_and, Nat.reduceAdd, eq_self_iff_true]
/-! 50: StringHandsModel.soonest.(II)I -/
theorem c50_0 : cd 50 0 = some (.aload 0, 1) := by decide +kernel
theorem c50_1 : cd 50 1 = some (.sipush 0, 1) := by decide +kernel
theorem c50_2 : cd 50 2 = some (.putfield 3072, 3) := by decide +kernel
theorem c50_5 : cd 50 5 = some (.iload 2, 1) := by decide +kernel
theorem c50_6 : cd 50 6 = some (.i2l, 1) := by decide +kernel
theorem c50_7 : cd 50 7 = some (.bipush 0, 1) := by decide +kernel
theorem c50_8 : cd 50 8 = some (.bipush 1, 1) := by decide +kernel
theorem c50_9 : cd 50 9 = some (.invokestatic 105, 3) := by decide +kernel
theorem c50_12 : cd 50 12 = some (.ifCond .ne 32, 3) := by decide +kernel
theorem c50_15 : cd 50 15 = some (.iload 2, 1) := by decide +kernel
theorem c50_16 : cd 50 16 = some (.i2l, 1) := by decide +kernel
theorem c50_17 : cd 50 17 = some (.bipush 10, 3) := by decide +kernel
theorem c50_20 : cd 50 20 = some (.bipush 49, 3) := by decide +kernel
theorem c50_23 : cd 50 23 = some (.invokestatic 105, 3) := by decide +kernel
theorem c50_26 : cd 50 26 = some (.ifCond .ne 32, 3) := by decide +kernel
theorem c50_29 : cd 50 29 = some (.sipush (-2), 2) := by decide +kernel
theorem c50_31 : cd 50 31 = some (.ireturn, 1) := by decide +kernel
theorem c50_32 : cd 50 32 = some (.aload 0, 1) := by decide +kernel
theorem c50_33 : cd 50 33 = some (.iload 1, 1) := by decide +kernel
theorem c50_34 : cd 50 34 = some (.i2l, 1) := by decide +kernel
theorem c50_35 : cd 50 35 = some (.invokevirtual 133, 3) := by decide +kernel
theorem c50_38 : cd 50 38 = some (.ifCond .ne 44, 3) := by decide +kernel
theorem c50_41 : cd 50 41 = some (.sipush (-3), 2) := by decide +kernel
theorem c50_43 : cd 50 43 = some (.ireturn, 1) := by decide +kernel
theorem c50_44 : cd 50 44 = some (.aload 0, 1) := by decide +kernel
theorem c50_45 : cd 50 45 = some (.iload 1, 1) := by decide +kernel
theorem c50_46 : cd 50 46 = some (.invokevirtual 167, 3) := by decide +kernel
theorem c50_49 : cd 50 49 = some (.istore 3, 1) := by decide +kernel
theorem c50_50 : cd 50 50 = some (.iload 3, 1) := by decide +kernel
theorem c50_51 : cd 50 51 = some (.sipush (-1), 1) := by decide +kernel
theorem c50_52 : cd 50 52 = some (.if_icmp .eq 59, 3) := by decide +kernel
theorem c50_55 : cd 50 55 = some (.iload 2, 1) := by decide +kernel
theorem c50_56 : cd 50 56 = some (.ifCond .ne 61, 3) := by decide +kernel
theorem c50_59 : cd 50 59 = some (.iload 3, 1) := by decide +kernel
theorem c50_60 : cd 50 60 = some (.ireturn, 1) := by decide +kernel
theorem c50_61 : cd 50 61 = some (.aload 0, 1) := by decide +kernel
theorem c50_62 : cd 50 62 = some (.getfield 3078, 3) := by decide +kernel
theorem c50_65 : cd 50 65 = some (.sipush 5, 1) := by decide +kernel
theorem c50_66 : cd 50 66 = some (.iaload, 1) := by decide +kernel
theorem c50_67 : cd 50 67 = some (.istore 4, 2) := by decide +kernel
theorem c50_69 : cd 50 69 = some (.iload 2, 1) := by decide +kernel
theorem c50_70 : cd 50 70 = some (.sipush 1, 1) := by decide +kernel
theorem c50_71 : cd 50 71 = some (.if_icmp .ne 88, 3) := by decide +kernel
theorem c50_74 : cd 50 74 = some (.aload 0, 1) := by decide +kernel
theorem c50_75 : cd 50 75 = some (.getfield 3166, 3) := by decide +kernel
theorem c50_78 : cd 50 78 = some (.sipush 1024, 3) := by decide +kernel
theorem c50_81 : cd 50 81 = some (.iload 3, 1) := by decide +kernel
theorem c50_82 : cd 50 82 = some (.imul, 1) := by decide +kernel
theorem c50_83 : cd 50 83 = some (.iload 4, 2) := by decide +kernel
theorem c50_85 : cd 50 85 = some (.iadd, 1) := by decide +kernel
theorem c50_86 : cd 50 86 = some (.iaload, 1) := by decide +kernel
theorem c50_87 : cd 50 87 = some (.ireturn, 1) := by decide +kernel
theorem c50_88 : cd 50 88 = some (.sipush 0, 1) := by decide +kernel
theorem c50_89 : cd 50 89 = some (.istore 5, 2) := by decide +kernel
theorem c50_91 : cd 50 91 = some (.iload 5, 2) := by decide +kernel
theorem c50_93 : cd 50 93 = some (.iload 3, 1) := by decide +kernel
theorem c50_94 : cd 50 94 = some (.if_icmp .ge 223, 3) := by decide +kernel
theorem c50_97 : cd 50 97 = some (.aload 0, 1) := by decide +kernel
theorem c50_98 : cd 50 98 = some (.getfield 3166, 3) := by decide +kernel
theorem c50_101 : cd 50 101 = some (.sipush 1024, 3) := by decide +kernel
theorem c50_104 : cd 50 104 = some (.iload 3, 1) := by decide +kernel
theorem c50_105 : cd 50 105 = some (.iload 5, 2) := by decide +kernel
theorem c50_107 : cd 50 107 = some (.isub, 1) := by decide +kernel
theorem c50_108 : cd 50 108 = some (.imul, 1) := by decide +kernel
theorem c50_109 : cd 50 109 = some (.iload 4, 2) := by decide +kernel
theorem c50_111 : cd 50 111 = some (.iadd, 1) := by decide +kernel
theorem c50_112 : cd 50 112 = some (.iaload, 1) := by decide +kernel
theorem c50_113 : cd 50 113 = some (.istore 6, 2) := by decide +kernel
theorem c50_115 : cd 50 115 = some (.sipush (-1), 1) := by decide +kernel
theorem c50_116 : cd 50 116 = some (.istore 7, 2) := by decide +kernel
theorem c50_118 : cd 50 118 = some (.aload 0, 1) := by decide +kernel
theorem c50_119 : cd 50 119 = some (.getfield 3166, 3) := by decide +kernel
theorem c50_122 : cd 50 122 = some (.sipush 1024, 3) := by decide +kernel
theorem c50_125 : cd 50 125 = some (.iload 3, 1) := by decide +kernel
theorem c50_126 : cd 50 126 = some (.iload 5, 2) := by decide +kernel
theorem c50_128 : cd 50 128 = some (.isub, 1) := by decide +kernel
theorem c50_129 : cd 50 129 = some (.sipush 1, 1) := by decide +kernel
theorem c50_130 : cd 50 130 = some (.isub, 1) := by decide +kernel
theorem c50_131 : cd 50 131 = some (.imul, 1) := by decide +kernel
theorem c50_132 : cd 50 132 = some (.aload 0, 1) := by decide +kernel
theorem c50_133 : cd 50 133 = some (.getfield 3150, 3) := by decide +kernel
theorem c50_136 : cd 50 136 = some (.iload 7, 2) := by decide +kernel
theorem c50_138 : cd 50 138 = some (.sipush (-1), 1) := by decide +kernel
theorem c50_139 : cd 50 139 = some (.if_icmp .ne 147, 3) := by decide +kernel
theorem c50_142 : cd 50 142 = some (.iload 4, 2) := by decide +kernel
theorem c50_144 : cd 50 144 = some (.goto 154, 3) := by decide +kernel
theorem c50_147 : cd 50 147 = some (.iload 4, 2) := by decide +kernel
theorem c50_149 : cd 50 149 = some (.sipush 1, 1) := by decide +kernel
theorem c50_150 : cd 50 150 = some (.iload 7, 2) := by decide +kernel
theorem c50_152 : cd 50 152 = some (.ishl, 1) := by decide +kernel
theorem c50_153 : cd 50 153 = some (.ixor, 1) := by decide +kernel
theorem c50_154 : cd 50 154 = some (.iaload, 1) := by decide +kernel
theorem c50_155 : cd 50 155 = some (.iadd, 1) := by decide +kernel
theorem c50_156 : cd 50 156 = some (.iaload, 1) := by decide +kernel
theorem c50_157 : cd 50 157 = some (.iload 7, 2) := by decide +kernel
theorem c50_159 : cd 50 159 = some (.sipush (-1), 1) := by decide +kernel
theorem c50_160 : cd 50 160 = some (.if_icmp .ne 167, 3) := by decide +kernel
theorem c50_163 : cd 50 163 = some (.sipush 0, 1) := by decide +kernel
theorem c50_164 : cd 50 164 = some (.goto 168, 3) := by decide +kernel
theorem c50_167 : cd 50 167 = some (.sipush 1, 1) := by decide +kernel
theorem c50_168 : cd 50 168 = some (.iadd, 1) := by decide +kernel
theorem c50_169 : cd 50 169 = some (.iload 6, 2) := by decide +kernel
theorem c50_171 : cd 50 171 = some (.if_icmp .eq 180, 3) := by decide +kernel
theorem c50_174 : cd 50 174 = some (.iinc 7 1, 3) := by decide +kernel
theorem c50_177 : cd 50 177 = some (.goto 118, 3) := by decide +kernel
theorem c50_180 : cd 50 180 = some (.iload 5, 2) := by decide +kernel
theorem c50_182 : cd 50 182 = some (.iload 2, 1) := by decide +kernel
theorem c50_183 : cd 50 183 = some (.sipush 10, 2) := by decide +kernel
theorem c50_185 : cd 50 185 = some (.isub, 1) := by decide +kernel
theorem c50_186 : cd 50 186 = some (.if_icmp .ne 192, 3) := by decide +kernel
theorem c50_189 : cd 50 189 = some (.iload 7, 2) := by decide +kernel
theorem c50_191 : cd 50 191 = some (.ireturn, 1) := by decide +kernel
theorem c50_192 : cd 50 192 = some (.aload 0, 1) := by decide +kernel
theorem c50_193 : cd 50 193 = some (.getfield 3150, 3) := by decide +kernel
theorem c50_196 : cd 50 196 = some (.iload 7, 2) := by decide +kernel
theorem c50_198 : cd 50 198 = some (.sipush (-1), 1) := by decide +kernel
theorem c50_199 : cd 50 199 = some (.if_icmp .ne 207, 3) := by decide +kernel
theorem c50_202 : cd 50 202 = some (.iload 4, 2) := by decide +kernel
theorem c50_204 : cd 50 204 = some (.goto 214, 3) := by decide +kernel
theorem c50_207 : cd 50 207 = some (.iload 4, 2) := by decide +kernel
theorem c50_209 : cd 50 209 = some (.sipush 1, 1) := by decide +kernel
theorem c50_210 : cd 50 210 = some (.iload 7, 2) := by decide +kernel
theorem c50_212 : cd 50 212 = some (.ishl, 1) := by decide +kernel
theorem c50_213 : cd 50 213 = some (.ixor, 1) := by decide +kernel
theorem c50_214 : cd 50 214 = some (.iaload, 1) := by decide +kernel
theorem c50_215 : cd 50 215 = some (.istore 4, 2) := by decide +kernel
theorem c50_217 : cd 50 217 = some (.iinc 5 1, 3) := by decide +kernel
theorem c50_220 : cd 50 220 = some (.goto 91, 3) := by decide +kernel
theorem c50_223 : cd 50 223 = some (.sipush (-1), 1) := by decide +kernel
theorem c50_224 : cd 50 224 = some (.ireturn, 1) := by decide +kernel
theorem g50_0 {d : Nat} {a2 : Int} {x1 x3 x4 x5 x6 x7 : Option aV} {w : aW} {Q : Option aV → aW → Prop} : T (d + 1) 50 0 [some (vr 167), x1, some (vi a2), x3, x4, x5, x6, x7] [] w Q = T d 105 0 [some (vl a2), none, some (vl 0), none, some (vl 1), none] [] (iup w 167 0 0) (fun r w1 => T (d + 1) 50 12 [some (vr 167), x1, some (vi a2), x3, x4, x5, x6, x7] (r.toList ++ []) w1 Q) := by
  rw [T_aload_0 c50_0, T_sipush c50_1, T_putI 12 0 0 c50_2 rfl rfl rfl rfl, T_iload_2 c50_5, T_i2l c50_6, T_bipush c50_7, T_bipush c50_8, T_inv (es := [some (vl a2), none, some (vl 0), none, some (vl 1), none]) (st := [vl 1, vl 0, vl a2]) (ks := [1, 1, 1]) (n := 6) (as := [vl a2, vl 0, vl 1]) (rest := []) c50_9 (by decide +kernel) (by decide +kernel) rfl rfl (Nat.le_of_ble_eq_true rfl)]
  all_goals try simp only [lay_167, true_and, Nat.reduceAdd, eq_self_iff_true]
theorem g50_12 {d : Nat} {a2 s0 : Int} {x0 x1 x3 x4 x5 x6 x7 : Option aV} {w : aW} {Q : Option aV → aW → Prop} : T (d + 1) 50 12 [x0, x1, some (vi a2), x3, x4, x5, x6, x7] [vi s0] w Q = ((¬ s0 = 0 → T (d + 1) 50 32 [x0, x1, some (vi a2), x3, x4, x5, x6, x7] [] w Q) ∧ (¬ (¬ s0 = 0) → T d 105 0 [some (vl a2), none, some (vl 10), none, some (vl 49), none] [] w (fun r w1 => T (d + 1) 50 26 [x0, x1, some (vi a2), x3, x4, x5, x6, x7] (r.toList ++ []) w1 Q))) := by
  rw [T_if_ne 32 c50_12 rfl, T_iload_2 c50_15, T_i2l c50_16, T_bipush c50_17, T_bipush c50_20, T_inv (es := [some (vl a2), none, some (vl 10), none, some (vl 49), none]) (st := [vl 49, vl 10, vl a2]) (ks := [1, 1, 1]) (n := 6) (as := [vl a2, vl 10, vl 49]) (rest := []) c50_23 (by decide +kernel) (by decide +kernel) rfl rfl (Nat.le_of_ble_eq_true rfl)]
  all_goals try simp only [Int.reduceToNat, true_and, Nat.reduceAdd, eq_self_iff_true]
theorem g50_26 {d : Nat} {s0 : Int} {x0 x1 x2 x3 x4 x5 x6 x7 : Option aV} {w : aW} {Q : Option aV → aW → Prop} : T d 50 26 [x0, x1, x2, x3, x4, x5, x6, x7] [vi s0] w Q = ((¬ s0 = 0 → T d 50 32 [x0, x1, x2, x3, x4, x5, x6, x7] [] w Q) ∧ (¬ (¬ s0 = 0) → Q (some (vi (-2))) w)) := by
  rw [T_if_ne 32 c50_26 rfl, T_sipush c50_29, T_ireti c50_31 (by decide +kernel)]
  all_goals try simp only [Int.reduceToNat, true_and, Nat.reduceAdd, eq_self_iff_true]
theorem g50_32 {d : Nat} {a1 : Int} {x2 x3 x4 x5 x6 x7 : Option aV} {w : aW} {Q : Option aV → aW → Prop} : T (d + 1) 50 32 [some (vr 167), some (vi a1), x2, x3, x4, x5, x6, x7] [] w Q = T d 133 0 [some (vr 167), some (vl a1), none] [] w (fun r w1 => T (d + 1) 50 38 [some (vr 167), some (vi a1), x2, x3, x4, x5, x6, x7] (r.toList ++ []) w1 Q) := by
  rw [T_aload_0 c50_32, T_iload_1 c50_33, T_i2l c50_34, T_invv (es := [some (vr 167), some (vl a1), none]) (st := [vl a1, vr 167]) (ks := [2, 1]) (n := 3) (c := 12) (k := 167) (as := [vl a1]) (rest := []) c50_35 (by decide +kernel) (by decide +kernel) (by decide +kernel) (by decide) rfl rfl (Nat.le_of_ble_eq_true rfl)]
  all_goals try simp only [lay_167, true_and, Nat.reduceAdd, eq_self_iff_true]
theorem g50_38 {d : Nat} {a1 s0 : Int} {x2 x3 x4 x5 x6 x7 : Option aV} {w : aW} {Q : Option aV → aW → Prop} : T (d + 1) 50 38 [some (vr 167), some (vi a1), x2, x3, x4, x5, x6, x7] [vi s0] w Q = ((¬ s0 = 0 → T d 167 0 [some (vr 167), some (vi a1), none, none, none, none, none] [] w (fun r w1 => T (d + 1) 50 49 [some (vr 167), some (vi a1), x2, x3, x4, x5, x6, x7] (r.toList ++ []) w1 Q)) ∧ (¬ (¬ s0 = 0) → Q (some (vi (-3))) w)) := by
  rw [T_if_ne 44 c50_38 rfl, T_aload_0 c50_44, T_iload_1 c50_45, T_invv (es := [some (vr 167), some (vi a1), none, none, none, none, none]) (st := [vi a1, vr 167]) (ks := [2, 0]) (n := 7) (c := 12) (k := 167) (as := [vi a1]) (rest := []) c50_46 (by decide +kernel) (by decide +kernel) (by decide +kernel) (by decide) rfl rfl (Nat.le_of_ble_eq_true rfl), T_sipush c50_41, T_ireti c50_43 (by decide +kernel)]
  all_goals try simp only [Int.reduceToNat, lay_167, true_and, Nat.reduceAdd, eq_self_iff_true]
theorem g50_49 {d : Nat} {a2 s0 : Int} {x1 x3 x4 x5 x6 x7 : Option aV} {w : aW} {Q : Option aV → aW → Prop} : T d 50 49 [some (vr 167), x1, some (vi a2), x3, x4, x5, x6, x7] [vi s0] w Q = ((s0 = (-1) → T d 50 59 [some (vr 167), x1, some (vi a2), some (vi s0), x4, x5, x6, x7] [] w Q) ∧ (¬ (s0 = (-1)) → ((¬ a2 = 0 → ((¬ a2 = 1 → T d 50 91 [some (vr 167), x1, some (vi a2), some (vi s0), some (vi (w 168 5)), some (vi 0), x6, x7] [] w Q) ∧ (¬ (¬ a2 = 1) → ((0 ≤ w32 ((w32 (1024 * s0)) + (w 168 5)) ∧ w32 ((w32 (1024 * s0)) + (w 168 5)) < 41984) ∧ Q (some (vi (w 178 (w32 ((w32 (1024 * s0)) + (w 168 5)))))) w)))) ∧ (¬ (¬ a2 = 0) → T d 50 59 [some (vr 167), x1, some (vi a2), some (vi s0), x4, x5, x6, x7] [] w Q)))) := by
  rw [T_istore_3 c50_49, T_iload_3 c50_50, T_sipush c50_51, T_icmp_eq 59 c50_52 rfl, T_iload_2 c50_55, T_if_ne 61 c50_56 rfl, T_aload_0 c50_61, T_getR 12 1 1 c50_62 rfl rfl rfl rfl, rf_167_1, T_sipush c50_65, T_iald c50_66, T_istore_4 c50_67, T_iload_2 c50_69, T_sipush c50_70, T_icmp_ne 88 c50_71 rfl, T_sipush c50_88, T_istore_5 c50_89, T_aload_0 c50_74, T_getR 12 23 23 c50_75 rfl rfl rfl rfl, rf_167_23, T_sipush c50_78, T_iload_3 c50_81, T_imul c50_82, T_iload_4 c50_83, T_iadd c50_85, T_iald c50_86, T_ireti c50_87 (by decide +kernel)]
  all_goals try simp only [Int.reduceLE, Int.reduceLT, Int.reduceToNat, and_self, lay_167, ld_168, ld_178, true_and, Nat.reduceAdd, eq_self_iff_true]
theorem g50_59 {d : Nat} {a3 : Int} {x0 x1 x2 x4 x5 x6 x7 : Option aV} {w : aW} {Q : Option aV → aW → Prop} : T d 50 59 [x0, x1, x2, some (vi a3), x4, x5, x6, x7] [] w Q = Q (some (vi a3)) w := by
  rw [T_iload_3 c50_59, T_ireti c50_60 (by decide +kernel)]
  all_goals try simp only [true_and, Nat.reduceAdd, eq_self_iff_true]
theorem g50_91 {d : Nat} {a3 a4 a5 : Int} {x1 x2 x6 x7 : Option aV} {w : aW} {Q : Option aV → aW → Prop} : T d 50 91 [some (vr 167), x1, x2, some (vi a3), some (vi a4), some (vi a5), x6, x7] [] w Q = ((a3 ≤ a5 → Q (some (vi (-1))) w) ∧ (¬ (a3 ≤ a5) → ((0 ≤ w32 ((w32 (1024 * (w32 (a3 - a5)))) + a4) ∧ w32 ((w32 (1024 * (w32 (a3 - a5)))) + a4) < 41984) ∧ T d 50 118 [some (vr 167), x1, x2, some (vi a3), some (vi a4), some (vi a5), some (vi (w 178 (w32 ((w32 (1024 * (w32 (a3 - a5)))) + a4)))), some (vi (-1))] [] w Q))) := by
  rw [T_iload_5 c50_91, T_iload_3 c50_93, T_icmp_ge 223 c50_94 rfl, T_sipush c50_223, T_ireti c50_224 (by decide +kernel), T_aload_0 c50_97, T_getR 12 23 23 c50_98 rfl rfl rfl rfl, rf_167_23, T_sipush c50_101, T_iload_3 c50_104, T_iload_5 c50_105, T_isub c50_107, T_imul c50_108, T_iload_4 c50_109, T_iadd c50_111, T_iald c50_112, T_istore_6 c50_113, T_sipush c50_115, T_istore_7 c50_116]
  all_goals try simp only [Int.reduceToNat, lay_167, ld_178, true_and, Nat.reduceAdd, eq_self_iff_true]
theorem g50_118 {d : Nat} {a3 a4 a5 a7 : Int} {x1 x2 x6 : Option aV} {w : aW} {Q : Option aV → aW → Prop} : T d 50 118 [some (vr 167), x1, x2, some (vi a3), some (vi a4), some (vi a5), x6, some (vi a7)] [] w Q = ((¬ a7 = (-1) → T d 50 154 [some (vr 167), x1, x2, some (vi a3), some (vi a4), some (vi a5), x6, some (vi a7)] [vi (jxor a4 (jshl 1 a7)), vr 174, vi (w32 (1024 * (w32 ((w32 (a3 - a5)) - 1)))), vr 178] w Q) ∧ (¬ (¬ a7 = (-1)) → T d 50 154 [some (vr 167), x1, x2, some (vi a3), some (vi a4), some (vi a5), x6, some (vi a7)] [vi a4, vr 174, vi (w32 (1024 * (w32 ((w32 (a3 - a5)) - 1)))), vr 178] w Q)) := by
  rw [T_aload_0 c50_118, T_getR 12 23 23 c50_119 rfl rfl rfl rfl, rf_167_23, T_sipush c50_122, T_iload_3 c50_125, T_iload_5 c50_126, T_isub c50_128, T_sipush c50_129, T_isub c50_130, T_imul c50_131, T_aload_0 c50_132, T_getR 12 19 19 c50_133 rfl rfl rfl rfl, rf_167_19, T_iload_7 c50_136, T_sipush c50_138, T_icmp_ne 147 c50_139 rfl, T_iload_4 c50_147, T_sipush c50_149, T_iload_7 c50_150, T_ishl c50_152, T_ixor c50_153, T_iload_4 c50_142, T_goto 154 c50_144 rfl]
  all_goals try simp only [Int.reduceToNat, lay_167, true_and, Nat.reduceAdd, eq_self_iff_true]
theorem g50_154 {d : Nat} {a7 s1 s3 : Int} {s0 s2 : Nat} {x0 x1 x2 x3 x4 x5 x6 : Option aV} {w : aW} {Q : Option aV → aW → Prop} : T d 50 154 [x0, x1, x2, x3, x4, x5, x6, some (vi a7)] [vi s3, vr s2, vi s1, vr s0] w Q = (ldok s2 s3 w ∧ (ldok s0 (w32 (s1 + (w s2 s3))) w ∧ ((¬ a7 = (-1) → T d 50 168 [x0, x1, x2, x3, x4, x5, x6, some (vi a7)] [vi 1, vi (w s0 (w32 (s1 + (w s2 s3))))] w Q) ∧ (¬ (¬ a7 = (-1)) → T d 50 168 [x0, x1, x2, x3, x4, x5, x6, some (vi a7)] [vi 0, vi (w s0 (w32 (s1 + (w s2 s3))))] w Q)))) := by
  rw [T_iald c50_154, T_iadd c50_155, T_iald c50_156, T_iload_7 c50_157, T_sipush c50_159, T_icmp_ne 167 c50_160 rfl, T_sipush c50_167, T_sipush c50_163, T_goto 168 c50_164 rfl]
  all_goals try simp only [Int.reduceToNat, true_and, Nat.reduceAdd, eq_self_iff_true]
theorem g50_168 {d : Nat} {a2 a4 a5 a6 a7 s0 s1 : Int} {x1 x3 : Option aV} {w : aW} {Q : Option aV → aW → Prop} : T d 50 168 [some (vr 167), x1, some (vi a2), x3, some (vi a4), some (vi a5), some (vi a6), some (vi a7)] [vi s1, vi s0] w Q = ((w32 (s0 + s1) = a6 → ((¬ a5 = w32 (a2 - 10) → ((¬ a7 = (-1) → T d 50 214 [some (vr 167), x1, some (vi a2), x3, some (vi a4), some (vi a5), some (vi a6), some (vi a7)] [vi (jxor a4 (jshl 1 a7)), vr 174] w Q) ∧ (¬ (¬ a7 = (-1)) → T d 50 214 [some (vr 167), x1, some (vi a2), x3, some (vi a4), some (vi a5), some (vi a6), some (vi a7)] [vi a4, vr 174] w Q))) ∧ (¬ (¬ a5 = w32 (a2 - 10)) → Q (some (vi a7)) w))) ∧ (¬ (w32 (s0 + s1) = a6) → T d 50 118 [some (vr 167), x1, some (vi a2), x3, some (vi a4), some (vi a5), some (vi a6), some (vi (w32 (a7 + 1)))] [] w Q)) := by
  rw [T_iadd c50_168, T_iload_6 c50_169, T_icmp_eq 180 c50_171 rfl, T_iload_5 c50_180, T_iload_2 c50_182, T_sipush c50_183, T_isub c50_185, T_icmp_ne 192 c50_186 rfl, T_aload_0 c50_192, T_getR 12 19 19 c50_193 rfl rfl rfl rfl, rf_167_19, T_iload_7 c50_196, T_sipush c50_198, T_icmp_ne 207 c50_199 rfl, T_iload_4 c50_207, T_sipush c50_209, T_iload_7 c50_210, T_ishl c50_212, T_ixor c50_213, T_iload_4 c50_202, T_goto 214 c50_204 rfl, T_iload_7 c50_189, T_ireti c50_191 (by decide +kernel), T_iinc_7 c50_174, T_goto 118 c50_177 rfl]
  all_goals try simp only [Int.reduceToNat, lay_167, true_and, Nat.reduceAdd, eq_self_iff_true]
theorem g50_214 {d : Nat} {a5 s1 : Int} {s0 : Nat} {x0 x1 x2 x3 x4 x6 x7 : Option aV} {w : aW} {Q : Option aV → aW → Prop} : T d 50 214 [x0, x1, x2, x3, x4, some (vi a5), x6, x7] [vi s1, vr s0] w Q = (ldok s0 s1 w ∧ T d 50 91 [x0, x1, x2, x3, some (vi (w s0 s1)), some (vi (w32 (a5 + 1))), x6, x7] [] w Q) := by
  rw [T_iald c50_214, T_istore_4 c50_215, T_iinc_5 c50_217, T_goto 91 c50_220 rfl]
  all_goals try simp only [true_and, Nat.reduceAdd, eq_self_iff_true]
/-! 51: StringHands.wakes.(I)I -/
theorem c51_0 : cd 51 0 = some (.aload 0, 1) := by decide +kernel
theorem c51_1 : cd 51 1 = some (.iload 1, 1) := by decide +kernel
theorem c51_2 : cd 51 2 = some (.invokevirtual 131, 3) := by decide +kernel
theorem c51_5 : cd 51 5 = some (.ifCond .ne 11, 3) := by decide +kernel
theorem c51_8 : cd 51 8 = some (.sipush (-3), 2) := by decide +kernel
theorem c51_10 : cd 51 10 = some (.ireturn, 1) := by decide +kernel
theorem c51_11 : cd 51 11 = some (.aload 0, 1) := by decide +kernel
theorem c51_12 : cd 51 12 = some (.invokevirtual 155, 3) := by decide +kernel
theorem c51_15 : cd 51 15 = some (.astore 2, 1) := by decide +kernel
theorem c51_16 : cd 51 16 = some (.aload 0, 1) := by decide +kernel
theorem c51_17 : cd 51 17 = some (.getfield 2830, 3) := by decide +kernel
theorem c51_20 : cd 51 20 = some (.aload 2, 1) := by decide +kernel
theorem c51_21 : cd 51 21 = some (.aload 0, 1) := by decide +kernel
theorem c51_22 : cd 51 22 = some (.getfield 2854, 3) := by decide +kernel
theorem c51_25 : cd 51 25 = some (.getfield 1536, 3) := by decide +kernel
theorem c51_28 : cd 51 28 = some (.iload 1, 1) := by decide +kernel
theorem c51_29 : cd 51 29 = some (.invokevirtual 168, 3) := by decide +kernel
theorem c51_32 : cd 51 32 = some (.ifCond .eq 38, 3) := by decide +kernel
theorem c51_35 : cd 51 35 = some (.sipush 100, 2) := by decide +kernel
theorem c51_37 : cd 51 37 = some (.ireturn, 1) := by decide +kernel
theorem c51_38 : cd 51 38 = some (.sipush 0, 1) := by decide +kernel
theorem c51_39 : cd 51 39 = some (.istore 3, 1) := by decide +kernel
theorem c51_40 : cd 51 40 = some (.iload 3, 1) := by decide +kernel
theorem c51_41 : cd 51 41 = some (.aload 0, 1) := by decide +kernel
theorem c51_42 : cd 51 42 = some (.getfield 2850, 3) := by decide +kernel
theorem c51_45 : cd 51 45 = some (.getfield 2052, 3) := by decide +kernel
theorem c51_48 : cd 51 48 = some (.if_icmp .ge 82, 3) := by decide +kernel
theorem c51_51 : cd 51 51 = some (.aload 0, 1) := by decide +kernel
theorem c51_52 : cd 51 52 = some (.getfield 2830, 3) := by decide +kernel
theorem c51_55 : cd 51 55 = some (.aload 2, 1) := by decide +kernel
theorem c51_56 : cd 51 56 = some (.aload 0, 1) := by decide +kernel
theorem c51_57 : cd 51 57 = some (.getfield 2854, 3) := by decide +kernel
theorem c51_60 : cd 51 60 = some (.getfield 1536, 3) := by decide +kernel
theorem c51_63 : cd 51 63 = some (.sipush 1, 1) := by decide +kernel
theorem c51_64 : cd 51 64 = some (.iload 3, 1) := by decide +kernel
theorem c51_65 : cd 51 65 = some (.ishl, 1) := by decide +kernel
theorem c51_66 : cd 51 66 = some (.ixor, 1) := by decide +kernel
theorem c51_67 : cd 51 67 = some (.iload 1, 1) := by decide +kernel
theorem c51_68 : cd 51 68 = some (.invokevirtual 168, 3) := by decide +kernel
theorem c51_71 : cd 51 71 = some (.ifCond .eq 76, 3) := by decide +kernel
theorem c51_74 : cd 51 74 = some (.iload 3, 1) := by decide +kernel
theorem c51_75 : cd 51 75 = some (.ireturn, 1) := by decide +kernel
theorem c51_76 : cd 51 76 = some (.iinc 3 1, 3) := by decide +kernel
theorem c51_79 : cd 51 79 = some (.goto 40, 3) := by decide +kernel
theorem c51_82 : cd 51 82 = some (.sipush (-1), 1) := by decide +kernel
theorem c51_83 : cd 51 83 = some (.ireturn, 1) := by decide +kernel
theorem g51_0 {d : Nat} {a1 : Int} {x2 x3 : Option aV} {w : aW} {Q : Option aV → aW → Prop} : T (d + 1) 51 0 [some (vr 0), some (vi a1), x2, x3] [] w Q = T d 131 0 [some (vr 0), some (vi a1)] [] w (fun r w1 => T (d + 1) 51 5 [some (vr 0), some (vi a1), x2, x3] (r.toList ++ []) w1 Q) := by
  rw [T_aload_0 c51_0, T_iload_1 c51_1, T_invv (es := [some (vr 0), some (vi a1)]) (st := [vi a1, vr 0]) (ks := [2, 0]) (n := 2) (c := 11) (k := 0) (as := [vi a1]) (rest := []) c51_2 (by decide +kernel) (by decide +kernel) (by decide +kernel) (by decide) rfl rfl (Nat.le_of_ble_eq_true rfl)]
  all_goals try simp only [lay_0, true_and, Nat.reduceAdd, eq_self_iff_true]
theorem g51_5 {d : Nat} {s0 : Int} {x1 x2 x3 : Option aV} {w : aW} {Q : Option aV → aW → Prop} : T (d + 1) 51 5 [some (vr 0), x1, x2, x3] [vi s0] w Q = ((¬ s0 = 0 → T d 155 0 [some (vr 0)] [] w (fun r w1 => T (d + 1) 51 15 [some (vr 0), x1, x2, x3] (r.toList ++ []) w1 Q)) ∧ (¬ (¬ s0 = 0) → Q (some (vi (-3))) w)) := by
  rw [T_if_ne 11 c51_5 rfl, T_aload_0 c51_11, T_invv (es := [some (vr 0)]) (st := [vr 0]) (ks := [2]) (n := 1) (c := 11) (k := 0) (as := []) (rest := []) c51_12 (by decide +kernel) (by decide +kernel) (by decide +kernel) (by decide) rfl rfl (Nat.le_of_ble_eq_true rfl), T_sipush c51_8, T_ireti c51_10 (by decide +kernel)]
  all_goals try simp only [Int.reduceToNat, lay_0, true_and, Nat.reduceAdd, eq_self_iff_true]
theorem g51_15 {d : Nat} {a1 : Int} {s0 : Nat} {x2 x3 : Option aV} {w : aW} {Q : Option aV → aW → Prop} : T (d + 1) 51 15 [some (vr 0), some (vi a1), x2, x3] [vr s0] w Q = T d 168 0 [some (vr 27), some (vr s0), some (vi (w 79 0)), some (vi a1), none, none] [] w (fun r w1 => T (d + 1) 51 32 [some (vr 0), some (vi a1), some (vr s0), x3] (r.toList ++ []) w1 Q) := by
  rw [T_astore_2 c51_15, T_aload_0 c51_16, T_getR 11 3 3 c51_17 rfl rfl rfl rfl, rf_0_3, T_aload_2 c51_20, T_aload_0 c51_21, T_getR 11 9 9 c51_22 rfl rfl rfl rfl, rf_0_9, T_getI 6 0 0 c51_25 rfl rfl rfl rfl, T_iload_1 c51_28, T_invv (es := [some (vr 27), some (vr s0), some (vi (w 79 0)), some (vi a1), none, none]) (st := [vi a1, vi (w 79 0), vr s0, vr 27]) (ks := [2, 2, 0, 0]) (n := 6) (c := 10) (k := 27) (as := [vr s0, vi (w 79 0), vi a1]) (rest := []) c51_29 (by decide +kernel) (by decide +kernel) (by decide +kernel) (by decide) rfl rfl (Nat.le_of_ble_eq_true rfl)]
  all_goals try simp only [lay_0, lay_27, lay_79, true_and, Nat.reduceAdd, eq_self_iff_true]
theorem g51_32 {d : Nat} {s0 : Int} {x0 x1 x2 x3 : Option aV} {w : aW} {Q : Option aV → aW → Prop} : T d 51 32 [x0, x1, x2, x3] [vi s0] w Q = ((s0 = 0 → T d 51 40 [x0, x1, x2, some (vi 0)] [] w Q) ∧ (¬ (s0 = 0) → Q (some (vi 100)) w)) := by
  rw [T_if_eq 38 c51_32 rfl, T_sipush c51_38, T_istore_3 c51_39, T_sipush c51_35, T_ireti c51_37 (by decide +kernel)]
  all_goals try simp only [Int.reduceToNat, true_and, Nat.reduceAdd, eq_self_iff_true]
theorem g51_40 {d : Nat} {a1 a3 : Int} {r2 : Nat} {w : aW} {Q : Option aV → aW → Prop} : T (d + 1) 51 40 [some (vr 0), some (vi a1), some (vr r2), some (vi a3)] [] w Q = ((w 69 1 ≤ a3 → Q (some (vi (-1))) w) ∧ (¬ (w 69 1 ≤ a3) → T d 168 0 [some (vr 27), some (vr r2), some (vi (jxor (w 79 0) (jshl 1 a3))), some (vi a1), none, none] [] w (fun r w1 => T (d + 1) 51 71 [some (vr 0), some (vi a1), some (vr r2), some (vi a3)] (r.toList ++ []) w1 Q))) := by
  rw [T_iload_3 c51_40, T_aload_0 c51_41, T_getR 11 8 8 c51_42 rfl rfl rfl rfl, rf_0_8, T_getI 8 1 1 c51_45 rfl rfl rfl rfl, T_icmp_ge 82 c51_48 rfl, T_sipush c51_82, T_ireti c51_83 (by decide +kernel), T_aload_0 c51_51, T_getR 11 3 3 c51_52 rfl rfl rfl rfl, rf_0_3, T_aload_2 c51_55, T_aload_0 c51_56, T_getR 11 9 9 c51_57 rfl rfl rfl rfl, rf_0_9, T_getI 6 0 0 c51_60 rfl rfl rfl rfl, T_sipush c51_63, T_iload_3 c51_64, T_ishl c51_65, T_ixor c51_66, T_iload_1 c51_67, T_invv (es := [some (vr 27), some (vr r2), some (vi (jxor (w 79 0) (jshl 1 a3))), some (vi a1), none, none]) (st := [vi a1, vi (jxor (w 79 0) (jshl 1 a3)), vr r2, vr 27]) (ks := [2, 2, 0, 0]) (n := 6) (c := 10) (k := 27) (as := [vr r2, vi (jxor (w 79 0) (jshl 1 a3)), vi a1]) (rest := []) c51_68 (by decide +kernel) (by decide +kernel) (by decide +kernel) (by decide) rfl rfl (Nat.le_of_ble_eq_true rfl)]
  all_goals try simp only [Int.reduceToNat, lay_0, lay_27, lay_69, lay_79, true_and, Nat.reduceAdd, eq_self_iff_true]
theorem g51_71 {d : Nat} {a3 s0 : Int} {x0 x1 x2 : Option aV} {w : aW} {Q : Option aV → aW → Prop} : T d 51 71 [x0, x1, x2, some (vi a3)] [vi s0] w Q = ((s0 = 0 → T d 51 40 [x0, x1, x2, some (vi (w32 (a3 + 1)))] [] w Q) ∧ (¬ (s0 = 0) → Q (some (vi a3)) w)) := by
  rw [T_if_eq 76 c51_71 rfl, T_iinc_3 c51_76, T_goto 40 c51_79 rfl, T_iload_3 c51_74, T_ireti c51_75 (by decide +kernel)]
  all_goals try simp only [Int.reduceToNat, true_and, Nat.reduceAdd, eq_self_iff_true]
/-! 52: StringHandsModel.wakes.(I)I -/
theorem c52_0 : cd 52 0 = some (.aload 0, 1) := by decide +kernel
theorem c52_1 : cd 52 1 = some (.sipush 0, 1) := by decide +kernel
theorem c52_2 : cd 52 2 = some (.putfield 3072, 3) := by decide +kernel
theorem c52_5 : cd 52 5 = some (.aload 0, 1) := by decide +kernel
theorem c52_6 : cd 52 6 = some (.iload 1, 1) := by decide +kernel
theorem c52_7 : cd 52 7 = some (.i2l, 1) := by decide +kernel
theorem c52_8 : cd 52 8 = some (.invokevirtual 133, 3) := by decide +kernel
theorem c52_11 : cd 52 11 = some (.ifCond .ne 17, 3) := by decide +kernel
theorem c52_14 : cd 52 14 = some (.sipush (-3), 2) := by decide +kernel
theorem c52_16 : cd 52 16 = some (.ireturn, 1) := by decide +kernel
theorem c52_17 : cd 52 17 = some (.aload 0, 1) := by decide +kernel
theorem c52_18 : cd 52 18 = some (.invokevirtual 156, 3) := by decide +kernel
theorem c52_21 : cd 52 21 = some (.aload 0, 1) := by decide +kernel
theorem c52_22 : cd 52 22 = some (.aload 0, 1) := by decide +kernel
theorem c52_23 : cd 52 23 = some (.getfield 3078, 3) := by decide +kernel
theorem c52_26 : cd 52 26 = some (.sipush 5, 1) := by decide +kernel
theorem c52_27 : cd 52 27 = some (.iaload, 1) := by decide +kernel
theorem c52_28 : cd 52 28 = some (.iload 1, 1) := by decide +kernel
theorem c52_29 : cd 52 29 = some (.invokevirtual 169, 3) := by decide +kernel
theorem c52_32 : cd 52 32 = some (.ifCond .eq 38, 3) := by decide +kernel
theorem c52_35 : cd 52 35 = some (.sipush 100, 2) := by decide +kernel
theorem c52_37 : cd 52 37 = some (.ireturn, 1) := by decide +kernel
theorem c52_38 : cd 52 38 = some (.sipush 0, 1) := by decide +kernel
theorem c52_39 : cd 52 39 = some (.istore 2, 1) := by decide +kernel
theorem c52_40 : cd 52 40 = some (.iload 2, 1) := by decide +kernel
theorem c52_41 : cd 52 41 = some (.aload 0, 1) := by decide +kernel
theorem c52_42 : cd 52 42 = some (.getfield 3078, 3) := by decide +kernel
theorem c52_45 : cd 52 45 = some (.sipush 2, 1) := by decide +kernel
theorem c52_46 : cd 52 46 = some (.iaload, 1) := by decide +kernel
theorem c52_47 : cd 52 47 = some (.if_icmp .ge 76, 3) := by decide +kernel
theorem c52_50 : cd 52 50 = some (.aload 0, 1) := by decide +kernel
theorem c52_51 : cd 52 51 = some (.aload 0, 1) := by decide +kernel
theorem c52_52 : cd 52 52 = some (.getfield 3078, 3) := by decide +kernel
theorem c52_55 : cd 52 55 = some (.sipush 5, 1) := by decide +kernel
theorem c52_56 : cd 52 56 = some (.iaload, 1) := by decide +kernel
theorem c52_57 : cd 52 57 = some (.sipush 1, 1) := by decide +kernel
theorem c52_58 : cd 52 58 = some (.iload 2, 1) := by decide +kernel
theorem c52_59 : cd 52 59 = some (.ishl, 1) := by decide +kernel
theorem c52_60 : cd 52 60 = some (.ixor, 1) := by decide +kernel
theorem c52_61 : cd 52 61 = some (.iload 1, 1) := by decide +kernel
theorem c52_62 : cd 52 62 = some (.invokevirtual 169, 3) := by decide +kernel
theorem c52_65 : cd 52 65 = some (.ifCond .eq 70, 3) := by decide +kernel
theorem c52_68 : cd 52 68 = some (.iload 2, 1) := by decide +kernel
theorem c52_69 : cd 52 69 = some (.ireturn, 1) := by decide +kernel
theorem c52_70 : cd 52 70 = some (.iinc 2 1, 3) := by decide +kernel
theorem c52_73 : cd 52 73 = some (.goto 40, 3) := by decide +kernel
theorem c52_76 : cd 52 76 = some (.sipush (-1), 1) := by decide +kernel
theorem c52_77 : cd 52 77 = some (.ireturn, 1) := by decide +kernel
theorem g52_0 {d : Nat} {a1 : Int} {x2 : Option aV} {w : aW} {Q : Option aV → aW → Prop} : T (d + 1) 52 0 [some (vr 167), some (vi a1), x2] [] w Q = T d 133 0 [some (vr 167), some (vl a1), none] [] (iup w 167 0 0) (fun r w1 => T (d + 1) 52 11 [some (vr 167), some (vi a1), x2] (r.toList ++ []) w1 Q) := by
  rw [T_aload_0 c52_0, T_sipush c52_1, T_putI 12 0 0 c52_2 rfl rfl rfl rfl, T_aload_0 c52_5, T_iload_1 c52_6, T_i2l c52_7, T_invv (es := [some (vr 167), some (vl a1), none]) (st := [vl a1, vr 167]) (ks := [2, 1]) (n := 3) (c := 12) (k := 167) (as := [vl a1]) (rest := []) c52_8 (by decide +kernel) (by decide +kernel) (by decide +kernel) (by decide) rfl rfl (Nat.le_of_ble_eq_true rfl)]
  all_goals try simp only [lay_167, true_and, Nat.reduceAdd, eq_self_iff_true]
theorem g52_11 {d : Nat} {s0 : Int} {x1 x2 : Option aV} {w : aW} {Q : Option aV → aW → Prop} : T (d + 1) 52 11 [some (vr 167), x1, x2] [vi s0] w Q = ((¬ s0 = 0 → T d 156 0 [some (vr 167), none] [] w (fun r w1 => T (d + 1) 52 21 [some (vr 167), x1, x2] (r.toList ++ []) w1 Q)) ∧ (¬ (¬ s0 = 0) → Q (some (vi (-3))) w)) := by
  rw [T_if_ne 17 c52_11 rfl, T_aload_0 c52_17, T_invv (es := [some (vr 167), none]) (st := [vr 167]) (ks := [2]) (n := 2) (c := 12) (k := 167) (as := []) (rest := []) c52_18 (by decide +kernel) (by decide +kernel) (by decide +kernel) (by decide) rfl rfl (Nat.le_of_ble_eq_true rfl), T_sipush c52_14, T_ireti c52_16 (by decide +kernel)]
  all_goals try simp only [Int.reduceToNat, lay_167, true_and, Nat.reduceAdd, eq_self_iff_true]
theorem g52_21 {d : Nat} {a1 : Int} {x2 : Option aV} {w : aW} {Q : Option aV → aW → Prop} : T (d + 1) 52 21 [some (vr 167), some (vi a1), x2] [] w Q = T d 169 0 [some (vr 167), some (vi (w 168 5)), some (vi a1), none, none] [] w (fun r w1 => T (d + 1) 52 32 [some (vr 167), some (vi a1), x2] (r.toList ++ []) w1 Q) := by
  rw [T_aload_0 c52_21, T_aload_0 c52_22, T_getR 12 1 1 c52_23 rfl rfl rfl rfl, rf_167_1, T_sipush c52_26, T_iald c52_27, T_iload_1 c52_28, T_invv (es := [some (vr 167), some (vi (w 168 5)), some (vi a1), none, none]) (st := [vi a1, vi (w 168 5), vr 167]) (ks := [2, 0, 0]) (n := 5) (c := 12) (k := 167) (as := [vi (w 168 5), vi a1]) (rest := []) c52_29 (by decide +kernel) (by decide +kernel) (by decide +kernel) (by decide) rfl rfl (Nat.le_of_ble_eq_true rfl)]
  all_goals try simp only [Int.reduceLE, Int.reduceLT, and_self, lay_167, ld_168, true_and, Nat.reduceAdd, eq_self_iff_true]
theorem g52_32 {d : Nat} {s0 : Int} {x0 x1 x2 : Option aV} {w : aW} {Q : Option aV → aW → Prop} : T d 52 32 [x0, x1, x2] [vi s0] w Q = ((s0 = 0 → T d 52 40 [x0, x1, some (vi 0)] [] w Q) ∧ (¬ (s0 = 0) → Q (some (vi 100)) w)) := by
  rw [T_if_eq 38 c52_32 rfl, T_sipush c52_38, T_istore_2 c52_39, T_sipush c52_35, T_ireti c52_37 (by decide +kernel)]
  all_goals try simp only [Int.reduceToNat, true_and, Nat.reduceAdd, eq_self_iff_true]
theorem g52_40 {d : Nat} {a1 a2 : Int} {w : aW} {Q : Option aV → aW → Prop} : T (d + 1) 52 40 [some (vr 167), some (vi a1), some (vi a2)] [] w Q = ((w 168 2 ≤ a2 → Q (some (vi (-1))) w) ∧ (¬ (w 168 2 ≤ a2) → T d 169 0 [some (vr 167), some (vi (jxor (w 168 5) (jshl 1 a2))), some (vi a1), none, none] [] w (fun r w1 => T (d + 1) 52 65 [some (vr 167), some (vi a1), some (vi a2)] (r.toList ++ []) w1 Q))) := by
  rw [T_iload_2 c52_40, T_aload_0 c52_41, T_getR 12 1 1 c52_42 rfl rfl rfl rfl, rf_167_1, T_sipush c52_45, T_iald c52_46, T_icmp_ge 76 c52_47 rfl, T_sipush c52_76, T_ireti c52_77 (by decide +kernel), T_aload_0 c52_50, T_aload_0 c52_51, T_getR 12 1 1 c52_52 rfl rfl rfl rfl, rf_167_1, T_sipush c52_55, T_iald c52_56, T_sipush c52_57, T_iload_2 c52_58, T_ishl c52_59, T_ixor c52_60, T_iload_1 c52_61, T_invv (es := [some (vr 167), some (vi (jxor (w 168 5) (jshl 1 a2))), some (vi a1), none, none]) (st := [vi a1, vi (jxor (w 168 5) (jshl 1 a2)), vr 167]) (ks := [2, 0, 0]) (n := 5) (c := 12) (k := 167) (as := [vi (jxor (w 168 5) (jshl 1 a2)), vi a1]) (rest := []) c52_62 (by decide +kernel) (by decide +kernel) (by decide +kernel) (by decide) rfl rfl (Nat.le_of_ble_eq_true rfl)]
  all_goals try simp only [Int.reduceLE, Int.reduceLT, Int.reduceToNat, and_self, lay_167, ld_168, true_and, Nat.reduceAdd, eq_self_iff_true]
theorem g52_65 {d : Nat} {a2 s0 : Int} {x0 x1 : Option aV} {w : aW} {Q : Option aV → aW → Prop} : T d 52 65 [x0, x1, some (vi a2)] [vi s0] w Q = ((s0 = 0 → T d 52 40 [x0, x1, some (vi (w32 (a2 + 1)))] [] w Q) ∧ (¬ (s0 = 0) → Q (some (vi a2)) w)) := by
  rw [T_if_eq 70 c52_65 rfl, T_iinc_2 c52_70, T_goto 40 c52_73 rfl, T_iload_2 c52_68, T_ireti c52_69 (by decide +kernel)]
  all_goals try simp only [Int.reduceToNat, true_and, Nat.reduceAdd, eq_self_iff_true]
/-! 53: StringHands.cure.(II)I -/
theorem c53_0 : cd 53 0 = some (.iload 2, 1) := by decide +kernel
theorem c53_1 : cd 53 1 = some (.ifCond .lt 9, 3) := by decide +kernel
theorem c53_4 : cd 53 4 = some (.iload 2, 1) := by decide +kernel
theorem c53_5 : cd 53 5 = some (.sipush 1, 1) := by decide +kernel
theorem c53_6 : cd 53 6 = some (.if_icmp .le 12, 3) := by decide +kernel
theorem c53_9 : cd 53 9 = some (.sipush (-2), 2) := by decide +kernel
theorem c53_11 : cd 53 11 = some (.ireturn, 1) := by decide +kernel
theorem c53_12 : cd 53 12 = some (.aload 0, 1) := by decide +kernel
theorem c53_13 : cd 53 13 = some (.iload 1, 1) := by decide +kernel
theorem c53_14 : cd 53 14 = some (.invokevirtual 131, 3) := by decide +kernel
theorem c53_17 : cd 53 17 = some (.ifCond .ne 23, 3) := by decide +kernel
theorem c53_20 : cd 53 20 = some (.sipush (-3), 2) := by decide +kernel
theorem c53_22 : cd 53 22 = some (.ireturn, 1) := by decide +kernel
theorem c53_23 : cd 53 23 = some (.aload 0, 1) := by decide +kernel
theorem c53_24 : cd 53 24 = some (.getfield 2830, 3) := by decide +kernel
theorem c53_27 : cd 53 27 = some (.aload 0, 1) := by decide +kernel
theorem c53_28 : cd 53 28 = some (.getfield 2850, 3) := by decide +kernel
theorem c53_31 : cd 53 31 = some (.aload 0, 1) := by decide +kernel
theorem c53_32 : cd 53 32 = some (.getfield 2854, 3) := by decide +kernel
theorem c53_35 : cd 53 35 = some (.aload 0, 1) := by decide +kernel
theorem c53_36 : cd 53 36 = some (.getfield 2822, 3) := by decide +kernel
theorem c53_39 : cd 53 39 = some (.iload 1, 1) := by decide +kernel
theorem c53_40 : cd 53 40 = some (.invokevirtual 170, 3) := by decide +kernel
theorem c53_43 : cd 53 43 = some (.istore 3, 1) := by decide +kernel
theorem c53_44 : cd 53 44 = some (.iload 3, 1) := by decide +kernel
theorem c53_45 : cd 53 45 = some (.sipush (-1), 1) := by decide +kernel
theorem c53_46 : cd 53 46 = some (.if_icmp .ne 51, 3) := by decide +kernel
theorem c53_49 : cd 53 49 = some (.sipush (-1), 1) := by decide +kernel
theorem c53_50 : cd 53 50 = some (.ireturn, 1) := by decide +kernel
theorem c53_51 : cd 53 51 = some (.iload 2, 1) := by decide +kernel
theorem c53_52 : cd 53 52 = some (.ifCond .ne 62, 3) := by decide +kernel
theorem c53_55 : cd 53 55 = some (.iload 3, 1) := by decide +kernel
theorem c53_56 : cd 53 56 = some (.invokestatic 132, 3) := by decide +kernel
theorem c53_59 : cd 53 59 = some (.goto 63, 3) := by decide +kernel
theorem c53_62 : cd 53 62 = some (.iload 3, 1) := by decide +kernel
theorem c53_63 : cd 53 63 = some (.ireturn, 1) := by decide +kernel
theorem g53_0 {d : Nat} {a1 a2 : Int} {x3 : Option aV} {w : aW} {Q : Option aV → aW → Prop} : T (d + 1) 53 0 [some (vr 0), some (vi a1), some (vi a2), x3] [] w Q = ((a2 < 0 → T (d + 1) 53 9 [some (vr 0), some (vi a1), some (vi a2), x3] [] w Q) ∧ (¬ (a2 < 0) → ((a2 ≤ 1 → T d 131 0 [some (vr 0), some (vi a1)] [] w (fun r w1 => T (d + 1) 53 17 [some (vr 0), some (vi a1), some (vi a2), x3] (r.toList ++ []) w1 Q)) ∧ (¬ (a2 ≤ 1) → T (d + 1) 53 9 [some (vr 0), some (vi a1), some (vi a2), x3] [] w Q)))) := by
  rw [T_iload_2 c53_0, T_if_lt 9 c53_1 rfl, T_iload_2 c53_4, T_sipush c53_5, T_icmp_le 12 c53_6 rfl, T_aload_0 c53_12, T_iload_1 c53_13, T_invv (es := [some (vr 0), some (vi a1)]) (st := [vi a1, vr 0]) (ks := [2, 0]) (n := 2) (c := 11) (k := 0) (as := [vi a1]) (rest := []) c53_14 (by decide +kernel) (by decide +kernel) (by decide +kernel) (by decide) rfl rfl (Nat.le_of_ble_eq_true rfl)]
  all_goals try simp only [Int.reduceToNat, lay_0, true_and, Nat.reduceAdd, eq_self_iff_true]
theorem g53_9 {d : Nat} {x0 x1 x2 x3 : Option aV} {w : aW} {Q : Option aV → aW → Prop} : T d 53 9 [x0, x1, x2, x3] [] w Q = Q (some (vi (-2))) w := by
  rw [T_sipush c53_9, T_ireti c53_11 (by decide +kernel)]
  all_goals try simp only [true_and, Nat.reduceAdd, eq_self_iff_true]
theorem g53_17 {d : Nat} {a1 s0 : Int} {x2 x3 : Option aV} {w : aW} {Q : Option aV → aW → Prop} : T (d + 1) 53 17 [some (vr 0), some (vi a1), x2, x3] [vi s0] w Q = ((¬ s0 = 0 → T d 170 0 [some (vr 27), some (vr 69), some (vr 79), some (vr 16), some (vi a1), none, none, none] [] w (fun r w1 => T (d + 1) 53 43 [some (vr 0), some (vi a1), x2, x3] (r.toList ++ []) w1 Q)) ∧ (¬ (¬ s0 = 0) → Q (some (vi (-3))) w)) := by
  rw [T_if_ne 23 c53_17 rfl, T_aload_0 c53_23, T_getR 11 3 3 c53_24 rfl rfl rfl rfl, rf_0_3, T_aload_0 c53_27, T_getR 11 8 8 c53_28 rfl rfl rfl rfl, rf_0_8, T_aload_0 c53_31, T_getR 11 9 9 c53_32 rfl rfl rfl rfl, rf_0_9, T_aload_0 c53_35, T_getR 11 1 1 c53_36 rfl rfl rfl rfl, rf_0_1, T_iload_1 c53_39, T_invv (es := [some (vr 27), some (vr 69), some (vr 79), some (vr 16), some (vi a1), none, none, none]) (st := [vi a1, vr 16, vr 79, vr 69, vr 27]) (ks := [2, 2, 2, 2, 0]) (n := 8) (c := 10) (k := 27) (as := [vr 69, vr 79, vr 16, vi a1]) (rest := []) c53_40 (by decide +kernel) (by decide +kernel) (by decide +kernel) (by decide) rfl rfl (Nat.le_of_ble_eq_true rfl), T_sipush c53_20, T_ireti c53_22 (by decide +kernel)]
  all_goals try simp only [Int.reduceToNat, lay_0, lay_27, true_and, Nat.reduceAdd, eq_self_iff_true]
theorem g53_43 {d : Nat} {a2 s0 : Int} {x0 x1 x3 : Option aV} {w : aW} {Q : Option aV → aW → Prop} : T (d + 1) 53 43 [x0, x1, some (vi a2), x3] [vi s0] w Q = ((¬ s0 = (-1) → ((¬ a2 = 0 → T (d + 1) 53 63 [x0, x1, some (vi a2), some (vi s0)] [vi s0] w Q) ∧ (¬ (¬ a2 = 0) → T d 132 0 [some (vi s0)] [] w (fun r w1 => T (d + 1) 53 59 [x0, x1, some (vi a2), some (vi s0)] (r.toList ++ []) w1 Q)))) ∧ (¬ (¬ s0 = (-1)) → Q (some (vi (-1))) w)) := by
  rw [T_istore_3 c53_43, T_iload_3 c53_44, T_sipush c53_45, T_icmp_ne 51 c53_46 rfl, T_iload_2 c53_51, T_if_ne 62 c53_52 rfl, T_iload_3 c53_62, T_iload_3 c53_55, T_inv (es := [some (vi s0)]) (st := [vi s0]) (ks := [0]) (n := 1) (as := [vi s0]) (rest := []) c53_56 (by decide +kernel) (by decide +kernel) rfl rfl (Nat.le_of_ble_eq_true rfl), T_sipush c53_49, T_ireti c53_50 (by decide +kernel)]
  all_goals try simp only [Int.reduceToNat, true_and, Nat.reduceAdd, eq_self_iff_true]
theorem g53_59 {d : Nat} {s0 : Int} {x0 x1 x2 x3 : Option aV} {w : aW} {Q : Option aV → aW → Prop} : T d 53 59 [x0, x1, x2, x3] [vi s0] w Q = T d 53 63 [x0, x1, x2, x3] [vi s0] w Q := by
  rw [T_goto 63 c53_59 rfl]
  all_goals try simp only [true_and, Nat.reduceAdd, eq_self_iff_true]
theorem g53_63 {d : Nat} {s0 : Int} {x0 x1 x2 x3 : Option aV} {w : aW} {Q : Option aV → aW → Prop} : T d 53 63 [x0, x1, x2, x3] [vi s0] w Q = Q (some (vi s0)) w := by
  rw [T_ireti c53_63 (by decide +kernel)]
  all_goals try simp only [true_and, Nat.reduceAdd, eq_self_iff_true]
/-! 54: StringHandsModel.cure.(II)I -/
theorem c54_0 : cd 54 0 = some (.aload 0, 1) := by decide +kernel
theorem c54_1 : cd 54 1 = some (.sipush 0, 1) := by decide +kernel
theorem c54_2 : cd 54 2 = some (.putfield 3072, 3) := by decide +kernel
theorem c54_5 : cd 54 5 = some (.iload 2, 1) := by decide +kernel
theorem c54_6 : cd 54 6 = some (.i2l, 1) := by decide +kernel
theorem c54_7 : cd 54 7 = some (.bipush 0, 1) := by decide +kernel
theorem c54_8 : cd 54 8 = some (.bipush 1, 1) := by decide +kernel
theorem c54_9 : cd 54 9 = some (.invokestatic 105, 3) := by decide +kernel
theorem c54_12 : cd 54 12 = some (.ifCond .ne 18, 3) := by decide +kernel
theorem c54_15 : cd 54 15 = some (.sipush (-2), 2) := by decide +kernel
theorem c54_17 : cd 54 17 = some (.ireturn, 1) := by decide +kernel
theorem c54_18 : cd 54 18 = some (.aload 0, 1) := by decide +kernel
theorem c54_19 : cd 54 19 = some (.iload 1, 1) := by decide +kernel
theorem c54_20 : cd 54 20 = some (.i2l, 1) := by decide +kernel
theorem c54_21 : cd 54 21 = some (.invokevirtual 133, 3) := by decide +kernel
theorem c54_24 : cd 54 24 = some (.ifCond .ne 30, 3) := by decide +kernel
theorem c54_27 : cd 54 27 = some (.sipush (-3), 2) := by decide +kernel
theorem c54_29 : cd 54 29 = some (.ireturn, 1) := by decide +kernel
theorem c54_30 : cd 54 30 = some (.sipush 0, 1) := by decide +kernel
theorem c54_31 : cd 54 31 = some (.istore 3, 1) := by decide +kernel
theorem c54_32 : cd 54 32 = some (.sipush 0, 1) := by decide +kernel
theorem c54_33 : cd 54 33 = some (.istore 4, 2) := by decide +kernel
theorem c54_35 : cd 54 35 = some (.iload 4, 2) := by decide +kernel
theorem c54_37 : cd 54 37 = some (.aload 0, 1) := by decide +kernel
theorem c54_38 : cd 54 38 = some (.getfield 3078, 3) := by decide +kernel
theorem c54_41 : cd 54 41 = some (.sipush 2, 1) := by decide +kernel
theorem c54_42 : cd 54 42 = some (.iaload, 1) := by decide +kernel
theorem c54_43 : cd 54 43 = some (.if_icmp .ge 74, 3) := by decide +kernel
theorem c54_46 : cd 54 46 = some (.aload 0, 1) := by decide +kernel
theorem c54_47 : cd 54 47 = some (.iload 4, 2) := by decide +kernel
theorem c54_49 : cd 54 49 = some (.iload 1, 1) := by decide +kernel
theorem c54_50 : cd 54 50 = some (.invokevirtual 171, 3) := by decide +kernel
theorem c54_53 : cd 54 53 = some (.istore 5, 2) := by decide +kernel
theorem c54_55 : cd 54 55 = some (.iload 5, 2) := by decide +kernel
theorem c54_57 : cd 54 57 = some (.sipush (-1), 1) := by decide +kernel
theorem c54_58 : cd 54 58 = some (.if_icmp .ne 63, 3) := by decide +kernel
theorem c54_61 : cd 54 61 = some (.sipush (-1), 1) := by decide +kernel
theorem c54_62 : cd 54 62 = some (.ireturn, 1) := by decide +kernel
theorem c54_63 : cd 54 63 = some (.iload 3, 1) := by decide +kernel
theorem c54_64 : cd 54 64 = some (.iload 5, 2) := by decide +kernel
theorem c54_66 : cd 54 66 = some (.ior, 1) := by decide +kernel
theorem c54_67 : cd 54 67 = some (.istore 3, 1) := by decide +kernel
theorem c54_68 : cd 54 68 = some (.iinc 4 1, 3) := by decide +kernel
theorem c54_71 : cd 54 71 = some (.goto 35, 3) := by decide +kernel
theorem c54_74 : cd 54 74 = some (.iload 2, 1) := by decide +kernel
theorem c54_75 : cd 54 75 = some (.ifCond .ne 85, 3) := by decide +kernel
theorem c54_78 : cd 54 78 = some (.iload 3, 1) := by decide +kernel
theorem c54_79 : cd 54 79 = some (.invokestatic 134, 3) := by decide +kernel
theorem c54_82 : cd 54 82 = some (.goto 86, 3) := by decide +kernel
theorem c54_85 : cd 54 85 = some (.iload 3, 1) := by decide +kernel
theorem c54_86 : cd 54 86 = some (.ireturn, 1) := by decide +kernel
theorem g54_0 {d : Nat} {a2 : Int} {x1 x3 x4 x5 : Option aV} {w : aW} {Q : Option aV → aW → Prop} : T (d + 1) 54 0 [some (vr 167), x1, some (vi a2), x3, x4, x5] [] w Q = T d 105 0 [some (vl a2), none, some (vl 0), none, some (vl 1), none] [] (iup w 167 0 0) (fun r w1 => T (d + 1) 54 12 [some (vr 167), x1, some (vi a2), x3, x4, x5] (r.toList ++ []) w1 Q) := by
  rw [T_aload_0 c54_0, T_sipush c54_1, T_putI 12 0 0 c54_2 rfl rfl rfl rfl, T_iload_2 c54_5, T_i2l c54_6, T_bipush c54_7, T_bipush c54_8, T_inv (es := [some (vl a2), none, some (vl 0), none, some (vl 1), none]) (st := [vl 1, vl 0, vl a2]) (ks := [1, 1, 1]) (n := 6) (as := [vl a2, vl 0, vl 1]) (rest := []) c54_9 (by decide +kernel) (by decide +kernel) rfl rfl (Nat.le_of_ble_eq_true rfl)]
  all_goals try simp only [lay_167, true_and, Nat.reduceAdd, eq_self_iff_true]
theorem g54_12 {d : Nat} {a1 s0 : Int} {x2 x3 x4 x5 : Option aV} {w : aW} {Q : Option aV → aW → Prop} : T (d + 1) 54 12 [some (vr 167), some (vi a1), x2, x3, x4, x5] [vi s0] w Q = ((¬ s0 = 0 → T d 133 0 [some (vr 167), some (vl a1), none] [] w (fun r w1 => T (d + 1) 54 24 [some (vr 167), some (vi a1), x2, x3, x4, x5] (r.toList ++ []) w1 Q)) ∧ (¬ (¬ s0 = 0) → Q (some (vi (-2))) w)) := by
  rw [T_if_ne 18 c54_12 rfl, T_aload_0 c54_18, T_iload_1 c54_19, T_i2l c54_20, T_invv (es := [some (vr 167), some (vl a1), none]) (st := [vl a1, vr 167]) (ks := [2, 1]) (n := 3) (c := 12) (k := 167) (as := [vl a1]) (rest := []) c54_21 (by decide +kernel) (by decide +kernel) (by decide +kernel) (by decide) rfl rfl (Nat.le_of_ble_eq_true rfl), T_sipush c54_15, T_ireti c54_17 (by decide +kernel)]
  all_goals try simp only [Int.reduceToNat, lay_167, true_and, Nat.reduceAdd, eq_self_iff_true]
theorem g54_24 {d : Nat} {s0 : Int} {x0 x1 x2 x3 x4 x5 : Option aV} {w : aW} {Q : Option aV → aW → Prop} : T d 54 24 [x0, x1, x2, x3, x4, x5] [vi s0] w Q = ((¬ s0 = 0 → T d 54 35 [x0, x1, x2, some (vi 0), some (vi 0), x5] [] w Q) ∧ (¬ (¬ s0 = 0) → Q (some (vi (-3))) w)) := by
  rw [T_if_ne 30 c54_24 rfl, T_sipush c54_30, T_istore_3 c54_31, T_sipush c54_32, T_istore_4 c54_33, T_sipush c54_27, T_ireti c54_29 (by decide +kernel)]
  all_goals try simp only [Int.reduceToNat, true_and, Nat.reduceAdd, eq_self_iff_true]
theorem g54_35 {d : Nat} {a1 a2 a3 a4 : Int} {x5 : Option aV} {w : aW} {Q : Option aV → aW → Prop} : T (d + 1) 54 35 [some (vr 167), some (vi a1), some (vi a2), some (vi a3), some (vi a4), x5] [] w Q = ((w 168 2 ≤ a4 → ((¬ a2 = 0 → T (d + 1) 54 86 [some (vr 167), some (vi a1), some (vi a2), some (vi a3), some (vi a4), x5] [vi a3] w Q) ∧ (¬ (¬ a2 = 0) → T d 134 0 [some (vi a3), none, none] [] w (fun r w1 => T (d + 1) 54 82 [some (vr 167), some (vi a1), some (vi a2), some (vi a3), some (vi a4), x5] (r.toList ++ []) w1 Q)))) ∧ (¬ (w 168 2 ≤ a4) → T d 171 0 [some (vr 167), some (vi a4), some (vi a1), none, none, none] [] w (fun r w1 => T (d + 1) 54 53 [some (vr 167), some (vi a1), some (vi a2), some (vi a3), some (vi a4), x5] (r.toList ++ []) w1 Q))) := by
  rw [T_iload_4 c54_35, T_aload_0 c54_37, T_getR 12 1 1 c54_38 rfl rfl rfl rfl, rf_167_1, T_sipush c54_41, T_iald c54_42, T_icmp_ge 74 c54_43 rfl, T_iload_2 c54_74, T_if_ne 85 c54_75 rfl, T_iload_3 c54_85, T_iload_3 c54_78, T_inv (es := [some (vi a3), none, none]) (st := [vi a3]) (ks := [0]) (n := 3) (as := [vi a3]) (rest := []) c54_79 (by decide +kernel) (by decide +kernel) rfl rfl (Nat.le_of_ble_eq_true rfl), T_aload_0 c54_46, T_iload_4 c54_47, T_iload_1 c54_49, T_invv (es := [some (vr 167), some (vi a4), some (vi a1), none, none, none]) (st := [vi a1, vi a4, vr 167]) (ks := [2, 0, 0]) (n := 6) (c := 12) (k := 167) (as := [vi a4, vi a1]) (rest := []) c54_50 (by decide +kernel) (by decide +kernel) (by decide +kernel) (by decide) rfl rfl (Nat.le_of_ble_eq_true rfl)]
  all_goals try simp only [Int.reduceLE, Int.reduceLT, Int.reduceToNat, and_self, lay_167, ld_168, true_and, Nat.reduceAdd, eq_self_iff_true]
theorem g54_53 {d : Nat} {a3 a4 s0 : Int} {x0 x1 x2 x5 : Option aV} {w : aW} {Q : Option aV → aW → Prop} : T d 54 53 [x0, x1, x2, some (vi a3), some (vi a4), x5] [vi s0] w Q = ((¬ s0 = (-1) → T d 54 35 [x0, x1, x2, some (vi (jor a3 s0)), some (vi (w32 (a4 + 1))), some (vi s0)] [] w Q) ∧ (¬ (¬ s0 = (-1)) → Q (some (vi (-1))) w)) := by
  rw [T_istore_5 c54_53, T_iload_5 c54_55, T_sipush c54_57, T_icmp_ne 63 c54_58 rfl, T_iload_3 c54_63, T_iload_5 c54_64, T_ior c54_66, T_istore_3 c54_67, T_iinc_4 c54_68, T_goto 35 c54_71 rfl, T_sipush c54_61, T_ireti c54_62 (by decide +kernel)]
  all_goals try simp only [Int.reduceToNat, true_and, Nat.reduceAdd, eq_self_iff_true]
theorem g54_82 {d : Nat} {s0 : Int} {x0 x1 x2 x3 x4 x5 : Option aV} {w : aW} {Q : Option aV → aW → Prop} : T d 54 82 [x0, x1, x2, x3, x4, x5] [vi s0] w Q = T d 54 86 [x0, x1, x2, x3, x4, x5] [vi s0] w Q := by
  rw [T_goto 86 c54_82 rfl]
  all_goals try simp only [true_and, Nat.reduceAdd, eq_self_iff_true]
theorem g54_86 {d : Nat} {s0 : Int} {x0 x1 x2 x3 x4 x5 : Option aV} {w : aW} {Q : Option aV → aW → Prop} : T d 54 86 [x0, x1, x2, x3, x4, x5] [vi s0] w Q = Q (some (vi s0)) w := by
  rw [T_ireti c54_86 (by decide +kernel)]
  all_goals try simp only [true_and, Nat.reduceAdd, eq_self_iff_true]
/-! 55: StringHands.works.(I)I -/
theorem c55_0 : cd 55 0 = some (.aload 0, 1) := by decide +kernel
theorem c55_1 : cd 55 1 = some (.iload 1, 1) := by decide +kernel
theorem c55_2 : cd 55 2 = some (.invokevirtual 116, 3) := by decide +kernel
theorem c55_5 : cd 55 5 = some (.ifCond .ne 11, 3) := by decide +kernel
theorem c55_8 : cd 55 8 = some (.sipush (-2), 2) := by decide +kernel
theorem c55_10 : cd 55 10 = some (.ireturn, 1) := by decide +kernel
theorem c55_11 : cd 55 11 = some (.aload 0, 1) := by decide +kernel
theorem c55_12 : cd 55 12 = some (.getfield 2834, 3) := by decide +kernel
theorem c55_15 : cd 55 15 = some (.aload 0, 1) := by decide +kernel
theorem c55_16 : cd 55 16 = some (.getfield 2850, 3) := by decide +kernel
theorem c55_19 : cd 55 19 = some (.aload 0, 1) := by decide +kernel
theorem c55_20 : cd 55 20 = some (.getfield 2854, 3) := by decide +kernel
theorem c55_23 : cd 55 23 = some (.aload 0, 1) := by decide +kernel
theorem c55_24 : cd 55 24 = some (.getfield 2854, 3) := by decide +kernel
theorem c55_27 : cd 55 27 = some (.getfield 1540, 3) := by decide +kernel
theorem c55_30 : cd 55 30 = some (.invokevirtual 172, 3) := by decide +kernel
theorem c55_33 : cd 55 33 = some (.aload 0, 1) := by decide +kernel
theorem c55_34 : cd 55 34 = some (.getfield 2834, 3) := by decide +kernel
theorem c55_37 : cd 55 37 = some (.getfield 2306, 3) := by decide +kernel
theorem c55_40 : cd 55 40 = some (.iload 1, 1) := by decide +kernel
theorem c55_41 : cd 55 41 = some (.iaload, 1) := by decide +kernel
theorem c55_42 : cd 55 42 = some (.ireturn, 1) := by decide +kernel
theorem g55_0 {d : Nat} {a1 : Int} {w : aW} {Q : Option aV → aW → Prop} : T (d + 1) 55 0 [some (vr 0), some (vi a1)] [] w Q = T d 116 0 [some (vr 0), some (vi a1)] [] w (fun r w1 => T (d + 1) 55 5 [some (vr 0), some (vi a1)] (r.toList ++ []) w1 Q) := by
  rw [T_aload_0 c55_0, T_iload_1 c55_1, T_invv (es := [some (vr 0), some (vi a1)]) (st := [vi a1, vr 0]) (ks := [2, 0]) (n := 2) (c := 11) (k := 0) (as := [vi a1]) (rest := []) c55_2 (by decide +kernel) (by decide +kernel) (by decide +kernel) (by decide) rfl rfl (Nat.le_of_ble_eq_true rfl)]
  all_goals try simp only [lay_0, true_and, Nat.reduceAdd, eq_self_iff_true]
theorem g55_5 {d : Nat} {s0 : Int} {x1 : Option aV} {w : aW} {Q : Option aV → aW → Prop} : T (d + 1) 55 5 [some (vr 0), x1] [vi s0] w Q = ((¬ s0 = 0 → T d 172 0 [some (vr 50), some (vr 69), some (vr 79), some (vi (w 79 1)), none, none] [] w (fun r w1 => T (d + 1) 55 33 [some (vr 0), x1] (r.toList ++ []) w1 Q)) ∧ (¬ (¬ s0 = 0) → Q (some (vi (-2))) w)) := by
  rw [T_if_ne 11 c55_5 rfl, T_aload_0 c55_11, T_getR 11 4 4 c55_12 rfl rfl rfl rfl, rf_0_4, T_aload_0 c55_15, T_getR 11 8 8 c55_16 rfl rfl rfl rfl, rf_0_8, T_aload_0 c55_19, T_getR 11 9 9 c55_20 rfl rfl rfl rfl, rf_0_9, T_aload_0 c55_23, T_getR 11 9 9 c55_24 rfl rfl rfl rfl, rf_0_9, T_getI 6 1 1 c55_27 rfl rfl rfl rfl, T_invv (es := [some (vr 50), some (vr 69), some (vr 79), some (vi (w 79 1)), none, none]) (st := [vi (w 79 1), vr 79, vr 69, vr 50]) (ks := [2, 2, 2, 0]) (n := 6) (c := 9) (k := 50) (as := [vr 69, vr 79, vi (w 79 1)]) (rest := []) c55_30 (by decide +kernel) (by decide +kernel) (by decide +kernel) (by decide) rfl rfl (Nat.le_of_ble_eq_true rfl), T_sipush c55_8, T_ireti c55_10 (by decide +kernel)]
  all_goals try simp only [Int.reduceToNat, lay_0, lay_50, lay_79, true_and, Nat.reduceAdd, eq_self_iff_true]
theorem g55_33 {d : Nat} {a1 : Int} {w : aW} {Q : Option aV → aW → Prop} : T d 55 33 [some (vr 0), some (vi a1)] [] w Q = ((0 ≤ a1 ∧ a1 < 10) ∧ Q (some (vi (w 51 a1))) w) := by
  rw [T_aload_0 c55_33, T_getR 11 4 4 c55_34 rfl rfl rfl rfl, rf_0_4, T_getR 9 0 0 c55_37 rfl rfl rfl rfl, rf_50_0, T_iload_1 c55_40, T_iald c55_41, T_ireti c55_42 (by decide +kernel)]
  all_goals try simp only [lay_0, lay_50, ld_51, true_and, Nat.reduceAdd, eq_self_iff_true]
/-! 56: StringHandsModel.works.(I)I -/
theorem c56_0 : cd 56 0 = some (.aload 0, 1) := by decide +kernel
theorem c56_1 : cd 56 1 = some (.sipush 0, 1) := by decide +kernel
theorem c56_2 : cd 56 2 = some (.putfield 3072, 3) := by decide +kernel
theorem c56_5 : cd 56 5 = some (.aload 0, 1) := by decide +kernel
theorem c56_6 : cd 56 6 = some (.iload 1, 1) := by decide +kernel
theorem c56_7 : cd 56 7 = some (.i2l, 1) := by decide +kernel
theorem c56_8 : cd 56 8 = some (.invokevirtual 121, 3) := by decide +kernel
theorem c56_11 : cd 56 11 = some (.ifCond .ne 17, 3) := by decide +kernel
theorem c56_14 : cd 56 14 = some (.sipush (-2), 2) := by decide +kernel
theorem c56_16 : cd 56 16 = some (.ireturn, 1) := by decide +kernel
theorem c56_17 : cd 56 17 = some (.aload 0, 1) := by decide +kernel
theorem c56_18 : cd 56 18 = some (.sipush (-1), 1) := by decide +kernel
theorem c56_19 : cd 56 19 = some (.invokevirtual 173, 3) := by decide +kernel
theorem c56_22 : cd 56 22 = some (.aload 0, 1) := by decide +kernel
theorem c56_23 : cd 56 23 = some (.getfield 3170, 3) := by decide +kernel
theorem c56_26 : cd 56 26 = some (.iload 1, 1) := by decide +kernel
theorem c56_27 : cd 56 27 = some (.iaload, 1) := by decide +kernel
theorem c56_28 : cd 56 28 = some (.ireturn, 1) := by decide +kernel
theorem g56_0 {d : Nat} {a1 : Int} {w : aW} {Q : Option aV → aW → Prop} : T (d + 1) 56 0 [some (vr 167), some (vi a1)] [] w Q = T d 121 0 [some (vr 167), some (vl a1), none] [] (iup w 167 0 0) (fun r w1 => T (d + 1) 56 11 [some (vr 167), some (vi a1)] (r.toList ++ []) w1 Q) := by
  rw [T_aload_0 c56_0, T_sipush c56_1, T_putI 12 0 0 c56_2 rfl rfl rfl rfl, T_aload_0 c56_5, T_iload_1 c56_6, T_i2l c56_7, T_invv (es := [some (vr 167), some (vl a1), none]) (st := [vl a1, vr 167]) (ks := [2, 1]) (n := 3) (c := 12) (k := 167) (as := [vl a1]) (rest := []) c56_8 (by decide +kernel) (by decide +kernel) (by decide +kernel) (by decide) rfl rfl (Nat.le_of_ble_eq_true rfl)]
  all_goals try simp only [lay_167, true_and, Nat.reduceAdd, eq_self_iff_true]
theorem g56_11 {d : Nat} {s0 : Int} {x1 : Option aV} {w : aW} {Q : Option aV → aW → Prop} : T (d + 1) 56 11 [some (vr 167), x1] [vi s0] w Q = ((¬ s0 = 0 → T d 173 0 [some (vr 167), some (vi (-1)), none, none] [] w (fun r w1 => T (d + 1) 56 22 [some (vr 167), x1] (r.toList ++ []) w1 Q)) ∧ (¬ (¬ s0 = 0) → Q (some (vi (-2))) w)) := by
  rw [T_if_ne 17 c56_11 rfl, T_aload_0 c56_17, T_sipush c56_18, T_invv (es := [some (vr 167), some (vi (-1)), none, none]) (st := [vi (-1), vr 167]) (ks := [2, 0]) (n := 4) (c := 12) (k := 167) (as := [vi (-1)]) (rest := []) c56_19 (by decide +kernel) (by decide +kernel) (by decide +kernel) (by decide) rfl rfl (Nat.le_of_ble_eq_true rfl), T_sipush c56_14, T_ireti c56_16 (by decide +kernel)]
  all_goals try simp only [Int.reduceToNat, lay_167, true_and, Nat.reduceAdd, eq_self_iff_true]
theorem g56_22 {d : Nat} {a1 : Int} {w : aW} {Q : Option aV → aW → Prop} : T d 56 22 [some (vr 167), some (vi a1)] [] w Q = ((0 ≤ a1 ∧ a1 < 10) ∧ Q (some (vi (w 179 a1))) w) := by
  rw [T_aload_0 c56_22, T_getR 12 24 24 c56_23 rfl rfl rfl rfl, rf_167_24, T_iload_1 c56_26, T_iald c56_27, T_ireti c56_28 (by decide +kernel)]
  all_goals try simp only [lay_167, ld_179, true_and, Nat.reduceAdd, eq_self_iff_true]
/-! 57: StringHands.part.(I)I -/
theorem c57_0 : cd 57 0 = some (.aload 0, 1) := by decide +kernel
theorem c57_1 : cd 57 1 = some (.iload 1, 1) := by decide +kernel
theorem c57_2 : cd 57 2 = some (.invokevirtual 116, 3) := by decide +kernel
theorem c57_5 : cd 57 5 = some (.ifCond .ne 11, 3) := by decide +kernel
theorem c57_8 : cd 57 8 = some (.sipush (-2), 2) := by decide +kernel
theorem c57_10 : cd 57 10 = some (.ireturn, 1) := by decide +kernel
theorem c57_11 : cd 57 11 = some (.aload 0, 1) := by decide +kernel
theorem c57_12 : cd 57 12 = some (.getfield 2834, 3) := by decide +kernel
theorem c57_15 : cd 57 15 = some (.aload 0, 1) := by decide +kernel
theorem c57_16 : cd 57 16 = some (.getfield 2850, 3) := by decide +kernel
theorem c57_19 : cd 57 19 = some (.aload 0, 1) := by decide +kernel
theorem c57_20 : cd 57 20 = some (.getfield 2854, 3) := by decide +kernel
theorem c57_23 : cd 57 23 = some (.aload 0, 1) := by decide +kernel
theorem c57_24 : cd 57 24 = some (.getfield 2854, 3) := by decide +kernel
theorem c57_27 : cd 57 27 = some (.getfield 1540, 3) := by decide +kernel
theorem c57_30 : cd 57 30 = some (.invokevirtual 172, 3) := by decide +kernel
theorem c57_33 : cd 57 33 = some (.aload 0, 1) := by decide +kernel
theorem c57_34 : cd 57 34 = some (.getfield 2834, 3) := by decide +kernel
theorem c57_37 : cd 57 37 = some (.iload 1, 1) := by decide +kernel
theorem c57_38 : cd 57 38 = some (.aload 0, 1) := by decide +kernel
theorem c57_39 : cd 57 39 = some (.getfield 2850, 3) := by decide +kernel
theorem c57_42 : cd 57 42 = some (.getfield 2052, 3) := by decide +kernel
theorem c57_45 : cd 57 45 = some (.invokevirtual 174, 3) := by decide +kernel
theorem c57_48 : cd 57 48 = some (.ireturn, 1) := by decide +kernel
theorem g57_0 {d : Nat} {a1 : Int} {w : aW} {Q : Option aV → aW → Prop} : T (d + 1) 57 0 [some (vr 0), some (vi a1)] [] w Q = T d 116 0 [some (vr 0), some (vi a1)] [] w (fun r w1 => T (d + 1) 57 5 [some (vr 0), some (vi a1)] (r.toList ++ []) w1 Q) := by
  rw [T_aload_0 c57_0, T_iload_1 c57_1, T_invv (es := [some (vr 0), some (vi a1)]) (st := [vi a1, vr 0]) (ks := [2, 0]) (n := 2) (c := 11) (k := 0) (as := [vi a1]) (rest := []) c57_2 (by decide +kernel) (by decide +kernel) (by decide +kernel) (by decide) rfl rfl (Nat.le_of_ble_eq_true rfl)]
  all_goals try simp only [lay_0, true_and, Nat.reduceAdd, eq_self_iff_true]
theorem g57_5 {d : Nat} {s0 : Int} {x1 : Option aV} {w : aW} {Q : Option aV → aW → Prop} : T (d + 1) 57 5 [some (vr 0), x1] [vi s0] w Q = ((¬ s0 = 0 → T d 172 0 [some (vr 50), some (vr 69), some (vr 79), some (vi (w 79 1)), none, none] [] w (fun r w1 => T (d + 1) 57 33 [some (vr 0), x1] (r.toList ++ []) w1 Q)) ∧ (¬ (¬ s0 = 0) → Q (some (vi (-2))) w)) := by
  rw [T_if_ne 11 c57_5 rfl, T_aload_0 c57_11, T_getR 11 4 4 c57_12 rfl rfl rfl rfl, rf_0_4, T_aload_0 c57_15, T_getR 11 8 8 c57_16 rfl rfl rfl rfl, rf_0_8, T_aload_0 c57_19, T_getR 11 9 9 c57_20 rfl rfl rfl rfl, rf_0_9, T_aload_0 c57_23, T_getR 11 9 9 c57_24 rfl rfl rfl rfl, rf_0_9, T_getI 6 1 1 c57_27 rfl rfl rfl rfl, T_invv (es := [some (vr 50), some (vr 69), some (vr 79), some (vi (w 79 1)), none, none]) (st := [vi (w 79 1), vr 79, vr 69, vr 50]) (ks := [2, 2, 2, 0]) (n := 6) (c := 9) (k := 50) (as := [vr 69, vr 79, vi (w 79 1)]) (rest := []) c57_30 (by decide +kernel) (by decide +kernel) (by decide +kernel) (by decide) rfl rfl (Nat.le_of_ble_eq_true rfl), T_sipush c57_8, T_ireti c57_10 (by decide +kernel)]
  all_goals try simp only [Int.reduceToNat, lay_0, lay_50, lay_79, true_and, Nat.reduceAdd, eq_self_iff_true]
theorem g57_33 {d : Nat} {a1 : Int} {w : aW} {Q : Option aV → aW → Prop} : T (d + 1) 57 33 [some (vr 0), some (vi a1)] [] w Q = T d 174 0 [some (vr 50), some (vi a1), some (vi (w 69 1)), none, none] [] w (fun r w1 => T (d + 1) 57 48 [some (vr 0), some (vi a1)] (r.toList ++ []) w1 Q) := by
  rw [T_aload_0 c57_33, T_getR 11 4 4 c57_34 rfl rfl rfl rfl, rf_0_4, T_iload_1 c57_37, T_aload_0 c57_38, T_getR 11 8 8 c57_39 rfl rfl rfl rfl, rf_0_8, T_getI 8 1 1 c57_42 rfl rfl rfl rfl, T_invv (es := [some (vr 50), some (vi a1), some (vi (w 69 1)), none, none]) (st := [vi (w 69 1), vi a1, vr 50]) (ks := [2, 0, 0]) (n := 5) (c := 9) (k := 50) (as := [vi a1, vi (w 69 1)]) (rest := []) c57_45 (by decide +kernel) (by decide +kernel) (by decide +kernel) (by decide) rfl rfl (Nat.le_of_ble_eq_true rfl)]
  all_goals try simp only [lay_0, lay_50, lay_69, true_and, Nat.reduceAdd, eq_self_iff_true]
theorem g57_48 {d : Nat} {s0 : Int} {x0 x1 : Option aV} {w : aW} {Q : Option aV → aW → Prop} : T d 57 48 [x0, x1] [vi s0] w Q = Q (some (vi s0)) w := by
  rw [T_ireti c57_48 (by decide +kernel)]
  all_goals try simp only [true_and, Nat.reduceAdd, eq_self_iff_true]
/-! 58: StringHandsModel.part.(I)I -/
theorem c58_0 : cd 58 0 = some (.aload 0, 1) := by decide +kernel
theorem c58_1 : cd 58 1 = some (.sipush 0, 1) := by decide +kernel
theorem c58_2 : cd 58 2 = some (.putfield 3072, 3) := by decide +kernel
theorem c58_5 : cd 58 5 = some (.aload 0, 1) := by decide +kernel
theorem c58_6 : cd 58 6 = some (.iload 1, 1) := by decide +kernel
theorem c58_7 : cd 58 7 = some (.i2l, 1) := by decide +kernel
theorem c58_8 : cd 58 8 = some (.invokevirtual 121, 3) := by decide +kernel
theorem c58_11 : cd 58 11 = some (.ifCond .ne 17, 3) := by decide +kernel
theorem c58_14 : cd 58 14 = some (.sipush (-2), 2) := by decide +kernel
theorem c58_16 : cd 58 16 = some (.ireturn, 1) := by decide +kernel
theorem c58_17 : cd 58 17 = some (.aload 0, 1) := by decide +kernel
theorem c58_18 : cd 58 18 = some (.sipush (-1), 1) := by decide +kernel
theorem c58_19 : cd 58 19 = some (.invokevirtual 173, 3) := by decide +kernel
theorem c58_22 : cd 58 22 = some (.aload 0, 1) := by decide +kernel
theorem c58_23 : cd 58 23 = some (.iload 1, 1) := by decide +kernel
theorem c58_24 : cd 58 24 = some (.invokevirtual 175, 3) := by decide +kernel
theorem c58_27 : cd 58 27 = some (.ireturn, 1) := by decide +kernel
theorem g58_0 {d : Nat} {a1 : Int} {w : aW} {Q : Option aV → aW → Prop} : T (d + 1) 58 0 [some (vr 167), some (vi a1)] [] w Q = T d 121 0 [some (vr 167), some (vl a1), none] [] (iup w 167 0 0) (fun r w1 => T (d + 1) 58 11 [some (vr 167), some (vi a1)] (r.toList ++ []) w1 Q) := by
  rw [T_aload_0 c58_0, T_sipush c58_1, T_putI 12 0 0 c58_2 rfl rfl rfl rfl, T_aload_0 c58_5, T_iload_1 c58_6, T_i2l c58_7, T_invv (es := [some (vr 167), some (vl a1), none]) (st := [vl a1, vr 167]) (ks := [2, 1]) (n := 3) (c := 12) (k := 167) (as := [vl a1]) (rest := []) c58_8 (by decide +kernel) (by decide +kernel) (by decide +kernel) (by decide) rfl rfl (Nat.le_of_ble_eq_true rfl)]
  all_goals try simp only [lay_167, true_and, Nat.reduceAdd, eq_self_iff_true]
theorem g58_11 {d : Nat} {s0 : Int} {x1 : Option aV} {w : aW} {Q : Option aV → aW → Prop} : T (d + 1) 58 11 [some (vr 167), x1] [vi s0] w Q = ((¬ s0 = 0 → T d 173 0 [some (vr 167), some (vi (-1)), none, none] [] w (fun r w1 => T (d + 1) 58 22 [some (vr 167), x1] (r.toList ++ []) w1 Q)) ∧ (¬ (¬ s0 = 0) → Q (some (vi (-2))) w)) := by
  rw [T_if_ne 17 c58_11 rfl, T_aload_0 c58_17, T_sipush c58_18, T_invv (es := [some (vr 167), some (vi (-1)), none, none]) (st := [vi (-1), vr 167]) (ks := [2, 0]) (n := 4) (c := 12) (k := 167) (as := [vi (-1)]) (rest := []) c58_19 (by decide +kernel) (by decide +kernel) (by decide +kernel) (by decide) rfl rfl (Nat.le_of_ble_eq_true rfl), T_sipush c58_14, T_ireti c58_16 (by decide +kernel)]
  all_goals try simp only [Int.reduceToNat, lay_167, true_and, Nat.reduceAdd, eq_self_iff_true]
theorem g58_22 {d : Nat} {a1 : Int} {w : aW} {Q : Option aV → aW → Prop} : T (d + 1) 58 22 [some (vr 167), some (vi a1)] [] w Q = T d 175 0 [some (vr 167), some (vi a1), none, none] [] w (fun r w1 => T (d + 1) 58 27 [some (vr 167), some (vi a1)] (r.toList ++ []) w1 Q) := by
  rw [T_aload_0 c58_22, T_iload_1 c58_23, T_invv (es := [some (vr 167), some (vi a1), none, none]) (st := [vi a1, vr 167]) (ks := [2, 0]) (n := 4) (c := 12) (k := 167) (as := [vi a1]) (rest := []) c58_24 (by decide +kernel) (by decide +kernel) (by decide +kernel) (by decide) rfl rfl (Nat.le_of_ble_eq_true rfl)]
  all_goals try simp only [lay_167, true_and, Nat.reduceAdd, eq_self_iff_true]
theorem g58_27 {d : Nat} {s0 : Int} {x0 x1 : Option aV} {w : aW} {Q : Option aV → aW → Prop} : T d 58 27 [x0, x1] [vi s0] w Q = Q (some (vi s0)) w := by
  rw [T_ireti c58_27 (by decide +kernel)]
  all_goals try simp only [true_and, Nat.reduceAdd, eq_self_iff_true]
/-! 59: StringHands.parts.()I -/
theorem c59_0 : cd 59 0 = some (.aload 0, 1) := by decide +kernel
theorem c59_1 : cd 59 1 = some (.getfield 2834, 3) := by decide +kernel
theorem c59_4 : cd 59 4 = some (.aload 0, 1) := by decide +kernel
theorem c59_5 : cd 59 5 = some (.getfield 2850, 3) := by decide +kernel
theorem c59_8 : cd 59 8 = some (.aload 0, 1) := by decide +kernel
theorem c59_9 : cd 59 9 = some (.getfield 2854, 3) := by decide +kernel
theorem c59_12 : cd 59 12 = some (.aload 0, 1) := by decide +kernel
theorem c59_13 : cd 59 13 = some (.getfield 2854, 3) := by decide +kernel
theorem c59_16 : cd 59 16 = some (.getfield 1540, 3) := by decide +kernel
theorem c59_19 : cd 59 19 = some (.invokevirtual 172, 3) := by decide +kernel
theorem c59_22 : cd 59 22 = some (.sipush 0, 1) := by decide +kernel
theorem c59_23 : cd 59 23 = some (.istore 1, 1) := by decide +kernel
theorem c59_24 : cd 59 24 = some (.sipush 0, 1) := by decide +kernel
theorem c59_25 : cd 59 25 = some (.istore 2, 1) := by decide +kernel
theorem c59_26 : cd 59 26 = some (.iload 2, 1) := by decide +kernel
theorem c59_27 : cd 59 27 = some (.aload 0, 1) := by decide +kernel
theorem c59_28 : cd 59 28 = some (.getfield 2850, 3) := by decide +kernel
theorem c59_31 : cd 59 31 = some (.getfield 2052, 3) := by decide +kernel
theorem c59_34 : cd 59 34 = some (.if_icmp .ge 68, 3) := by decide +kernel
theorem c59_37 : cd 59 37 = some (.aload 0, 1) := by decide +kernel
theorem c59_38 : cd 59 38 = some (.getfield 2834, 3) := by decide +kernel
theorem c59_41 : cd 59 41 = some (.iload 2, 1) := by decide +kernel
theorem c59_42 : cd 59 42 = some (.aload 0, 1) := by decide +kernel
theorem c59_43 : cd 59 43 = some (.getfield 2850, 3) := by decide +kernel
theorem c59_46 : cd 59 46 = some (.getfield 2052, 3) := by decide +kernel
theorem c59_49 : cd 59 49 = some (.invokevirtual 174, 3) := by decide +kernel
theorem c59_52 : cd 59 52 = some (.invokestatic 176, 3) := by decide +kernel
theorem c59_55 : cd 59 55 = some (.iload 2, 1) := by decide +kernel
theorem c59_56 : cd 59 56 = some (.if_icmp .ne 62, 3) := by decide +kernel
theorem c59_59 : cd 59 59 = some (.iinc 1 1, 3) := by decide +kernel
theorem c59_62 : cd 59 62 = some (.iinc 2 1, 3) := by decide +kernel
theorem c59_65 : cd 59 65 = some (.goto 26, 3) := by decide +kernel
theorem c59_68 : cd 59 68 = some (.iload 1, 1) := by decide +kernel
theorem c59_69 : cd 59 69 = some (.ireturn, 1) := by decide +kernel
theorem g59_0 {d : Nat} {x1 x2 : Option aV} {w : aW} {Q : Option aV → aW → Prop} : T (d + 1) 59 0 [some (vr 0), x1, x2] [] w Q = T d 172 0 [some (vr 50), some (vr 69), some (vr 79), some (vi (w 79 1)), none, none] [] w (fun r w1 => T (d + 1) 59 22 [some (vr 0), x1, x2] (r.toList ++ []) w1 Q) := by
  rw [T_aload_0 c59_0, T_getR 11 4 4 c59_1 rfl rfl rfl rfl, rf_0_4, T_aload_0 c59_4, T_getR 11 8 8 c59_5 rfl rfl rfl rfl, rf_0_8, T_aload_0 c59_8, T_getR 11 9 9 c59_9 rfl rfl rfl rfl, rf_0_9, T_aload_0 c59_12, T_getR 11 9 9 c59_13 rfl rfl rfl rfl, rf_0_9, T_getI 6 1 1 c59_16 rfl rfl rfl rfl, T_invv (es := [some (vr 50), some (vr 69), some (vr 79), some (vi (w 79 1)), none, none]) (st := [vi (w 79 1), vr 79, vr 69, vr 50]) (ks := [2, 2, 2, 0]) (n := 6) (c := 9) (k := 50) (as := [vr 69, vr 79, vi (w 79 1)]) (rest := []) c59_19 (by decide +kernel) (by decide +kernel) (by decide +kernel) (by decide) rfl rfl (Nat.le_of_ble_eq_true rfl)]
  all_goals try simp only [lay_0, lay_50, lay_79, true_and, Nat.reduceAdd, eq_self_iff_true]
theorem g59_22 {d : Nat} {x0 x1 x2 : Option aV} {w : aW} {Q : Option aV → aW → Prop} : T d 59 22 [x0, x1, x2] [] w Q = T d 59 26 [x0, some (vi 0), some (vi 0)] [] w Q := by
  rw [T_sipush c59_22, T_istore_1 c59_23, T_sipush c59_24, T_istore_2 c59_25]
  all_goals try simp only [true_and, Nat.reduceAdd, eq_self_iff_true]
theorem g59_26 {d : Nat} {a1 a2 : Int} {w : aW} {Q : Option aV → aW → Prop} : T (d + 1) 59 26 [some (vr 0), some (vi a1), some (vi a2)] [] w Q = ((w 69 1 ≤ a2 → Q (some (vi a1)) w) ∧ (¬ (w 69 1 ≤ a2) → T d 174 0 [some (vr 50), some (vi a2), some (vi (w 69 1)), none, none] [] w (fun r w1 => T (d + 1) 59 52 [some (vr 0), some (vi a1), some (vi a2)] (r.toList ++ []) w1 Q))) := by
  rw [T_iload_2 c59_26, T_aload_0 c59_27, T_getR 11 8 8 c59_28 rfl rfl rfl rfl, rf_0_8, T_getI 8 1 1 c59_31 rfl rfl rfl rfl, T_icmp_ge 68 c59_34 rfl, T_iload_1 c59_68, T_ireti c59_69 (by decide +kernel), T_aload_0 c59_37, T_getR 11 4 4 c59_38 rfl rfl rfl rfl, rf_0_4, T_iload_2 c59_41, T_aload_0 c59_42, T_getR 11 8 8 c59_43 rfl rfl rfl rfl, rf_0_8, T_getI 8 1 1 c59_46 rfl rfl rfl rfl, T_invv (es := [some (vr 50), some (vi a2), some (vi (w 69 1)), none, none]) (st := [vi (w 69 1), vi a2, vr 50]) (ks := [2, 0, 0]) (n := 5) (c := 9) (k := 50) (as := [vi a2, vi (w 69 1)]) (rest := []) c59_49 (by decide +kernel) (by decide +kernel) (by decide +kernel) (by decide) rfl rfl (Nat.le_of_ble_eq_true rfl)]
  all_goals try simp only [Int.reduceToNat, lay_0, lay_50, lay_69, true_and, Nat.reduceAdd, eq_self_iff_true]
theorem g59_52 {d : Nat} {s0 : Int} {x0 x1 x2 : Option aV} {w : aW} {Q : Option aV → aW → Prop} : T (d + 1) 59 52 [x0, x1, x2] [vi s0] w Q = T d 176 0 [some (vi s0), none] [] w (fun r w1 => T (d + 1) 59 55 [x0, x1, x2] (r.toList ++ []) w1 Q) := by
  rw [T_inv (es := [some (vi s0), none]) (st := [vi s0]) (ks := [0]) (n := 2) (as := [vi s0]) (rest := []) c59_52 (by decide +kernel) (by decide +kernel) rfl rfl (Nat.le_of_ble_eq_true rfl)]
  all_goals try simp only [true_and, Nat.reduceAdd, eq_self_iff_true]
theorem g59_55 {d : Nat} {a1 a2 s0 : Int} {x0 : Option aV} {w : aW} {Q : Option aV → aW → Prop} : T d 59 55 [x0, some (vi a1), some (vi a2)] [vi s0] w Q = ((¬ s0 = a2 → T d 59 62 [x0, some (vi a1), some (vi a2)] [] w Q) ∧ (¬ (¬ s0 = a2) → T d 59 62 [x0, some (vi (w32 (a1 + 1))), some (vi a2)] [] w Q)) := by
  rw [T_iload_2 c59_55, T_icmp_ne 62 c59_56 rfl, T_iinc_1 c59_59]
  all_goals try simp only [Int.reduceToNat, true_and, Nat.reduceAdd, eq_self_iff_true]
theorem g59_62 {d : Nat} {a2 : Int} {x0 x1 : Option aV} {w : aW} {Q : Option aV → aW → Prop} : T d 59 62 [x0, x1, some (vi a2)] [] w Q = T d 59 26 [x0, x1, some (vi (w32 (a2 + 1)))] [] w Q := by
  rw [T_iinc_2 c59_62, T_goto 26 c59_65 rfl]
  all_goals try simp only [true_and, Nat.reduceAdd, eq_self_iff_true]
/-! 60: StringHandsModel.parts.()I -/
theorem c60_0 : cd 60 0 = some (.aload 0, 1) := by decide +kernel
theorem c60_1 : cd 60 1 = some (.sipush 0, 1) := by decide +kernel
theorem c60_2 : cd 60 2 = some (.putfield 3072, 3) := by decide +kernel
theorem c60_5 : cd 60 5 = some (.aload 0, 1) := by decide +kernel
theorem c60_6 : cd 60 6 = some (.sipush (-1), 1) := by decide +kernel
theorem c60_7 : cd 60 7 = some (.invokevirtual 173, 3) := by decide +kernel
theorem c60_10 : cd 60 10 = some (.sipush 0, 1) := by decide +kernel
theorem c60_11 : cd 60 11 = some (.istore 1, 1) := by decide +kernel
theorem c60_12 : cd 60 12 = some (.sipush 0, 1) := by decide +kernel
theorem c60_13 : cd 60 13 = some (.istore 2, 1) := by decide +kernel
theorem c60_14 : cd 60 14 = some (.iload 2, 1) := by decide +kernel
theorem c60_15 : cd 60 15 = some (.aload 0, 1) := by decide +kernel
theorem c60_16 : cd 60 16 = some (.getfield 3078, 3) := by decide +kernel
theorem c60_19 : cd 60 19 = some (.sipush 2, 1) := by decide +kernel
theorem c60_20 : cd 60 20 = some (.iaload, 1) := by decide +kernel
theorem c60_21 : cd 60 21 = some (.if_icmp .ge 52, 3) := by decide +kernel
theorem c60_24 : cd 60 24 = some (.iload 1, 1) := by decide +kernel
theorem c60_25 : cd 60 25 = some (.aload 0, 1) := by decide +kernel
theorem c60_26 : cd 60 26 = some (.iload 2, 1) := by decide +kernel
theorem c60_27 : cd 60 27 = some (.invokevirtual 175, 3) := by decide +kernel
theorem c60_30 : cd 60 30 = some (.sipush 1, 1) := by decide +kernel
theorem c60_31 : cd 60 31 = some (.iload 2, 1) := by decide +kernel
theorem c60_32 : cd 60 32 = some (.ishl, 1) := by decide +kernel
theorem c60_33 : cd 60 33 = some (.sipush 1, 1) := by decide +kernel
theorem c60_34 : cd 60 34 = some (.isub, 1) := by decide +kernel
theorem c60_35 : cd 60 35 = some (.iand, 1) := by decide +kernel
theorem c60_36 : cd 60 36 = some (.ifCond .ne 43, 3) := by decide +kernel
theorem c60_39 : cd 60 39 = some (.sipush 1, 1) := by decide +kernel
theorem c60_40 : cd 60 40 = some (.goto 44, 3) := by decide +kernel
theorem c60_43 : cd 60 43 = some (.sipush 0, 1) := by decide +kernel
theorem c60_44 : cd 60 44 = some (.iadd, 1) := by decide +kernel
theorem c60_45 : cd 60 45 = some (.istore 1, 1) := by decide +kernel
theorem c60_46 : cd 60 46 = some (.iinc 2 1, 3) := by decide +kernel
theorem c60_49 : cd 60 49 = some (.goto 14, 3) := by decide +kernel
theorem c60_52 : cd 60 52 = some (.iload 1, 1) := by decide +kernel
theorem c60_53 : cd 60 53 = some (.ireturn, 1) := by decide +kernel
theorem g60_0 {d : Nat} {x1 x2 : Option aV} {w : aW} {Q : Option aV → aW → Prop} : T (d + 1) 60 0 [some (vr 167), x1, x2] [] w Q = T d 173 0 [some (vr 167), some (vi (-1)), none, none] [] (iup w 167 0 0) (fun r w1 => T (d + 1) 60 10 [some (vr 167), x1, x2] (r.toList ++ []) w1 Q) := by
  rw [T_aload_0 c60_0, T_sipush c60_1, T_putI 12 0 0 c60_2 rfl rfl rfl rfl, T_aload_0 c60_5, T_sipush c60_6, T_invv (es := [some (vr 167), some (vi (-1)), none, none]) (st := [vi (-1), vr 167]) (ks := [2, 0]) (n := 4) (c := 12) (k := 167) (as := [vi (-1)]) (rest := []) c60_7 (by decide +kernel) (by decide +kernel) (by decide +kernel) (by decide) rfl rfl (Nat.le_of_ble_eq_true rfl)]
  all_goals try simp only [lay_167, true_and, Nat.reduceAdd, eq_self_iff_true]
theorem g60_10 {d : Nat} {x0 x1 x2 : Option aV} {w : aW} {Q : Option aV → aW → Prop} : T d 60 10 [x0, x1, x2] [] w Q = T d 60 14 [x0, some (vi 0), some (vi 0)] [] w Q := by
  rw [T_sipush c60_10, T_istore_1 c60_11, T_sipush c60_12, T_istore_2 c60_13]
  all_goals try simp only [true_and, Nat.reduceAdd, eq_self_iff_true]
theorem g60_14 {d : Nat} {a1 a2 : Int} {w : aW} {Q : Option aV → aW → Prop} : T (d + 1) 60 14 [some (vr 167), some (vi a1), some (vi a2)] [] w Q = ((w 168 2 ≤ a2 → Q (some (vi a1)) w) ∧ (¬ (w 168 2 ≤ a2) → T d 175 0 [some (vr 167), some (vi a2), none, none] [] w (fun r w1 => T (d + 1) 60 30 [some (vr 167), some (vi a1), some (vi a2)] (r.toList ++ [vi a1]) w1 Q))) := by
  rw [T_iload_2 c60_14, T_aload_0 c60_15, T_getR 12 1 1 c60_16 rfl rfl rfl rfl, rf_167_1, T_sipush c60_19, T_iald c60_20, T_icmp_ge 52 c60_21 rfl, T_iload_1 c60_52, T_ireti c60_53 (by decide +kernel), T_iload_1 c60_24, T_aload_0 c60_25, T_iload_2 c60_26, T_invv (es := [some (vr 167), some (vi a2), none, none]) (st := [vi a2, vr 167, vi a1]) (ks := [2, 0]) (n := 4) (c := 12) (k := 167) (as := [vi a2]) (rest := [vi a1]) c60_27 (by decide +kernel) (by decide +kernel) (by decide +kernel) (by decide) rfl rfl (Nat.le_of_ble_eq_true rfl)]
  all_goals try simp only [Int.reduceLE, Int.reduceLT, Int.reduceToNat, and_self, lay_167, ld_168, true_and, Nat.reduceAdd, eq_self_iff_true]
theorem g60_30 {d : Nat} {a2 s0 s1 : Int} {x0 x1 : Option aV} {w : aW} {Q : Option aV → aW → Prop} : T d 60 30 [x0, x1, some (vi a2)] [vi s1, vi s0] w Q = ((¬ jand s1 (w32 ((jshl 1 a2) - 1)) = 0 → T d 60 44 [x0, x1, some (vi a2)] [vi 0, vi s0] w Q) ∧ (¬ (¬ jand s1 (w32 ((jshl 1 a2) - 1)) = 0) → T d 60 44 [x0, x1, some (vi a2)] [vi 1, vi s0] w Q)) := by
  rw [T_sipush c60_30, T_iload_2 c60_31, T_ishl c60_32, T_sipush c60_33, T_isub c60_34, T_iand c60_35, T_if_ne 43 c60_36 rfl, T_sipush c60_43, T_sipush c60_39, T_goto 44 c60_40 rfl]
  all_goals try simp only [Int.reduceToNat, true_and, Nat.reduceAdd, eq_self_iff_true]
theorem g60_44 {d : Nat} {a2 s0 s1 : Int} {x0 x1 : Option aV} {w : aW} {Q : Option aV → aW → Prop} : T d 60 44 [x0, x1, some (vi a2)] [vi s1, vi s0] w Q = T d 60 14 [x0, some (vi (w32 (s0 + s1))), some (vi (w32 (a2 + 1)))] [] w Q := by
  rw [T_iadd c60_44, T_istore_1 c60_45, T_iinc_2 c60_46, T_goto 14 c60_49 rfl]
  all_goals try simp only [true_and, Nat.reduceAdd, eq_self_iff_true]
/-! 61: StringHands.free.(II)I -/
theorem c61_0 : cd 61 0 = some (.aload 0, 1) := by decide +kernel
theorem c61_1 : cd 61 1 = some (.iload 1, 1) := by decide +kernel
theorem c61_2 : cd 61 2 = some (.invokevirtual 116, 3) := by decide +kernel
theorem c61_5 : cd 61 5 = some (.ifCond .eq 16, 3) := by decide +kernel
theorem c61_8 : cd 61 8 = some (.aload 0, 1) := by decide +kernel
theorem c61_9 : cd 61 9 = some (.iload 2, 1) := by decide +kernel
theorem c61_10 : cd 61 10 = some (.invokevirtual 116, 3) := by decide +kernel
theorem c61_13 : cd 61 13 = some (.ifCond .ne 19, 3) := by decide +kernel
theorem c61_16 : cd 61 16 = some (.sipush (-2), 2) := by decide +kernel
theorem c61_18 : cd 61 18 = some (.ireturn, 1) := by decide +kernel
theorem c61_19 : cd 61 19 = some (.iload 1, 1) := by decide +kernel
theorem c61_20 : cd 61 20 = some (.iload 2, 1) := by decide +kernel
theorem c61_21 : cd 61 21 = some (.if_icmp .ne 28, 3) := by decide +kernel
theorem c61_24 : cd 61 24 = some (.sipush (-1), 1) := by decide +kernel
theorem c61_25 : cd 61 25 = some (.goto 45, 3) := by decide +kernel
theorem c61_28 : cd 61 28 = some (.aload 0, 1) := by decide +kernel
theorem c61_29 : cd 61 29 = some (.getfield 2834, 3) := by decide +kernel
theorem c61_32 : cd 61 32 = some (.aload 0, 1) := by decide +kernel
theorem c61_33 : cd 61 33 = some (.getfield 2850, 3) := by decide +kernel
theorem c61_36 : cd 61 36 = some (.aload 0, 1) := by decide +kernel
theorem c61_37 : cd 61 37 = some (.getfield 2854, 3) := by decide +kernel
theorem c61_40 : cd 61 40 = some (.iload 1, 1) := by decide +kernel
theorem c61_41 : cd 61 41 = some (.iload 2, 1) := by decide +kernel
theorem c61_42 : cd 61 42 = some (.invokevirtual 177, 3) := by decide +kernel
theorem c61_45 : cd 61 45 = some (.ireturn, 1) := by decide +kernel
theorem g61_0 {d : Nat} {a1 : Int} {x2 : Option aV} {w : aW} {Q : Option aV → aW → Prop} : T (d + 1) 61 0 [some (vr 0), some (vi a1), x2] [] w Q = T d 116 0 [some (vr 0), some (vi a1)] [] w (fun r w1 => T (d + 1) 61 5 [some (vr 0), some (vi a1), x2] (r.toList ++ []) w1 Q) := by
  rw [T_aload_0 c61_0, T_iload_1 c61_1, T_invv (es := [some (vr 0), some (vi a1)]) (st := [vi a1, vr 0]) (ks := [2, 0]) (n := 2) (c := 11) (k := 0) (as := [vi a1]) (rest := []) c61_2 (by decide +kernel) (by decide +kernel) (by decide +kernel) (by decide) rfl rfl (Nat.le_of_ble_eq_true rfl)]
  all_goals try simp only [lay_0, true_and, Nat.reduceAdd, eq_self_iff_true]
theorem g61_5 {d : Nat} {a2 s0 : Int} {x1 : Option aV} {w : aW} {Q : Option aV → aW → Prop} : T (d + 1) 61 5 [some (vr 0), x1, some (vi a2)] [vi s0] w Q = ((s0 = 0 → T (d + 1) 61 16 [some (vr 0), x1, some (vi a2)] [] w Q) ∧ (¬ (s0 = 0) → T d 116 0 [some (vr 0), some (vi a2)] [] w (fun r w1 => T (d + 1) 61 13 [some (vr 0), x1, some (vi a2)] (r.toList ++ []) w1 Q))) := by
  rw [T_if_eq 16 c61_5 rfl, T_aload_0 c61_8, T_iload_2 c61_9, T_invv (es := [some (vr 0), some (vi a2)]) (st := [vi a2, vr 0]) (ks := [2, 0]) (n := 2) (c := 11) (k := 0) (as := [vi a2]) (rest := []) c61_10 (by decide +kernel) (by decide +kernel) (by decide +kernel) (by decide) rfl rfl (Nat.le_of_ble_eq_true rfl)]
  all_goals try simp only [Int.reduceToNat, lay_0, true_and, Nat.reduceAdd, eq_self_iff_true]
theorem g61_13 {d : Nat} {a1 a2 s0 : Int} {w : aW} {Q : Option aV → aW → Prop} : T (d + 1) 61 13 [some (vr 0), some (vi a1), some (vi a2)] [vi s0] w Q = ((¬ s0 = 0 → ((¬ a1 = a2 → T d 177 0 [some (vr 50), some (vr 69), some (vr 79), some (vi a1), some (vi a2), none, none, none] [] w (fun r w1 => T (d + 1) 61 45 [some (vr 0), some (vi a1), some (vi a2)] (r.toList ++ []) w1 Q)) ∧ (¬ (¬ a1 = a2) → T (d + 1) 61 45 [some (vr 0), some (vi a1), some (vi a2)] [vi (-1)] w Q))) ∧ (¬ (¬ s0 = 0) → T (d + 1) 61 16 [some (vr 0), some (vi a1), some (vi a2)] [] w Q)) := by
  rw [T_if_ne 19 c61_13 rfl, T_iload_1 c61_19, T_iload_2 c61_20, T_icmp_ne 28 c61_21 rfl, T_aload_0 c61_28, T_getR 11 4 4 c61_29 rfl rfl rfl rfl, rf_0_4, T_aload_0 c61_32, T_getR 11 8 8 c61_33 rfl rfl rfl rfl, rf_0_8, T_aload_0 c61_36, T_getR 11 9 9 c61_37 rfl rfl rfl rfl, rf_0_9, T_iload_1 c61_40, T_iload_2 c61_41, T_invv (es := [some (vr 50), some (vr 69), some (vr 79), some (vi a1), some (vi a2), none, none, none]) (st := [vi a2, vi a1, vr 79, vr 69, vr 50]) (ks := [2, 2, 2, 0, 0]) (n := 8) (c := 9) (k := 50) (as := [vr 69, vr 79, vi a1, vi a2]) (rest := []) c61_42 (by decide +kernel) (by decide +kernel) (by decide +kernel) (by decide) rfl rfl (Nat.le_of_ble_eq_true rfl), T_sipush c61_24, T_goto 45 c61_25 rfl]
  all_goals try simp only [Int.reduceToNat, lay_0, lay_50, true_and, Nat.reduceAdd, eq_self_iff_true]
theorem g61_16 {d : Nat} {x0 x1 x2 : Option aV} {w : aW} {Q : Option aV → aW → Prop} : T d 61 16 [x0, x1, x2] [] w Q = Q (some (vi (-2))) w := by
  rw [T_sipush c61_16, T_ireti c61_18 (by decide +kernel)]
  all_goals try simp only [true_and, Nat.reduceAdd, eq_self_iff_true]
theorem g61_45 {d : Nat} {s0 : Int} {x0 x1 x2 : Option aV} {w : aW} {Q : Option aV → aW → Prop} : T d 61 45 [x0, x1, x2] [vi s0] w Q = Q (some (vi s0)) w := by
  rw [T_ireti c61_45 (by decide +kernel)]
  all_goals try simp only [true_and, Nat.reduceAdd, eq_self_iff_true]
/-! 62: StringHandsModel.free.(II)I -/
theorem c62_0 : cd 62 0 = some (.aload 0, 1) := by decide +kernel
theorem c62_1 : cd 62 1 = some (.sipush 0, 1) := by decide +kernel
theorem c62_2 : cd 62 2 = some (.putfield 3072, 3) := by decide +kernel
theorem c62_5 : cd 62 5 = some (.aload 0, 1) := by decide +kernel
theorem c62_6 : cd 62 6 = some (.iload 1, 1) := by decide +kernel
theorem c62_7 : cd 62 7 = some (.i2l, 1) := by decide +kernel
theorem c62_8 : cd 62 8 = some (.invokevirtual 121, 3) := by decide +kernel
theorem c62_11 : cd 62 11 = some (.ifCond .eq 23, 3) := by decide +kernel
theorem c62_14 : cd 62 14 = some (.aload 0, 1) := by decide +kernel
theorem c62_15 : cd 62 15 = some (.iload 2, 1) := by decide +kernel
theorem c62_16 : cd 62 16 = some (.i2l, 1) := by decide +kernel
theorem c62_17 : cd 62 17 = some (.invokevirtual 121, 3) := by decide +kernel
theorem c62_20 : cd 62 20 = some (.ifCond .ne 26, 3) := by decide +kernel
theorem c62_23 : cd 62 23 = some (.sipush (-2), 2) := by decide +kernel
theorem c62_25 : cd 62 25 = some (.ireturn, 1) := by decide +kernel
theorem c62_26 : cd 62 26 = some (.iload 1, 1) := by decide +kernel
theorem c62_27 : cd 62 27 = some (.iload 2, 1) := by decide +kernel
theorem c62_28 : cd 62 28 = some (.if_icmp .ne 33, 3) := by decide +kernel
theorem c62_31 : cd 62 31 = some (.sipush (-1), 1) := by decide +kernel
theorem c62_32 : cd 62 32 = some (.ireturn, 1) := by decide +kernel
theorem c62_33 : cd 62 33 = some (.sipush 0, 1) := by decide +kernel
theorem c62_34 : cd 62 34 = some (.istore 3, 1) := by decide +kernel
theorem c62_35 : cd 62 35 = some (.iload 3, 1) := by decide +kernel
theorem c62_36 : cd 62 36 = some (.aload 0, 1) := by decide +kernel
theorem c62_37 : cd 62 37 = some (.getfield 3078, 3) := by decide +kernel
theorem c62_40 : cd 62 40 = some (.sipush 2, 1) := by decide +kernel
theorem c62_41 : cd 62 41 = some (.iaload, 1) := by decide +kernel
theorem c62_42 : cd 62 42 = some (.if_icmp .ge 103, 3) := by decide +kernel
theorem c62_45 : cd 62 45 = some (.sipush 0, 1) := by decide +kernel
theorem c62_46 : cd 62 46 = some (.istore 4, 2) := by decide +kernel
theorem c62_48 : cd 62 48 = some (.iload 4, 2) := by decide +kernel
theorem c62_50 : cd 62 50 = some (.aload 0, 1) := by decide +kernel
theorem c62_51 : cd 62 51 = some (.getfield 3078, 3) := by decide +kernel
theorem c62_54 : cd 62 54 = some (.sipush 2, 1) := by decide +kernel
theorem c62_55 : cd 62 55 = some (.iaload, 1) := by decide +kernel
theorem c62_56 : cd 62 56 = some (.if_icmp .ge 97, 3) := by decide +kernel
theorem c62_59 : cd 62 59 = some (.aload 0, 1) := by decide +kernel
theorem c62_60 : cd 62 60 = some (.getfield 3174, 3) := by decide +kernel
theorem c62_63 : cd 62 63 = some (.sipush 10, 2) := by decide +kernel
theorem c62_65 : cd 62 65 = some (.iload 3, 1) := by decide +kernel
theorem c62_66 : cd 62 66 = some (.imul, 1) := by decide +kernel
theorem c62_67 : cd 62 67 = some (.iload 4, 2) := by decide +kernel
theorem c62_69 : cd 62 69 = some (.iadd, 1) := by decide +kernel
theorem c62_70 : cd 62 70 = some (.aload 0, 1) := by decide +kernel
theorem c62_71 : cd 62 71 = some (.iload 4, 2) := by decide +kernel
theorem c62_73 : cd 62 73 = some (.sipush 1000, 3) := by decide +kernel
theorem c62_76 : cd 62 76 = some (.iload 3, 1) := by decide +kernel
theorem c62_77 : cd 62 77 = some (.iadd, 1) := by decide +kernel
theorem c62_78 : cd 62 78 = some (.invokevirtual 178, 3) := by decide +kernel
theorem c62_81 : cd 62 81 = some (.ifCond .eq 89, 3) := by decide +kernel
theorem c62_84 : cd 62 84 = some (.sipush 100, 2) := by decide +kernel
theorem c62_86 : cd 62 86 = some (.goto 90, 3) := by decide +kernel
theorem c62_89 : cd 62 89 = some (.sipush 0, 1) := by decide +kernel
theorem c62_90 : cd 62 90 = some (.iastore, 1) := by decide +kernel
theorem c62_91 : cd 62 91 = some (.iinc 4 1, 3) := by decide +kernel
theorem c62_94 : cd 62 94 = some (.goto 48, 3) := by decide +kernel
theorem c62_97 : cd 62 97 = some (.iinc 3 1, 3) := by decide +kernel
theorem c62_100 : cd 62 100 = some (.goto 35, 3) := by decide +kernel
theorem c62_103 : cd 62 103 = some (.sipush 0, 1) := by decide +kernel
theorem c62_104 : cd 62 104 = some (.istore 3, 1) := by decide +kernel
theorem c62_105 : cd 62 105 = some (.iload 3, 1) := by decide +kernel
theorem c62_106 : cd 62 106 = some (.aload 0, 1) := by decide +kernel
theorem c62_107 : cd 62 107 = some (.getfield 3078, 3) := by decide +kernel
theorem c62_110 : cd 62 110 = some (.sipush 3, 1) := by decide +kernel
theorem c62_111 : cd 62 111 = some (.iaload, 1) := by decide +kernel
theorem c62_112 : cd 62 112 = some (.if_icmp .ge 176, 3) := by decide +kernel
theorem c62_115 : cd 62 115 = some (.aload 0, 1) := by decide +kernel
theorem c62_116 : cd 62 116 = some (.iload 3, 1) := by decide +kernel
theorem c62_117 : cd 62 117 = some (.invokevirtual 138, 3) := by decide +kernel
theorem c62_120 : cd 62 120 = some (.ifCond .eq 170, 3) := by decide +kernel
theorem c62_123 : cd 62 123 = some (.aload 0, 1) := by decide +kernel
theorem c62_124 : cd 62 124 = some (.aload 0, 1) := by decide +kernel
theorem c62_125 : cd 62 125 = some (.getfield 3078, 3) := by decide +kernel
theorem c62_128 : cd 62 128 = some (.sipush 64, 2) := by decide +kernel
theorem c62_130 : cd 62 130 = some (.iload 3, 1) := by decide +kernel
theorem c62_131 : cd 62 131 = some (.iadd, 1) := by decide +kernel
theorem c62_132 : cd 62 132 = some (.iaload, 1) := by decide +kernel
theorem c62_133 : cd 62 133 = some (.invokevirtual 179, 3) := by decide +kernel
theorem c62_136 : cd 62 136 = some (.ifCond .eq 170, 3) := by decide +kernel
theorem c62_139 : cd 62 139 = some (.aload 0, 1) := by decide +kernel
theorem c62_140 : cd 62 140 = some (.getfield 3174, 3) := by decide +kernel
theorem c62_143 : cd 62 143 = some (.sipush 10, 2) := by decide +kernel
theorem c62_145 : cd 62 145 = some (.aload 0, 1) := by decide +kernel
theorem c62_146 : cd 62 146 = some (.getfield 3078, 3) := by decide +kernel
theorem c62_149 : cd 62 149 = some (.sipush 6, 2) := by decide +kernel
theorem c62_151 : cd 62 151 = some (.iload 3, 1) := by decide +kernel
theorem c62_152 : cd 62 152 = some (.iadd, 1) := by decide +kernel
theorem c62_153 : cd 62 153 = some (.iaload, 1) := by decide +kernel
theorem c62_154 : cd 62 154 = some (.imul, 1) := by decide +kernel
theorem c62_155 : cd 62 155 = some (.aload 0, 1) := by decide +kernel
theorem c62_156 : cd 62 156 = some (.getfield 3078, 3) := by decide +kernel
theorem c62_159 : cd 62 159 = some (.sipush 64, 2) := by decide +kernel
theorem c62_161 : cd 62 161 = some (.iload 3, 1) := by decide +kernel
theorem c62_162 : cd 62 162 = some (.iadd, 1) := by decide +kernel
theorem c62_163 : cd 62 163 = some (.iaload, 1) := by decide +kernel
theorem c62_164 : cd 62 164 = some (.iadd, 1) := by decide +kernel
theorem c62_165 : cd 62 165 = some (.dup2, 1) := by decide +kernel
theorem c62_166 : cd 62 166 = some (.iaload, 1) := by decide +kernel
theorem c62_167 : cd 62 167 = some (.sipush 1, 1) := by decide +kernel
theorem c62_168 : cd 62 168 = some (.iadd, 1) := by decide +kernel
theorem c62_169 : cd 62 169 = some (.iastore, 1) := by decide +kernel
theorem c62_170 : cd 62 170 = some (.iinc 3 1, 3) := by decide +kernel
theorem c62_173 : cd 62 173 = some (.goto 105, 3) := by decide +kernel
theorem c62_176 : cd 62 176 = some (.sipush 0, 1) := by decide +kernel
theorem c62_177 : cd 62 177 = some (.istore 3, 1) := by decide +kernel
theorem c62_178 : cd 62 178 = some (.iload 3, 1) := by decide +kernel
theorem c62_179 : cd 62 179 = some (.sipush 50, 2) := by decide +kernel
theorem c62_181 : cd 62 181 = some (.if_icmp .ge 264, 3) := by decide +kernel
theorem c62_184 : cd 62 184 = some (.aload 0, 1) := by decide +kernel
theorem c62_185 : cd 62 185 = some (.iload 1, 1) := by decide +kernel
theorem c62_186 : cd 62 186 = some (.iload 2, 1) := by decide +kernel
theorem c62_187 : cd 62 187 = some (.invokevirtual 180, 3) := by decide +kernel
theorem c62_190 : cd 62 190 = some (.ifCond .eq 264, 3) := by decide +kernel
theorem c62_193 : cd 62 193 = some (.iload 2, 1) := by decide +kernel
theorem c62_194 : cd 62 194 = some (.istore 4, 2) := by decide +kernel
theorem c62_196 : cd 62 196 = some (.iload 4, 2) := by decide +kernel
theorem c62_198 : cd 62 198 = some (.iload 1, 1) := by decide +kernel
theorem c62_199 : cd 62 199 = some (.if_icmp .eq 258, 3) := by decide +kernel
theorem c62_202 : cd 62 202 = some (.aload 0, 1) := by decide +kernel
theorem c62_203 : cd 62 203 = some (.getfield 3174, 3) := by decide +kernel
theorem c62_206 : cd 62 206 = some (.sipush 10, 2) := by decide +kernel
theorem c62_208 : cd 62 208 = some (.aload 0, 1) := by decide +kernel
theorem c62_209 : cd 62 209 = some (.getfield 3178, 3) := by decide +kernel
theorem c62_212 : cd 62 212 = some (.iload 4, 2) := by decide +kernel
theorem c62_214 : cd 62 214 = some (.iaload, 1) := by decide +kernel
theorem c62_215 : cd 62 215 = some (.imul, 1) := by decide +kernel
theorem c62_216 : cd 62 216 = some (.iload 4, 2) := by decide +kernel
theorem c62_218 : cd 62 218 = some (.iadd, 1) := by decide +kernel
theorem c62_219 : cd 62 219 = some (.dup2, 1) := by decide +kernel
theorem c62_220 : cd 62 220 = some (.iaload, 1) := by decide +kernel
theorem c62_221 : cd 62 221 = some (.sipush 1, 1) := by decide +kernel
theorem c62_222 : cd 62 222 = some (.isub, 1) := by decide +kernel
theorem c62_223 : cd 62 223 = some (.iastore, 1) := by decide +kernel
theorem c62_224 : cd 62 224 = some (.aload 0, 1) := by decide +kernel
theorem c62_225 : cd 62 225 = some (.getfield 3174, 3) := by decide +kernel
theorem c62_228 : cd 62 228 = some (.sipush 10, 2) := by decide +kernel
theorem c62_230 : cd 62 230 = some (.iload 4, 2) := by decide +kernel
theorem c62_232 : cd 62 232 = some (.imul, 1) := by decide +kernel
theorem c62_233 : cd 62 233 = some (.aload 0, 1) := by decide +kernel
theorem c62_234 : cd 62 234 = some (.getfield 3178, 3) := by decide +kernel
theorem c62_237 : cd 62 237 = some (.iload 4, 2) := by decide +kernel
theorem c62_239 : cd 62 239 = some (.iaload, 1) := by decide +kernel
theorem c62_240 : cd 62 240 = some (.iadd, 1) := by decide +kernel
theorem c62_241 : cd 62 241 = some (.dup2, 1) := by decide +kernel
theorem c62_242 : cd 62 242 = some (.iaload, 1) := by decide +kernel
theorem c62_243 : cd 62 243 = some (.sipush 1, 1) := by decide +kernel
theorem c62_244 : cd 62 244 = some (.iadd, 1) := by decide +kernel
theorem c62_245 : cd 62 245 = some (.iastore, 1) := by decide +kernel
theorem c62_246 : cd 62 246 = some (.aload 0, 1) := by decide +kernel
theorem c62_247 : cd 62 247 = some (.getfield 3178, 3) := by decide +kernel
theorem c62_250 : cd 62 250 = some (.iload 4, 2) := by decide +kernel
theorem c62_252 : cd 62 252 = some (.iaload, 1) := by decide +kernel
theorem c62_253 : cd 62 253 = some (.istore 4, 2) := by decide +kernel
theorem c62_255 : cd 62 255 = some (.goto 196, 3) := by decide +kernel
theorem c62_258 : cd 62 258 = some (.iinc 3 1, 3) := by decide +kernel
theorem c62_261 : cd 62 261 = some (.goto 178, 3) := by decide +kernel
theorem c62_264 : cd 62 264 = some (.iload 3, 1) := by decide +kernel
theorem c62_265 : cd 62 265 = some (.sipush 50, 2) := by decide +kernel
theorem c62_267 : cd 62 267 = some (.if_icmp .ne 274, 3) := by decide +kernel
theorem c62_270 : cd 62 270 = some (.sipush (-1), 1) := by decide +kernel
theorem c62_271 : cd 62 271 = some (.goto 275, 3) := by decide +kernel
theorem c62_274 : cd 62 274 = some (.iload 3, 1) := by decide +kernel
theorem c62_275 : cd 62 275 = some (.ireturn, 1) := by decide +kernel
theorem g62_0 {d : Nat} {a1 : Int} {x2 x3 x4 : Option aV} {w : aW} {Q : Option aV → aW → Prop} : T (d + 1) 62 0 [some (vr 167), some (vi a1), x2, x3, x4] [] w Q = T d 121 0 [some (vr 167), some (vl a1), none] [] (iup w 167 0 0) (fun r w1 => T (d + 1) 62 11 [some (vr 167), some (vi a1), x2, x3, x4] (r.toList ++ []) w1 Q) := by
  rw [T_aload_0 c62_0, T_sipush c62_1, T_putI 12 0 0 c62_2 rfl rfl rfl rfl, T_aload_0 c62_5, T_iload_1 c62_6, T_i2l c62_7, T_invv (es := [some (vr 167), some (vl a1), none]) (st := [vl a1, vr 167]) (ks := [2, 1]) (n := 3) (c := 12) (k := 167) (as := [vl a1]) (rest := []) c62_8 (by decide +kernel) (by decide +kernel) (by decide +kernel) (by decide) rfl rfl (Nat.le_of_ble_eq_true rfl)]
  all_goals try simp only [lay_167, true_and, Nat.reduceAdd, eq_self_iff_true]
theorem g62_11 {d : Nat} {a2 s0 : Int} {x1 x3 x4 : Option aV} {w : aW} {Q : Option aV → aW → Prop} : T (d + 1) 62 11 [some (vr 167), x1, some (vi a2), x3, x4] [vi s0] w Q = ((s0 = 0 → T (d + 1) 62 23 [some (vr 167), x1, some (vi a2), x3, x4] [] w Q) ∧ (¬ (s0 = 0) → T d 121 0 [some (vr 167), some (vl a2), none] [] w (fun r w1 => T (d + 1) 62 20 [some (vr 167), x1, some (vi a2), x3, x4] (r.toList ++ []) w1 Q))) := by
  rw [T_if_eq 23 c62_11 rfl, T_aload_0 c62_14, T_iload_2 c62_15, T_i2l c62_16, T_invv (es := [some (vr 167), some (vl a2), none]) (st := [vl a2, vr 167]) (ks := [2, 1]) (n := 3) (c := 12) (k := 167) (as := [vl a2]) (rest := []) c62_17 (by decide +kernel) (by decide +kernel) (by decide +kernel) (by decide) rfl rfl (Nat.le_of_ble_eq_true rfl)]
  all_goals try simp only [Int.reduceToNat, lay_167, true_and, Nat.reduceAdd, eq_self_iff_true]
theorem g62_20 {d : Nat} {a1 a2 s0 : Int} {x0 x3 x4 : Option aV} {w : aW} {Q : Option aV → aW → Prop} : T d 62 20 [x0, some (vi a1), some (vi a2), x3, x4] [vi s0] w Q = ((¬ s0 = 0 → ((¬ a1 = a2 → T d 62 35 [x0, some (vi a1), some (vi a2), some (vi 0), x4] [] w Q) ∧ (¬ (¬ a1 = a2) → Q (some (vi (-1))) w))) ∧ (¬ (¬ s0 = 0) → T d 62 23 [x0, some (vi a1), some (vi a2), x3, x4] [] w Q)) := by
  rw [T_if_ne 26 c62_20 rfl, T_iload_1 c62_26, T_iload_2 c62_27, T_icmp_ne 33 c62_28 rfl, T_sipush c62_33, T_istore_3 c62_34, T_sipush c62_31, T_ireti c62_32 (by decide +kernel)]
  all_goals try simp only [Int.reduceToNat, true_and, Nat.reduceAdd, eq_self_iff_true]
theorem g62_23 {d : Nat} {x0 x1 x2 x3 x4 : Option aV} {w : aW} {Q : Option aV → aW → Prop} : T d 62 23 [x0, x1, x2, x3, x4] [] w Q = Q (some (vi (-2))) w := by
  rw [T_sipush c62_23, T_ireti c62_25 (by decide +kernel)]
  all_goals try simp only [true_and, Nat.reduceAdd, eq_self_iff_true]
theorem g62_35 {d : Nat} {a3 : Int} {x1 x2 x4 : Option aV} {w : aW} {Q : Option aV → aW → Prop} : T d 62 35 [some (vr 167), x1, x2, some (vi a3), x4] [] w Q = ((w 168 2 ≤ a3 → T d 62 105 [some (vr 167), x1, x2, some (vi 0), x4] [] w Q) ∧ (¬ (w 168 2 ≤ a3) → T d 62 48 [some (vr 167), x1, x2, some (vi a3), some (vi 0)] [] w Q)) := by
  rw [T_iload_3 c62_35, T_aload_0 c62_36, T_getR 12 1 1 c62_37 rfl rfl rfl rfl, rf_167_1, T_sipush c62_40, T_iald c62_41, T_icmp_ge 103 c62_42 rfl, T_sipush c62_103, T_istore_3 c62_104, T_sipush c62_45, T_istore_4 c62_46]
  all_goals try simp only [Int.reduceLE, Int.reduceLT, Int.reduceToNat, and_self, lay_167, ld_168, true_and, Nat.reduceAdd, eq_self_iff_true]
theorem g62_48 {d : Nat} {a3 a4 : Int} {x1 x2 : Option aV} {w : aW} {Q : Option aV → aW → Prop} : T (d + 1) 62 48 [some (vr 167), x1, x2, some (vi a3), some (vi a4)] [] w Q = ((w 168 2 ≤ a4 → T (d + 1) 62 35 [some (vr 167), x1, x2, some (vi (w32 (a3 + 1))), some (vi a4)] [] w Q) ∧ (¬ (w 168 2 ≤ a4) → T d 178 0 [some (vr 167), some (vi a4), some (vi (w32 (1000 + a3))), none] [] w (fun r w1 => T (d + 1) 62 81 [some (vr 167), x1, x2, some (vi a3), some (vi a4)] (r.toList ++ [vi (w32 ((w32 (10 * a3)) + a4)), vr 180]) w1 Q))) := by
  rw [T_iload_4 c62_48, T_aload_0 c62_50, T_getR 12 1 1 c62_51 rfl rfl rfl rfl, rf_167_1, T_sipush c62_54, T_iald c62_55, T_icmp_ge 97 c62_56 rfl, T_iinc_3 c62_97, T_goto 35 c62_100 rfl, T_aload_0 c62_59, T_getR 12 25 25 c62_60 rfl rfl rfl rfl, rf_167_25, T_sipush c62_63, T_iload_3 c62_65, T_imul c62_66, T_iload_4 c62_67, T_iadd c62_69, T_aload_0 c62_70, T_iload_4 c62_71, T_sipush c62_73, T_iload_3 c62_76, T_iadd c62_77, T_invv (es := [some (vr 167), some (vi a4), some (vi (w32 (1000 + a3))), none]) (st := [vi (w32 (1000 + a3)), vi a4, vr 167, vi (w32 ((w32 (10 * a3)) + a4)), vr 180]) (ks := [2, 0, 0]) (n := 4) (c := 12) (k := 167) (as := [vi a4, vi (w32 (1000 + a3))]) (rest := [vi (w32 ((w32 (10 * a3)) + a4)), vr 180]) c62_78 (by decide +kernel) (by decide +kernel) (by decide +kernel) (by decide) rfl rfl (Nat.le_of_ble_eq_true rfl)]
  all_goals try simp only [Int.reduceLE, Int.reduceLT, Int.reduceToNat, and_self, lay_167, ld_168, true_and, Nat.reduceAdd, eq_self_iff_true]
theorem g62_81 {d : Nat} {s1 s2 : Int} {s0 : Nat} {x0 x1 x2 x3 x4 : Option aV} {w : aW} {Q : Option aV → aW → Prop} : T d 62 81 [x0, x1, x2, x3, x4] [vi s2, vi s1, vr s0] w Q = ((s2 = 0 → T d 62 90 [x0, x1, x2, x3, x4] [vi 0, vi s1, vr s0] w Q) ∧ (¬ (s2 = 0) → T d 62 90 [x0, x1, x2, x3, x4] [vi 100, vi s1, vr s0] w Q)) := by
  rw [T_if_eq 89 c62_81 rfl, T_sipush c62_89, T_sipush c62_84, T_goto 90 c62_86 rfl]
  all_goals try simp only [Int.reduceToNat, true_and, Nat.reduceAdd, eq_self_iff_true]
theorem g62_90 {d : Nat} {a4 s1 s2 : Int} {s0 : Nat} {x0 x1 x2 x3 : Option aV} {w : aW} {Q : Option aV → aW → Prop} : T d 62 90 [x0, x1, x2, x3, some (vi a4)] [vi s2, vi s1, vr s0] w Q = (inA s0 0 s1 = true ∧ T d 62 48 [x0, x1, x2, x3, some (vi (w32 (a4 + 1)))] [] (iup w s0 s1 s2) Q) := by
  rw [T_iast c62_90, T_iinc_4 c62_91, T_goto 48 c62_94 rfl]
  all_goals try simp only [true_and, Nat.reduceAdd, eq_self_iff_true]
theorem g62_105 {d : Nat} {a3 : Int} {x1 x2 x4 : Option aV} {w : aW} {Q : Option aV → aW → Prop} : T (d + 1) 62 105 [some (vr 167), x1, x2, some (vi a3), x4] [] w Q = ((w 168 3 ≤ a3 → T (d + 1) 62 178 [some (vr 167), x1, x2, some (vi 0), x4] [] w Q) ∧ (¬ (w 168 3 ≤ a3) → T d 138 0 [some (vr 167), some (vi a3)] [] w (fun r w1 => T (d + 1) 62 120 [some (vr 167), x1, x2, some (vi a3), x4] (r.toList ++ []) w1 Q))) := by
  rw [T_iload_3 c62_105, T_aload_0 c62_106, T_getR 12 1 1 c62_107 rfl rfl rfl rfl, rf_167_1, T_sipush c62_110, T_iald c62_111, T_icmp_ge 176 c62_112 rfl, T_sipush c62_176, T_istore_3 c62_177, T_aload_0 c62_115, T_iload_3 c62_116, T_invv (es := [some (vr 167), some (vi a3)]) (st := [vi a3, vr 167]) (ks := [2, 0]) (n := 2) (c := 12) (k := 167) (as := [vi a3]) (rest := []) c62_117 (by decide +kernel) (by decide +kernel) (by decide +kernel) (by decide) rfl rfl (Nat.le_of_ble_eq_true rfl)]
  all_goals try simp only [Int.reduceLE, Int.reduceLT, Int.reduceToNat, and_self, lay_167, ld_168, true_and, Nat.reduceAdd, eq_self_iff_true]
theorem g62_120 {d : Nat} {a3 s0 : Int} {x1 x2 x4 : Option aV} {w : aW} {Q : Option aV → aW → Prop} : T (d + 1) 62 120 [some (vr 167), x1, x2, some (vi a3), x4] [vi s0] w Q = ((s0 = 0 → T (d + 1) 62 170 [some (vr 167), x1, x2, some (vi a3), x4] [] w Q) ∧ (¬ (s0 = 0) → ((0 ≤ w32 (64 + a3) ∧ w32 (64 + a3) < 4932) ∧ T d 179 0 [some (vr 167), some (vi (w 168 (w32 (64 + a3))))] [] w (fun r w1 => T (d + 1) 62 136 [some (vr 167), x1, x2, some (vi a3), x4] (r.toList ++ []) w1 Q)))) := by
  rw [T_if_eq 170 c62_120 rfl, T_aload_0 c62_123, T_aload_0 c62_124, T_getR 12 1 1 c62_125 rfl rfl rfl rfl, rf_167_1, T_sipush c62_128, T_iload_3 c62_130, T_iadd c62_131, T_iald c62_132, T_invv (es := [some (vr 167), some (vi (w 168 (w32 (64 + a3))))]) (st := [vi (w 168 (w32 (64 + a3))), vr 167]) (ks := [2, 0]) (n := 2) (c := 12) (k := 167) (as := [vi (w 168 (w32 (64 + a3)))]) (rest := []) c62_133 (by decide +kernel) (by decide +kernel) (by decide +kernel) (by decide) rfl rfl (Nat.le_of_ble_eq_true rfl)]
  all_goals try simp only [Int.reduceToNat, lay_167, ld_168, true_and, Nat.reduceAdd, eq_self_iff_true]
theorem g62_136 {d : Nat} {a3 s0 : Int} {x1 x2 x4 : Option aV} {w : aW} {Q : Option aV → aW → Prop} : T d 62 136 [some (vr 167), x1, x2, some (vi a3), x4] [vi s0] w Q = ((s0 = 0 → T d 62 170 [some (vr 167), x1, x2, some (vi a3), x4] [] w Q) ∧ (¬ (s0 = 0) → ((0 ≤ w32 (6 + a3) ∧ w32 (6 + a3) < 4932) ∧ ((0 ≤ w32 (64 + a3) ∧ w32 (64 + a3) < 4932) ∧ ((0 ≤ w32 ((w32 (10 * (w 168 (w32 (6 + a3))))) + (w 168 (w32 (64 + a3)))) ∧ w32 ((w32 (10 * (w 168 (w32 (6 + a3))))) + (w 168 (w32 (64 + a3)))) < 100) ∧ ((0 ≤ w32 ((w32 (10 * (w 168 (w32 (6 + a3))))) + (w 168 (w32 (64 + a3)))) ∧ w32 ((w32 (10 * (w 168 (w32 (6 + a3))))) + (w 168 (w32 (64 + a3)))) < 100) ∧ T d 62 170 [some (vr 167), x1, x2, some (vi a3), x4] [] (iup w 180 (w32 ((w32 (10 * (w 168 (w32 (6 + a3))))) + (w 168 (w32 (64 + a3))))) (w32 ((w 180 (w32 ((w32 (10 * (w 168 (w32 (6 + a3))))) + (w 168 (w32 (64 + a3)))))) + 1))) Q)))))) := by
  rw [T_if_eq 170 c62_136 rfl, T_aload_0 c62_139, T_getR 12 25 25 c62_140 rfl rfl rfl rfl, rf_167_25, T_sipush c62_143, T_aload_0 c62_145, T_getR 12 1 1 c62_146 rfl rfl rfl rfl, rf_167_1, T_sipush c62_149, T_iload_3 c62_151, T_iadd c62_152, T_iald c62_153, T_imul c62_154, T_aload_0 c62_155, T_getR 12 1 1 c62_156 rfl rfl rfl rfl, rf_167_1, T_sipush c62_159, T_iload_3 c62_161, T_iadd c62_162, T_iald c62_163, T_iadd c62_164, T_dup2 c62_165, T_iald c62_166, T_sipush c62_167, T_iadd c62_168, T_iast c62_169]
  all_goals try simp only [Int.reduceToNat, ia0_180, lay_167, ld_168, ld_180, true_and, Nat.reduceAdd, eq_self_iff_true]
theorem g62_170 {d : Nat} {a3 : Int} {x0 x1 x2 x4 : Option aV} {w : aW} {Q : Option aV → aW → Prop} : T d 62 170 [x0, x1, x2, some (vi a3), x4] [] w Q = T d 62 105 [x0, x1, x2, some (vi (w32 (a3 + 1))), x4] [] w Q := by
  rw [T_iinc_3 c62_170, T_goto 105 c62_173 rfl]
  all_goals try simp only [true_and, Nat.reduceAdd, eq_self_iff_true]
theorem g62_178 {d : Nat} {a1 a2 a3 : Int} {x4 : Option aV} {w : aW} {Q : Option aV → aW → Prop} : T (d + 1) 62 178 [some (vr 167), some (vi a1), some (vi a2), some (vi a3), x4] [] w Q = ((50 ≤ a3 → T (d + 1) 62 264 [some (vr 167), some (vi a1), some (vi a2), some (vi a3), x4] [] w Q) ∧ (¬ (50 ≤ a3) → T d 180 0 [some (vr 167), some (vi a1), some (vi a2), none, none, none] [] w (fun r w1 => T (d + 1) 62 190 [some (vr 167), some (vi a1), some (vi a2), some (vi a3), x4] (r.toList ++ []) w1 Q))) := by
  rw [T_iload_3 c62_178, T_sipush c62_179, T_icmp_ge 264 c62_181 rfl, T_aload_0 c62_184, T_iload_1 c62_185, T_iload_2 c62_186, T_invv (es := [some (vr 167), some (vi a1), some (vi a2), none, none, none]) (st := [vi a2, vi a1, vr 167]) (ks := [2, 0, 0]) (n := 6) (c := 12) (k := 167) (as := [vi a1, vi a2]) (rest := []) c62_187 (by decide +kernel) (by decide +kernel) (by decide +kernel) (by decide) rfl rfl (Nat.le_of_ble_eq_true rfl)]
  all_goals try simp only [Int.reduceToNat, lay_167, true_and, Nat.reduceAdd, eq_self_iff_true]
theorem g62_190 {d : Nat} {a2 s0 : Int} {x0 x1 x3 x4 : Option aV} {w : aW} {Q : Option aV → aW → Prop} : T d 62 190 [x0, x1, some (vi a2), x3, x4] [vi s0] w Q = ((s0 = 0 → T d 62 264 [x0, x1, some (vi a2), x3, x4] [] w Q) ∧ (¬ (s0 = 0) → T d 62 196 [x0, x1, some (vi a2), x3, some (vi a2)] [] w Q)) := by
  rw [T_if_eq 264 c62_190 rfl, T_iload_2 c62_193, T_istore_4 c62_194]
  all_goals try simp only [Int.reduceToNat, true_and, Nat.reduceAdd, eq_self_iff_true]
theorem g62_196 {d : Nat} {a1 a3 a4 : Int} {x2 : Option aV} {w : aW} {Q : Option aV → aW → Prop} : T d 62 196 [some (vr 167), some (vi a1), x2, some (vi a3), some (vi a4)] [] w Q = ((a4 = a1 → T d 62 178 [some (vr 167), some (vi a1), x2, some (vi (w32 (a3 + 1))), some (vi a4)] [] w Q) ∧ (¬ (a4 = a1) → ((0 ≤ a4 ∧ a4 < 10) ∧ ((0 ≤ w32 ((w32 (10 * (w 181 a4))) + a4) ∧ w32 ((w32 (10 * (w 181 a4))) + a4) < 100) ∧ ((0 ≤ w32 ((w32 (10 * (w 181 a4))) + a4) ∧ w32 ((w32 (10 * (w 181 a4))) + a4) < 100) ∧ ((0 ≤ a4 ∧ a4 < 10) ∧ ((0 ≤ w32 ((w32 (10 * a4)) + ((iup w 180 (w32 ((w32 (10 * (w 181 a4))) + a4)) (w32 ((w 180 (w32 ((w32 (10 * (w 181 a4))) + a4))) - 1))) 181 a4)) ∧ w32 ((w32 (10 * a4)) + ((iup w 180 (w32 ((w32 (10 * (w 181 a4))) + a4)) (w32 ((w 180 (w32 ((w32 (10 * (w 181 a4))) + a4))) - 1))) 181 a4)) < 100) ∧ ((0 ≤ w32 ((w32 (10 * a4)) + ((iup w 180 (w32 ((w32 (10 * (w 181 a4))) + a4)) (w32 ((w 180 (w32 ((w32 (10 * (w 181 a4))) + a4))) - 1))) 181 a4)) ∧ w32 ((w32 (10 * a4)) + ((iup w 180 (w32 ((w32 (10 * (w 181 a4))) + a4)) (w32 ((w 180 (w32 ((w32 (10 * (w 181 a4))) + a4))) - 1))) 181 a4)) < 100) ∧ ((0 ≤ a4 ∧ a4 < 10) ∧ T d 62 196 [some (vr 167), some (vi a1), x2, some (vi a3), some (vi ((iup (iup w 180 (w32 ((w32 (10 * (w 181 a4))) + a4)) (w32 ((w 180 (w32 ((w32 (10 * (w 181 a4))) + a4))) - 1))) 180 (w32 ((w32 (10 * a4)) + ((iup w 180 (w32 ((w32 (10 * (w 181 a4))) + a4)) (w32 ((w 180 (w32 ((w32 (10 * (w 181 a4))) + a4))) - 1))) 181 a4))) (w32 (((iup w 180 (w32 ((w32 (10 * (w 181 a4))) + a4)) (w32 ((w 180 (w32 ((w32 (10 * (w 181 a4))) + a4))) - 1))) 180 (w32 ((w32 (10 * a4)) + ((iup w 180 (w32 ((w32 (10 * (w 181 a4))) + a4)) (w32 ((w 180 (w32 ((w32 (10 * (w 181 a4))) + a4))) - 1))) 181 a4)))) + 1))) 181 a4))] [] (iup (iup w 180 (w32 ((w32 (10 * (w 181 a4))) + a4)) (w32 ((w 180 (w32 ((w32 (10 * (w 181 a4))) + a4))) - 1))) 180 (w32 ((w32 (10 * a4)) + ((iup w 180 (w32 ((w32 (10 * (w 181 a4))) + a4)) (w32 ((w 180 (w32 ((w32 (10 * (w 181 a4))) + a4))) - 1))) 181 a4))) (w32 (((iup w 180 (w32 ((w32 (10 * (w 181 a4))) + a4)) (w32 ((w 180 (w32 ((w32 (10 * (w 181 a4))) + a4))) - 1))) 180 (w32 ((w32 (10 * a4)) + ((iup w 180 (w32 ((w32 (10 * (w 181 a4))) + a4)) (w32 ((w 180 (w32 ((w32 (10 * (w 181 a4))) + a4))) - 1))) 181 a4)))) + 1))) Q))))))))) := by
  rw [T_iload_4 c62_196, T_iload_1 c62_198, T_icmp_eq 258 c62_199 rfl, T_iinc_3 c62_258, T_goto 178 c62_261 rfl, T_aload_0 c62_202, T_getR 12 25 25 c62_203 rfl rfl rfl rfl, rf_167_25, T_sipush c62_206, T_aload_0 c62_208, T_getR 12 26 26 c62_209 rfl rfl rfl rfl, rf_167_26, T_iload_4 c62_212, T_iald c62_214, T_imul c62_215, T_iload_4 c62_216, T_iadd c62_218, T_dup2 c62_219, T_iald c62_220, T_sipush c62_221, T_isub c62_222, T_iast c62_223, T_aload_0 c62_224, T_getR 12 25 25 c62_225 rfl rfl rfl rfl, rf_167_25, T_sipush c62_228, T_iload_4 c62_230, T_imul c62_232, T_aload_0 c62_233, T_getR 12 26 26 c62_234 rfl rfl rfl rfl, rf_167_26, T_iload_4 c62_237, T_iald c62_239, T_iadd c62_240, T_dup2 c62_241, T_iald c62_242, T_sipush c62_243, T_iadd c62_244, T_iast c62_245, T_aload_0 c62_246, T_getR 12 26 26 c62_247 rfl rfl rfl rfl, rf_167_26, T_iload_4 c62_250, T_iald c62_252, T_istore_4 c62_253, T_goto 196 c62_255 rfl]
  all_goals try simp only [Int.reduceToNat, ia0_180, lay_167, ld_180, ld_181, true_and, Nat.reduceAdd, eq_self_iff_true]
theorem g62_264 {d : Nat} {a3 : Int} {x0 x1 x2 x4 : Option aV} {w : aW} {Q : Option aV → aW → Prop} : T d 62 264 [x0, x1, x2, some (vi a3), x4] [] w Q = ((¬ a3 = 50 → T d 62 275 [x0, x1, x2, some (vi a3), x4] [vi a3] w Q) ∧ (¬ (¬ a3 = 50) → T d 62 275 [x0, x1, x2, some (vi a3), x4] [vi (-1)] w Q)) := by
  rw [T_iload_3 c62_264, T_sipush c62_265, T_icmp_ne 274 c62_267 rfl, T_iload_3 c62_274, T_sipush c62_270, T_goto 275 c62_271 rfl]
  all_goals try simp only [Int.reduceToNat, true_and, Nat.reduceAdd, eq_self_iff_true]
theorem g62_275 {d : Nat} {s0 : Int} {x0 x1 x2 x3 x4 : Option aV} {w : aW} {Q : Option aV → aW → Prop} : T d 62 275 [x0, x1, x2, x3, x4] [vi s0] w Q = Q (some (vi s0)) w := by
  rw [T_ireti c62_275 (by decide +kernel)]
  all_goals try simp only [true_and, Nat.reduceAdd, eq_self_iff_true]
/-! 63: StringHands.stops.(I)I -/
theorem c63_0 : cd 63 0 = some (.aload 0, 1) := by decide +kernel
theorem c63_1 : cd 63 1 = some (.iload 1, 1) := by decide +kernel
theorem c63_2 : cd 63 2 = some (.invokevirtual 126, 3) := by decide +kernel
theorem c63_5 : cd 63 5 = some (.ifCond .ne 11, 3) := by decide +kernel
theorem c63_8 : cd 63 8 = some (.sipush (-2), 2) := by decide +kernel
theorem c63_10 : cd 63 10 = some (.ireturn, 1) := by decide +kernel
theorem c63_11 : cd 63 11 = some (.aload 0, 1) := by decide +kernel
theorem c63_12 : cd 63 12 = some (.getfield 2854, 3) := by decide +kernel
theorem c63_15 : cd 63 15 = some (.getfield 1540, 3) := by decide +kernel
theorem c63_18 : cd 63 18 = some (.iload 1, 1) := by decide +kernel
theorem c63_19 : cd 63 19 = some (.invokestatic 117, 3) := by decide +kernel
theorem c63_22 : cd 63 22 = some (.ifCond .ne 28, 3) := by decide +kernel
theorem c63_25 : cd 63 25 = some (.sipush (-5), 2) := by decide +kernel
theorem c63_27 : cd 63 27 = some (.ireturn, 1) := by decide +kernel
theorem c63_28 : cd 63 28 = some (.aload 0, 1) := by decide +kernel
theorem c63_29 : cd 63 29 = some (.getfield 2854, 3) := by decide +kernel
theorem c63_32 : cd 63 32 = some (.getfield 1546, 3) := by decide +kernel
theorem c63_35 : cd 63 35 = some (.iload 1, 1) := by decide +kernel
theorem c63_36 : cd 63 36 = some (.iaload, 1) := by decide +kernel
theorem c63_37 : cd 63 37 = some (.istore 2, 1) := by decide +kernel
theorem c63_38 : cd 63 38 = some (.aload 0, 1) := by decide +kernel
theorem c63_39 : cd 63 39 = some (.getfield 2834, 3) := by decide +kernel
theorem c63_42 : cd 63 42 = some (.aload 0, 1) := by decide +kernel
theorem c63_43 : cd 63 43 = some (.getfield 2850, 3) := by decide +kernel
theorem c63_46 : cd 63 46 = some (.aload 0, 1) := by decide +kernel
theorem c63_47 : cd 63 47 = some (.getfield 2854, 3) := by decide +kernel
theorem c63_50 : cd 63 50 = some (.aload 0, 1) := by decide +kernel
theorem c63_51 : cd 63 51 = some (.getfield 2854, 3) := by decide +kernel
theorem c63_54 : cd 63 54 = some (.getfield 1540, 3) := by decide +kernel
theorem c63_57 : cd 63 57 = some (.invokevirtual 172, 3) := by decide +kernel
theorem c63_60 : cd 63 60 = some (.aload 0, 1) := by decide +kernel
theorem c63_61 : cd 63 61 = some (.getfield 2834, 3) := by decide +kernel
theorem c63_64 : cd 63 64 = some (.getfield 2306, 3) := by decide +kernel
theorem c63_67 : cd 63 67 = some (.iload 2, 1) := by decide +kernel
theorem c63_68 : cd 63 68 = some (.iaload, 1) := by decide +kernel
theorem c63_69 : cd 63 69 = some (.istore 3, 1) := by decide +kernel
theorem c63_70 : cd 63 70 = some (.aload 0, 1) := by decide +kernel
theorem c63_71 : cd 63 71 = some (.getfield 2834, 3) := by decide +kernel
theorem c63_74 : cd 63 74 = some (.aload 0, 1) := by decide +kernel
theorem c63_75 : cd 63 75 = some (.getfield 2850, 3) := by decide +kernel
theorem c63_78 : cd 63 78 = some (.aload 0, 1) := by decide +kernel
theorem c63_79 : cd 63 79 = some (.getfield 2854, 3) := by decide +kernel
theorem c63_82 : cd 63 82 = some (.aload 0, 1) := by decide +kernel
theorem c63_83 : cd 63 83 = some (.getfield 2854, 3) := by decide +kernel
theorem c63_86 : cd 63 86 = some (.getfield 1540, 3) := by decide +kernel
theorem c63_89 : cd 63 89 = some (.sipush 1, 1) := by decide +kernel
theorem c63_90 : cd 63 90 = some (.iload 1, 1) := by decide +kernel
theorem c63_91 : cd 63 91 = some (.ishl, 1) := by decide +kernel
theorem c63_92 : cd 63 92 = some (.sipush (-1), 1) := by decide +kernel
theorem c63_93 : cd 63 93 = some (.ixor, 1) := by decide +kernel
theorem c63_94 : cd 63 94 = some (.iand, 1) := by decide +kernel
theorem c63_95 : cd 63 95 = some (.invokevirtual 172, 3) := by decide +kernel
theorem c63_98 : cd 63 98 = some (.iload 3, 1) := by decide +kernel
theorem c63_99 : cd 63 99 = some (.aload 0, 1) := by decide +kernel
theorem c63_100 : cd 63 100 = some (.getfield 2834, 3) := by decide +kernel
theorem c63_103 : cd 63 103 = some (.getfield 2306, 3) := by decide +kernel
theorem c63_106 : cd 63 106 = some (.iload 2, 1) := by decide +kernel
theorem c63_107 : cd 63 107 = some (.iaload, 1) := by decide +kernel
theorem c63_108 : cd 63 108 = some (.sipush (-1), 1) := by decide +kernel
theorem c63_109 : cd 63 109 = some (.ixor, 1) := by decide +kernel
theorem c63_110 : cd 63 110 = some (.iand, 1) := by decide +kernel
theorem c63_111 : cd 63 111 = some (.ireturn, 1) := by decide +kernel
theorem g63_0 {d : Nat} {a1 : Int} {x2 x3 : Option aV} {w : aW} {Q : Option aV → aW → Prop} : T (d + 1) 63 0 [some (vr 0), some (vi a1), x2, x3] [] w Q = T d 126 0 [some (vr 0), some (vi a1)] [] w (fun r w1 => T (d + 1) 63 5 [some (vr 0), some (vi a1), x2, x3] (r.toList ++ []) w1 Q) := by
  rw [T_aload_0 c63_0, T_iload_1 c63_1, T_invv (es := [some (vr 0), some (vi a1)]) (st := [vi a1, vr 0]) (ks := [2, 0]) (n := 2) (c := 11) (k := 0) (as := [vi a1]) (rest := []) c63_2 (by decide +kernel) (by decide +kernel) (by decide +kernel) (by decide) rfl rfl (Nat.le_of_ble_eq_true rfl)]
  all_goals try simp only [lay_0, true_and, Nat.reduceAdd, eq_self_iff_true]
theorem g63_5 {d : Nat} {a1 s0 : Int} {x2 x3 : Option aV} {w : aW} {Q : Option aV → aW → Prop} : T (d + 1) 63 5 [some (vr 0), some (vi a1), x2, x3] [vi s0] w Q = ((¬ s0 = 0 → T d 117 0 [some (vi (w 79 1)), some (vi a1)] [] w (fun r w1 => T (d + 1) 63 22 [some (vr 0), some (vi a1), x2, x3] (r.toList ++ []) w1 Q)) ∧ (¬ (¬ s0 = 0) → Q (some (vi (-2))) w)) := by
  rw [T_if_ne 11 c63_5 rfl, T_aload_0 c63_11, T_getR 11 9 9 c63_12 rfl rfl rfl rfl, rf_0_9, T_getI 6 1 1 c63_15 rfl rfl rfl rfl, T_iload_1 c63_18, T_inv (es := [some (vi (w 79 1)), some (vi a1)]) (st := [vi a1, vi (w 79 1)]) (ks := [0, 0]) (n := 2) (as := [vi (w 79 1), vi a1]) (rest := []) c63_19 (by decide +kernel) (by decide +kernel) rfl rfl (Nat.le_of_ble_eq_true rfl), T_sipush c63_8, T_ireti c63_10 (by decide +kernel)]
  all_goals try simp only [Int.reduceToNat, lay_0, lay_79, true_and, Nat.reduceAdd, eq_self_iff_true]
theorem g63_22 {d : Nat} {a1 s0 : Int} {x2 x3 : Option aV} {w : aW} {Q : Option aV → aW → Prop} : T (d + 1) 63 22 [some (vr 0), some (vi a1), x2, x3] [vi s0] w Q = ((¬ s0 = 0 → ((0 ≤ a1 ∧ a1 < 16) ∧ T d 172 0 [some (vr 50), some (vr 69), some (vr 79), some (vi (w 79 1)), none, none] [] w (fun r w1 => T (d + 1) 63 60 [some (vr 0), some (vi a1), some (vi (w 80 a1)), x3] (r.toList ++ []) w1 Q))) ∧ (¬ (¬ s0 = 0) → Q (some (vi (-5))) w)) := by
  rw [T_if_ne 28 c63_22 rfl, T_aload_0 c63_28, T_getR 11 9 9 c63_29 rfl rfl rfl rfl, rf_0_9, T_getR 6 2 2 c63_32 rfl rfl rfl rfl, rf_79_2, T_iload_1 c63_35, T_iald c63_36, T_istore_2 c63_37, T_aload_0 c63_38, T_getR 11 4 4 c63_39 rfl rfl rfl rfl, rf_0_4, T_aload_0 c63_42, T_getR 11 8 8 c63_43 rfl rfl rfl rfl, rf_0_8, T_aload_0 c63_46, T_getR 11 9 9 c63_47 rfl rfl rfl rfl, rf_0_9, T_aload_0 c63_50, T_getR 11 9 9 c63_51 rfl rfl rfl rfl, rf_0_9, T_getI 6 1 1 c63_54 rfl rfl rfl rfl, T_invv (es := [some (vr 50), some (vr 69), some (vr 79), some (vi (w 79 1)), none, none]) (st := [vi (w 79 1), vr 79, vr 69, vr 50]) (ks := [2, 2, 2, 0]) (n := 6) (c := 9) (k := 50) (as := [vr 69, vr 79, vi (w 79 1)]) (rest := []) c63_57 (by decide +kernel) (by decide +kernel) (by decide +kernel) (by decide) rfl rfl (Nat.le_of_ble_eq_true rfl), T_sipush c63_25, T_ireti c63_27 (by decide +kernel)]
  all_goals try simp only [Int.reduceToNat, lay_0, lay_50, lay_79, ld_80, true_and, Nat.reduceAdd, eq_self_iff_true]
theorem g63_60 {d : Nat} {a1 a2 : Int} {x3 : Option aV} {w : aW} {Q : Option aV → aW → Prop} : T (d + 1) 63 60 [some (vr 0), some (vi a1), some (vi a2), x3] [] w Q = ((0 ≤ a2 ∧ a2 < 10) ∧ T d 172 0 [some (vr 50), some (vr 69), some (vr 79), some (vi (jand (w 79 1) (jxor (jshl 1 a1) (-1)))), none, none] [] w (fun r w1 => T (d + 1) 63 98 [some (vr 0), some (vi a1), some (vi a2), some (vi (w 51 a2))] (r.toList ++ []) w1 Q)) := by
  rw [T_aload_0 c63_60, T_getR 11 4 4 c63_61 rfl rfl rfl rfl, rf_0_4, T_getR 9 0 0 c63_64 rfl rfl rfl rfl, rf_50_0, T_iload_2 c63_67, T_iald c63_68, T_istore_3 c63_69, T_aload_0 c63_70, T_getR 11 4 4 c63_71 rfl rfl rfl rfl, rf_0_4, T_aload_0 c63_74, T_getR 11 8 8 c63_75 rfl rfl rfl rfl, rf_0_8, T_aload_0 c63_78, T_getR 11 9 9 c63_79 rfl rfl rfl rfl, rf_0_9, T_aload_0 c63_82, T_getR 11 9 9 c63_83 rfl rfl rfl rfl, rf_0_9, T_getI 6 1 1 c63_86 rfl rfl rfl rfl, T_sipush c63_89, T_iload_1 c63_90, T_ishl c63_91, T_sipush c63_92, T_ixor c63_93, T_iand c63_94, T_invv (es := [some (vr 50), some (vr 69), some (vr 79), some (vi (jand (w 79 1) (jxor (jshl 1 a1) (-1)))), none, none]) (st := [vi (jand (w 79 1) (jxor (jshl 1 a1) (-1))), vr 79, vr 69, vr 50]) (ks := [2, 2, 2, 0]) (n := 6) (c := 9) (k := 50) (as := [vr 69, vr 79, vi (jand (w 79 1) (jxor (jshl 1 a1) (-1)))]) (rest := []) c63_95 (by decide +kernel) (by decide +kernel) (by decide +kernel) (by decide) rfl rfl (Nat.le_of_ble_eq_true rfl)]
  all_goals try simp only [lay_0, lay_50, lay_79, ld_51, true_and, Nat.reduceAdd, eq_self_iff_true]
theorem g63_98 {d : Nat} {a2 a3 : Int} {x1 : Option aV} {w : aW} {Q : Option aV → aW → Prop} : T d 63 98 [some (vr 0), x1, some (vi a2), some (vi a3)] [] w Q = ((0 ≤ a2 ∧ a2 < 10) ∧ Q (some (vi (jand a3 (jxor (w 51 a2) (-1))))) w) := by
  rw [T_iload_3 c63_98, T_aload_0 c63_99, T_getR 11 4 4 c63_100 rfl rfl rfl rfl, rf_0_4, T_getR 9 0 0 c63_103 rfl rfl rfl rfl, rf_50_0, T_iload_2 c63_106, T_iald c63_107, T_sipush c63_108, T_ixor c63_109, T_iand c63_110, T_ireti c63_111 (by decide +kernel)]
  all_goals try simp only [lay_0, lay_50, ld_51, true_and, Nat.reduceAdd, eq_self_iff_true]
/-! 64: StringHandsModel.stops.(I)I -/
theorem c64_0 : cd 64 0 = some (.aload 0, 1) := by decide +kernel
theorem c64_1 : cd 64 1 = some (.sipush 0, 1) := by decide +kernel
theorem c64_2 : cd 64 2 = some (.putfield 3072, 3) := by decide +kernel
theorem c64_5 : cd 64 5 = some (.aload 0, 1) := by decide +kernel
theorem c64_6 : cd 64 6 = some (.iload 1, 1) := by decide +kernel
theorem c64_7 : cd 64 7 = some (.i2l, 1) := by decide +kernel
theorem c64_8 : cd 64 8 = some (.invokevirtual 127, 3) := by decide +kernel
theorem c64_11 : cd 64 11 = some (.ifCond .ne 17, 3) := by decide +kernel
theorem c64_14 : cd 64 14 = some (.sipush (-2), 2) := by decide +kernel
theorem c64_16 : cd 64 16 = some (.ireturn, 1) := by decide +kernel
theorem c64_17 : cd 64 17 = some (.aload 0, 1) := by decide +kernel
theorem c64_18 : cd 64 18 = some (.iload 1, 1) := by decide +kernel
theorem c64_19 : cd 64 19 = some (.invokevirtual 138, 3) := by decide +kernel
theorem c64_22 : cd 64 22 = some (.ifCond .ne 28, 3) := by decide +kernel
theorem c64_25 : cd 64 25 = some (.sipush (-5), 2) := by decide +kernel
theorem c64_27 : cd 64 27 = some (.ireturn, 1) := by decide +kernel
theorem c64_28 : cd 64 28 = some (.aload 0, 1) := by decide +kernel
theorem c64_29 : cd 64 29 = some (.sipush (-1), 1) := by decide +kernel
theorem c64_30 : cd 64 30 = some (.invokevirtual 173, 3) := by decide +kernel
theorem c64_33 : cd 64 33 = some (.aload 0, 1) := by decide +kernel
theorem c64_34 : cd 64 34 = some (.getfield 3170, 3) := by decide +kernel
theorem c64_37 : cd 64 37 = some (.aload 0, 1) := by decide +kernel
theorem c64_38 : cd 64 38 = some (.getfield 3078, 3) := by decide +kernel
theorem c64_41 : cd 64 41 = some (.sipush 6, 2) := by decide +kernel
theorem c64_43 : cd 64 43 = some (.iload 1, 1) := by decide +kernel
theorem c64_44 : cd 64 44 = some (.iadd, 1) := by decide +kernel
theorem c64_45 : cd 64 45 = some (.iaload, 1) := by decide +kernel
theorem c64_46 : cd 64 46 = some (.iaload, 1) := by decide +kernel
theorem c64_47 : cd 64 47 = some (.istore 2, 1) := by decide +kernel
theorem c64_48 : cd 64 48 = some (.aload 0, 1) := by decide +kernel
theorem c64_49 : cd 64 49 = some (.iload 1, 1) := by decide +kernel
theorem c64_50 : cd 64 50 = some (.invokevirtual 173, 3) := by decide +kernel
theorem c64_53 : cd 64 53 = some (.iload 2, 1) := by decide +kernel
theorem c64_54 : cd 64 54 = some (.aload 0, 1) := by decide +kernel
theorem c64_55 : cd 64 55 = some (.getfield 3170, 3) := by decide +kernel
theorem c64_58 : cd 64 58 = some (.aload 0, 1) := by decide +kernel
theorem c64_59 : cd 64 59 = some (.getfield 3078, 3) := by decide +kernel
theorem c64_62 : cd 64 62 = some (.sipush 6, 2) := by decide +kernel
theorem c64_64 : cd 64 64 = some (.iload 1, 1) := by decide +kernel
theorem c64_65 : cd 64 65 = some (.iadd, 1) := by decide +kernel
theorem c64_66 : cd 64 66 = some (.iaload, 1) := by decide +kernel
theorem c64_67 : cd 64 67 = some (.iaload, 1) := by decide +kernel
theorem c64_68 : cd 64 68 = some (.sipush (-1), 1) := by decide +kernel
theorem c64_69 : cd 64 69 = some (.ixor, 1) := by decide +kernel
theorem c64_70 : cd 64 70 = some (.iand, 1) := by decide +kernel
theorem c64_71 : cd 64 71 = some (.ireturn, 1) := by decide +kernel
theorem g64_0 {d : Nat} {a1 : Int} {x2 : Option aV} {w : aW} {Q : Option aV → aW → Prop} : T (d + 1) 64 0 [some (vr 167), some (vi a1), x2] [] w Q = T d 127 0 [some (vr 167), some (vl a1), none] [] (iup w 167 0 0) (fun r w1 => T (d + 1) 64 11 [some (vr 167), some (vi a1), x2] (r.toList ++ []) w1 Q) := by
  rw [T_aload_0 c64_0, T_sipush c64_1, T_putI 12 0 0 c64_2 rfl rfl rfl rfl, T_aload_0 c64_5, T_iload_1 c64_6, T_i2l c64_7, T_invv (es := [some (vr 167), some (vl a1), none]) (st := [vl a1, vr 167]) (ks := [2, 1]) (n := 3) (c := 12) (k := 167) (as := [vl a1]) (rest := []) c64_8 (by decide +kernel) (by decide +kernel) (by decide +kernel) (by decide) rfl rfl (Nat.le_of_ble_eq_true rfl)]
  all_goals try simp only [lay_167, true_and, Nat.reduceAdd, eq_self_iff_true]
theorem g64_11 {d : Nat} {a1 s0 : Int} {x2 : Option aV} {w : aW} {Q : Option aV → aW → Prop} : T (d + 1) 64 11 [some (vr 167), some (vi a1), x2] [vi s0] w Q = ((¬ s0 = 0 → T d 138 0 [some (vr 167), some (vi a1)] [] w (fun r w1 => T (d + 1) 64 22 [some (vr 167), some (vi a1), x2] (r.toList ++ []) w1 Q)) ∧ (¬ (¬ s0 = 0) → Q (some (vi (-2))) w)) := by
  rw [T_if_ne 17 c64_11 rfl, T_aload_0 c64_17, T_iload_1 c64_18, T_invv (es := [some (vr 167), some (vi a1)]) (st := [vi a1, vr 167]) (ks := [2, 0]) (n := 2) (c := 12) (k := 167) (as := [vi a1]) (rest := []) c64_19 (by decide +kernel) (by decide +kernel) (by decide +kernel) (by decide) rfl rfl (Nat.le_of_ble_eq_true rfl), T_sipush c64_14, T_ireti c64_16 (by decide +kernel)]
  all_goals try simp only [Int.reduceToNat, lay_167, true_and, Nat.reduceAdd, eq_self_iff_true]
theorem g64_22 {d : Nat} {s0 : Int} {x1 x2 : Option aV} {w : aW} {Q : Option aV → aW → Prop} : T (d + 1) 64 22 [some (vr 167), x1, x2] [vi s0] w Q = ((¬ s0 = 0 → T d 173 0 [some (vr 167), some (vi (-1)), none, none] [] w (fun r w1 => T (d + 1) 64 33 [some (vr 167), x1, x2] (r.toList ++ []) w1 Q)) ∧ (¬ (¬ s0 = 0) → Q (some (vi (-5))) w)) := by
  rw [T_if_ne 28 c64_22 rfl, T_aload_0 c64_28, T_sipush c64_29, T_invv (es := [some (vr 167), some (vi (-1)), none, none]) (st := [vi (-1), vr 167]) (ks := [2, 0]) (n := 4) (c := 12) (k := 167) (as := [vi (-1)]) (rest := []) c64_30 (by decide +kernel) (by decide +kernel) (by decide +kernel) (by decide) rfl rfl (Nat.le_of_ble_eq_true rfl), T_sipush c64_25, T_ireti c64_27 (by decide +kernel)]
  all_goals try simp only [Int.reduceToNat, lay_167, true_and, Nat.reduceAdd, eq_self_iff_true]
theorem g64_33 {d : Nat} {a1 : Int} {x2 : Option aV} {w : aW} {Q : Option aV → aW → Prop} : T (d + 1) 64 33 [some (vr 167), some (vi a1), x2] [] w Q = ((0 ≤ w32 (6 + a1) ∧ w32 (6 + a1) < 4932) ∧ ((0 ≤ w 168 (w32 (6 + a1)) ∧ w 168 (w32 (6 + a1)) < 10) ∧ T d 173 0 [some (vr 167), some (vi a1), none, none] [] w (fun r w1 => T (d + 1) 64 53 [some (vr 167), some (vi a1), some (vi (w 179 (w 168 (w32 (6 + a1)))))] (r.toList ++ []) w1 Q))) := by
  rw [T_aload_0 c64_33, T_getR 12 24 24 c64_34 rfl rfl rfl rfl, rf_167_24, T_aload_0 c64_37, T_getR 12 1 1 c64_38 rfl rfl rfl rfl, rf_167_1, T_sipush c64_41, T_iload_1 c64_43, T_iadd c64_44, T_iald c64_45, T_iald c64_46, T_istore_2 c64_47, T_aload_0 c64_48, T_iload_1 c64_49, T_invv (es := [some (vr 167), some (vi a1), none, none]) (st := [vi a1, vr 167]) (ks := [2, 0]) (n := 4) (c := 12) (k := 167) (as := [vi a1]) (rest := []) c64_50 (by decide +kernel) (by decide +kernel) (by decide +kernel) (by decide) rfl rfl (Nat.le_of_ble_eq_true rfl)]
  all_goals try simp only [lay_167, ld_168, ld_179, true_and, Nat.reduceAdd, eq_self_iff_true]
theorem g64_53 {d : Nat} {a1 a2 : Int} {w : aW} {Q : Option aV → aW → Prop} : T d 64 53 [some (vr 167), some (vi a1), some (vi a2)] [] w Q = ((0 ≤ w32 (6 + a1) ∧ w32 (6 + a1) < 4932) ∧ ((0 ≤ w 168 (w32 (6 + a1)) ∧ w 168 (w32 (6 + a1)) < 10) ∧ Q (some (vi (jand a2 (jxor (w 179 (w 168 (w32 (6 + a1)))) (-1))))) w)) := by
  rw [T_iload_2 c64_53, T_aload_0 c64_54, T_getR 12 24 24 c64_55 rfl rfl rfl rfl, rf_167_24, T_aload_0 c64_58, T_getR 12 1 1 c64_59 rfl rfl rfl rfl, rf_167_1, T_sipush c64_62, T_iload_1 c64_64, T_iadd c64_65, T_iald c64_66, T_iald c64_67, T_sipush c64_68, T_ixor c64_69, T_iand c64_70, T_ireti c64_71 (by decide +kernel)]
  all_goals try simp only [lay_167, ld_168, ld_179, true_and, Nat.reduceAdd, eq_self_iff_true]
/-! 65: StringHands.begins.(II)I -/
theorem c65_0 : cd 65 0 = some (.aload 0, 1) := by decide +kernel
theorem c65_1 : cd 65 1 = some (.iload 1, 1) := by decide +kernel
theorem c65_2 : cd 65 2 = some (.invokevirtual 181, 3) := by decide +kernel
theorem c65_5 : cd 65 5 = some (.istore 3, 1) := by decide +kernel
theorem c65_6 : cd 65 6 = some (.iload 3, 1) := by decide +kernel
theorem c65_7 : cd 65 7 = some (.ifCond .eq 12, 3) := by decide +kernel
theorem c65_10 : cd 65 10 = some (.iload 3, 1) := by decide +kernel
theorem c65_11 : cd 65 11 = some (.ireturn, 1) := by decide +kernel
theorem c65_12 : cd 65 12 = some (.aload 0, 1) := by decide +kernel
theorem c65_13 : cd 65 13 = some (.invokevirtual 155, 3) := by decide +kernel
theorem c65_16 : cd 65 16 = some (.astore 4, 2) := by decide +kernel
theorem c65_18 : cd 65 18 = some (.aload 0, 1) := by decide +kernel
theorem c65_19 : cd 65 19 = some (.getfield 2826, 3) := by decide +kernel
theorem c65_22 : cd 65 22 = some (.invokevirtual 161, 3) := by decide +kernel
theorem c65_25 : cd 65 25 = some (.sipush 0, 1) := by decide +kernel
theorem c65_26 : cd 65 26 = some (.istore 5, 2) := by decide +kernel
theorem c65_28 : cd 65 28 = some (.iload 5, 2) := by decide +kernel
theorem c65_30 : cd 65 30 = some (.aload 0, 1) := by decide +kernel
theorem c65_31 : cd 65 31 = some (.getfield 2826, 3) := by decide +kernel
theorem c65_34 : cd 65 34 = some (.getfield 0, 3) := by decide +kernel
theorem c65_37 : cd 65 37 = some (.if_icmp .ge 69, 3) := by decide +kernel
theorem c65_40 : cd 65 40 = some (.aload 0, 1) := by decide +kernel
theorem c65_41 : cd 65 41 = some (.getfield 2842, 3) := by decide +kernel
theorem c65_44 : cd 65 44 = some (.aload 4, 2) := by decide +kernel
theorem c65_46 : cd 65 46 = some (.iload 5, 2) := by decide +kernel
theorem c65_48 : cd 65 48 = some (.invokevirtual 182, 3) := by decide +kernel
theorem c65_51 : cd 65 51 = some (.ifCond .eq 63, 3) := by decide +kernel
theorem c65_54 : cd 65 54 = some (.aload 0, 1) := by decide +kernel
theorem c65_55 : cd 65 55 = some (.getfield 2826, 3) := by decide +kernel
theorem c65_58 : cd 65 58 = some (.iload 5, 2) := by decide +kernel
theorem c65_60 : cd 65 60 = some (.invokevirtual 162, 3) := by decide +kernel
theorem c65_63 : cd 65 63 = some (.iinc 5 1, 3) := by decide +kernel
theorem c65_66 : cd 65 66 = some (.goto 28, 3) := by decide +kernel
theorem c65_69 : cd 65 69 = some (.aload 0, 1) := by decide +kernel
theorem c65_70 : cd 65 70 = some (.getfield 2826, 3) := by decide +kernel
theorem c65_73 : cd 65 73 = some (.iload 2, 1) := by decide +kernel
theorem c65_74 : cd 65 74 = some (.invokevirtual 163, 3) := by decide +kernel
theorem c65_77 : cd 65 77 = some (.ireturn, 1) := by decide +kernel
theorem g65_0 {d : Nat} {a1 : Int} {x2 x3 x4 x5 : Option aV} {w : aW} {Q : Option aV → aW → Prop} : T (d + 1) 65 0 [some (vr 0), some (vi a1), x2, x3, x4, x5] [] w Q = T d 181 0 [some (vr 0), some (vi a1), none, none] [] w (fun r w1 => T (d + 1) 65 5 [some (vr 0), some (vi a1), x2, x3, x4, x5] (r.toList ++ []) w1 Q) := by
  rw [T_aload_0 c65_0, T_iload_1 c65_1, T_invv (es := [some (vr 0), some (vi a1), none, none]) (st := [vi a1, vr 0]) (ks := [2, 0]) (n := 4) (c := 11) (k := 0) (as := [vi a1]) (rest := []) c65_2 (by decide +kernel) (by decide +kernel) (by decide +kernel) (by decide) rfl rfl (Nat.le_of_ble_eq_true rfl)]
  all_goals try simp only [lay_0, true_and, Nat.reduceAdd, eq_self_iff_true]
theorem g65_5 {d : Nat} {s0 : Int} {x1 x2 x3 x4 x5 : Option aV} {w : aW} {Q : Option aV → aW → Prop} : T (d + 1) 65 5 [some (vr 0), x1, x2, x3, x4, x5] [vi s0] w Q = ((s0 = 0 → T d 155 0 [some (vr 0)] [] w (fun r w1 => T (d + 1) 65 16 [some (vr 0), x1, x2, some (vi s0), x4, x5] (r.toList ++ []) w1 Q)) ∧ (¬ (s0 = 0) → Q (some (vi s0)) w)) := by
  rw [T_istore_3 c65_5, T_iload_3 c65_6, T_if_eq 12 c65_7 rfl, T_aload_0 c65_12, T_invv (es := [some (vr 0)]) (st := [vr 0]) (ks := [2]) (n := 1) (c := 11) (k := 0) (as := []) (rest := []) c65_13 (by decide +kernel) (by decide +kernel) (by decide +kernel) (by decide) rfl rfl (Nat.le_of_ble_eq_true rfl), T_iload_3 c65_10, T_ireti c65_11 (by decide +kernel)]
  all_goals try simp only [Int.reduceToNat, lay_0, true_and, Nat.reduceAdd, eq_self_iff_true]
theorem g65_16 {d : Nat} {s0 : Nat} {x1 x2 x3 x4 x5 : Option aV} {w : aW} {Q : Option aV → aW → Prop} : T (d + 1) 65 16 [some (vr 0), x1, x2, x3, x4, x5] [vr s0] w Q = T d 161 0 [some (vr 19)] [] w (fun r w1 => T (d + 1) 65 25 [some (vr 0), x1, x2, x3, some (vr s0), x5] (r.toList ++ []) w1 Q) := by
  rw [T_astore_4 c65_16, T_aload_0 c65_18, T_getR 11 2 2 c65_19 rfl rfl rfl rfl, rf_0_2, T_invv (es := [some (vr 19)]) (st := [vr 19]) (ks := [2]) (n := 1) (c := 0) (k := 19) (as := []) (rest := []) c65_22 (by decide +kernel) (by decide +kernel) (by decide +kernel) (by decide) rfl rfl (Nat.le_of_ble_eq_true rfl)]
  all_goals try simp only [lay_0, lay_19, true_and, Nat.reduceAdd, eq_self_iff_true]
theorem g65_25 {d : Nat} {x0 x1 x2 x3 x4 x5 : Option aV} {w : aW} {Q : Option aV → aW → Prop} : T d 65 25 [x0, x1, x2, x3, x4, x5] [] w Q = T d 65 28 [x0, x1, x2, x3, x4, some (vi 0)] [] w Q := by
  rw [T_sipush c65_25, T_istore_5 c65_26]
  all_goals try simp only [true_and, Nat.reduceAdd, eq_self_iff_true]
theorem g65_28 {d : Nat} {a2 a5 : Int} {r4 : Nat} {x1 x3 : Option aV} {w : aW} {Q : Option aV → aW → Prop} : T (d + 1) 65 28 [some (vr 0), x1, some (vi a2), x3, some (vr r4), some (vi a5)] [] w Q = ((w 19 0 ≤ a5 → T d 163 0 [some (vr 19), some (vi a2)] [] w (fun r w1 => T (d + 1) 65 77 [some (vr 0), x1, some (vi a2), x3, some (vr r4), some (vi a5)] (r.toList ++ []) w1 Q)) ∧ (¬ (w 19 0 ≤ a5) → T d 182 0 [some (vr 57), some (vr r4), some (vi a5), none, none] [] w (fun r w1 => T (d + 1) 65 51 [some (vr 0), x1, some (vi a2), x3, some (vr r4), some (vi a5)] (r.toList ++ []) w1 Q))) := by
  rw [T_iload_5 c65_28, T_aload_0 c65_30, T_getR 11 2 2 c65_31 rfl rfl rfl rfl, rf_0_2, T_getI 0 0 0 c65_34 rfl rfl rfl rfl, T_icmp_ge 69 c65_37 rfl, T_aload_0 c65_69, T_getR 11 2 2 c65_70 rfl rfl rfl rfl, rf_0_2, T_iload_2 c65_73, T_invv (es := [some (vr 19), some (vi a2)]) (st := [vi a2, vr 19]) (ks := [2, 0]) (n := 2) (c := 0) (k := 19) (as := [vi a2]) (rest := []) c65_74 (by decide +kernel) (by decide +kernel) (by decide +kernel) (by decide) rfl rfl (Nat.le_of_ble_eq_true rfl), T_aload_0 c65_40, T_getR 11 6 6 c65_41 rfl rfl rfl rfl, rf_0_6, T_aload_4 c65_44, T_iload_5 c65_46, T_invv (es := [some (vr 57), some (vr r4), some (vi a5), none, none]) (st := [vi a5, vr r4, vr 57]) (ks := [2, 2, 0]) (n := 5) (c := 5) (k := 57) (as := [vr r4, vi a5]) (rest := []) c65_48 (by decide +kernel) (by decide +kernel) (by decide +kernel) (by decide) rfl rfl (Nat.le_of_ble_eq_true rfl)]
  all_goals try simp only [Int.reduceToNat, lay_0, lay_19, lay_57, true_and, Nat.reduceAdd, eq_self_iff_true]
theorem g65_51 {d : Nat} {a5 s0 : Int} {x1 x2 x3 x4 : Option aV} {w : aW} {Q : Option aV → aW → Prop} : T (d + 1) 65 51 [some (vr 0), x1, x2, x3, x4, some (vi a5)] [vi s0] w Q = ((s0 = 0 → T (d + 1) 65 63 [some (vr 0), x1, x2, x3, x4, some (vi a5)] [] w Q) ∧ (¬ (s0 = 0) → T d 162 0 [some (vr 19), some (vi a5)] [] w (fun r w1 => T (d + 1) 65 63 [some (vr 0), x1, x2, x3, x4, some (vi a5)] (r.toList ++ []) w1 Q))) := by
  rw [T_if_eq 63 c65_51 rfl, T_aload_0 c65_54, T_getR 11 2 2 c65_55 rfl rfl rfl rfl, rf_0_2, T_iload_5 c65_58, T_invv (es := [some (vr 19), some (vi a5)]) (st := [vi a5, vr 19]) (ks := [2, 0]) (n := 2) (c := 0) (k := 19) (as := [vi a5]) (rest := []) c65_60 (by decide +kernel) (by decide +kernel) (by decide +kernel) (by decide) rfl rfl (Nat.le_of_ble_eq_true rfl)]
  all_goals try simp only [Int.reduceToNat, lay_0, lay_19, true_and, Nat.reduceAdd, eq_self_iff_true]
theorem g65_63 {d : Nat} {a5 : Int} {x0 x1 x2 x3 x4 : Option aV} {w : aW} {Q : Option aV → aW → Prop} : T d 65 63 [x0, x1, x2, x3, x4, some (vi a5)] [] w Q = T d 65 28 [x0, x1, x2, x3, x4, some (vi (w32 (a5 + 1)))] [] w Q := by
  rw [T_iinc_5 c65_63, T_goto 28 c65_66 rfl]
  all_goals try simp only [true_and, Nat.reduceAdd, eq_self_iff_true]
theorem g65_77 {d : Nat} {s0 : Int} {x0 x1 x2 x3 x4 x5 : Option aV} {w : aW} {Q : Option aV → aW → Prop} : T d 65 77 [x0, x1, x2, x3, x4, x5] [vi s0] w Q = Q (some (vi s0)) w := by
  rw [T_ireti c65_77 (by decide +kernel)]
  all_goals try simp only [true_and, Nat.reduceAdd, eq_self_iff_true]
/-! 66: StringHandsModel.begins.(II)I -/
theorem c66_0 : cd 66 0 = some (.aload 0, 1) := by decide +kernel
theorem c66_1 : cd 66 1 = some (.sipush 0, 1) := by decide +kernel
theorem c66_2 : cd 66 2 = some (.putfield 3072, 3) := by decide +kernel
theorem c66_5 : cd 66 5 = some (.aload 0, 1) := by decide +kernel
theorem c66_6 : cd 66 6 = some (.iload 1, 1) := by decide +kernel
theorem c66_7 : cd 66 7 = some (.invokevirtual 183, 3) := by decide +kernel
theorem c66_10 : cd 66 10 = some (.istore 3, 1) := by decide +kernel
theorem c66_11 : cd 66 11 = some (.iload 3, 1) := by decide +kernel
theorem c66_12 : cd 66 12 = some (.ifCond .eq 17, 3) := by decide +kernel
theorem c66_15 : cd 66 15 = some (.iload 3, 1) := by decide +kernel
theorem c66_16 : cd 66 16 = some (.ireturn, 1) := by decide +kernel
theorem c66_17 : cd 66 17 = some (.aload 0, 1) := by decide +kernel
theorem c66_18 : cd 66 18 = some (.invokevirtual 156, 3) := by decide +kernel
theorem c66_21 : cd 66 21 = some (.sipush 0, 1) := by decide +kernel
theorem c66_22 : cd 66 22 = some (.istore 4, 2) := by decide +kernel
theorem c66_24 : cd 66 24 = some (.sipush 0, 1) := by decide +kernel
theorem c66_25 : cd 66 25 = some (.istore 5, 2) := by decide +kernel
theorem c66_27 : cd 66 27 = some (.iload 5, 2) := by decide +kernel
theorem c66_29 : cd 66 29 = some (.aload 0, 1) := by decide +kernel
theorem c66_30 : cd 66 30 = some (.invokevirtual 164, 3) := by decide +kernel
theorem c66_33 : cd 66 33 = some (.if_icmp .ge 67, 3) := by decide +kernel
theorem c66_36 : cd 66 36 = some (.aload 0, 1) := by decide +kernel
theorem c66_37 : cd 66 37 = some (.iload 5, 2) := by decide +kernel
theorem c66_39 : cd 66 39 = some (.iload 1, 1) := by decide +kernel
theorem c66_40 : cd 66 40 = some (.invokevirtual 184, 3) := by decide +kernel
theorem c66_43 : cd 66 43 = some (.ifCond .ne 49, 3) := by decide +kernel
theorem c66_46 : cd 66 46 = some (.goto 61, 3) := by decide +kernel
theorem c66_49 : cd 66 49 = some (.iload 4, 2) := by decide +kernel
theorem c66_51 : cd 66 51 = some (.iload 2, 1) := by decide +kernel
theorem c66_52 : cd 66 52 = some (.if_icmp .ne 58, 3) := by decide +kernel
theorem c66_55 : cd 66 55 = some (.iload 5, 2) := by decide +kernel
theorem c66_57 : cd 66 57 = some (.ireturn, 1) := by decide +kernel
theorem c66_58 : cd 66 58 = some (.iinc 4 1, 3) := by decide +kernel
theorem c66_61 : cd 66 61 = some (.iinc 5 1, 3) := by decide +kernel
theorem c66_64 : cd 66 64 = some (.goto 27, 3) := by decide +kernel
theorem c66_67 : cd 66 67 = some (.iload 2, 1) := by decide +kernel
theorem c66_68 : cd 66 68 = some (.sipush (-1), 1) := by decide +kernel
theorem c66_69 : cd 66 69 = some (.if_icmp .ne 77, 3) := by decide +kernel
theorem c66_72 : cd 66 72 = some (.iload 4, 2) := by decide +kernel
theorem c66_74 : cd 66 74 = some (.goto 78, 3) := by decide +kernel
theorem c66_77 : cd 66 77 = some (.sipush (-1), 1) := by decide +kernel
theorem c66_78 : cd 66 78 = some (.ireturn, 1) := by decide +kernel
theorem g66_0 {d : Nat} {a1 : Int} {x2 x3 x4 x5 : Option aV} {w : aW} {Q : Option aV → aW → Prop} : T (d + 1) 66 0 [some (vr 167), some (vi a1), x2, x3, x4, x5] [] w Q = T d 183 0 [some (vr 167), some (vi a1), none] [] (iup w 167 0 0) (fun r w1 => T (d + 1) 66 10 [some (vr 167), some (vi a1), x2, x3, x4, x5] (r.toList ++ []) w1 Q) := by
  rw [T_aload_0 c66_0, T_sipush c66_1, T_putI 12 0 0 c66_2 rfl rfl rfl rfl, T_aload_0 c66_5, T_iload_1 c66_6, T_invv (es := [some (vr 167), some (vi a1), none]) (st := [vi a1, vr 167]) (ks := [2, 0]) (n := 3) (c := 12) (k := 167) (as := [vi a1]) (rest := []) c66_7 (by decide +kernel) (by decide +kernel) (by decide +kernel) (by decide) rfl rfl (Nat.le_of_ble_eq_true rfl)]
  all_goals try simp only [lay_167, true_and, Nat.reduceAdd, eq_self_iff_true]
theorem g66_10 {d : Nat} {s0 : Int} {x1 x2 x3 x4 x5 : Option aV} {w : aW} {Q : Option aV → aW → Prop} : T (d + 1) 66 10 [some (vr 167), x1, x2, x3, x4, x5] [vi s0] w Q = ((s0 = 0 → T d 156 0 [some (vr 167), none] [] w (fun r w1 => T (d + 1) 66 21 [some (vr 167), x1, x2, some (vi s0), x4, x5] (r.toList ++ []) w1 Q)) ∧ (¬ (s0 = 0) → Q (some (vi s0)) w)) := by
  rw [T_istore_3 c66_10, T_iload_3 c66_11, T_if_eq 17 c66_12 rfl, T_aload_0 c66_17, T_invv (es := [some (vr 167), none]) (st := [vr 167]) (ks := [2]) (n := 2) (c := 12) (k := 167) (as := []) (rest := []) c66_18 (by decide +kernel) (by decide +kernel) (by decide +kernel) (by decide) rfl rfl (Nat.le_of_ble_eq_true rfl), T_iload_3 c66_15, T_ireti c66_16 (by decide +kernel)]
  all_goals try simp only [Int.reduceToNat, lay_167, true_and, Nat.reduceAdd, eq_self_iff_true]
theorem g66_21 {d : Nat} {x0 x1 x2 x3 x4 x5 : Option aV} {w : aW} {Q : Option aV → aW → Prop} : T d 66 21 [x0, x1, x2, x3, x4, x5] [] w Q = T d 66 27 [x0, x1, x2, x3, some (vi 0), some (vi 0)] [] w Q := by
  rw [T_sipush c66_21, T_istore_4 c66_22, T_sipush c66_24, T_istore_5 c66_25]
  all_goals try simp only [true_and, Nat.reduceAdd, eq_self_iff_true]
theorem g66_27 {d : Nat} {a5 : Int} {x1 x2 x3 x4 : Option aV} {w : aW} {Q : Option aV → aW → Prop} : T (d + 1) 66 27 [some (vr 167), x1, x2, x3, x4, some (vi a5)] [] w Q = T d 164 0 [some (vr 167)] [] w (fun r w1 => T (d + 1) 66 33 [some (vr 167), x1, x2, x3, x4, some (vi a5)] (r.toList ++ [vi a5]) w1 Q) := by
  rw [T_iload_5 c66_27, T_aload_0 c66_29, T_invv (es := [some (vr 167)]) (st := [vr 167, vi a5]) (ks := [2]) (n := 1) (c := 12) (k := 167) (as := []) (rest := [vi a5]) c66_30 (by decide +kernel) (by decide +kernel) (by decide +kernel) (by decide) rfl rfl (Nat.le_of_ble_eq_true rfl)]
  all_goals try simp only [lay_167, true_and, Nat.reduceAdd, eq_self_iff_true]
theorem g66_33 {d : Nat} {a1 a2 a4 a5 s0 s1 : Int} {x3 : Option aV} {w : aW} {Q : Option aV → aW → Prop} : T (d + 1) 66 33 [some (vr 167), some (vi a1), some (vi a2), x3, some (vi a4), some (vi a5)] [vi s1, vi s0] w Q = ((s1 ≤ s0 → ((¬ a2 = (-1) → T (d + 1) 66 78 [some (vr 167), some (vi a1), some (vi a2), x3, some (vi a4), some (vi a5)] [vi (-1)] w Q) ∧ (¬ (¬ a2 = (-1)) → T (d + 1) 66 78 [some (vr 167), some (vi a1), some (vi a2), x3, some (vi a4), some (vi a5)] [vi a4] w Q))) ∧ (¬ (s1 ≤ s0) → T d 184 0 [some (vr 167), some (vi a5), some (vi a1), none, none] [] w (fun r w1 => T (d + 1) 66 43 [some (vr 167), some (vi a1), some (vi a2), x3, some (vi a4), some (vi a5)] (r.toList ++ []) w1 Q))) := by
  rw [T_icmp_ge 67 c66_33 rfl, T_iload_2 c66_67, T_sipush c66_68, T_icmp_ne 77 c66_69 rfl, T_sipush c66_77, T_iload_4 c66_72, T_goto 78 c66_74 rfl, T_aload_0 c66_36, T_iload_5 c66_37, T_iload_1 c66_39, T_invv (es := [some (vr 167), some (vi a5), some (vi a1), none, none]) (st := [vi a1, vi a5, vr 167]) (ks := [2, 0, 0]) (n := 5) (c := 12) (k := 167) (as := [vi a5, vi a1]) (rest := []) c66_40 (by decide +kernel) (by decide +kernel) (by decide +kernel) (by decide) rfl rfl (Nat.le_of_ble_eq_true rfl)]
  all_goals try simp only [Int.reduceToNat, lay_167, true_and, Nat.reduceAdd, eq_self_iff_true]
theorem g66_43 {d : Nat} {a2 a4 a5 s0 : Int} {x0 x1 x3 : Option aV} {w : aW} {Q : Option aV → aW → Prop} : T d 66 43 [x0, x1, some (vi a2), x3, some (vi a4), some (vi a5)] [vi s0] w Q = ((¬ s0 = 0 → ((¬ a4 = a2 → T d 66 61 [x0, x1, some (vi a2), x3, some (vi (w32 (a4 + 1))), some (vi a5)] [] w Q) ∧ (¬ (¬ a4 = a2) → Q (some (vi a5)) w))) ∧ (¬ (¬ s0 = 0) → T d 66 61 [x0, x1, some (vi a2), x3, some (vi a4), some (vi a5)] [] w Q)) := by
  rw [T_if_ne 49 c66_43 rfl, T_iload_4 c66_49, T_iload_2 c66_51, T_icmp_ne 58 c66_52 rfl, T_iinc_4 c66_58, T_iload_5 c66_55, T_ireti c66_57 (by decide +kernel), T_goto 61 c66_46 rfl]
  all_goals try simp only [Int.reduceToNat, true_and, Nat.reduceAdd, eq_self_iff_true]
theorem g66_61 {d : Nat} {a5 : Int} {x0 x1 x2 x3 x4 : Option aV} {w : aW} {Q : Option aV → aW → Prop} : T d 66 61 [x0, x1, x2, x3, x4, some (vi a5)] [] w Q = T d 66 27 [x0, x1, x2, x3, x4, some (vi (w32 (a5 + 1)))] [] w Q := by
  rw [T_iinc_5 c66_61, T_goto 27 c66_64 rfl]
  all_goals try simp only [true_and, Nat.reduceAdd, eq_self_iff_true]
theorem g66_78 {d : Nat} {s0 : Int} {x0 x1 x2 x3 x4 x5 : Option aV} {w : aW} {Q : Option aV → aW → Prop} : T d 66 78 [x0, x1, x2, x3, x4, x5] [vi s0] w Q = Q (some (vi s0)) w := by
  rw [T_ireti c66_78 (by decide +kernel)]
  all_goals try simp only [true_and, Nat.reduceAdd, eq_self_iff_true]
/-! 67: StringHands.rehearse.(I)I -/
theorem c67_0 : cd 67 0 = some (.aload 0, 1) := by decide +kernel
theorem c67_1 : cd 67 1 = some (.iload 1, 1) := by decide +kernel
theorem c67_2 : cd 67 2 = some (.invokevirtual 181, 3) := by decide +kernel
theorem c67_5 : cd 67 5 = some (.istore 2, 1) := by decide +kernel
theorem c67_6 : cd 67 6 = some (.iload 2, 1) := by decide +kernel
theorem c67_7 : cd 67 7 = some (.ifCond .eq 12, 3) := by decide +kernel
theorem c67_10 : cd 67 10 = some (.iload 2, 1) := by decide +kernel
theorem c67_11 : cd 67 11 = some (.ireturn, 1) := by decide +kernel
theorem c67_12 : cd 67 12 = some (.aload 0, 1) := by decide +kernel
theorem c67_13 : cd 67 13 = some (.getfield 2842, 3) := by decide +kernel
theorem c67_16 : cd 67 16 = some (.aload 0, 1) := by decide +kernel
theorem c67_17 : cd 67 17 = some (.invokevirtual 155, 3) := by decide +kernel
theorem c67_20 : cd 67 20 = some (.aload 0, 1) := by decide +kernel
theorem c67_21 : cd 67 21 = some (.getfield 2850, 3) := by decide +kernel
theorem c67_24 : cd 67 24 = some (.getfield 2052, 3) := by decide +kernel
theorem c67_27 : cd 67 27 = some (.aload 0, 1) := by decide +kernel
theorem c67_28 : cd 67 28 = some (.getfield 2854, 3) := by decide +kernel
theorem c67_31 : cd 67 31 = some (.getfield 1536, 3) := by decide +kernel
theorem c67_34 : cd 67 34 = some (.invokevirtual 185, 3) := by decide +kernel
theorem c67_37 : cd 67 37 = some (.ireturn, 1) := by decide +kernel
theorem g67_0 {d : Nat} {a1 : Int} {x2 : Option aV} {w : aW} {Q : Option aV → aW → Prop} : T (d + 1) 67 0 [some (vr 0), some (vi a1), x2] [] w Q = T d 181 0 [some (vr 0), some (vi a1), none, none] [] w (fun r w1 => T (d + 1) 67 5 [some (vr 0), some (vi a1), x2] (r.toList ++ []) w1 Q) := by
  rw [T_aload_0 c67_0, T_iload_1 c67_1, T_invv (es := [some (vr 0), some (vi a1), none, none]) (st := [vi a1, vr 0]) (ks := [2, 0]) (n := 4) (c := 11) (k := 0) (as := [vi a1]) (rest := []) c67_2 (by decide +kernel) (by decide +kernel) (by decide +kernel) (by decide) rfl rfl (Nat.le_of_ble_eq_true rfl)]
  all_goals try simp only [lay_0, true_and, Nat.reduceAdd, eq_self_iff_true]
theorem g67_5 {d : Nat} {s0 : Int} {x1 x2 : Option aV} {w : aW} {Q : Option aV → aW → Prop} : T (d + 1) 67 5 [some (vr 0), x1, x2] [vi s0] w Q = ((s0 = 0 → T d 155 0 [some (vr 0)] [] w (fun r w1 => T (d + 1) 67 20 [some (vr 0), x1, some (vi s0)] (r.toList ++ [vr 57]) w1 Q)) ∧ (¬ (s0 = 0) → Q (some (vi s0)) w)) := by
  rw [T_istore_2 c67_5, T_iload_2 c67_6, T_if_eq 12 c67_7 rfl, T_aload_0 c67_12, T_getR 11 6 6 c67_13 rfl rfl rfl rfl, rf_0_6, T_aload_0 c67_16, T_invv (es := [some (vr 0)]) (st := [vr 0, vr 57]) (ks := [2]) (n := 1) (c := 11) (k := 0) (as := []) (rest := [vr 57]) c67_17 (by decide +kernel) (by decide +kernel) (by decide +kernel) (by decide) rfl rfl (Nat.le_of_ble_eq_true rfl), T_iload_2 c67_10, T_ireti c67_11 (by decide +kernel)]
  all_goals try simp only [Int.reduceToNat, lay_0, true_and, Nat.reduceAdd, eq_self_iff_true]
theorem g67_20 {d : Nat} {s0 s1 : Nat} {x1 x2 : Option aV} {w : aW} {Q : Option aV → aW → Prop} : T (d + 1) 67 20 [some (vr 0), x1, x2] [vr s1, vr s0] w Q = (lay s0 = (5, 0) ∧ T d 185 0 [some (vr s0), some (vr s1), some (vi (w 69 1)), some (vi (w 79 0)), none, none, none] [] w (fun r w1 => T (d + 1) 67 37 [some (vr 0), x1, x2] (r.toList ++ []) w1 Q)) := by
  rw [T_aload_0 c67_20, T_getR 11 8 8 c67_21 rfl rfl rfl rfl, rf_0_8, T_getI 8 1 1 c67_24 rfl rfl rfl rfl, T_aload_0 c67_27, T_getR 11 9 9 c67_28 rfl rfl rfl rfl, rf_0_9, T_getI 6 0 0 c67_31 rfl rfl rfl rfl, T_invv (es := [some (vr s0), some (vr s1), some (vi (w 69 1)), some (vi (w 79 0)), none, none, none]) (st := [vi (w 79 0), vi (w 69 1), vr s1, vr s0]) (ks := [2, 2, 0, 0]) (n := 7) (c := 5) (k := s0) (as := [vr s1, vi (w 69 1), vi (w 79 0)]) (rest := []) c67_34 (by decide +kernel) (by decide +kernel) (by decide +kernel) (by decide) rfl rfl (Nat.le_of_ble_eq_true rfl)]
  all_goals try simp only [lay_0, lay_69, lay_79, true_and, Nat.reduceAdd, eq_self_iff_true]
theorem g67_37 {d : Nat} {s0 : Int} {x0 x1 x2 : Option aV} {w : aW} {Q : Option aV → aW → Prop} : T d 67 37 [x0, x1, x2] [vi s0] w Q = Q (some (vi s0)) w := by
  rw [T_ireti c67_37 (by decide +kernel)]
  all_goals try simp only [true_and, Nat.reduceAdd, eq_self_iff_true]
/-! 68: StringHandsModel.rehearse.(I)I -/
theorem c68_0 : cd 68 0 = some (.aload 0, 1) := by decide +kernel
theorem c68_1 : cd 68 1 = some (.sipush 0, 1) := by decide +kernel
theorem c68_2 : cd 68 2 = some (.putfield 3072, 3) := by decide +kernel
theorem c68_5 : cd 68 5 = some (.aload 0, 1) := by decide +kernel
theorem c68_6 : cd 68 6 = some (.iload 1, 1) := by decide +kernel
theorem c68_7 : cd 68 7 = some (.invokevirtual 183, 3) := by decide +kernel
theorem c68_10 : cd 68 10 = some (.istore 2, 1) := by decide +kernel
theorem c68_11 : cd 68 11 = some (.iload 2, 1) := by decide +kernel
theorem c68_12 : cd 68 12 = some (.ifCond .eq 17, 3) := by decide +kernel
theorem c68_15 : cd 68 15 = some (.iload 2, 1) := by decide +kernel
theorem c68_16 : cd 68 16 = some (.ireturn, 1) := by decide +kernel
theorem c68_17 : cd 68 17 = some (.aload 0, 1) := by decide +kernel
theorem c68_18 : cd 68 18 = some (.invokevirtual 156, 3) := by decide +kernel
theorem c68_21 : cd 68 21 = some (.sipush 0, 1) := by decide +kernel
theorem c68_22 : cd 68 22 = some (.istore 3, 1) := by decide +kernel
theorem c68_23 : cd 68 23 = some (.iload 3, 1) := by decide +kernel
theorem c68_24 : cd 68 24 = some (.aload 0, 1) := by decide +kernel
theorem c68_25 : cd 68 25 = some (.invokevirtual 164, 3) := by decide +kernel
theorem c68_28 : cd 68 28 = some (.if_icmp .ge 60, 3) := by decide +kernel
theorem c68_31 : cd 68 31 = some (.aload 0, 1) := by decide +kernel
theorem c68_32 : cd 68 32 = some (.getfield 3182, 3) := by decide +kernel
theorem c68_35 : cd 68 35 = some (.iload 3, 1) := by decide +kernel
theorem c68_36 : cd 68 36 = some (.iload 3, 1) := by decide +kernel
theorem c68_37 : cd 68 37 = some (.aload 0, 1) := by decide +kernel
theorem c68_38 : cd 68 38 = some (.getfield 3078, 3) := by decide +kernel
theorem c68_41 : cd 68 41 = some (.sipush 5, 1) := by decide +kernel
theorem c68_42 : cd 68 42 = some (.iaload, 1) := by decide +kernel
theorem c68_43 : cd 68 43 = some (.if_icmp .ne 50, 3) := by decide +kernel
theorem c68_46 : cd 68 46 = some (.sipush 0, 1) := by decide +kernel
theorem c68_47 : cd 68 47 = some (.goto 53, 3) := by decide +kernel
theorem c68_50 : cd 68 50 = some (.sipush 9999, 3) := by decide +kernel
theorem c68_53 : cd 68 53 = some (.iastore, 1) := by decide +kernel
theorem c68_54 : cd 68 54 = some (.iinc 3 1, 3) := by decide +kernel
theorem c68_57 : cd 68 57 = some (.goto 23, 3) := by decide +kernel
theorem c68_60 : cd 68 60 = some (.sipush 0, 1) := by decide +kernel
theorem c68_61 : cd 68 61 = some (.istore 3, 1) := by decide +kernel
theorem c68_62 : cd 68 62 = some (.iload 3, 1) := by decide +kernel
theorem c68_63 : cd 68 63 = some (.aload 0, 1) := by decide +kernel
theorem c68_64 : cd 68 64 = some (.getfield 3214, 3) := by decide +kernel
theorem c68_67 : cd 68 67 = some (.iload 1, 1) := by decide +kernel
theorem c68_68 : cd 68 68 = some (.iaload, 1) := by decide +kernel
theorem c68_69 : cd 68 69 = some (.if_icmp .ge 231, 3) := by decide +kernel
theorem c68_72 : cd 68 72 = some (.iload 3, 1) := by decide +kernel
theorem c68_73 : cd 68 73 = some (.ifCond .le 210, 3) := by decide +kernel
theorem c68_76 : cd 68 76 = some (.sipush 0, 1) := by decide +kernel
theorem c68_77 : cd 68 77 = some (.istore 4, 2) := by decide +kernel
theorem c68_79 : cd 68 79 = some (.iload 4, 2) := by decide +kernel
theorem c68_81 : cd 68 81 = some (.aload 0, 1) := by decide +kernel
theorem c68_82 : cd 68 82 = some (.invokevirtual 164, 3) := by decide +kernel
theorem c68_85 : cd 68 85 = some (.if_icmp .ge 104, 3) := by decide +kernel
theorem c68_88 : cd 68 88 = some (.aload 0, 1) := by decide +kernel
theorem c68_89 : cd 68 89 = some (.getfield 3186, 3) := by decide +kernel
theorem c68_92 : cd 68 92 = some (.iload 4, 2) := by decide +kernel
theorem c68_94 : cd 68 94 = some (.sipush 9999, 3) := by decide +kernel
theorem c68_97 : cd 68 97 = some (.iastore, 1) := by decide +kernel
theorem c68_98 : cd 68 98 = some (.iinc 4 1, 3) := by decide +kernel
theorem c68_101 : cd 68 101 = some (.goto 79, 3) := by decide +kernel
theorem c68_104 : cd 68 104 = some (.sipush 0, 1) := by decide +kernel
theorem c68_105 : cd 68 105 = some (.istore 4, 2) := by decide +kernel
theorem c68_107 : cd 68 107 = some (.iload 4, 2) := by decide +kernel
theorem c68_109 : cd 68 109 = some (.aload 0, 1) := by decide +kernel
theorem c68_110 : cd 68 110 = some (.invokevirtual 164, 3) := by decide +kernel
theorem c68_113 : cd 68 113 = some (.if_icmp .ge 178, 3) := by decide +kernel
theorem c68_116 : cd 68 116 = some (.aload 0, 1) := by decide +kernel
theorem c68_117 : cd 68 117 = some (.getfield 3186, 3) := by decide +kernel
theorem c68_120 : cd 68 120 = some (.aload 0, 1) := by decide +kernel
theorem c68_121 : cd 68 121 = some (.getfield 3150, 3) := by decide +kernel
theorem c68_124 : cd 68 124 = some (.iload 4, 2) := by decide +kernel
theorem c68_126 : cd 68 126 = some (.iaload, 1) := by decide +kernel
theorem c68_127 : cd 68 127 = some (.aload 0, 1) := by decide +kernel
theorem c68_128 : cd 68 128 = some (.getfield 3182, 3) := by decide +kernel
theorem c68_131 : cd 68 131 = some (.iload 4, 2) := by decide +kernel
theorem c68_133 : cd 68 133 = some (.iaload, 1) := by decide +kernel
theorem c68_134 : cd 68 134 = some (.aload 0, 1) := by decide +kernel
theorem c68_135 : cd 68 135 = some (.getfield 3186, 3) := by decide +kernel
theorem c68_138 : cd 68 138 = some (.aload 0, 1) := by decide +kernel
theorem c68_139 : cd 68 139 = some (.getfield 3150, 3) := by decide +kernel
theorem c68_142 : cd 68 142 = some (.iload 4, 2) := by decide +kernel
theorem c68_144 : cd 68 144 = some (.iaload, 1) := by decide +kernel
theorem c68_145 : cd 68 145 = some (.iaload, 1) := by decide +kernel
theorem c68_146 : cd 68 146 = some (.if_icmp .ge 159, 3) := by decide +kernel
theorem c68_149 : cd 68 149 = some (.aload 0, 1) := by decide +kernel
theorem c68_150 : cd 68 150 = some (.getfield 3182, 3) := by decide +kernel
theorem c68_153 : cd 68 153 = some (.iload 4, 2) := by decide +kernel
theorem c68_155 : cd 68 155 = some (.iaload, 1) := by decide +kernel
theorem c68_156 : cd 68 156 = some (.goto 171, 3) := by decide +kernel
theorem c68_159 : cd 68 159 = some (.aload 0, 1) := by decide +kernel
theorem c68_160 : cd 68 160 = some (.getfield 3186, 3) := by decide +kernel
theorem c68_163 : cd 68 163 = some (.aload 0, 1) := by decide +kernel
theorem c68_164 : cd 68 164 = some (.getfield 3150, 3) := by decide +kernel
theorem c68_167 : cd 68 167 = some (.iload 4, 2) := by decide +kernel
theorem c68_169 : cd 68 169 = some (.iaload, 1) := by decide +kernel
theorem c68_170 : cd 68 170 = some (.iaload, 1) := by decide +kernel
theorem c68_171 : cd 68 171 = some (.iastore, 1) := by decide +kernel
theorem c68_172 : cd 68 172 = some (.iinc 4 1, 3) := by decide +kernel
theorem c68_175 : cd 68 175 = some (.goto 107, 3) := by decide +kernel
theorem c68_178 : cd 68 178 = some (.sipush 0, 1) := by decide +kernel
theorem c68_179 : cd 68 179 = some (.istore 4, 2) := by decide +kernel
theorem c68_181 : cd 68 181 = some (.iload 4, 2) := by decide +kernel
theorem c68_183 : cd 68 183 = some (.aload 0, 1) := by decide +kernel
theorem c68_184 : cd 68 184 = some (.invokevirtual 164, 3) := by decide +kernel
theorem c68_187 : cd 68 187 = some (.if_icmp .ge 210, 3) := by decide +kernel
theorem c68_190 : cd 68 190 = some (.aload 0, 1) := by decide +kernel
theorem c68_191 : cd 68 191 = some (.getfield 3182, 3) := by decide +kernel
theorem c68_194 : cd 68 194 = some (.iload 4, 2) := by decide +kernel
theorem c68_196 : cd 68 196 = some (.aload 0, 1) := by decide +kernel
theorem c68_197 : cd 68 197 = some (.getfield 3186, 3) := by decide +kernel
theorem c68_200 : cd 68 200 = some (.iload 4, 2) := by decide +kernel
theorem c68_202 : cd 68 202 = some (.iaload, 1) := by decide +kernel
theorem c68_203 : cd 68 203 = some (.iastore, 1) := by decide +kernel
theorem c68_204 : cd 68 204 = some (.iinc 4 1, 3) := by decide +kernel
theorem c68_207 : cd 68 207 = some (.goto 181, 3) := by decide +kernel
theorem c68_210 : cd 68 210 = some (.aload 0, 1) := by decide +kernel
theorem c68_211 : cd 68 211 = some (.aload 0, 1) := by decide +kernel
theorem c68_212 : cd 68 212 = some (.getfield 3218, 3) := by decide +kernel
theorem c68_215 : cd 68 215 = some (.sipush 40, 2) := by decide +kernel
theorem c68_217 : cd 68 217 = some (.iload 1, 1) := by decide +kernel
theorem c68_218 : cd 68 218 = some (.imul, 1) := by decide +kernel
theorem c68_219 : cd 68 219 = some (.iload 3, 1) := by decide +kernel
theorem c68_220 : cd 68 220 = some (.iadd, 1) := by decide +kernel
theorem c68_221 : cd 68 221 = some (.laload, 1) := by decide +kernel
theorem c68_222 : cd 68 222 = some (.invokevirtual 186, 3) := by decide +kernel
theorem c68_225 : cd 68 225 = some (.iinc 3 1, 3) := by decide +kernel
theorem c68_228 : cd 68 228 = some (.goto 62, 3) := by decide +kernel
theorem c68_231 : cd 68 231 = some (.sipush 9999, 3) := by decide +kernel
theorem c68_234 : cd 68 234 = some (.istore 3, 1) := by decide +kernel
theorem c68_235 : cd 68 235 = some (.sipush 0, 1) := by decide +kernel
theorem c68_236 : cd 68 236 = some (.istore 4, 2) := by decide +kernel
theorem c68_238 : cd 68 238 = some (.iload 4, 2) := by decide +kernel
theorem c68_240 : cd 68 240 = some (.aload 0, 1) := by decide +kernel
theorem c68_241 : cd 68 241 = some (.invokevirtual 164, 3) := by decide +kernel
theorem c68_244 : cd 68 244 = some (.if_icmp .ge 276, 3) := by decide +kernel
theorem c68_247 : cd 68 247 = some (.aload 0, 1) := by decide +kernel
theorem c68_248 : cd 68 248 = some (.getfield 3182, 3) := by decide +kernel
theorem c68_251 : cd 68 251 = some (.iload 4, 2) := by decide +kernel
theorem c68_253 : cd 68 253 = some (.iaload, 1) := by decide +kernel
theorem c68_254 : cd 68 254 = some (.iload 3, 1) := by decide +kernel
theorem c68_255 : cd 68 255 = some (.if_icmp .ge 268, 3) := by decide +kernel
theorem c68_258 : cd 68 258 = some (.aload 0, 1) := by decide +kernel
theorem c68_259 : cd 68 259 = some (.getfield 3182, 3) := by decide +kernel
theorem c68_262 : cd 68 262 = some (.iload 4, 2) := by decide +kernel
theorem c68_264 : cd 68 264 = some (.iaload, 1) := by decide +kernel
theorem c68_265 : cd 68 265 = some (.goto 269, 3) := by decide +kernel
theorem c68_268 : cd 68 268 = some (.iload 3, 1) := by decide +kernel
theorem c68_269 : cd 68 269 = some (.istore 3, 1) := by decide +kernel
theorem c68_270 : cd 68 270 = some (.iinc 4 1, 3) := by decide +kernel
theorem c68_273 : cd 68 273 = some (.goto 238, 3) := by decide +kernel
theorem c68_276 : cd 68 276 = some (.iload 3, 1) := by decide +kernel
theorem c68_277 : cd 68 277 = some (.ireturn, 1) := by decide +kernel
theorem g68_0 {d : Nat} {a1 : Int} {x2 x3 x4 : Option aV} {w : aW} {Q : Option aV → aW → Prop} : T (d + 1) 68 0 [some (vr 167), some (vi a1), x2, x3, x4] [] w Q = T d 183 0 [some (vr 167), some (vi a1), none] [] (iup w 167 0 0) (fun r w1 => T (d + 1) 68 10 [some (vr 167), some (vi a1), x2, x3, x4] (r.toList ++ []) w1 Q) := by
  rw [T_aload_0 c68_0, T_sipush c68_1, T_putI 12 0 0 c68_2 rfl rfl rfl rfl, T_aload_0 c68_5, T_iload_1 c68_6, T_invv (es := [some (vr 167), some (vi a1), none]) (st := [vi a1, vr 167]) (ks := [2, 0]) (n := 3) (c := 12) (k := 167) (as := [vi a1]) (rest := []) c68_7 (by decide +kernel) (by decide +kernel) (by decide +kernel) (by decide) rfl rfl (Nat.le_of_ble_eq_true rfl)]
  all_goals try simp only [lay_167, true_and, Nat.reduceAdd, eq_self_iff_true]
theorem g68_10 {d : Nat} {s0 : Int} {x1 x2 x3 x4 : Option aV} {w : aW} {Q : Option aV → aW → Prop} : T (d + 1) 68 10 [some (vr 167), x1, x2, x3, x4] [vi s0] w Q = ((s0 = 0 → T d 156 0 [some (vr 167), none] [] w (fun r w1 => T (d + 1) 68 21 [some (vr 167), x1, some (vi s0), x3, x4] (r.toList ++ []) w1 Q)) ∧ (¬ (s0 = 0) → Q (some (vi s0)) w)) := by
  rw [T_istore_2 c68_10, T_iload_2 c68_11, T_if_eq 17 c68_12 rfl, T_aload_0 c68_17, T_invv (es := [some (vr 167), none]) (st := [vr 167]) (ks := [2]) (n := 2) (c := 12) (k := 167) (as := []) (rest := []) c68_18 (by decide +kernel) (by decide +kernel) (by decide +kernel) (by decide) rfl rfl (Nat.le_of_ble_eq_true rfl), T_iload_2 c68_15, T_ireti c68_16 (by decide +kernel)]
  all_goals try simp only [Int.reduceToNat, lay_167, true_and, Nat.reduceAdd, eq_self_iff_true]
theorem g68_21 {d : Nat} {x0 x1 x2 x3 x4 : Option aV} {w : aW} {Q : Option aV → aW → Prop} : T d 68 21 [x0, x1, x2, x3, x4] [] w Q = T d 68 23 [x0, x1, x2, some (vi 0), x4] [] w Q := by
  rw [T_sipush c68_21, T_istore_3 c68_22]
  all_goals try simp only [true_and, Nat.reduceAdd, eq_self_iff_true]
theorem g68_23 {d : Nat} {a3 : Int} {x1 x2 x4 : Option aV} {w : aW} {Q : Option aV → aW → Prop} : T (d + 1) 68 23 [some (vr 167), x1, x2, some (vi a3), x4] [] w Q = T d 164 0 [some (vr 167)] [] w (fun r w1 => T (d + 1) 68 28 [some (vr 167), x1, x2, some (vi a3), x4] (r.toList ++ [vi a3]) w1 Q) := by
  rw [T_iload_3 c68_23, T_aload_0 c68_24, T_invv (es := [some (vr 167)]) (st := [vr 167, vi a3]) (ks := [2]) (n := 1) (c := 12) (k := 167) (as := []) (rest := [vi a3]) c68_25 (by decide +kernel) (by decide +kernel) (by decide +kernel) (by decide) rfl rfl (Nat.le_of_ble_eq_true rfl)]
  all_goals try simp only [lay_167, true_and, Nat.reduceAdd, eq_self_iff_true]
theorem g68_28 {d : Nat} {a3 s0 s1 : Int} {x1 x2 x4 : Option aV} {w : aW} {Q : Option aV → aW → Prop} : T d 68 28 [some (vr 167), x1, x2, some (vi a3), x4] [vi s1, vi s0] w Q = ((s1 ≤ s0 → T d 68 62 [some (vr 167), x1, x2, some (vi 0), x4] [] w Q) ∧ (¬ (s1 ≤ s0) → ((¬ a3 = w 168 5 → T d 68 53 [some (vr 167), x1, x2, some (vi a3), x4] [vi 9999, vi a3, vr 182] w Q) ∧ (¬ (¬ a3 = w 168 5) → T d 68 53 [some (vr 167), x1, x2, some (vi a3), x4] [vi 0, vi a3, vr 182] w Q)))) := by
  rw [T_icmp_ge 60 c68_28 rfl, T_sipush c68_60, T_istore_3 c68_61, T_aload_0 c68_31, T_getR 12 27 27 c68_32 rfl rfl rfl rfl, rf_167_27, T_iload_3 c68_35, T_iload_3 c68_36, T_aload_0 c68_37, T_getR 12 1 1 c68_38 rfl rfl rfl rfl, rf_167_1, T_sipush c68_41, T_iald c68_42, T_icmp_ne 50 c68_43 rfl, T_sipush c68_50, T_sipush c68_46, T_goto 53 c68_47 rfl]
  all_goals try simp only [Int.reduceLE, Int.reduceLT, Int.reduceToNat, and_self, lay_167, ld_168, true_and, Nat.reduceAdd, eq_self_iff_true]
theorem g68_53 {d : Nat} {a3 s1 s2 : Int} {s0 : Nat} {x0 x1 x2 x4 : Option aV} {w : aW} {Q : Option aV → aW → Prop} : T d 68 53 [x0, x1, x2, some (vi a3), x4] [vi s2, vi s1, vr s0] w Q = (inA s0 0 s1 = true ∧ T d 68 23 [x0, x1, x2, some (vi (w32 (a3 + 1))), x4] [] (iup w s0 s1 s2) Q) := by
  rw [T_iast c68_53, T_iinc_3 c68_54, T_goto 23 c68_57 rfl]
  all_goals try simp only [true_and, Nat.reduceAdd, eq_self_iff_true]
theorem g68_62 {d : Nat} {a1 a3 : Int} {x2 x4 : Option aV} {w : aW} {Q : Option aV → aW → Prop} : T d 68 62 [some (vr 167), some (vi a1), x2, some (vi a3), x4] [] w Q = ((0 ≤ a1 ∧ a1 < 4) ∧ ((w 189 a1 ≤ a3 → T d 68 238 [some (vr 167), some (vi a1), x2, some (vi 9999), some (vi 0)] [] w Q) ∧ (¬ (w 189 a1 ≤ a3) → ((a3 ≤ 0 → T d 68 210 [some (vr 167), some (vi a1), x2, some (vi a3), x4] [] w Q) ∧ (¬ (a3 ≤ 0) → T d 68 79 [some (vr 167), some (vi a1), x2, some (vi a3), some (vi 0)] [] w Q))))) := by
  rw [T_iload_3 c68_62, T_aload_0 c68_63, T_getR 12 35 35 c68_64 rfl rfl rfl rfl, rf_167_35, T_iload_1 c68_67, T_iald c68_68, T_icmp_ge 231 c68_69 rfl, T_sipush c68_231, T_istore_3 c68_234, T_sipush c68_235, T_istore_4 c68_236, T_iload_3 c68_72, T_if_le 210 c68_73 rfl, T_sipush c68_76, T_istore_4 c68_77]
  all_goals try simp only [Int.reduceToNat, lay_167, ld_189, true_and, Nat.reduceAdd, eq_self_iff_true]
theorem g68_79 {d : Nat} {a4 : Int} {x1 x2 x3 : Option aV} {w : aW} {Q : Option aV → aW → Prop} : T (d + 1) 68 79 [some (vr 167), x1, x2, x3, some (vi a4)] [] w Q = T d 164 0 [some (vr 167)] [] w (fun r w1 => T (d + 1) 68 85 [some (vr 167), x1, x2, x3, some (vi a4)] (r.toList ++ [vi a4]) w1 Q) := by
  rw [T_iload_4 c68_79, T_aload_0 c68_81, T_invv (es := [some (vr 167)]) (st := [vr 167, vi a4]) (ks := [2]) (n := 1) (c := 12) (k := 167) (as := []) (rest := [vi a4]) c68_82 (by decide +kernel) (by decide +kernel) (by decide +kernel) (by decide) rfl rfl (Nat.le_of_ble_eq_true rfl)]
  all_goals try simp only [lay_167, true_and, Nat.reduceAdd, eq_self_iff_true]
theorem g68_85 {d : Nat} {a4 s0 s1 : Int} {x1 x2 x3 : Option aV} {w : aW} {Q : Option aV → aW → Prop} : T d 68 85 [some (vr 167), x1, x2, x3, some (vi a4)] [vi s1, vi s0] w Q = ((s1 ≤ s0 → T d 68 107 [some (vr 167), x1, x2, x3, some (vi 0)] [] w Q) ∧ (¬ (s1 ≤ s0) → ((0 ≤ a4 ∧ a4 < 1024) ∧ T d 68 79 [some (vr 167), x1, x2, x3, some (vi (w32 (a4 + 1)))] [] (iup w 183 a4 9999) Q))) := by
  rw [T_icmp_ge 104 c68_85 rfl, T_sipush c68_104, T_istore_4 c68_105, T_aload_0 c68_88, T_getR 12 28 28 c68_89 rfl rfl rfl rfl, rf_167_28, T_iload_4 c68_92, T_sipush c68_94, T_iast c68_97, T_iinc_4 c68_98, T_goto 79 c68_101 rfl]
  all_goals try simp only [Int.reduceToNat, ia0_183, lay_167, true_and, Nat.reduceAdd, eq_self_iff_true]
theorem g68_107 {d : Nat} {a4 : Int} {x1 x2 x3 : Option aV} {w : aW} {Q : Option aV → aW → Prop} : T (d + 1) 68 107 [some (vr 167), x1, x2, x3, some (vi a4)] [] w Q = T d 164 0 [some (vr 167)] [] w (fun r w1 => T (d + 1) 68 113 [some (vr 167), x1, x2, x3, some (vi a4)] (r.toList ++ [vi a4]) w1 Q) := by
  rw [T_iload_4 c68_107, T_aload_0 c68_109, T_invv (es := [some (vr 167)]) (st := [vr 167, vi a4]) (ks := [2]) (n := 1) (c := 12) (k := 167) (as := []) (rest := [vi a4]) c68_110 (by decide +kernel) (by decide +kernel) (by decide +kernel) (by decide) rfl rfl (Nat.le_of_ble_eq_true rfl)]
  all_goals try simp only [lay_167, true_and, Nat.reduceAdd, eq_self_iff_true]
theorem g68_113 {d : Nat} {a4 s0 s1 : Int} {x1 x2 x3 : Option aV} {w : aW} {Q : Option aV → aW → Prop} : T d 68 113 [some (vr 167), x1, x2, x3, some (vi a4)] [vi s1, vi s0] w Q = ((s1 ≤ s0 → T d 68 181 [some (vr 167), x1, x2, x3, some (vi 0)] [] w Q) ∧ (¬ (s1 ≤ s0) → ((0 ≤ a4 ∧ a4 < 1024) ∧ ((0 ≤ a4 ∧ a4 < 1024) ∧ ((0 ≤ a4 ∧ a4 < 1024) ∧ ((0 ≤ w 174 a4 ∧ w 174 a4 < 1024) ∧ ((w 183 (w 174 a4) ≤ w 182 a4 → ((0 ≤ a4 ∧ a4 < 1024) ∧ ((0 ≤ w 174 a4 ∧ w 174 a4 < 1024) ∧ T d 68 171 [some (vr 167), x1, x2, x3, some (vi a4)] [vi (w 183 (w 174 a4)), vi (w 174 a4), vr 183] w Q))) ∧ (¬ (w 183 (w 174 a4) ≤ w 182 a4) → ((0 ≤ a4 ∧ a4 < 1024) ∧ T d 68 171 [some (vr 167), x1, x2, x3, some (vi a4)] [vi (w 182 a4), vi (w 174 a4), vr 183] w Q))))))))) := by
  rw [T_icmp_ge 178 c68_113 rfl, T_sipush c68_178, T_istore_4 c68_179, T_aload_0 c68_116, T_getR 12 28 28 c68_117 rfl rfl rfl rfl, rf_167_28, T_aload_0 c68_120, T_getR 12 19 19 c68_121 rfl rfl rfl rfl, rf_167_19, T_iload_4 c68_124, T_iald c68_126, T_aload_0 c68_127, T_getR 12 27 27 c68_128 rfl rfl rfl rfl, rf_167_27, T_iload_4 c68_131, T_iald c68_133, T_aload_0 c68_134, T_getR 12 28 28 c68_135 rfl rfl rfl rfl, rf_167_28, T_aload_0 c68_138, T_getR 12 19 19 c68_139 rfl rfl rfl rfl, rf_167_19, T_iload_4 c68_142, T_iald c68_144, T_iald c68_145, T_icmp_ge 159 c68_146 rfl, T_aload_0 c68_159, T_getR 12 28 28 c68_160 rfl rfl rfl rfl, rf_167_28, T_aload_0 c68_163, T_getR 12 19 19 c68_164 rfl rfl rfl rfl, rf_167_19, T_iload_4 c68_167, T_iald c68_169, T_iald c68_170, T_aload_0 c68_149, T_getR 12 27 27 c68_150 rfl rfl rfl rfl, rf_167_27, T_iload_4 c68_153, T_iald c68_155, T_goto 171 c68_156 rfl]
  all_goals try simp only [Int.reduceToNat, lay_167, ld_174, ld_182, ld_183, true_and, Nat.reduceAdd, eq_self_iff_true]
theorem g68_171 {d : Nat} {a4 s1 s2 : Int} {s0 : Nat} {x0 x1 x2 x3 : Option aV} {w : aW} {Q : Option aV → aW → Prop} : T d 68 171 [x0, x1, x2, x3, some (vi a4)] [vi s2, vi s1, vr s0] w Q = (inA s0 0 s1 = true ∧ T d 68 107 [x0, x1, x2, x3, some (vi (w32 (a4 + 1)))] [] (iup w s0 s1 s2) Q) := by
  rw [T_iast c68_171, T_iinc_4 c68_172, T_goto 107 c68_175 rfl]
  all_goals try simp only [true_and, Nat.reduceAdd, eq_self_iff_true]
theorem g68_181 {d : Nat} {a4 : Int} {x1 x2 x3 : Option aV} {w : aW} {Q : Option aV → aW → Prop} : T (d + 1) 68 181 [some (vr 167), x1, x2, x3, some (vi a4)] [] w Q = T d 164 0 [some (vr 167)] [] w (fun r w1 => T (d + 1) 68 187 [some (vr 167), x1, x2, x3, some (vi a4)] (r.toList ++ [vi a4]) w1 Q) := by
  rw [T_iload_4 c68_181, T_aload_0 c68_183, T_invv (es := [some (vr 167)]) (st := [vr 167, vi a4]) (ks := [2]) (n := 1) (c := 12) (k := 167) (as := []) (rest := [vi a4]) c68_184 (by decide +kernel) (by decide +kernel) (by decide +kernel) (by decide) rfl rfl (Nat.le_of_ble_eq_true rfl)]
  all_goals try simp only [lay_167, true_and, Nat.reduceAdd, eq_self_iff_true]
theorem g68_187 {d : Nat} {a4 s0 s1 : Int} {x1 x2 x3 : Option aV} {w : aW} {Q : Option aV → aW → Prop} : T d 68 187 [some (vr 167), x1, x2, x3, some (vi a4)] [vi s1, vi s0] w Q = ((s1 ≤ s0 → T d 68 210 [some (vr 167), x1, x2, x3, some (vi a4)] [] w Q) ∧ (¬ (s1 ≤ s0) → ((0 ≤ a4 ∧ a4 < 1024) ∧ ((0 ≤ a4 ∧ a4 < 1024) ∧ T d 68 181 [some (vr 167), x1, x2, x3, some (vi (w32 (a4 + 1)))] [] (iup w 182 a4 (w 183 a4)) Q)))) := by
  rw [T_icmp_ge 210 c68_187 rfl, T_aload_0 c68_190, T_getR 12 27 27 c68_191 rfl rfl rfl rfl, rf_167_27, T_iload_4 c68_194, T_aload_0 c68_196, T_getR 12 28 28 c68_197 rfl rfl rfl rfl, rf_167_28, T_iload_4 c68_200, T_iald c68_202, T_iast c68_203, T_iinc_4 c68_204, T_goto 181 c68_207 rfl]
  all_goals try simp only [Int.reduceToNat, ia0_182, lay_167, ld_183, true_and, Nat.reduceAdd, eq_self_iff_true]
theorem g68_210 {d : Nat} {a1 a3 : Int} {x2 x4 : Option aV} {w : aW} {Q : Option aV → aW → Prop} : T (d + 1) 68 210 [some (vr 167), some (vi a1), x2, some (vi a3), x4] [] w Q = ((0 ≤ w32 ((w32 (40 * a1)) + a3) ∧ w32 ((w32 (40 * a1)) + a3) < 160) ∧ T d 186 0 [some (vr 167), some (vl (w 190 (w32 ((w32 (40 * a1)) + a3)))), none, none, none, none, none, none] [] w (fun r w1 => T (d + 1) 68 225 [some (vr 167), some (vi a1), x2, some (vi a3), x4] (r.toList ++ []) w1 Q)) := by
  rw [T_aload_0 c68_210, T_aload_0 c68_211, T_getR 12 36 36 c68_212 rfl rfl rfl rfl, rf_167_36, T_sipush c68_215, T_iload_1 c68_217, T_imul c68_218, T_iload_3 c68_219, T_iadd c68_220, T_lald c68_221, T_invv (es := [some (vr 167), some (vl (w 190 (w32 ((w32 (40 * a1)) + a3)))), none, none, none, none, none, none]) (st := [vl (w 190 (w32 ((w32 (40 * a1)) + a3))), vr 167]) (ks := [2, 1]) (n := 8) (c := 12) (k := 167) (as := [vl (w 190 (w32 ((w32 (40 * a1)) + a3)))]) (rest := []) c68_222 (by decide +kernel) (by decide +kernel) (by decide +kernel) (by decide) rfl rfl (Nat.le_of_ble_eq_true rfl)]
  all_goals try simp only [ia1_190, lay_167, true_and, Nat.reduceAdd, eq_self_iff_true]
theorem g68_225 {d : Nat} {a3 : Int} {x0 x1 x2 x4 : Option aV} {w : aW} {Q : Option aV → aW → Prop} : T d 68 225 [x0, x1, x2, some (vi a3), x4] [] w Q = T d 68 62 [x0, x1, x2, some (vi (w32 (a3 + 1))), x4] [] w Q := by
  rw [T_iinc_3 c68_225, T_goto 62 c68_228 rfl]
  all_goals try simp only [true_and, Nat.reduceAdd, eq_self_iff_true]
theorem g68_238 {d : Nat} {a4 : Int} {x1 x2 x3 : Option aV} {w : aW} {Q : Option aV → aW → Prop} : T (d + 1) 68 238 [some (vr 167), x1, x2, x3, some (vi a4)] [] w Q = T d 164 0 [some (vr 167)] [] w (fun r w1 => T (d + 1) 68 244 [some (vr 167), x1, x2, x3, some (vi a4)] (r.toList ++ [vi a4]) w1 Q) := by
  rw [T_iload_4 c68_238, T_aload_0 c68_240, T_invv (es := [some (vr 167)]) (st := [vr 167, vi a4]) (ks := [2]) (n := 1) (c := 12) (k := 167) (as := []) (rest := [vi a4]) c68_241 (by decide +kernel) (by decide +kernel) (by decide +kernel) (by decide) rfl rfl (Nat.le_of_ble_eq_true rfl)]
  all_goals try simp only [lay_167, true_and, Nat.reduceAdd, eq_self_iff_true]
theorem g68_244 {d : Nat} {a3 a4 s0 s1 : Int} {x1 x2 : Option aV} {w : aW} {Q : Option aV → aW → Prop} : T d 68 244 [some (vr 167), x1, x2, some (vi a3), some (vi a4)] [vi s1, vi s0] w Q = ((s1 ≤ s0 → Q (some (vi a3)) w) ∧ (¬ (s1 ≤ s0) → ((0 ≤ a4 ∧ a4 < 1024) ∧ ((a3 ≤ w 182 a4 → T d 68 269 [some (vr 167), x1, x2, some (vi a3), some (vi a4)] [vi a3] w Q) ∧ (¬ (a3 ≤ w 182 a4) → ((0 ≤ a4 ∧ a4 < 1024) ∧ T d 68 269 [some (vr 167), x1, x2, some (vi a3), some (vi a4)] [vi (w 182 a4)] w Q)))))) := by
  rw [T_icmp_ge 276 c68_244 rfl, T_iload_3 c68_276, T_ireti c68_277 (by decide +kernel), T_aload_0 c68_247, T_getR 12 27 27 c68_248 rfl rfl rfl rfl, rf_167_27, T_iload_4 c68_251, T_iald c68_253, T_iload_3 c68_254, T_icmp_ge 268 c68_255 rfl, T_iload_3 c68_268, T_aload_0 c68_258, T_getR 12 27 27 c68_259 rfl rfl rfl rfl, rf_167_27, T_iload_4 c68_262, T_iald c68_264, T_goto 269 c68_265 rfl]
  all_goals try simp only [Int.reduceToNat, lay_167, ld_182, true_and, Nat.reduceAdd, eq_self_iff_true]
theorem g68_269 {d : Nat} {a4 s0 : Int} {x0 x1 x2 x3 : Option aV} {w : aW} {Q : Option aV → aW → Prop} : T d 68 269 [x0, x1, x2, x3, some (vi a4)] [vi s0] w Q = T d 68 238 [x0, x1, x2, some (vi s0), some (vi (w32 (a4 + 1)))] [] w Q := by
  rw [T_istore_3 c68_269, T_iinc_4 c68_270, T_goto 238 c68_273 rfl]
  all_goals try simp only [true_and, Nat.reduceAdd, eq_self_iff_true]
/-! 69: StringHands.tangles.()I -/
theorem c69_0 : cd 69 0 = some (.aload 0, 1) := by decide +kernel
theorem c69_1 : cd 69 1 = some (.getfield 2838, 3) := by decide +kernel
theorem c69_4 : cd 69 4 = some (.aload 0, 1) := by decide +kernel
theorem c69_5 : cd 69 5 = some (.getfield 2850, 3) := by decide +kernel
theorem c69_8 : cd 69 8 = some (.aload 0, 1) := by decide +kernel
theorem c69_9 : cd 69 9 = some (.getfield 2854, 3) := by decide +kernel
theorem c69_12 : cd 69 12 = some (.invokevirtual 143, 3) := by decide +kernel
theorem c69_15 : cd 69 15 = some (.ireturn, 1) := by decide +kernel
theorem g69_0 {d : Nat} {w : aW} {Q : Option aV → aW → Prop} : T (d + 1) 69 0 [some (vr 0)] [] w Q = T d 143 0 [some (vr 52), some (vr 69), some (vr 79), none, none, none] [] w (fun r w1 => T (d + 1) 69 15 [some (vr 0)] (r.toList ++ []) w1 Q) := by
  rw [T_aload_0 c69_0, T_getR 11 5 5 c69_1 rfl rfl rfl rfl, rf_0_5, T_aload_0 c69_4, T_getR 11 8 8 c69_5 rfl rfl rfl rfl, rf_0_8, T_aload_0 c69_8, T_getR 11 9 9 c69_9 rfl rfl rfl rfl, rf_0_9, T_invv (es := [some (vr 52), some (vr 69), some (vr 79), none, none, none]) (st := [vr 79, vr 69, vr 52]) (ks := [2, 2, 2]) (n := 6) (c := 7) (k := 52) (as := [vr 69, vr 79]) (rest := []) c69_12 (by decide +kernel) (by decide +kernel) (by decide +kernel) (by decide) rfl rfl (Nat.le_of_ble_eq_true rfl)]
  all_goals try simp only [lay_0, lay_52, true_and, Nat.reduceAdd, eq_self_iff_true]
theorem g69_15 {d : Nat} {s0 : Int} {x0 : Option aV} {w : aW} {Q : Option aV → aW → Prop} : T d 69 15 [x0] [vi s0] w Q = Q (some (vi s0)) w := by
  rw [T_ireti c69_15 (by decide +kernel)]
  all_goals try simp only [true_and, Nat.reduceAdd, eq_self_iff_true]
/-! 70: StringHandsModel.tangles.()I -/
theorem c70_0 : cd 70 0 = some (.aload 0, 1) := by decide +kernel
theorem c70_1 : cd 70 1 = some (.sipush 0, 1) := by decide +kernel
theorem c70_2 : cd 70 2 = some (.putfield 3072, 3) := by decide +kernel
theorem c70_5 : cd 70 5 = some (.aload 0, 1) := by decide +kernel
theorem c70_6 : cd 70 6 = some (.invokevirtual 145, 3) := by decide +kernel
theorem c70_9 : cd 70 9 = some (.ireturn, 1) := by decide +kernel
theorem g70_0 {d : Nat} {w : aW} {Q : Option aV → aW → Prop} : T (d + 1) 70 0 [some (vr 167)] [] w Q = T d 145 0 [some (vr 167), none] [] (iup w 167 0 0) (fun r w1 => T (d + 1) 70 9 [some (vr 167)] (r.toList ++ []) w1 Q) := by
  rw [T_aload_0 c70_0, T_sipush c70_1, T_putI 12 0 0 c70_2 rfl rfl rfl rfl, T_aload_0 c70_5, T_invv (es := [some (vr 167), none]) (st := [vr 167]) (ks := [2]) (n := 2) (c := 12) (k := 167) (as := []) (rest := []) c70_6 (by decide +kernel) (by decide +kernel) (by decide +kernel) (by decide) rfl rfl (Nat.le_of_ble_eq_true rfl)]
  all_goals try simp only [lay_167, true_and, Nat.reduceAdd, eq_self_iff_true]
theorem g70_9 {d : Nat} {s0 : Int} {x0 : Option aV} {w : aW} {Q : Option aV → aW → Prop} : T d 70 9 [x0] [vi s0] w Q = Q (some (vi s0)) w := by
  rw [T_ireti c70_9 (by decide +kernel)]
  all_goals try simp only [true_and, Nat.reduceAdd, eq_self_iff_true]
/-! 71: StringHands.leastTangles.()I -/
theorem c71_0 : cd 71 0 = some (.aload 0, 1) := by decide +kernel
theorem c71_1 : cd 71 1 = some (.getfield 2850, 3) := by decide +kernel
theorem c71_4 : cd 71 4 = some (.getfield 2052, 3) := by decide +kernel
theorem c71_7 : cd 71 7 = some (.sipush 7, 2) := by decide +kernel
theorem c71_9 : cd 71 9 = some (.if_icmp .le 15, 3) := by decide +kernel
theorem c71_12 : cd 71 12 = some (.sipush (-4), 2) := by decide +kernel
theorem c71_14 : cd 71 14 = some (.ireturn, 1) := by decide +kernel
theorem c71_15 : cd 71 15 = some (.aload 0, 1) := by decide +kernel
theorem c71_16 : cd 71 16 = some (.getfield 2838, 3) := by decide +kernel
theorem c71_19 : cd 71 19 = some (.aload 0, 1) := by decide +kernel
theorem c71_20 : cd 71 20 = some (.getfield 2850, 3) := by decide +kernel
theorem c71_23 : cd 71 23 = some (.aload 0, 1) := by decide +kernel
theorem c71_24 : cd 71 24 = some (.getfield 2854, 3) := by decide +kernel
theorem c71_27 : cd 71 27 = some (.invokevirtual 187, 3) := by decide +kernel
theorem c71_30 : cd 71 30 = some (.ireturn, 1) := by decide +kernel
theorem g71_0 {d : Nat} {w : aW} {Q : Option aV → aW → Prop} : T (d + 1) 71 0 [some (vr 0)] [] w Q = ((w 69 1 ≤ 7 → T d 187 0 [some (vr 52), some (vr 69), some (vr 79), none, none, none, none] [] w (fun r w1 => T (d + 1) 71 30 [some (vr 0)] (r.toList ++ []) w1 Q)) ∧ (¬ (w 69 1 ≤ 7) → Q (some (vi (-4))) w)) := by
  rw [T_aload_0 c71_0, T_getR 11 8 8 c71_1 rfl rfl rfl rfl, rf_0_8, T_getI 8 1 1 c71_4 rfl rfl rfl rfl, T_sipush c71_7, T_icmp_le 15 c71_9 rfl, T_aload_0 c71_15, T_getR 11 5 5 c71_16 rfl rfl rfl rfl, rf_0_5, T_aload_0 c71_19, T_getR 11 8 8 c71_20 rfl rfl rfl rfl, rf_0_8, T_aload_0 c71_23, T_getR 11 9 9 c71_24 rfl rfl rfl rfl, rf_0_9, T_invv (es := [some (vr 52), some (vr 69), some (vr 79), none, none, none, none]) (st := [vr 79, vr 69, vr 52]) (ks := [2, 2, 2]) (n := 7) (c := 7) (k := 52) (as := [vr 69, vr 79]) (rest := []) c71_27 (by decide +kernel) (by decide +kernel) (by decide +kernel) (by decide) rfl rfl (Nat.le_of_ble_eq_true rfl), T_sipush c71_12, T_ireti c71_14 (by decide +kernel)]
  all_goals try simp only [Int.reduceToNat, lay_0, lay_52, lay_69, true_and, Nat.reduceAdd, eq_self_iff_true]
theorem g71_30 {d : Nat} {s0 : Int} {x0 : Option aV} {w : aW} {Q : Option aV → aW → Prop} : T d 71 30 [x0] [vi s0] w Q = Q (some (vi s0)) w := by
  rw [T_ireti c71_30 (by decide +kernel)]
  all_goals try simp only [true_and, Nat.reduceAdd, eq_self_iff_true]
/-! 72: StringHandsModel.leastTangles.()I -/
theorem c72_0 : cd 72 0 = some (.aload 0, 1) := by decide +kernel
theorem c72_1 : cd 72 1 = some (.sipush 0, 1) := by decide +kernel
theorem c72_2 : cd 72 2 = some (.putfield 3072, 3) := by decide +kernel
theorem c72_5 : cd 72 5 = some (.aload 0, 1) := by decide +kernel
theorem c72_6 : cd 72 6 = some (.getfield 3078, 3) := by decide +kernel
theorem c72_9 : cd 72 9 = some (.sipush 2, 1) := by decide +kernel
theorem c72_10 : cd 72 10 = some (.iaload, 1) := by decide +kernel
theorem c72_11 : cd 72 11 = some (.sipush 7, 2) := by decide +kernel
theorem c72_13 : cd 72 13 = some (.if_icmp .le 21, 3) := by decide +kernel
theorem c72_16 : cd 72 16 = some (.sipush (-4), 2) := by decide +kernel
theorem c72_18 : cd 72 18 = some (.goto 30, 3) := by decide +kernel
theorem c72_21 : cd 72 21 = some (.aload 0, 1) := by decide +kernel
theorem c72_22 : cd 72 22 = some (.sipush 0, 1) := by decide +kernel
theorem c72_23 : cd 72 23 = some (.sipush 0, 1) := by decide +kernel
theorem c72_24 : cd 72 24 = some (.sipush 9999, 3) := by decide +kernel
theorem c72_27 : cd 72 27 = some (.invokevirtual 188, 3) := by decide +kernel
theorem c72_30 : cd 72 30 = some (.ireturn, 1) := by decide +kernel
theorem g72_0 {d : Nat} {w : aW} {Q : Option aV → aW → Prop} : T (d + 1) 72 0 [some (vr 167)] [] w Q = (((iup w 167 0 0) 168 2 ≤ 7 → T d 188 0 [some (vr 167), some (vi 0), some (vi 0), some (vi 9999), none, none] [] (iup w 167 0 0) (fun r w1 => T (d + 1) 72 30 [some (vr 167)] (r.toList ++ []) w1 Q)) ∧ (¬ ((iup w 167 0 0) 168 2 ≤ 7) → T (d + 1) 72 30 [some (vr 167)] [vi (-4)] (iup w 167 0 0) Q)) := by
  rw [T_aload_0 c72_0, T_sipush c72_1, T_putI 12 0 0 c72_2 rfl rfl rfl rfl, T_aload_0 c72_5, T_getR 12 1 1 c72_6 rfl rfl rfl rfl, rf_167_1, T_sipush c72_9, T_iald c72_10, T_sipush c72_11, T_icmp_le 21 c72_13 rfl, T_aload_0 c72_21, T_sipush c72_22, T_sipush c72_23, T_sipush c72_24, T_invv (es := [some (vr 167), some (vi 0), some (vi 0), some (vi 9999), none, none]) (st := [vi 9999, vi 0, vi 0, vr 167]) (ks := [2, 0, 0, 0]) (n := 6) (c := 12) (k := 167) (as := [vi 0, vi 0, vi 9999]) (rest := []) c72_27 (by decide +kernel) (by decide +kernel) (by decide +kernel) (by decide) rfl rfl (Nat.le_of_ble_eq_true rfl), T_sipush c72_16, T_goto 30 c72_18 rfl]
  all_goals try simp only [Int.reduceLE, Int.reduceLT, Int.reduceToNat, and_self, lay_167, ld_168, true_and, Nat.reduceAdd, eq_self_iff_true]
theorem g72_30 {d : Nat} {s0 : Int} {x0 : Option aV} {w : aW} {Q : Option aV → aW → Prop} : T d 72 30 [x0] [vi s0] w Q = Q (some (vi s0)) w := by
  rw [T_ireti c72_30 (by decide +kernel)]
  all_goals try simp only [true_and, Nat.reduceAdd, eq_self_iff_true]
/-! 73: StringHands.two.(IIIII)I -/
theorem c73_0 : cd 73 0 = some (.aload 0, 1) := by decide +kernel
theorem c73_1 : cd 73 1 = some (.iload 1, 1) := by decide +kernel
theorem c73_2 : cd 73 2 = some (.invokevirtual 116, 3) := by decide +kernel
theorem c73_5 : cd 73 5 = some (.ifCond .eq 32, 3) := by decide +kernel
theorem c73_8 : cd 73 8 = some (.aload 0, 1) := by decide +kernel
theorem c73_9 : cd 73 9 = some (.iload 3, 1) := by decide +kernel
theorem c73_10 : cd 73 10 = some (.invokevirtual 116, 3) := by decide +kernel
theorem c73_13 : cd 73 13 = some (.ifCond .eq 32, 3) := by decide +kernel
theorem c73_16 : cd 73 16 = some (.iload 1, 1) := by decide +kernel
theorem c73_17 : cd 73 17 = some (.iload 3, 1) := by decide +kernel
theorem c73_18 : cd 73 18 = some (.if_icmp .eq 32, 3) := by decide +kernel
theorem c73_21 : cd 73 21 = some (.iload 5, 2) := by decide +kernel
theorem c73_23 : cd 73 23 = some (.ifCond .lt 32, 3) := by decide +kernel
theorem c73_26 : cd 73 26 = some (.iload 5, 2) := by decide +kernel
theorem c73_28 : cd 73 28 = some (.sipush 3, 1) := by decide +kernel
theorem c73_29 : cd 73 29 = some (.if_icmp .le 35, 3) := by decide +kernel
theorem c73_32 : cd 73 32 = some (.sipush (-2), 2) := by decide +kernel
theorem c73_34 : cd 73 34 = some (.ireturn, 1) := by decide +kernel
theorem c73_35 : cd 73 35 = some (.aload 0, 1) := by decide +kernel
theorem c73_36 : cd 73 36 = some (.getfield 2842, 3) := by decide +kernel
theorem c73_39 : cd 73 39 = some (.invokevirtual 189, 3) := by decide +kernel
theorem c73_42 : cd 73 42 = some (.aload 0, 1) := by decide +kernel
theorem c73_43 : cd 73 43 = some (.getfield 2850, 3) := by decide +kernel
theorem c73_46 : cd 73 46 = some (.invokevirtual 190, 3) := by decide +kernel
theorem c73_49 : cd 73 49 = some (.istore 6, 2) := by decide +kernel
theorem c73_51 : cd 73 51 = some (.aload 0, 1) := by decide +kernel
theorem c73_52 : cd 73 52 = some (.getfield 2842, 3) := by decide +kernel
theorem c73_55 : cd 73 55 = some (.iload 2, 1) := by decide +kernel
theorem c73_56 : cd 73 56 = some (.i2l, 1) := by decide +kernel
theorem c73_57 : cd 73 57 = some (.iload 6, 2) := by decide +kernel
theorem c73_59 : cd 73 59 = some (.invokevirtual 191, 3) := by decide +kernel
theorem c73_62 : cd 73 62 = some (.ifCond .eq 80, 3) := by decide +kernel
theorem c73_65 : cd 73 65 = some (.aload 0, 1) := by decide +kernel
theorem c73_66 : cd 73 66 = some (.getfield 2842, 3) := by decide +kernel
theorem c73_69 : cd 73 69 = some (.iload 4, 2) := by decide +kernel
theorem c73_71 : cd 73 71 = some (.i2l, 1) := by decide +kernel
theorem c73_72 : cd 73 72 = some (.iload 6, 2) := by decide +kernel
theorem c73_74 : cd 73 74 = some (.invokevirtual 191, 3) := by decide +kernel
theorem c73_77 : cd 73 77 = some (.ifCond .ne 83, 3) := by decide +kernel
theorem c73_80 : cd 73 80 = some (.sipush (-3), 2) := by decide +kernel
theorem c73_82 : cd 73 82 = some (.ireturn, 1) := by decide +kernel
theorem c73_83 : cd 73 83 = some (.aload 0, 1) := by decide +kernel
theorem c73_84 : cd 73 84 = some (.getfield 2842, 3) := by decide +kernel
theorem c73_87 : cd 73 87 = some (.aload 0, 1) := by decide +kernel
theorem c73_88 : cd 73 88 = some (.invokevirtual 155, 3) := by decide +kernel
theorem c73_91 : cd 73 91 = some (.aload 0, 1) := by decide +kernel
theorem c73_92 : cd 73 92 = some (.getfield 2854, 3) := by decide +kernel
theorem c73_95 : cd 73 95 = some (.getfield 1536, 3) := by decide +kernel
theorem c73_98 : cd 73 98 = some (.sipush 1, 1) := by decide +kernel
theorem c73_99 : cd 73 99 = some (.iload 1, 1) := by decide +kernel
theorem c73_100 : cd 73 100 = some (.ishl, 1) := by decide +kernel
theorem c73_101 : cd 73 101 = some (.sipush 1, 1) := by decide +kernel
theorem c73_102 : cd 73 102 = some (.iload 3, 1) := by decide +kernel
theorem c73_103 : cd 73 103 = some (.ishl, 1) := by decide +kernel
theorem c73_104 : cd 73 104 = some (.invokevirtual 192, 3) := by decide +kernel
theorem c73_107 : cd 73 107 = some (.aload 0, 1) := by decide +kernel
theorem c73_108 : cd 73 108 = some (.getfield 2842, 3) := by decide +kernel
theorem c73_111 : cd 73 111 = some (.invokevirtual 193, 3) := by decide +kernel
theorem c73_114 : cd 73 114 = some (.istore 7, 2) := by decide +kernel
theorem c73_116 : cd 73 116 = some (.iload 7, 2) := by decide +kernel
theorem c73_118 : cd 73 118 = some (.sipush (-1), 1) := by decide +kernel
theorem c73_119 : cd 73 119 = some (.if_icmp .ne 124, 3) := by decide +kernel
theorem c73_122 : cd 73 122 = some (.sipush (-1), 1) := by decide +kernel
theorem c73_123 : cd 73 123 = some (.ireturn, 1) := by decide +kernel
theorem c73_124 : cd 73 124 = some (.iload 5, 2) := by decide +kernel
theorem c73_126 : cd 73 126 = some (.tableswitch 173 0 2 #[152, 157, 162], 26) := by decide +kernel
theorem c73_152 : cd 73 152 = some (.iload 7, 2) := by decide +kernel
theorem c73_154 : cd 73 154 = some (.sipush 3, 1) := by decide +kernel
theorem c73_155 : cd 73 155 = some (.idiv, 1) := by decide +kernel
theorem c73_156 : cd 73 156 = some (.ireturn, 1) := by decide +kernel
theorem c73_157 : cd 73 157 = some (.iload 7, 2) := by decide +kernel
theorem c73_159 : cd 73 159 = some (.sipush 3, 1) := by decide +kernel
theorem c73_160 : cd 73 160 = some (.irem, 1) := by decide +kernel
theorem c73_161 : cd 73 161 = some (.ireturn, 1) := by decide +kernel
theorem c73_162 : cd 73 162 = some (.aload 0, 1) := by decide +kernel
theorem c73_163 : cd 73 163 = some (.getfield 2842, 3) := by decide +kernel
theorem c73_166 : cd 73 166 = some (.getfield 1282, 3) := by decide +kernel
theorem c73_169 : cd 73 169 = some (.iload 7, 2) := by decide +kernel
theorem c73_171 : cd 73 171 = some (.iaload, 1) := by decide +kernel
theorem c73_172 : cd 73 172 = some (.ireturn, 1) := by decide +kernel
theorem c73_173 : cd 73 173 = some (.aload 0, 1) := by decide +kernel
theorem c73_174 : cd 73 174 = some (.getfield 2842, 3) := by decide +kernel
theorem c73_177 : cd 73 177 = some (.getfield 1286, 3) := by decide +kernel
theorem c73_180 : cd 73 180 = some (.iload 7, 2) := by decide +kernel
theorem c73_182 : cd 73 182 = some (.iaload, 1) := by decide +kernel
theorem c73_183 : cd 73 183 = some (.ireturn, 1) := by decide +kernel
theorem sw73_126 {d : Nat} {ls : List (Option aV)} {st : List aV} {w : aW} {Q : Option aV → aW → Prop} {x : Int} : T d 73 126 ls (vi x :: st) w Q = ((x = 0 → T d 73 152 ls st w Q) ∧ (x = 1 → T d 73 157 ls st w Q) ∧ (x = 2 → T d 73 162 ls st w Q) ∧ (¬ x = 0 ∧ ¬ x = 1 ∧ ¬ x = 2 → T d 73 173 ls st w Q)) := by
  rw [T_tab c73_126]
  apply propext
  constructor
  · intro h
    refine ⟨fun q => by subst q; exact h, fun q => by subst q; exact h, fun q => by subst q; exact h, fun q => ?_⟩
    · have e : (if x < 0 ∨ 2 < x then (173 : Int).toNat else ((#[152, 157, 162] : Array Int).toList.getD (x - 0).toNat 173).toNat) = 173 := by rw [if_pos (by omega)]; rfl
      rw [e] at h; exact h
  · rintro ⟨h0, h1, h2, hd⟩
    by_cases n0 : x = 0
    · subst n0; exact h0 rfl
    by_cases n1 : x = 1
    · subst n1; exact h1 rfl
    by_cases n2 : x = 2
    · subst n2; exact h2 rfl
    · have e : (if x < 0 ∨ 2 < x then (173 : Int).toNat else ((#[152, 157, 162] : Array Int).toList.getD (x - 0).toNat 173).toNat) = 173 := by rw [if_pos (by omega)]; rfl
      rw [e]; exact hd ⟨n0, n1, n2⟩
theorem g73_0 {d : Nat} {a1 : Int} {x2 x3 x4 x5 x6 x7 : Option aV} {w : aW} {Q : Option aV → aW → Prop} : T (d + 1) 73 0 [some (vr 0), some (vi a1), x2, x3, x4, x5, x6, x7] [] w Q = T d 116 0 [some (vr 0), some (vi a1)] [] w (fun r w1 => T (d + 1) 73 5 [some (vr 0), some (vi a1), x2, x3, x4, x5, x6, x7] (r.toList ++ []) w1 Q) := by
  rw [T_aload_0 c73_0, T_iload_1 c73_1, T_invv (es := [some (vr 0), some (vi a1)]) (st := [vi a1, vr 0]) (ks := [2, 0]) (n := 2) (c := 11) (k := 0) (as := [vi a1]) (rest := []) c73_2 (by decide +kernel) (by decide +kernel) (by decide +kernel) (by decide) rfl rfl (Nat.le_of_ble_eq_true rfl)]
  all_goals try simp only [lay_0, true_and, Nat.reduceAdd, eq_self_iff_true]
theorem g73_5 {d : Nat} {a3 s0 : Int} {x1 x2 x4 x5 x6 x7 : Option aV} {w : aW} {Q : Option aV → aW → Prop} : T (d + 1) 73 5 [some (vr 0), x1, x2, some (vi a3), x4, x5, x6, x7] [vi s0] w Q = ((s0 = 0 → T (d + 1) 73 32 [some (vr 0), x1, x2, some (vi a3), x4, x5, x6, x7] [] w Q) ∧ (¬ (s0 = 0) → T d 116 0 [some (vr 0), some (vi a3)] [] w (fun r w1 => T (d + 1) 73 13 [some (vr 0), x1, x2, some (vi a3), x4, x5, x6, x7] (r.toList ++ []) w1 Q))) := by
  rw [T_if_eq 32 c73_5 rfl, T_aload_0 c73_8, T_iload_3 c73_9, T_invv (es := [some (vr 0), some (vi a3)]) (st := [vi a3, vr 0]) (ks := [2, 0]) (n := 2) (c := 11) (k := 0) (as := [vi a3]) (rest := []) c73_10 (by decide +kernel) (by decide +kernel) (by decide +kernel) (by decide) rfl rfl (Nat.le_of_ble_eq_true rfl)]
  all_goals try simp only [Int.reduceToNat, lay_0, true_and, Nat.reduceAdd, eq_self_iff_true]
theorem g73_13 {d : Nat} {a1 a3 a5 s0 : Int} {x2 x4 x6 x7 : Option aV} {w : aW} {Q : Option aV → aW → Prop} : T (d + 1) 73 13 [some (vr 0), some (vi a1), x2, some (vi a3), x4, some (vi a5), x6, x7] [vi s0] w Q = ((s0 = 0 → T (d + 1) 73 32 [some (vr 0), some (vi a1), x2, some (vi a3), x4, some (vi a5), x6, x7] [] w Q) ∧ (¬ (s0 = 0) → ((a1 = a3 → T (d + 1) 73 32 [some (vr 0), some (vi a1), x2, some (vi a3), x4, some (vi a5), x6, x7] [] w Q) ∧ (¬ (a1 = a3) → ((a5 < 0 → T (d + 1) 73 32 [some (vr 0), some (vi a1), x2, some (vi a3), x4, some (vi a5), x6, x7] [] w Q) ∧ (¬ (a5 < 0) → ((a5 ≤ 3 → T d 189 0 [some (vr 57)] [] w (fun r w1 => T (d + 1) 73 42 [some (vr 0), some (vi a1), x2, some (vi a3), x4, some (vi a5), x6, x7] (r.toList ++ []) w1 Q)) ∧ (¬ (a5 ≤ 3) → T (d + 1) 73 32 [some (vr 0), some (vi a1), x2, some (vi a3), x4, some (vi a5), x6, x7] [] w Q)))))))) := by
  rw [T_if_eq 32 c73_13 rfl, T_iload_1 c73_16, T_iload_3 c73_17, T_icmp_eq 32 c73_18 rfl, T_iload_5 c73_21, T_if_lt 32 c73_23 rfl, T_iload_5 c73_26, T_sipush c73_28, T_icmp_le 35 c73_29 rfl, T_aload_0 c73_35, T_getR 11 6 6 c73_36 rfl rfl rfl rfl, rf_0_6, T_invv (es := [some (vr 57)]) (st := [vr 57]) (ks := [2]) (n := 1) (c := 5) (k := 57) (as := []) (rest := []) c73_39 (by decide +kernel) (by decide +kernel) (by decide +kernel) (by decide) rfl rfl (Nat.le_of_ble_eq_true rfl)]
  all_goals try simp only [Int.reduceToNat, lay_0, lay_57, true_and, Nat.reduceAdd, eq_self_iff_true]
theorem g73_32 {d : Nat} {x0 x1 x2 x3 x4 x5 x6 x7 : Option aV} {w : aW} {Q : Option aV → aW → Prop} : T d 73 32 [x0, x1, x2, x3, x4, x5, x6, x7] [] w Q = Q (some (vi (-2))) w := by
  rw [T_sipush c73_32, T_ireti c73_34 (by decide +kernel)]
  all_goals try simp only [true_and, Nat.reduceAdd, eq_self_iff_true]
theorem g73_42 {d : Nat} {x1 x2 x3 x4 x5 x6 x7 : Option aV} {w : aW} {Q : Option aV → aW → Prop} : T (d + 1) 73 42 [some (vr 0), x1, x2, x3, x4, x5, x6, x7] [] w Q = T d 190 0 [some (vr 69)] [] w (fun r w1 => T (d + 1) 73 49 [some (vr 0), x1, x2, x3, x4, x5, x6, x7] (r.toList ++ []) w1 Q) := by
  rw [T_aload_0 c73_42, T_getR 11 8 8 c73_43 rfl rfl rfl rfl, rf_0_8, T_invv (es := [some (vr 69)]) (st := [vr 69]) (ks := [2]) (n := 1) (c := 8) (k := 69) (as := []) (rest := []) c73_46 (by decide +kernel) (by decide +kernel) (by decide +kernel) (by decide) rfl rfl (Nat.le_of_ble_eq_true rfl)]
  all_goals try simp only [lay_0, lay_69, true_and, Nat.reduceAdd, eq_self_iff_true]
theorem g73_49 {d : Nat} {a2 s0 : Int} {x1 x3 x4 x5 x6 x7 : Option aV} {w : aW} {Q : Option aV → aW → Prop} : T (d + 1) 73 49 [some (vr 0), x1, some (vi a2), x3, x4, x5, x6, x7] [vi s0] w Q = T d 191 0 [some (vr 57), some (vl a2), none, some (vi s0), none, none, none] [] w (fun r w1 => T (d + 1) 73 62 [some (vr 0), x1, some (vi a2), x3, x4, x5, some (vi s0), x7] (r.toList ++ []) w1 Q) := by
  rw [T_istore_6 c73_49, T_aload_0 c73_51, T_getR 11 6 6 c73_52 rfl rfl rfl rfl, rf_0_6, T_iload_2 c73_55, T_i2l c73_56, T_iload_6 c73_57, T_invv (es := [some (vr 57), some (vl a2), none, some (vi s0), none, none, none]) (st := [vi s0, vl a2, vr 57]) (ks := [2, 1, 0]) (n := 7) (c := 5) (k := 57) (as := [vl a2, vi s0]) (rest := []) c73_59 (by decide +kernel) (by decide +kernel) (by decide +kernel) (by decide) rfl rfl (Nat.le_of_ble_eq_true rfl)]
  all_goals try simp only [lay_0, lay_57, true_and, Nat.reduceAdd, eq_self_iff_true]
theorem g73_62 {d : Nat} {a4 a6 s0 : Int} {x1 x2 x3 x5 x7 : Option aV} {w : aW} {Q : Option aV → aW → Prop} : T (d + 1) 73 62 [some (vr 0), x1, x2, x3, some (vi a4), x5, some (vi a6), x7] [vi s0] w Q = ((s0 = 0 → T (d + 1) 73 80 [some (vr 0), x1, x2, x3, some (vi a4), x5, some (vi a6), x7] [] w Q) ∧ (¬ (s0 = 0) → T d 191 0 [some (vr 57), some (vl a4), none, some (vi a6), none, none, none] [] w (fun r w1 => T (d + 1) 73 77 [some (vr 0), x1, x2, x3, some (vi a4), x5, some (vi a6), x7] (r.toList ++ []) w1 Q))) := by
  rw [T_if_eq 80 c73_62 rfl, T_aload_0 c73_65, T_getR 11 6 6 c73_66 rfl rfl rfl rfl, rf_0_6, T_iload_4 c73_69, T_i2l c73_71, T_iload_6 c73_72, T_invv (es := [some (vr 57), some (vl a4), none, some (vi a6), none, none, none]) (st := [vi a6, vl a4, vr 57]) (ks := [2, 1, 0]) (n := 7) (c := 5) (k := 57) (as := [vl a4, vi a6]) (rest := []) c73_74 (by decide +kernel) (by decide +kernel) (by decide +kernel) (by decide) rfl rfl (Nat.le_of_ble_eq_true rfl)]
  all_goals try simp only [Int.reduceToNat, lay_0, lay_57, true_and, Nat.reduceAdd, eq_self_iff_true]
theorem g73_77 {d : Nat} {s0 : Int} {x1 x2 x3 x4 x5 x6 x7 : Option aV} {w : aW} {Q : Option aV → aW → Prop} : T (d + 1) 73 77 [some (vr 0), x1, x2, x3, x4, x5, x6, x7] [vi s0] w Q = ((¬ s0 = 0 → T d 155 0 [some (vr 0)] [] w (fun r w1 => T (d + 1) 73 91 [some (vr 0), x1, x2, x3, x4, x5, x6, x7] (r.toList ++ [vr 57]) w1 Q)) ∧ (¬ (¬ s0 = 0) → T (d + 1) 73 80 [some (vr 0), x1, x2, x3, x4, x5, x6, x7] [] w Q)) := by
  rw [T_if_ne 83 c73_77 rfl, T_aload_0 c73_83, T_getR 11 6 6 c73_84 rfl rfl rfl rfl, rf_0_6, T_aload_0 c73_87, T_invv (es := [some (vr 0)]) (st := [vr 0, vr 57]) (ks := [2]) (n := 1) (c := 11) (k := 0) (as := []) (rest := [vr 57]) c73_88 (by decide +kernel) (by decide +kernel) (by decide +kernel) (by decide) rfl rfl (Nat.le_of_ble_eq_true rfl)]
  all_goals try simp only [Int.reduceToNat, lay_0, true_and, Nat.reduceAdd, eq_self_iff_true]
theorem g73_80 {d : Nat} {x0 x1 x2 x3 x4 x5 x6 x7 : Option aV} {w : aW} {Q : Option aV → aW → Prop} : T d 73 80 [x0, x1, x2, x3, x4, x5, x6, x7] [] w Q = Q (some (vi (-3))) w := by
  rw [T_sipush c73_80, T_ireti c73_82 (by decide +kernel)]
  all_goals try simp only [true_and, Nat.reduceAdd, eq_self_iff_true]
theorem g73_91 {d : Nat} {a1 a3 : Int} {s0 s1 : Nat} {x2 x4 x5 x6 x7 : Option aV} {w : aW} {Q : Option aV → aW → Prop} : T (d + 1) 73 91 [some (vr 0), some (vi a1), x2, some (vi a3), x4, x5, x6, x7] [vr s1, vr s0] w Q = (lay s0 = (5, 0) ∧ T d 192 0 [some (vr s0), some (vr s1), some (vi (w 79 0)), some (vi (jshl 1 a1)), some (vi (jshl 1 a3)), none, none, none] [] w (fun r w1 => T (d + 1) 73 107 [some (vr 0), some (vi a1), x2, some (vi a3), x4, x5, x6, x7] (r.toList ++ []) w1 Q)) := by
  rw [T_aload_0 c73_91, T_getR 11 9 9 c73_92 rfl rfl rfl rfl, rf_0_9, T_getI 6 0 0 c73_95 rfl rfl rfl rfl, T_sipush c73_98, T_iload_1 c73_99, T_ishl c73_100, T_sipush c73_101, T_iload_3 c73_102, T_ishl c73_103, T_invv (es := [some (vr s0), some (vr s1), some (vi (w 79 0)), some (vi (jshl 1 a1)), some (vi (jshl 1 a3)), none, none, none]) (st := [vi (jshl 1 a3), vi (jshl 1 a1), vi (w 79 0), vr s1, vr s0]) (ks := [2, 2, 0, 0, 0]) (n := 8) (c := 5) (k := s0) (as := [vr s1, vi (w 79 0), vi (jshl 1 a1), vi (jshl 1 a3)]) (rest := []) c73_104 (by decide +kernel) (by decide +kernel) (by decide +kernel) (by decide) rfl rfl (Nat.le_of_ble_eq_true rfl)]
  all_goals try simp only [lay_0, lay_79, true_and, Nat.reduceAdd, eq_self_iff_true]
theorem g73_107 {d : Nat} {x1 x2 x3 x4 x5 x6 x7 : Option aV} {w : aW} {Q : Option aV → aW → Prop} : T (d + 1) 73 107 [some (vr 0), x1, x2, x3, x4, x5, x6, x7] [] w Q = T d 193 0 [some (vr 57), none] [] w (fun r w1 => T (d + 1) 73 114 [some (vr 0), x1, x2, x3, x4, x5, x6, x7] (r.toList ++ []) w1 Q) := by
  rw [T_aload_0 c73_107, T_getR 11 6 6 c73_108 rfl rfl rfl rfl, rf_0_6, T_invv (es := [some (vr 57), none]) (st := [vr 57]) (ks := [2]) (n := 2) (c := 5) (k := 57) (as := []) (rest := []) c73_111 (by decide +kernel) (by decide +kernel) (by decide +kernel) (by decide) rfl rfl (Nat.le_of_ble_eq_true rfl)]
  all_goals try simp only [lay_0, lay_57, true_and, Nat.reduceAdd, eq_self_iff_true]
theorem g73_114 {d : Nat} {a5 s0 : Int} {x1 x2 x3 x4 x6 x7 : Option aV} {w : aW} {Q : Option aV → aW → Prop} : T d 73 114 [some (vr 0), x1, x2, x3, x4, some (vi a5), x6, x7] [vi s0] w Q = ((¬ s0 = (-1) → ((a5 = 0 → Q (some (vi (jdiv s0 3))) w) ∧ (a5 = 1 → Q (some (vi (jrem s0 3))) w) ∧ (a5 = 2 → ((0 ≤ s0 ∧ s0 < 9) ∧ Q (some (vi (w 58 s0))) w)) ∧ (¬ a5 = 0 ∧ ¬ a5 = 1 ∧ ¬ a5 = 2 → ((0 ≤ s0 ∧ s0 < 9) ∧ Q (some (vi (w 59 s0))) w)))) ∧ (¬ (¬ s0 = (-1)) → Q (some (vi (-1))) w)) := by
  rw [T_istore_7 c73_114, T_iload_7 c73_116, T_sipush c73_118, T_icmp_ne 124 c73_119 rfl, T_iload_5 c73_124, sw73_126, T_iload_7 c73_152, T_sipush c73_154, T_idiv c73_155, T_ireti c73_156 (by decide +kernel), T_iload_7 c73_157, T_sipush c73_159, T_irem c73_160, T_ireti c73_161 (by decide +kernel), T_aload_0 c73_162, T_getR 11 6 6 c73_163 rfl rfl rfl rfl, rf_0_6, T_getR 5 0 0 c73_166 rfl rfl rfl rfl, rf_57_0, T_iload_7 c73_169, T_iald c73_171, T_ireti c73_172 (by decide +kernel), T_aload_0 c73_173, T_getR 11 6 6 c73_174 rfl rfl rfl rfl, rf_0_6, T_getR 5 1 1 c73_177 rfl rfl rfl rfl, rf_57_1, T_iload_7 c73_180, T_iald c73_182, T_ireti c73_183 (by decide +kernel), T_sipush c73_122, T_ireti c73_123 (by decide +kernel)]
  all_goals try simp only [Int.reduceEq, Int.reduceToNat, lay_0, lay_57, ld_58, ld_59, ne_eq, not_false_eq_true, true_and, Nat.reduceAdd, eq_self_iff_true]
/-! 74: StringHandsModel.two.(IIIII)I -/
theorem c74_0 : cd 74 0 = some (.aload 0, 1) := by decide +kernel
theorem c74_1 : cd 74 1 = some (.sipush 0, 1) := by decide +kernel
theorem c74_2 : cd 74 2 = some (.putfield 3072, 3) := by decide +kernel
theorem c74_5 : cd 74 5 = some (.aload 0, 1) := by decide +kernel
theorem c74_6 : cd 74 6 = some (.iload 1, 1) := by decide +kernel
theorem c74_7 : cd 74 7 = some (.i2l, 1) := by decide +kernel
theorem c74_8 : cd 74 8 = some (.invokevirtual 121, 3) := by decide +kernel
theorem c74_11 : cd 74 11 = some (.ifCond .eq 41, 3) := by decide +kernel
theorem c74_14 : cd 74 14 = some (.aload 0, 1) := by decide +kernel
theorem c74_15 : cd 74 15 = some (.iload 3, 1) := by decide +kernel
theorem c74_16 : cd 74 16 = some (.i2l, 1) := by decide +kernel
theorem c74_17 : cd 74 17 = some (.invokevirtual 121, 3) := by decide +kernel
theorem c74_20 : cd 74 20 = some (.ifCond .eq 41, 3) := by decide +kernel
theorem c74_23 : cd 74 23 = some (.iload 1, 1) := by decide +kernel
theorem c74_24 : cd 74 24 = some (.iload 3, 1) := by decide +kernel
theorem c74_25 : cd 74 25 = some (.if_icmp .eq 41, 3) := by decide +kernel
theorem c74_28 : cd 74 28 = some (.iload 5, 2) := by decide +kernel
theorem c74_30 : cd 74 30 = some (.i2l, 1) := by decide +kernel
theorem c74_31 : cd 74 31 = some (.bipush 0, 1) := by decide +kernel
theorem c74_32 : cd 74 32 = some (.bipush 3, 3) := by decide +kernel
theorem c74_35 : cd 74 35 = some (.invokestatic 105, 3) := by decide +kernel
theorem c74_38 : cd 74 38 = some (.ifCond .ne 44, 3) := by decide +kernel
theorem c74_41 : cd 74 41 = some (.sipush (-2), 2) := by decide +kernel
theorem c74_43 : cd 74 43 = some (.ireturn, 1) := by decide +kernel
theorem c74_44 : cd 74 44 = some (.aload 0, 1) := by decide +kernel
theorem c74_45 : cd 74 45 = some (.iload 2, 1) := by decide +kernel
theorem c74_46 : cd 74 46 = some (.i2l, 1) := by decide +kernel
theorem c74_47 : cd 74 47 = some (.invokevirtual 194, 3) := by decide +kernel
theorem c74_50 : cd 74 50 = some (.ifCond .eq 63, 3) := by decide +kernel
theorem c74_53 : cd 74 53 = some (.aload 0, 1) := by decide +kernel
theorem c74_54 : cd 74 54 = some (.iload 4, 2) := by decide +kernel
theorem c74_56 : cd 74 56 = some (.i2l, 1) := by decide +kernel
theorem c74_57 : cd 74 57 = some (.invokevirtual 194, 3) := by decide +kernel
theorem c74_60 : cd 74 60 = some (.ifCond .ne 66, 3) := by decide +kernel
theorem c74_63 : cd 74 63 = some (.sipush (-3), 2) := by decide +kernel
theorem c74_65 : cd 74 65 = some (.ireturn, 1) := by decide +kernel
theorem c74_66 : cd 74 66 = some (.aload 0, 1) := by decide +kernel
theorem c74_67 : cd 74 67 = some (.iload 1, 1) := by decide +kernel
theorem c74_68 : cd 74 68 = some (.iload 2, 1) := by decide +kernel
theorem c74_69 : cd 74 69 = some (.iload 3, 1) := by decide +kernel
theorem c74_70 : cd 74 70 = some (.iload 4, 2) := by decide +kernel
theorem c74_72 : cd 74 72 = some (.invokevirtual 195, 3) := by decide +kernel
theorem c74_75 : cd 74 75 = some (.sipush 0, 1) := by decide +kernel
theorem c74_76 : cd 74 76 = some (.istore 6, 2) := by decide +kernel
theorem c74_78 : cd 74 78 = some (.iload 6, 2) := by decide +kernel
theorem c74_80 : cd 74 80 = some (.sipush 3, 1) := by decide +kernel
theorem c74_81 : cd 74 81 = some (.if_icmp .ge 176, 3) := by decide +kernel
theorem c74_84 : cd 74 84 = some (.sipush 0, 1) := by decide +kernel
theorem c74_85 : cd 74 85 = some (.istore 7, 2) := by decide +kernel
theorem c74_87 : cd 74 87 = some (.iload 7, 2) := by decide +kernel
theorem c74_89 : cd 74 89 = some (.sipush 3, 1) := by decide +kernel
theorem c74_90 : cd 74 90 = some (.if_icmp .ge 170, 3) := by decide +kernel
theorem c74_93 : cd 74 93 = some (.aload 0, 1) := by decide +kernel
theorem c74_94 : cd 74 94 = some (.iload 6, 2) := by decide +kernel
theorem c74_96 : cd 74 96 = some (.iload 7, 2) := by decide +kernel
theorem c74_98 : cd 74 98 = some (.invokevirtual 196, 3) := by decide +kernel
theorem c74_101 : cd 74 101 = some (.ifCond .ne 107, 3) := by decide +kernel
theorem c74_104 : cd 74 104 = some (.goto 164, 3) := by decide +kernel
theorem c74_107 : cd 74 107 = some (.iload 5, 2) := by decide +kernel
theorem c74_109 : cd 74 109 = some (.ifCond .ne 117, 3) := by decide +kernel
theorem c74_112 : cd 74 112 = some (.iload 6, 2) := by decide +kernel
theorem c74_114 : cd 74 114 = some (.goto 163, 3) := by decide +kernel
theorem c74_117 : cd 74 117 = some (.iload 5, 2) := by decide +kernel
theorem c74_119 : cd 74 119 = some (.sipush 1, 1) := by decide +kernel
theorem c74_120 : cd 74 120 = some (.if_icmp .ne 128, 3) := by decide +kernel
theorem c74_123 : cd 74 123 = some (.iload 7, 2) := by decide +kernel
theorem c74_125 : cd 74 125 = some (.goto 163, 3) := by decide +kernel
theorem c74_128 : cd 74 128 = some (.iload 5, 2) := by decide +kernel
theorem c74_130 : cd 74 130 = some (.sipush 2, 1) := by decide +kernel
theorem c74_131 : cd 74 131 = some (.if_icmp .ne 150, 3) := by decide +kernel
theorem c74_134 : cd 74 134 = some (.aload 0, 1) := by decide +kernel
theorem c74_135 : cd 74 135 = some (.getfield 3194, 3) := by decide +kernel
theorem c74_138 : cd 74 138 = some (.sipush 10, 2) := by decide +kernel
theorem c74_140 : cd 74 140 = some (.iload 6, 2) := by decide +kernel
theorem c74_142 : cd 74 142 = some (.imul, 1) := by decide +kernel
theorem c74_143 : cd 74 143 = some (.iload 7, 2) := by decide +kernel
theorem c74_145 : cd 74 145 = some (.iadd, 1) := by decide +kernel
theorem c74_146 : cd 74 146 = some (.iaload, 1) := by decide +kernel
theorem c74_147 : cd 74 147 = some (.goto 163, 3) := by decide +kernel
theorem c74_150 : cd 74 150 = some (.aload 0, 1) := by decide +kernel
theorem c74_151 : cd 74 151 = some (.getfield 3198, 3) := by decide +kernel
theorem c74_154 : cd 74 154 = some (.sipush 10, 2) := by decide +kernel
theorem c74_156 : cd 74 156 = some (.iload 6, 2) := by decide +kernel
theorem c74_158 : cd 74 158 = some (.imul, 1) := by decide +kernel
theorem c74_159 : cd 74 159 = some (.iload 7, 2) := by decide +kernel
theorem c74_161 : cd 74 161 = some (.iadd, 1) := by decide +kernel
theorem c74_162 : cd 74 162 = some (.iaload, 1) := by decide +kernel
theorem c74_163 : cd 74 163 = some (.ireturn, 1) := by decide +kernel
theorem c74_164 : cd 74 164 = some (.iinc 7 1, 3) := by decide +kernel
theorem c74_167 : cd 74 167 = some (.goto 87, 3) := by decide +kernel
theorem c74_170 : cd 74 170 = some (.iinc 6 1, 3) := by decide +kernel
theorem c74_173 : cd 74 173 = some (.goto 78, 3) := by decide +kernel
theorem c74_176 : cd 74 176 = some (.sipush (-1), 1) := by decide +kernel
theorem c74_177 : cd 74 177 = some (.ireturn, 1) := by decide +kernel
theorem g74_0 {d : Nat} {a1 : Int} {x2 x3 x4 x5 x6 x7 : Option aV} {w : aW} {Q : Option aV → aW → Prop} : T (d + 1) 74 0 [some (vr 167), some (vi a1), x2, x3, x4, x5, x6, x7] [] w Q = T d 121 0 [some (vr 167), some (vl a1), none] [] (iup w 167 0 0) (fun r w1 => T (d + 1) 74 11 [some (vr 167), some (vi a1), x2, x3, x4, x5, x6, x7] (r.toList ++ []) w1 Q) := by
  rw [T_aload_0 c74_0, T_sipush c74_1, T_putI 12 0 0 c74_2 rfl rfl rfl rfl, T_aload_0 c74_5, T_iload_1 c74_6, T_i2l c74_7, T_invv (es := [some (vr 167), some (vl a1), none]) (st := [vl a1, vr 167]) (ks := [2, 1]) (n := 3) (c := 12) (k := 167) (as := [vl a1]) (rest := []) c74_8 (by decide +kernel) (by decide +kernel) (by decide +kernel) (by decide) rfl rfl (Nat.le_of_ble_eq_true rfl)]
  all_goals try simp only [lay_167, true_and, Nat.reduceAdd, eq_self_iff_true]
theorem g74_11 {d : Nat} {a3 s0 : Int} {x1 x2 x4 x5 x6 x7 : Option aV} {w : aW} {Q : Option aV → aW → Prop} : T (d + 1) 74 11 [some (vr 167), x1, x2, some (vi a3), x4, x5, x6, x7] [vi s0] w Q = ((s0 = 0 → T (d + 1) 74 41 [some (vr 167), x1, x2, some (vi a3), x4, x5, x6, x7] [] w Q) ∧ (¬ (s0 = 0) → T d 121 0 [some (vr 167), some (vl a3), none] [] w (fun r w1 => T (d + 1) 74 20 [some (vr 167), x1, x2, some (vi a3), x4, x5, x6, x7] (r.toList ++ []) w1 Q))) := by
  rw [T_if_eq 41 c74_11 rfl, T_aload_0 c74_14, T_iload_3 c74_15, T_i2l c74_16, T_invv (es := [some (vr 167), some (vl a3), none]) (st := [vl a3, vr 167]) (ks := [2, 1]) (n := 3) (c := 12) (k := 167) (as := [vl a3]) (rest := []) c74_17 (by decide +kernel) (by decide +kernel) (by decide +kernel) (by decide) rfl rfl (Nat.le_of_ble_eq_true rfl)]
  all_goals try simp only [Int.reduceToNat, lay_167, true_and, Nat.reduceAdd, eq_self_iff_true]
theorem g74_20 {d : Nat} {a1 a3 a5 s0 : Int} {x0 x2 x4 x6 x7 : Option aV} {w : aW} {Q : Option aV → aW → Prop} : T (d + 1) 74 20 [x0, some (vi a1), x2, some (vi a3), x4, some (vi a5), x6, x7] [vi s0] w Q = ((s0 = 0 → T (d + 1) 74 41 [x0, some (vi a1), x2, some (vi a3), x4, some (vi a5), x6, x7] [] w Q) ∧ (¬ (s0 = 0) → ((a1 = a3 → T (d + 1) 74 41 [x0, some (vi a1), x2, some (vi a3), x4, some (vi a5), x6, x7] [] w Q) ∧ (¬ (a1 = a3) → T d 105 0 [some (vl a5), none, some (vl 0), none, some (vl 3), none] [] w (fun r w1 => T (d + 1) 74 38 [x0, some (vi a1), x2, some (vi a3), x4, some (vi a5), x6, x7] (r.toList ++ []) w1 Q))))) := by
  rw [T_if_eq 41 c74_20 rfl, T_iload_1 c74_23, T_iload_3 c74_24, T_icmp_eq 41 c74_25 rfl, T_iload_5 c74_28, T_i2l c74_30, T_bipush c74_31, T_bipush c74_32, T_inv (es := [some (vl a5), none, some (vl 0), none, some (vl 3), none]) (st := [vl 3, vl 0, vl a5]) (ks := [1, 1, 1]) (n := 6) (as := [vl a5, vl 0, vl 3]) (rest := []) c74_35 (by decide +kernel) (by decide +kernel) rfl rfl (Nat.le_of_ble_eq_true rfl)]
  all_goals try simp only [Int.reduceToNat, true_and, Nat.reduceAdd, eq_self_iff_true]
theorem g74_38 {d : Nat} {a2 s0 : Int} {x1 x3 x4 x5 x6 x7 : Option aV} {w : aW} {Q : Option aV → aW → Prop} : T (d + 1) 74 38 [some (vr 167), x1, some (vi a2), x3, x4, x5, x6, x7] [vi s0] w Q = ((¬ s0 = 0 → T d 194 0 [some (vr 167), some (vl a2), none] [] w (fun r w1 => T (d + 1) 74 50 [some (vr 167), x1, some (vi a2), x3, x4, x5, x6, x7] (r.toList ++ []) w1 Q)) ∧ (¬ (¬ s0 = 0) → T (d + 1) 74 41 [some (vr 167), x1, some (vi a2), x3, x4, x5, x6, x7] [] w Q)) := by
  rw [T_if_ne 44 c74_38 rfl, T_aload_0 c74_44, T_iload_2 c74_45, T_i2l c74_46, T_invv (es := [some (vr 167), some (vl a2), none]) (st := [vl a2, vr 167]) (ks := [2, 1]) (n := 3) (c := 12) (k := 167) (as := [vl a2]) (rest := []) c74_47 (by decide +kernel) (by decide +kernel) (by decide +kernel) (by decide) rfl rfl (Nat.le_of_ble_eq_true rfl)]
  all_goals try simp only [Int.reduceToNat, lay_167, true_and, Nat.reduceAdd, eq_self_iff_true]
theorem g74_41 {d : Nat} {x0 x1 x2 x3 x4 x5 x6 x7 : Option aV} {w : aW} {Q : Option aV → aW → Prop} : T d 74 41 [x0, x1, x2, x3, x4, x5, x6, x7] [] w Q = Q (some (vi (-2))) w := by
  rw [T_sipush c74_41, T_ireti c74_43 (by decide +kernel)]
  all_goals try simp only [true_and, Nat.reduceAdd, eq_self_iff_true]
theorem g74_50 {d : Nat} {a4 s0 : Int} {x1 x2 x3 x5 x6 x7 : Option aV} {w : aW} {Q : Option aV → aW → Prop} : T (d + 1) 74 50 [some (vr 167), x1, x2, x3, some (vi a4), x5, x6, x7] [vi s0] w Q = ((s0 = 0 → T (d + 1) 74 63 [some (vr 167), x1, x2, x3, some (vi a4), x5, x6, x7] [] w Q) ∧ (¬ (s0 = 0) → T d 194 0 [some (vr 167), some (vl a4), none] [] w (fun r w1 => T (d + 1) 74 60 [some (vr 167), x1, x2, x3, some (vi a4), x5, x6, x7] (r.toList ++ []) w1 Q))) := by
  rw [T_if_eq 63 c74_50 rfl, T_aload_0 c74_53, T_iload_4 c74_54, T_i2l c74_56, T_invv (es := [some (vr 167), some (vl a4), none]) (st := [vl a4, vr 167]) (ks := [2, 1]) (n := 3) (c := 12) (k := 167) (as := [vl a4]) (rest := []) c74_57 (by decide +kernel) (by decide +kernel) (by decide +kernel) (by decide) rfl rfl (Nat.le_of_ble_eq_true rfl)]
  all_goals try simp only [Int.reduceToNat, lay_167, true_and, Nat.reduceAdd, eq_self_iff_true]
theorem g74_60 {d : Nat} {a1 a2 a3 a4 s0 : Int} {x5 x6 x7 : Option aV} {w : aW} {Q : Option aV → aW → Prop} : T (d + 1) 74 60 [some (vr 167), some (vi a1), some (vi a2), some (vi a3), some (vi a4), x5, x6, x7] [vi s0] w Q = ((¬ s0 = 0 → T d 195 0 [some (vr 167), some (vi a1), some (vi a2), some (vi a3), some (vi a4), none, none, none, none] [] w (fun r w1 => T (d + 1) 74 75 [some (vr 167), some (vi a1), some (vi a2), some (vi a3), some (vi a4), x5, x6, x7] (r.toList ++ []) w1 Q)) ∧ (¬ (¬ s0 = 0) → T (d + 1) 74 63 [some (vr 167), some (vi a1), some (vi a2), some (vi a3), some (vi a4), x5, x6, x7] [] w Q)) := by
  rw [T_if_ne 66 c74_60 rfl, T_aload_0 c74_66, T_iload_1 c74_67, T_iload_2 c74_68, T_iload_3 c74_69, T_iload_4 c74_70, T_invv (es := [some (vr 167), some (vi a1), some (vi a2), some (vi a3), some (vi a4), none, none, none, none]) (st := [vi a4, vi a3, vi a2, vi a1, vr 167]) (ks := [2, 0, 0, 0, 0]) (n := 9) (c := 12) (k := 167) (as := [vi a1, vi a2, vi a3, vi a4]) (rest := []) c74_72 (by decide +kernel) (by decide +kernel) (by decide +kernel) (by decide) rfl rfl (Nat.le_of_ble_eq_true rfl)]
  all_goals try simp only [Int.reduceToNat, lay_167, true_and, Nat.reduceAdd, eq_self_iff_true]
theorem g74_63 {d : Nat} {x0 x1 x2 x3 x4 x5 x6 x7 : Option aV} {w : aW} {Q : Option aV → aW → Prop} : T d 74 63 [x0, x1, x2, x3, x4, x5, x6, x7] [] w Q = Q (some (vi (-3))) w := by
  rw [T_sipush c74_63, T_ireti c74_65 (by decide +kernel)]
  all_goals try simp only [true_and, Nat.reduceAdd, eq_self_iff_true]
theorem g74_75 {d : Nat} {x0 x1 x2 x3 x4 x5 x6 x7 : Option aV} {w : aW} {Q : Option aV → aW → Prop} : T d 74 75 [x0, x1, x2, x3, x4, x5, x6, x7] [] w Q = T d 74 78 [x0, x1, x2, x3, x4, x5, some (vi 0), x7] [] w Q := by
  rw [T_sipush c74_75, T_istore_6 c74_76]
  all_goals try simp only [true_and, Nat.reduceAdd, eq_self_iff_true]
theorem g74_78 {d : Nat} {a6 : Int} {x0 x1 x2 x3 x4 x5 x7 : Option aV} {w : aW} {Q : Option aV → aW → Prop} : T d 74 78 [x0, x1, x2, x3, x4, x5, some (vi a6), x7] [] w Q = ((3 ≤ a6 → Q (some (vi (-1))) w) ∧ (¬ (3 ≤ a6) → T d 74 87 [x0, x1, x2, x3, x4, x5, some (vi a6), some (vi 0)] [] w Q)) := by
  rw [T_iload_6 c74_78, T_sipush c74_80, T_icmp_ge 176 c74_81 rfl, T_sipush c74_176, T_ireti c74_177 (by decide +kernel), T_sipush c74_84, T_istore_7 c74_85]
  all_goals try simp only [Int.reduceToNat, true_and, Nat.reduceAdd, eq_self_iff_true]
theorem g74_87 {d : Nat} {a6 a7 : Int} {x1 x2 x3 x4 x5 : Option aV} {w : aW} {Q : Option aV → aW → Prop} : T (d + 1) 74 87 [some (vr 167), x1, x2, x3, x4, x5, some (vi a6), some (vi a7)] [] w Q = ((3 ≤ a7 → T (d + 1) 74 78 [some (vr 167), x1, x2, x3, x4, x5, some (vi (w32 (a6 + 1))), some (vi a7)] [] w Q) ∧ (¬ (3 ≤ a7) → T d 196 0 [some (vr 167), some (vi a6), some (vi a7), none] [] w (fun r w1 => T (d + 1) 74 101 [some (vr 167), x1, x2, x3, x4, x5, some (vi a6), some (vi a7)] (r.toList ++ []) w1 Q))) := by
  rw [T_iload_7 c74_87, T_sipush c74_89, T_icmp_ge 170 c74_90 rfl, T_iinc_6 c74_170, T_goto 78 c74_173 rfl, T_aload_0 c74_93, T_iload_6 c74_94, T_iload_7 c74_96, T_invv (es := [some (vr 167), some (vi a6), some (vi a7), none]) (st := [vi a7, vi a6, vr 167]) (ks := [2, 0, 0]) (n := 4) (c := 12) (k := 167) (as := [vi a6, vi a7]) (rest := []) c74_98 (by decide +kernel) (by decide +kernel) (by decide +kernel) (by decide) rfl rfl (Nat.le_of_ble_eq_true rfl)]
  all_goals try simp only [Int.reduceToNat, lay_167, true_and, Nat.reduceAdd, eq_self_iff_true]
theorem g74_101 {d : Nat} {a5 a6 a7 s0 : Int} {x1 x2 x3 x4 : Option aV} {w : aW} {Q : Option aV → aW → Prop} : T d 74 101 [some (vr 167), x1, x2, x3, x4, some (vi a5), some (vi a6), some (vi a7)] [vi s0] w Q = ((¬ s0 = 0 → ((¬ a5 = 0 → ((¬ a5 = 1 → ((¬ a5 = 2 → ((0 ≤ w32 ((w32 (10 * a6)) + a7) ∧ w32 ((w32 (10 * a6)) + a7) < 30) ∧ T d 74 163 [some (vr 167), x1, x2, x3, x4, some (vi a5), some (vi a6), some (vi a7)] [vi (w 186 (w32 ((w32 (10 * a6)) + a7)))] w Q)) ∧ (¬ (¬ a5 = 2) → ((0 ≤ w32 ((w32 (10 * a6)) + a7) ∧ w32 ((w32 (10 * a6)) + a7) < 30) ∧ T d 74 163 [some (vr 167), x1, x2, x3, x4, some (vi a5), some (vi a6), some (vi a7)] [vi (w 185 (w32 ((w32 (10 * a6)) + a7)))] w Q)))) ∧ (¬ (¬ a5 = 1) → T d 74 163 [some (vr 167), x1, x2, x3, x4, some (vi a5), some (vi a6), some (vi a7)] [vi a7] w Q))) ∧ (¬ (¬ a5 = 0) → T d 74 163 [some (vr 167), x1, x2, x3, x4, some (vi a5), some (vi a6), some (vi a7)] [vi a6] w Q))) ∧ (¬ (¬ s0 = 0) → T d 74 87 [some (vr 167), x1, x2, x3, x4, some (vi a5), some (vi a6), some (vi (w32 (a7 + 1)))] [] w Q)) := by
  rw [T_if_ne 107 c74_101 rfl, T_iload_5 c74_107, T_if_ne 117 c74_109 rfl, T_iload_5 c74_117, T_sipush c74_119, T_icmp_ne 128 c74_120 rfl, T_iload_5 c74_128, T_sipush c74_130, T_icmp_ne 150 c74_131 rfl, T_aload_0 c74_150, T_getR 12 31 31 c74_151 rfl rfl rfl rfl, rf_167_31, T_sipush c74_154, T_iload_6 c74_156, T_imul c74_158, T_iload_7 c74_159, T_iadd c74_161, T_iald c74_162, T_aload_0 c74_134, T_getR 12 30 30 c74_135 rfl rfl rfl rfl, rf_167_30, T_sipush c74_138, T_iload_6 c74_140, T_imul c74_142, T_iload_7 c74_143, T_iadd c74_145, T_iald c74_146, T_goto 163 c74_147 rfl, T_iload_7 c74_123, T_goto 163 c74_125 rfl, T_iload_6 c74_112, T_goto 163 c74_114 rfl, T_goto 164 c74_104 rfl, T_iinc_7 c74_164, T_goto 87 c74_167 rfl]
  all_goals try simp only [Int.reduceToNat, lay_167, ld_185, ld_186, true_and, Nat.reduceAdd, eq_self_iff_true]
theorem g74_163 {d : Nat} {s0 : Int} {x0 x1 x2 x3 x4 x5 x6 x7 : Option aV} {w : aW} {Q : Option aV → aW → Prop} : T d 74 163 [x0, x1, x2, x3, x4, x5, x6, x7] [vi s0] w Q = Q (some (vi s0)) w := by
  rw [T_ireti c74_163 (by decide +kernel)]
  all_goals try simp only [true_and, Nat.reduceAdd, eq_self_iff_true]
