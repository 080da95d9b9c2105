/-! 184: StringHandsModel.isBeginning.(II)Z -/
theorem c184_0 : cd 184 0 = some (.iload 1, 1) := by decide +kernel
theorem c184_1 : cd 184 1 = some (.istore 3, 1) := by decide +kernel
theorem c184_2 : cd 184 2 = some (.sipush 0, 1) := by decide +kernel
theorem c184_3 : cd 184 3 = some (.istore 4, 2) := by decide +kernel
theorem c184_5 : cd 184 5 = some (.iload 4, 2) := by decide +kernel
theorem c184_7 : cd 184 7 = some (.aload 0, 1) := by decide +kernel
theorem c184_8 : cd 184 8 = some (.getfield 3214, 3) := by decide +kernel
theorem c184_11 : cd 184 11 = some (.iload 2, 1) := by decide +kernel
theorem c184_12 : cd 184 12 = some (.iaload, 1) := by decide +kernel
theorem c184_13 : cd 184 13 = some (.if_icmp .ge 50, 3) := by decide +kernel
theorem c184_16 : cd 184 16 = some (.iload 3, 1) := by decide +kernel
theorem c184_17 : cd 184 17 = some (.aload 0, 1) := by decide +kernel
theorem c184_18 : cd 184 18 = some (.getfield 3218, 3) := by decide +kernel
theorem c184_21 : cd 184 21 = some (.sipush 40, 2) := by decide +kernel
theorem c184_23 : cd 184 23 = some (.iload 2, 1) := by decide +kernel
theorem c184_24 : cd 184 24 = some (.imul, 1) := by decide +kernel
theorem c184_25 : cd 184 25 = some (.iload 4, 2) := by decide +kernel
theorem c184_27 : cd 184 27 = some (.iadd, 1) := by decide +kernel
theorem c184_28 : cd 184 28 = some (.laload, 1) := by decide +kernel
theorem c184_29 : cd 184 29 = some (.invokestatic 250, 3) := by decide +kernel
theorem c184_32 : cd 184 32 = some (.ifCond .ne 37, 3) := by decide +kernel
theorem c184_35 : cd 184 35 = some (.sipush 0, 1) := by decide +kernel
theorem c184_36 : cd 184 36 = some (.ireturn, 1) := by decide +kernel
theorem c184_37 : cd 184 37 = some (.aload 0, 1) := by decide +kernel
theorem c184_38 : cd 184 38 = some (.getfield 3150, 3) := by decide +kernel
theorem c184_41 : cd 184 41 = some (.iload 3, 1) := by decide +kernel
theorem c184_42 : cd 184 42 = some (.iaload, 1) := by decide +kernel
theorem c184_43 : cd 184 43 = some (.istore 3, 1) := by decide +kernel
theorem c184_44 : cd 184 44 = some (.iinc 4 1, 3) := by decide +kernel
theorem c184_47 : cd 184 47 = some (.goto 5, 3) := by decide +kernel
theorem c184_50 : cd 184 50 = some (.sipush 1, 1) := by decide +kernel
theorem c184_51 : cd 184 51 = some (.ireturn, 1) := by decide +kernel
theorem g184_0 {d : Nat} {a1 : Int} {x0 x2 x3 x4 : Option aV} {w : aW} {Q : Option aV → aW → Prop} : T d 184 0 [x0, some (vi a1), x2, x3, x4] [] w Q = T d 184 5 [x0, some (vi a1), x2, some (vi a1), some (vi 0)] [] w Q := by
  rw [T_iload_1 c184_0, T_istore_3 c184_1, T_sipush c184_2, T_istore_4 c184_3]
  all_goals try simp only [true_and, Nat.reduceAdd, eq_self_iff_true]
theorem g184_5 {d : Nat} {a2 a3 a4 : Int} {x1 : Option aV} {w : aW} {Q : Option aV → aW → Prop} : T (d + 1) 184 5 [some (vr 167), x1, some (vi a2), some (vi a3), some (vi a4)] [] w Q = ((0 ≤ a2 ∧ a2 < 4) ∧ ((w 189 a2 ≤ a4 → Q (some (vi 1)) w) ∧ (¬ (w 189 a2 ≤ a4) → ((0 ≤ w32 ((w32 (40 * a2)) + a4) ∧ w32 ((w32 (40 * a2)) + a4) < 160) ∧ T d 250 0 [some (vi a3), some (vl (w 190 (w32 ((w32 (40 * a2)) + a4)))), none] [] w (fun r w1 => T (d + 1) 184 32 [some (vr 167), x1, some (vi a2), some (vi a3), some (vi a4)] (r.toList ++ []) w1 Q))))) := by
  rw [T_iload_4 c184_5, T_aload_0 c184_7, T_getR 12 35 35 c184_8 rfl rfl rfl rfl, rf_167_35, T_iload_2 c184_11, T_iald c184_12, T_icmp_ge 50 c184_13 rfl, T_sipush c184_50, T_iretz c184_51 (by decide +kernel), T_iload_3 c184_16, T_aload_0 c184_17, T_getR 12 36 36 c184_18 rfl rfl rfl rfl, rf_167_36, T_sipush c184_21, T_iload_2 c184_23, T_imul c184_24, T_iload_4 c184_25, T_iadd c184_27, T_lald c184_28, T_inv (es := [some (vi a3), some (vl (w 190 (w32 ((w32 (40 * a2)) + a4)))), none]) (st := [vl (w 190 (w32 ((w32 (40 * a2)) + a4))), vi a3]) (ks := [0, 1]) (n := 3) (as := [vi a3, vl (w 190 (w32 ((w32 (40 * a2)) + a4)))]) (rest := []) c184_29 (by decide +kernel) (by decide +kernel) rfl rfl (Nat.le_of_ble_eq_true rfl)]
  all_goals try simp only [Int.reduceToNat, ia1_190, lay_167, ld_189, true_and, Nat.reduceAdd, eq_self_iff_true, zero_eq_1, one_eq_0, true_or, or_true]
theorem g184_32 {d : Nat} {a3 a4 s0 : Int} {x1 x2 : Option aV} {w : aW} {Q : Option aV → aW → Prop} : T d 184 32 [some (vr 167), x1, x2, some (vi a3), some (vi a4)] [vi s0] w Q = ((¬ s0 = 0 → ((0 ≤ a3 ∧ a3 < 1024) ∧ T d 184 5 [some (vr 167), x1, x2, some (vi (w 174 a3)), some (vi (w32 (a4 + 1)))] [] w Q)) ∧ (¬ (¬ s0 = 0) → Q (some (vi 0)) w)) := by
  rw [T_if_ne 37 c184_32 rfl, T_aload_0 c184_37, T_getR 12 19 19 c184_38 rfl rfl rfl rfl, rf_167_19, T_iload_3 c184_41, T_iald c184_42, T_istore_3 c184_43, T_iinc_4 c184_44, T_goto 5 c184_47 rfl, T_sipush c184_35, T_iretz c184_36 (by decide +kernel)]
  all_goals try simp only [Int.reduceToNat, lay_167, ld_174, true_and, Nat.reduceAdd, eq_self_iff_true, zero_eq_1, one_eq_0, true_or, or_true]
/-! 185: StringHands$Scenes.fewestNudges.([III)I -/
theorem c185_0 : cd 185 0 = some (.sipush 1, 1) := by decide +kernel
theorem c185_1 : cd 185 1 = some (.iload 2, 1) := by decide +kernel
theorem c185_2 : cd 185 2 = some (.ishl, 1) := by decide +kernel
theorem c185_3 : cd 185 3 = some (.sipush 1024, 3) := by decide +kernel
theorem c185_6 : cd 185 6 = some (.invokedynamic 1, 3) := by decide +kernel
theorem c185_9 : cd 185 9 = some (.istore 4, 2) := by decide +kernel
theorem c185_11 : cd 185 11 = some (.aload 0, 1) := by decide +kernel
theorem c185_12 : cd 185 12 = some (.getfield 1302, 3) := by decide +kernel
theorem c185_15 : cd 185 15 = some (.sipush (-1), 1) := by decide +kernel
theorem c185_16 : cd 185 16 = some (.invokestatic 221, 3) := by decide +kernel
theorem c185_19 : cd 185 19 = some (.aload 0, 1) := by decide +kernel
theorem c185_20 : cd 185 20 = some (.getfield 1302, 3) := by decide +kernel
theorem c185_23 : cd 185 23 = some (.iload 3, 1) := by decide +kernel
theorem c185_24 : cd 185 24 = some (.sipush 0, 1) := by decide +kernel
theorem c185_25 : cd 185 25 = some (.iastore, 1) := by decide +kernel
theorem c185_26 : cd 185 26 = some (.sipush 0, 1) := by decide +kernel
theorem c185_27 : cd 185 27 = some (.istore 5, 2) := by decide +kernel
theorem c185_29 : cd 185 29 = some (.iload 5, 2) := by decide +kernel
theorem c185_31 : cd 185 31 = some (.aload 0, 1) := by decide +kernel
theorem c185_32 : cd 185 32 = some (.getfield 1288, 3) := by decide +kernel
theorem c185_35 : cd 185 35 = some (.if_icmp .ge 89, 3) := by decide +kernel
theorem c185_38 : cd 185 38 = some (.iload 5, 2) := by decide +kernel
theorem c185_40 : cd 185 40 = some (.ifCond .le 50, 3) := by decide +kernel
theorem c185_43 : cd 185 43 = some (.aload 0, 1) := by decide +kernel
theorem c185_44 : cd 185 44 = some (.aload 1, 1) := by decide +kernel
theorem c185_45 : cd 185 45 = some (.iload 4, 2) := by decide +kernel
theorem c185_47 : cd 185 47 = some (.invokevirtual 251, 3) := by decide +kernel
theorem c185_50 : cd 185 50 = some (.sipush 0, 1) := by decide +kernel
theorem c185_51 : cd 185 51 = some (.istore 6, 2) := by decide +kernel
theorem c185_53 : cd 185 53 = some (.iload 6, 2) := by decide +kernel
theorem c185_55 : cd 185 55 = some (.iload 2, 1) := by decide +kernel
theorem c185_56 : cd 185 56 = some (.if_icmp .ge 75, 3) := by decide +kernel
theorem c185_59 : cd 185 59 = some (.aload 0, 1) := by decide +kernel
theorem c185_60 : cd 185 60 = some (.sipush 1, 1) := by decide +kernel
theorem c185_61 : cd 185 61 = some (.iload 6, 2) := by decide +kernel
theorem c185_63 : cd 185 63 = some (.ishl, 1) := by decide +kernel
theorem c185_64 : cd 185 64 = some (.iload 4, 2) := by decide +kernel
theorem c185_66 : cd 185 66 = some (.invokevirtual 252, 3) := by decide +kernel
theorem c185_69 : cd 185 69 = some (.iinc 6 1, 3) := by decide +kernel
theorem c185_72 : cd 185 72 = some (.goto 53, 3) := by decide +kernel
theorem c185_75 : cd 185 75 = some (.aload 0, 1) := by decide +kernel
theorem c185_76 : cd 185 76 = some (.iload 5, 2) := by decide +kernel
theorem c185_78 : cd 185 78 = some (.iload 4, 2) := by decide +kernel
theorem c185_80 : cd 185 80 = some (.invokevirtual 253, 3) := by decide +kernel
theorem c185_83 : cd 185 83 = some (.iinc 5 1, 3) := by decide +kernel
theorem c185_86 : cd 185 86 = some (.goto 29, 3) := by decide +kernel
theorem c185_89 : cd 185 89 = some (.sipush (-1), 1) := by decide +kernel
theorem c185_90 : cd 185 90 = some (.istore 5, 2) := by decide +kernel
theorem c185_92 : cd 185 92 = some (.sipush 0, 1) := by decide +kernel
theorem c185_93 : cd 185 93 = some (.istore 6, 2) := by decide +kernel
theorem c185_95 : cd 185 95 = some (.iload 6, 2) := by decide +kernel
theorem c185_97 : cd 185 97 = some (.iload 4, 2) := by decide +kernel
theorem c185_99 : cd 185 99 = some (.if_icmp .ge 122, 3) := by decide +kernel
theorem c185_102 : cd 185 102 = some (.iload 5, 2) := by decide +kernel
theorem c185_104 : cd 185 104 = some (.aload 0, 1) := by decide +kernel
theorem c185_105 : cd 185 105 = some (.getfield 1302, 3) := by decide +kernel
theorem c185_108 : cd 185 108 = some (.iload 6, 2) := by decide +kernel
theorem c185_110 : cd 185 110 = some (.iaload, 1) := by decide +kernel
theorem c185_111 : cd 185 111 = some (.invokestatic 254, 3) := by decide +kernel
theorem c185_114 : cd 185 114 = some (.istore 5, 2) := by decide +kernel
theorem c185_116 : cd 185 116 = some (.iinc 6 1, 3) := by decide +kernel
theorem c185_119 : cd 185 119 = some (.goto 95, 3) := by decide +kernel
theorem c185_122 : cd 185 122 = some (.iload 5, 2) := by decide +kernel
theorem c185_124 : cd 185 124 = some (.ireturn, 1) := by decide +kernel
theorem g185_0 {d : Nat} {a2 : Int} {x1 x3 x4 x5 x6 : Option aV} {w : aW} {Q : Option aV → aW → Prop} : T (d + 1) 185 0 [some (vr 57), x1, some (vi a2), x3, x4, x5, x6] [] w Q = T d 221 0 [some (vr 62), some (vi (-1)), none, none] [] w (fun r w1 => T (d + 1) 185 19 [some (vr 57), x1, some (vi a2), x3, some (vi (if 1024 < jshl 1 a2 then 1024 else jshl 1 a2)), x5, x6] (r.toList ++ []) w1 Q) := by
  rw [T_sipush c185_0, T_iload_2 c185_1, T_ishl c185_2, T_sipush c185_3, T_min (st := []) c185_6 (Nat.le_of_ble_eq_true rfl), T_istore_4 c185_9, T_aload_0 c185_11, T_getR 5 5 5 c185_12 rfl rfl rfl rfl, rf_57_5, T_sipush c185_15, T_inv (es := [some (vr 62), some (vi (-1)), none, none]) (st := [vi (-1), vr 62]) (ks := [2, 0]) (n := 4) (as := [vr 62, vi (-1)]) (rest := []) c185_16 (by decide +kernel) (by decide +kernel) rfl rfl (Nat.le_of_ble_eq_true rfl)]
  all_goals try simp only [lay_57, true_and, Nat.reduceAdd, eq_self_iff_true]
theorem g185_19 {d : Nat} {a3 : Int} {x1 x2 x4 x5 x6 : Option aV} {w : aW} {Q : Option aV → aW → Prop} : T d 185 19 [some (vr 57), x1, x2, some (vi a3), x4, x5, x6] [] w Q = ((0 ≤ a3 ∧ a3 < 1024) ∧ T d 185 29 [some (vr 57), x1, x2, some (vi a3), x4, some (vi 0), x6] [] (iup w 62 a3 0) Q) := by
  rw [T_aload_0 c185_19, T_getR 5 5 5 c185_20 rfl rfl rfl rfl, rf_57_5, T_iload_3 c185_23, T_sipush c185_24, T_iast c185_25, T_sipush c185_26, T_istore_5 c185_27]
  all_goals try simp only [ia0_62, lay_57, true_and, Nat.reduceAdd, eq_self_iff_true]
theorem g185_29 {d : Nat} {a4 a5 : Int} {x2 x3 x6 : Option aV} {w : aW} {Q : Option aV → aW → Prop} : T (d + 1) 185 29 [some (vr 57), some (vr 20), x2, x3, some (vi a4), some (vi a5), x6] [] w Q = ((w 57 2 ≤ a5 → T (d + 1) 185 95 [some (vr 57), some (vr 20), x2, x3, some (vi a4), some (vi (-1)), some (vi 0)] [] w Q) ∧ (¬ (w 57 2 ≤ a5) → ((a5 ≤ 0 → T (d + 1) 185 50 [some (vr 57), some (vr 20), x2, x3, some (vi a4), some (vi a5), x6] [] w Q) ∧ (¬ (a5 ≤ 0) → T d 251 0 [some (vr 57), some (vr 20), some (vi a4), none] [] w (fun r w1 => T (d + 1) 185 50 [some (vr 57), some (vr 20), x2, x3, some (vi a4), some (vi a5), x6] (r.toList ++ []) w1 Q))))) := by
  rw [T_iload_5 c185_29, T_aload_0 c185_31, T_getI 5 2 2 c185_32 rfl rfl rfl rfl, T_icmp_ge 89 c185_35 rfl, T_sipush c185_89, T_istore_5 c185_90, T_sipush c185_92, T_istore_6 c185_93, T_iload_5 c185_38, T_if_le 50 c185_40 rfl, T_aload_0 c185_43, T_aload_1 c185_44, T_iload_4 c185_45, T_invv (es := [some (vr 57), some (vr 20), some (vi a4), none]) (st := [vi a4, vr 20, vr 57]) (ks := [2, 2, 0]) (n := 4) (c := 5) (k := 57) (as := [vr 20, vi a4]) (rest := []) c185_47 (by decide +kernel) (by decide +kernel) (by decide +kernel) (by decide) rfl rfl (Nat.le_of_ble_eq_true rfl)]
  all_goals try simp only [Int.reduceToNat, lay_57, true_and, Nat.reduceAdd, eq_self_iff_true]
theorem g185_50 {d : Nat} {x0 x1 x2 x3 x4 x5 x6 : Option aV} {w : aW} {Q : Option aV → aW → Prop} : T d 185 50 [x0, x1, x2, x3, x4, x5, x6] [] w Q = T d 185 53 [x0, x1, x2, x3, x4, x5, some (vi 0)] [] w Q := by
  rw [T_sipush c185_50, T_istore_6 c185_51]
  all_goals try simp only [true_and, Nat.reduceAdd, eq_self_iff_true]
theorem g185_53 {d : Nat} {a2 a4 a5 a6 : Int} {x1 x3 : Option aV} {w : aW} {Q : Option aV → aW → Prop} : T (d + 1) 185 53 [some (vr 57), x1, some (vi a2), x3, some (vi a4), some (vi a5), some (vi a6)] [] w Q = ((a2 ≤ a6 → T d 253 0 [some (vr 57), some (vi a5), some (vi a4), none] [] w (fun r w1 => T (d + 1) 185 83 [some (vr 57), x1, some (vi a2), x3, some (vi a4), some (vi a5), some (vi a6)] (r.toList ++ []) w1 Q)) ∧ (¬ (a2 ≤ a6) → T d 252 0 [some (vr 57), some (vi (jshl 1 a6)), some (vi a4), none, none, none, none] [] w (fun r w1 => T (d + 1) 185 69 [some (vr 57), x1, some (vi a2), x3, some (vi a4), some (vi a5), some (vi a6)] (r.toList ++ []) w1 Q))) := by
  rw [T_iload_6 c185_53, T_iload_2 c185_55, T_icmp_ge 75 c185_56 rfl, T_aload_0 c185_75, T_iload_5 c185_76, T_iload_4 c185_78, T_invv (es := [some (vr 57), some (vi a5), some (vi a4), none]) (st := [vi a4, vi a5, vr 57]) (ks := [2, 0, 0]) (n := 4) (c := 5) (k := 57) (as := [vi a5, vi a4]) (rest := []) c185_80 (by decide +kernel) (by decide +kernel) (by decide +kernel) (by decide) rfl rfl (Nat.le_of_ble_eq_true rfl), T_aload_0 c185_59, T_sipush c185_60, T_iload_6 c185_61, T_ishl c185_63, T_iload_4 c185_64, T_invv (es := [some (vr 57), some (vi (jshl 1 a6)), some (vi a4), none, none, none, none]) (st := [vi a4, vi (jshl 1 a6), vr 57]) (ks := [2, 0, 0]) (n := 7) (c := 5) (k := 57) (as := [vi (jshl 1 a6), vi a4]) (rest := []) c185_66 (by decide +kernel) (by decide +kernel) (by decide +kernel) (by decide) rfl rfl (Nat.le_of_ble_eq_true rfl)]
  all_goals try simp only [Int.reduceToNat, lay_57, true_and, Nat.reduceAdd, eq_self_iff_true]
theorem g185_69 {d : Nat} {a6 : Int} {x0 x1 x2 x3 x4 x5 : Option aV} {w : aW} {Q : Option aV → aW → Prop} : T d 185 69 [x0, x1, x2, x3, x4, x5, some (vi a6)] [] w Q = T d 185 53 [x0, x1, x2, x3, x4, x5, some (vi (w32 (a6 + 1)))] [] w Q := by
  rw [T_iinc_6 c185_69, T_goto 53 c185_72 rfl]
  all_goals try simp only [true_and, Nat.reduceAdd, eq_self_iff_true]
theorem g185_83 {d : Nat} {a5 : Int} {x0 x1 x2 x3 x4 x6 : Option aV} {w : aW} {Q : Option aV → aW → Prop} : T d 185 83 [x0, x1, x2, x3, x4, some (vi a5), x6] [] w Q = T d 185 29 [x0, x1, x2, x3, x4, some (vi (w32 (a5 + 1))), x6] [] w Q := by
  rw [T_iinc_5 c185_83, T_goto 29 c185_86 rfl]
  all_goals try simp only [true_and, Nat.reduceAdd, eq_self_iff_true]
theorem g185_95 {d : Nat} {a4 a5 a6 : Int} {x1 x2 x3 : Option aV} {w : aW} {Q : Option aV → aW → Prop} : T (d + 1) 185 95 [some (vr 57), x1, x2, x3, some (vi a4), some (vi a5), some (vi a6)] [] w Q = ((a4 ≤ a6 → Q (some (vi a5)) w) ∧ (¬ (a4 ≤ a6) → ((0 ≤ a6 ∧ a6 < 1024) ∧ T d 254 0 [some (vi a5), some (vi (w 62 a6))] [] w (fun r w1 => T (d + 1) 185 114 [some (vr 57), x1, x2, x3, some (vi a4), some (vi a5), some (vi a6)] (r.toList ++ []) w1 Q)))) := by
  rw [T_iload_6 c185_95, T_iload_4 c185_97, T_icmp_ge 122 c185_99 rfl, T_iload_5 c185_122, T_ireti c185_124 (by decide +kernel), T_iload_5 c185_102, T_aload_0 c185_104, T_getR 5 5 5 c185_105 rfl rfl rfl rfl, rf_57_5, T_iload_6 c185_108, T_iald c185_110, T_inv (es := [some (vi a5), some (vi (w 62 a6))]) (st := [vi (w 62 a6), vi a5]) (ks := [0, 0]) (n := 2) (as := [vi a5, vi (w 62 a6)]) (rest := []) c185_111 (by decide +kernel) (by decide +kernel) rfl rfl (Nat.le_of_ble_eq_true rfl)]
  all_goals try simp only [Int.reduceToNat, lay_57, ld_62, true_and, Nat.reduceAdd, eq_self_iff_true]
theorem g185_114 {d : Nat} {a6 s0 : Int} {x0 x1 x2 x3 x4 x5 : Option aV} {w : aW} {Q : Option aV → aW → Prop} : T d 185 114 [x0, x1, x2, x3, x4, x5, some (vi a6)] [vi s0] w Q = T d 185 95 [x0, x1, x2, x3, x4, some (vi s0), some (vi (w32 (a6 + 1)))] [] w Q := by
  rw [T_istore_5 c185_114, T_iinc_6 c185_116, T_goto 95 c185_119 rfl]
  all_goals try simp only [true_and, Nat.reduceAdd, eq_self_iff_true]
/-! 186: StringHandsModel.nudgesAll.(J)V -/
theorem c186_0 : cd 186 0 = some (.sipush 0, 1) := by decide +kernel
theorem c186_1 : cd 186 1 = some (.istore 3, 1) := by decide +kernel
theorem c186_2 : cd 186 2 = some (.iload 3, 1) := by decide +kernel
theorem c186_3 : cd 186 3 = some (.aload 0, 1) := by decide +kernel
theorem c186_4 : cd 186 4 = some (.getfield 3078, 3) := by decide +kernel
theorem c186_7 : cd 186 7 = some (.sipush 2, 1) := by decide +kernel
theorem c186_8 : cd 186 8 = some (.iaload, 1) := by decide +kernel
theorem c186_9 : cd 186 9 = some (.if_icmp .ge 125, 3) := by decide +kernel
theorem c186_12 : cd 186 12 = some (.sipush 0, 1) := by decide +kernel
theorem c186_13 : cd 186 13 = some (.istore 4, 2) := by decide +kernel
theorem c186_15 : cd 186 15 = some (.iload 4, 2) := by decide +kernel
theorem c186_17 : cd 186 17 = some (.aload 0, 1) := by decide +kernel
theorem c186_18 : cd 186 18 = some (.invokevirtual 164, 3) := by decide +kernel
theorem c186_21 : cd 186 21 = some (.if_icmp .ge 119, 3) := by decide +kernel
theorem c186_24 : cd 186 24 = some (.iload 4, 2) := by decide +kernel
theorem c186_26 : cd 186 26 = some (.i2l, 1) := by decide +kernel
theorem c186_27 : cd 186 27 = some (.iload 3, 1) := by decide +kernel
theorem c186_28 : cd 186 28 = some (.invokestatic 230, 3) := by decide +kernel
theorem c186_31 : cd 186 31 = some (.ifCond .eq 37, 3) := by decide +kernel
theorem c186_34 : cd 186 34 = some (.goto 113, 3) := by decide +kernel
theorem c186_37 : cd 186 37 = some (.iload 4, 2) := by decide +kernel
theorem c186_39 : cd 186 39 = some (.sipush 1, 1) := by decide +kernel
theorem c186_40 : cd 186 40 = some (.iload 3, 1) := by decide +kernel
theorem c186_41 : cd 186 41 = some (.ishl, 1) := by decide +kernel
theorem c186_42 : cd 186 42 = some (.ior, 1) := by decide +kernel
theorem c186_43 : cd 186 43 = some (.istore 5, 2) := by decide +kernel
theorem c186_45 : cd 186 45 = some (.aload 0, 1) := by decide +kernel
theorem c186_46 : cd 186 46 = some (.getfield 3182, 3) := by decide +kernel
theorem c186_49 : cd 186 49 = some (.iload 4, 2) := by decide +kernel
theorem c186_51 : cd 186 51 = some (.iaload, 1) := by decide +kernel
theorem c186_52 : cd 186 52 = some (.istore 6, 2) := by decide +kernel
theorem c186_54 : cd 186 54 = some (.aload 0, 1) := by decide +kernel
theorem c186_55 : cd 186 55 = some (.getfield 3182, 3) := by decide +kernel
theorem c186_58 : cd 186 58 = some (.iload 5, 2) := by decide +kernel
theorem c186_60 : cd 186 60 = some (.iaload, 1) := by decide +kernel
theorem c186_61 : cd 186 61 = some (.istore 7, 2) := by decide +kernel
theorem c186_63 : cd 186 63 = some (.aload 0, 1) := by decide +kernel
theorem c186_64 : cd 186 64 = some (.getfield 3182, 3) := by decide +kernel
theorem c186_67 : cd 186 67 = some (.iload 4, 2) := by decide +kernel
theorem c186_69 : cd 186 69 = some (.iload 7, 2) := by decide +kernel
theorem c186_71 : cd 186 71 = some (.sipush 1, 1) := by decide +kernel
theorem c186_72 : cd 186 72 = some (.iadd, 1) := by decide +kernel
theorem c186_73 : cd 186 73 = some (.iload 6, 2) := by decide +kernel
theorem c186_75 : cd 186 75 = some (.if_icmp .ge 85, 3) := by decide +kernel
theorem c186_78 : cd 186 78 = some (.iload 7, 2) := by decide +kernel
theorem c186_80 : cd 186 80 = some (.sipush 1, 1) := by decide +kernel
theorem c186_81 : cd 186 81 = some (.iadd, 1) := by decide +kernel
theorem c186_82 : cd 186 82 = some (.goto 87, 3) := by decide +kernel
theorem c186_85 : cd 186 85 = some (.iload 6, 2) := by decide +kernel
theorem c186_87 : cd 186 87 = some (.iastore, 1) := by decide +kernel
theorem c186_88 : cd 186 88 = some (.aload 0, 1) := by decide +kernel
theorem c186_89 : cd 186 89 = some (.getfield 3182, 3) := by decide +kernel
theorem c186_92 : cd 186 92 = some (.iload 5, 2) := by decide +kernel
theorem c186_94 : cd 186 94 = some (.iload 6, 2) := by decide +kernel
theorem c186_96 : cd 186 96 = some (.sipush 1, 1) := by decide +kernel
theorem c186_97 : cd 186 97 = some (.iadd, 1) := by decide +kernel
theorem c186_98 : cd 186 98 = some (.iload 7, 2) := by decide +kernel
theorem c186_100 : cd 186 100 = some (.if_icmp .ge 110, 3) := by decide +kernel
theorem c186_103 : cd 186 103 = some (.iload 6, 2) := by decide +kernel
theorem c186_105 : cd 186 105 = some (.sipush 1, 1) := by decide +kernel
theorem c186_106 : cd 186 106 = some (.iadd, 1) := by decide +kernel
theorem c186_107 : cd 186 107 = some (.goto 112, 3) := by decide +kernel
theorem c186_110 : cd 186 110 = some (.iload 7, 2) := by decide +kernel
theorem c186_112 : cd 186 112 = some (.iastore, 1) := by decide +kernel
theorem c186_113 : cd 186 113 = some (.iinc 4 1, 3) := by decide +kernel
theorem c186_116 : cd 186 116 = some (.goto 15, 3) := by decide +kernel
theorem c186_119 : cd 186 119 = some (.iinc 3 1, 3) := by decide +kernel
theorem c186_122 : cd 186 122 = some (.goto 2, 3) := by decide +kernel
theorem c186_125 : cd 186 125 = some (.sipush 0, 1) := by decide +kernel
theorem c186_126 : cd 186 126 = some (.istore 3, 1) := by decide +kernel
theorem c186_127 : cd 186 127 = some (.iload 3, 1) := by decide +kernel
theorem c186_128 : cd 186 128 = some (.aload 0, 1) := by decide +kernel
theorem c186_129 : cd 186 129 = some (.invokevirtual 164, 3) := by decide +kernel
theorem c186_132 : cd 186 132 = some (.if_icmp .ge 167, 3) := by decide +kernel
theorem c186_135 : cd 186 135 = some (.aload 0, 1) := by decide +kernel
theorem c186_136 : cd 186 136 = some (.getfield 3182, 3) := by decide +kernel
theorem c186_139 : cd 186 139 = some (.iload 3, 1) := by decide +kernel
theorem c186_140 : cd 186 140 = some (.iload 3, 1) := by decide +kernel
theorem c186_141 : cd 186 141 = some (.lload 1, 1) := by decide +kernel
theorem c186_142 : cd 186 142 = some (.invokestatic 250, 3) := by decide +kernel
theorem c186_145 : cd 186 145 = some (.ifCond .eq 157, 3) := by decide +kernel
theorem c186_148 : cd 186 148 = some (.aload 0, 1) := by decide +kernel
theorem c186_149 : cd 186 149 = some (.getfield 3182, 3) := by decide +kernel
theorem c186_152 : cd 186 152 = some (.iload 3, 1) := by decide +kernel
theorem c186_153 : cd 186 153 = some (.iaload, 1) := by decide +kernel
theorem c186_154 : cd 186 154 = some (.goto 160, 3) := by decide +kernel
theorem c186_157 : cd 186 157 = some (.sipush 9999, 3) := by decide +kernel
theorem c186_160 : cd 186 160 = some (.iastore, 1) := by decide +kernel
theorem c186_161 : cd 186 161 = some (.iinc 3 1, 3) := by decide +kernel
theorem c186_164 : cd 186 164 = some (.goto 127, 3) := by decide +kernel
theorem c186_167 : cd 186 167 = some (.return_, 1) := by decide +kernel
theorem g186_0 {d : Nat} {x0 x1 x2 x3 x4 x5 x6 x7 : Option aV} {w : aW} {Q : Option aV → aW → Prop} : T d 186 0 [x0, x1, x2, x3, x4, x5, x6, x7] [] w Q = T d 186 2 [x0, x1, x2, some (vi 0), x4, x5, x6, x7] [] w Q := by
  rw [T_sipush c186_0, T_istore_3 c186_1]
  all_goals try simp only [true_and, Nat.reduceAdd, eq_self_iff_true]
theorem g186_2 {d : Nat} {a3 : Int} {x1 x2 x4 x5 x6 x7 : Option aV} {w : aW} {Q : Option aV → aW → Prop} : T d 186 2 [some (vr 167), x1, x2, some (vi a3), x4, x5, x6, x7] [] w Q = ((w 168 2 ≤ a3 → T d 186 127 [some (vr 167), x1, x2, some (vi 0), x4, x5, x6, x7] [] w Q) ∧ (¬ (w 168 2 ≤ a3) → T d 186 15 [some (vr 167), x1, x2, some (vi a3), some (vi 0), x5, x6, x7] [] w Q)) := by
  rw [T_iload_3 c186_2, T_aload_0 c186_3, T_getR 12 1 1 c186_4 rfl rfl rfl rfl, rf_167_1, T_sipush c186_7, T_iald c186_8, T_icmp_ge 125 c186_9 rfl, T_sipush c186_125, T_istore_3 c186_126, T_sipush c186_12, T_istore_4 c186_13]
  all_goals try simp only [Int.reduceLE, Int.reduceLT, Int.reduceToNat, and_self, lay_167, ld_168, true_and, Nat.reduceAdd, eq_self_iff_true]
theorem g186_15 {d : Nat} {a4 : Int} {x1 x2 x3 x5 x6 x7 : Option aV} {w : aW} {Q : Option aV → aW → Prop} : T (d + 1) 186 15 [some (vr 167), x1, x2, x3, some (vi a4), x5, x6, x7] [] w Q = T d 164 0 [some (vr 167)] [] w (fun r w1 => T (d + 1) 186 21 [some (vr 167), x1, x2, x3, some (vi a4), x5, x6, x7] (r.toList ++ [vi a4]) w1 Q) := by
  rw [T_iload_4 c186_15, T_aload_0 c186_17, T_invv (es := [some (vr 167)]) (st := [vr 167, vi a4]) (ks := [2]) (n := 1) (c := 12) (k := 167) (as := []) (rest := [vi a4]) c186_18 (by decide +kernel) (by decide +kernel) (by decide +kernel) (by decide) rfl rfl (Nat.le_of_ble_eq_true rfl)]
  all_goals try simp only [lay_167, true_and, Nat.reduceAdd, eq_self_iff_true]
theorem g186_21 {d : Nat} {a3 a4 s0 s1 : Int} {x0 x1 x2 x5 x6 x7 : Option aV} {w : aW} {Q : Option aV → aW → Prop} : T (d + 1) 186 21 [x0, x1, x2, some (vi a3), some (vi a4), x5, x6, x7] [vi s1, vi s0] w Q = ((s1 ≤ s0 → T (d + 1) 186 2 [x0, x1, x2, some (vi (w32 (a3 + 1))), some (vi a4), x5, x6, x7] [] w Q) ∧ (¬ (s1 ≤ s0) → T d 230 0 [some (vl a4), none, some (vi a3)] [] w (fun r w1 => T (d + 1) 186 31 [x0, x1, x2, some (vi a3), some (vi a4), x5, x6, x7] (r.toList ++ []) w1 Q))) := by
  rw [T_icmp_ge 119 c186_21 rfl, T_iinc_3 c186_119, T_goto 2 c186_122 rfl, T_iload_4 c186_24, T_i2l c186_26, T_iload_3 c186_27, T_inv (es := [some (vl a4), none, some (vi a3)]) (st := [vi a3, vl a4]) (ks := [1, 0]) (n := 3) (as := [vl a4, vi a3]) (rest := []) c186_28 (by decide +kernel) (by decide +kernel) rfl rfl (Nat.le_of_ble_eq_true rfl)]
  all_goals try simp only [Int.reduceToNat, true_and, Nat.reduceAdd, eq_self_iff_true]
theorem g186_31 {d : Nat} {a3 a4 s0 : Int} {x1 x2 x5 x6 x7 : Option aV} {w : aW} {Q : Option aV → aW → Prop} : T d 186 31 [some (vr 167), x1, x2, some (vi a3), some (vi a4), x5, x6, x7] [vi s0] w Q = ((s0 = 0 → ((0 ≤ a4 ∧ a4 < 1024) ∧ ((0 ≤ jor a4 (jshl 1 a3) ∧ jor a4 (jshl 1 a3) < 1024) ∧ ((w 182 a4 ≤ w32 ((w 182 (jor a4 (jshl 1 a3))) + 1) → T d 186 87 [some (vr 167), x1, x2, some (vi a3), some (vi a4), some (vi (jor a4 (jshl 1 a3))), some (vi (w 182 a4)), some (vi (w 182 (jor a4 (jshl 1 a3))))] [vi (w 182 a4), vi a4, vr 182] w Q) ∧ (¬ (w 182 a4 ≤ w32 ((w 182 (jor a4 (jshl 1 a3))) + 1)) → T d 186 87 [some (vr 167), x1, x2, some (vi a3), some (vi a4), some (vi (jor a4 (jshl 1 a3))), some (vi (w 182 a4)), some (vi (w 182 (jor a4 (jshl 1 a3))))] [vi (w32 ((w 182 (jor a4 (jshl 1 a3))) + 1)), vi a4, vr 182] w Q))))) ∧ (¬ (s0 = 0) → T d 186 113 [some (vr 167), x1, x2, some (vi a3), some (vi a4), x5, x6, x7] [] w Q)) := by
  rw [T_if_eq 37 c186_31 rfl, T_iload_4 c186_37, T_sipush c186_39, T_iload_3 c186_40, T_ishl c186_41, T_ior c186_42, T_istore_5 c186_43, T_aload_0 c186_45, T_getR 12 27 27 c186_46 rfl rfl rfl rfl, rf_167_27, T_iload_4 c186_49, T_iald c186_51, T_istore_6 c186_52, T_aload_0 c186_54, T_getR 12 27 27 c186_55 rfl rfl rfl rfl, rf_167_27, T_iload_5 c186_58, T_iald c186_60, T_istore_7 c186_61, T_aload_0 c186_63, T_getR 12 27 27 c186_64 rfl rfl rfl rfl, rf_167_27, T_iload_4 c186_67, T_iload_7 c186_69, T_sipush c186_71, T_iadd c186_72, T_iload_6 c186_73, T_icmp_ge 85 c186_75 rfl, T_iload_6 c186_85, T_iload_7 c186_78, T_sipush c186_80, T_iadd c186_81, T_goto 87 c186_82 rfl, T_goto 113 c186_34 rfl]
  all_goals try simp only [Int.reduceToNat, lay_167, ld_182, true_and, Nat.reduceAdd, eq_self_iff_true]
theorem g186_87 {d : Nat} {a5 a6 a7 s1 s2 : Int} {s0 : Nat} {x1 x2 x3 x4 : Option aV} {w : aW} {Q : Option aV → aW → Prop} : T d 186 87 [some (vr 167), x1, x2, x3, x4, some (vi a5), some (vi a6), some (vi a7)] [vi s2, vi s1, vr s0] w Q = (inA s0 0 s1 = true ∧ ((a7 ≤ w32 (a6 + 1) → T d 186 112 [some (vr 167), x1, x2, x3, x4, some (vi a5), some (vi a6), some (vi a7)] [vi a7, vi a5, vr 182] (iup w s0 s1 s2) Q) ∧ (¬ (a7 ≤ w32 (a6 + 1)) → T d 186 112 [some (vr 167), x1, x2, x3, x4, some (vi a5), some (vi a6), some (vi a7)] [vi (w32 (a6 + 1)), vi a5, vr 182] (iup w s0 s1 s2) Q))) := by
  rw [T_iast c186_87, T_aload_0 c186_88, T_getR 12 27 27 c186_89 rfl rfl rfl rfl, rf_167_27, T_iload_5 c186_92, T_iload_6 c186_94, T_sipush c186_96, T_iadd c186_97, T_iload_7 c186_98, T_icmp_ge 110 c186_100 rfl, T_iload_7 c186_110, T_iload_6 c186_103, T_sipush c186_105, T_iadd c186_106, T_goto 112 c186_107 rfl]
  all_goals try simp only [Int.reduceToNat, lay_167, true_and, Nat.reduceAdd, eq_self_iff_true]
theorem g186_112 {d : Nat} {s1 s2 : Int} {s0 : Nat} {x0 x1 x2 x3 x4 x5 x6 x7 : Option aV} {w : aW} {Q : Option aV → aW → Prop} : T d 186 112 [x0, x1, x2, x3, x4, x5, x6, x7] [vi s2, vi s1, vr s0] w Q = (inA s0 0 s1 = true ∧ T d 186 113 [x0, x1, x2, x3, x4, x5, x6, x7] [] (iup w s0 s1 s2) Q) := by
  rw [T_iast c186_112]
  all_goals try simp only [true_and, Nat.reduceAdd, eq_self_iff_true]
theorem g186_113 {d : Nat} {a4 : Int} {x0 x1 x2 x3 x5 x6 x7 : Option aV} {w : aW} {Q : Option aV → aW → Prop} : T d 186 113 [x0, x1, x2, x3, some (vi a4), x5, x6, x7] [] w Q = T d 186 15 [x0, x1, x2, x3, some (vi (w32 (a4 + 1))), x5, x6, x7] [] w Q := by
  rw [T_iinc_4 c186_113, T_goto 15 c186_116 rfl]
  all_goals try simp only [true_and, Nat.reduceAdd, eq_self_iff_true]
theorem g186_127 {d : Nat} {a3 : Int} {x1 x2 x4 x5 x6 x7 : Option aV} {w : aW} {Q : Option aV → aW → Prop} : T (d + 1) 186 127 [some (vr 167), x1, x2, some (vi a3), x4, x5, x6, x7] [] w Q = T d 164 0 [some (vr 167)] [] w (fun r w1 => T (d + 1) 186 132 [some (vr 167), x1, x2, some (vi a3), x4, x5, x6, x7] (r.toList ++ [vi a3]) w1 Q) := by
  rw [T_iload_3 c186_127, T_aload_0 c186_128, T_invv (es := [some (vr 167)]) (st := [vr 167, vi a3]) (ks := [2]) (n := 1) (c := 12) (k := 167) (as := []) (rest := [vi a3]) c186_129 (by decide +kernel) (by decide +kernel) (by decide +kernel) (by decide) rfl rfl (Nat.le_of_ble_eq_true rfl)]
  all_goals try simp only [lay_167, true_and, Nat.reduceAdd, eq_self_iff_true]
theorem g186_132 {d : Nat} {b1 a3 s0 s1 : Int} {x4 x5 x6 x7 : Option aV} {w : aW} {Q : Option aV → aW → Prop} : T (d + 1) 186 132 [some (vr 167), some (vl b1), none, some (vi a3), x4, x5, x6, x7] [vi s1, vi s0] w Q = ((s1 ≤ s0 → Q none w) ∧ (¬ (s1 ≤ s0) → T d 250 0 [some (vi a3), some (vl b1), none] [] w (fun r w1 => T (d + 1) 186 145 [some (vr 167), some (vl b1), none, some (vi a3), x4, x5, x6, x7] (r.toList ++ [vi a3, vr 182]) w1 Q))) := by
  rw [T_icmp_ge 167 c186_132 rfl, T_vret c186_167 (by decide +kernel), T_aload_0 c186_135, T_getR 12 27 27 c186_136 rfl rfl rfl rfl, rf_167_27, T_iload_3 c186_139, T_iload_3 c186_140, T_lload_1 c186_141, T_inv (es := [some (vi a3), some (vl b1), none]) (st := [vl b1, vi a3, vi a3, vr 182]) (ks := [0, 1]) (n := 3) (as := [vi a3, vl b1]) (rest := [vi a3, vr 182]) c186_142 (by decide +kernel) (by decide +kernel) rfl rfl (Nat.le_of_ble_eq_true rfl)]
  all_goals try simp only [Int.reduceToNat, lay_167, true_and, Nat.reduceAdd, eq_self_iff_true]
theorem g186_145 {d : Nat} {a3 s1 s2 : Int} {s0 : Nat} {x1 x2 x4 x5 x6 x7 : Option aV} {w : aW} {Q : Option aV → aW → Prop} : T d 186 145 [some (vr 167), x1, x2, some (vi a3), x4, x5, x6, x7] [vi s2, vi s1, vr s0] w Q = ((s2 = 0 → T d 186 160 [some (vr 167), x1, x2, some (vi a3), x4, x5, x6, x7] [vi 9999, vi s1, vr s0] w Q) ∧ (¬ (s2 = 0) → ((0 ≤ a3 ∧ a3 < 1024) ∧ T d 186 160 [some (vr 167), x1, x2, some (vi a3), x4, x5, x6, x7] [vi (w 182 a3), vi s1, vr s0] w Q))) := by
  rw [T_if_eq 157 c186_145 rfl, T_sipush c186_157, T_aload_0 c186_148, T_getR 12 27 27 c186_149 rfl rfl rfl rfl, rf_167_27, T_iload_3 c186_152, T_iald c186_153, T_goto 160 c186_154 rfl]
  all_goals try simp only [Int.reduceToNat, lay_167, ld_182, true_and, Nat.reduceAdd, eq_self_iff_true]
theorem g186_160 {d : Nat} {a3 s1 s2 : Int} {s0 : Nat} {x0 x1 x2 x4 x5 x6 x7 : Option aV} {w : aW} {Q : Option aV → aW → Prop} : T d 186 160 [x0, x1, x2, some (vi a3), x4, x5, x6, x7] [vi s2, vi s1, vr s0] w Q = (inA s0 0 s1 = true ∧ T d 186 127 [x0, x1, x2, some (vi (w32 (a3 + 1))), x4, x5, x6, x7] [] (iup w s0 s1 s2) Q) := by
  rw [T_iast c186_160, T_iinc_3 c186_161, T_goto 127 c186_164 rfl]
  all_goals try simp only [true_and, Nat.reduceAdd, eq_self_iff_true]
/-! 187: StringHands$Tangler.leastTangled.(LStringHands$Troupe;LStringHands$Stage;)I -/
theorem c187_0 : cd 187 0 = some (.aload 1, 1) := by decide +kernel
theorem c187_1 : cd 187 1 = some (.getfield 2052, 3) := by decide +kernel
theorem c187_4 : cd 187 4 = some (.sipush 7, 2) := by decide +kernel
theorem c187_6 : cd 187 6 = some (.invokedynamic 1, 3) := by decide +kernel
theorem c187_9 : cd 187 9 = some (.istore 3, 1) := by decide +kernel
theorem c187_10 : cd 187 10 = some (.aload 0, 1) := by decide +kernel
theorem c187_11 : cd 187 11 = some (.aload 1, 1) := by decide +kernel
theorem c187_12 : cd 187 12 = some (.aload 2, 1) := by decide +kernel
theorem c187_13 : cd 187 13 = some (.invokevirtual 255, 3) := by decide +kernel
theorem c187_16 : cd 187 16 = some (.aload 0, 1) := by decide +kernel
theorem c187_17 : cd 187 17 = some (.getfield 1809, 3) := by decide +kernel
theorem c187_20 : cd 187 20 = some (.invokestatic 256, 3) := by decide +kernel
theorem c187_23 : cd 187 23 = some (.aload 0, 1) := by decide +kernel
theorem c187_24 : cd 187 24 = some (.getfield 1813, 3) := by decide +kernel
theorem c187_27 : cd 187 27 = some (.invokestatic 256, 3) := by decide +kernel
theorem c187_30 : cd 187 30 = some (.iadd, 1) := by decide +kernel
theorem c187_31 : cd 187 31 = some (.istore 4, 2) := by decide +kernel
theorem c187_33 : cd 187 33 = some (.sipush 0, 1) := by decide +kernel
theorem c187_34 : cd 187 34 = some (.istore 5, 2) := by decide +kernel
theorem c187_36 : cd 187 36 = some (.iload 5, 2) := by decide +kernel
theorem c187_38 : cd 187 38 = some (.sipush 5040, 3) := by decide +kernel
theorem c187_41 : cd 187 41 = some (.if_icmp .ge 95, 3) := by decide +kernel
theorem c187_44 : cd 187 44 = some (.aload 0, 1) := by decide +kernel
theorem c187_45 : cd 187 45 = some (.iload 3, 1) := by decide +kernel
theorem c187_46 : cd 187 46 = some (.invokevirtual 257, 3) := by decide +kernel
theorem c187_49 : cd 187 49 = some (.istore 6, 2) := by decide +kernel
theorem c187_51 : cd 187 51 = some (.iload 6, 2) := by decide +kernel
theorem c187_53 : cd 187 53 = some (.sipush (-1), 1) := by decide +kernel
theorem c187_54 : cd 187 54 = some (.if_icmp .ne 60, 3) := by decide +kernel
theorem c187_57 : cd 187 57 = some (.iload 4, 2) := by decide +kernel
theorem c187_59 : cd 187 59 = some (.ireturn, 1) := by decide +kernel
theorem c187_60 : cd 187 60 = some (.aload 0, 1) := by decide +kernel
theorem c187_61 : cd 187 61 = some (.iload 6, 2) := by decide +kernel
theorem c187_63 : cd 187 63 = some (.iload 3, 1) := by decide +kernel
theorem c187_64 : cd 187 64 = some (.invokevirtual 258, 3) := by decide +kernel
theorem c187_67 : cd 187 67 = some (.iload 4, 2) := by decide +kernel
theorem c187_69 : cd 187 69 = some (.aload 0, 1) := by decide +kernel
theorem c187_70 : cd 187 70 = some (.getfield 1809, 3) := by decide +kernel
theorem c187_73 : cd 187 73 = some (.invokestatic 256, 3) := by decide +kernel
theorem c187_76 : cd 187 76 = some (.aload 0, 1) := by decide +kernel
theorem c187_77 : cd 187 77 = some (.getfield 1813, 3) := by decide +kernel
theorem c187_80 : cd 187 80 = some (.invokestatic 256, 3) := by decide +kernel
theorem c187_83 : cd 187 83 = some (.iadd, 1) := by decide +kernel
theorem c187_84 : cd 187 84 = some (.invokedynamic 1, 3) := by decide +kernel
theorem c187_87 : cd 187 87 = some (.istore 4, 2) := by decide +kernel
theorem c187_89 : cd 187 89 = some (.iinc 5 1, 3) := by decide +kernel
theorem c187_92 : cd 187 92 = some (.goto 36, 3) := by decide +kernel
theorem c187_95 : cd 187 95 = some (.iload 4, 2) := by decide +kernel
theorem c187_97 : cd 187 97 = some (.ireturn, 1) := by decide +kernel
theorem g187_0 {d : Nat} {r2 : Nat} {x3 x4 x5 x6 : Option aV} {w : aW} {Q : Option aV → aW → Prop} : T (d + 1) 187 0 [some (vr 52), some (vr 69), some (vr r2), x3, x4, x5, x6] [] w Q = T d 255 0 [some (vr 52), some (vr 69), some (vr r2), none, none] [] w (fun r w1 => T (d + 1) 187 16 [some (vr 52), some (vr 69), some (vr r2), some (vi (if 7 < w 69 1 then 7 else w 69 1)), x4, x5, x6] (r.toList ++ []) w1 Q) := by
  rw [T_aload_1 c187_0, T_getI 8 1 1 c187_1 rfl rfl rfl rfl, T_sipush c187_4, T_min (st := []) c187_6 (Nat.le_of_ble_eq_true rfl), T_istore_3 c187_9, T_aload_0 c187_10, T_aload_1 c187_11, T_aload_2 c187_12, T_invv (es := [some (vr 52), some (vr 69), some (vr r2), none, none]) (st := [vr r2, vr 69, vr 52]) (ks := [2, 2, 2]) (n := 5) (c := 7) (k := 52) (as := [vr 69, vr r2]) (rest := []) c187_13 (by decide +kernel) (by decide +kernel) (by decide +kernel) (by decide) rfl rfl (Nat.le_of_ble_eq_true rfl)]
  all_goals try simp only [lay_52, lay_69, true_and, Nat.reduceAdd, eq_self_iff_true]
theorem g187_16 {d : Nat} {x1 x2 x3 x4 x5 x6 : Option aV} {w : aW} {Q : Option aV → aW → Prop} : T (d + 1) 187 16 [some (vr 52), x1, x2, x3, x4, x5, x6] [] w Q = T d 256 0 [some (vl (w 52 4)), none] [] w (fun r w1 => T (d + 1) 187 23 [some (vr 52), x1, x2, x3, x4, x5, x6] (r.toList ++ []) w1 Q) := by
  rw [T_aload_0 c187_16, T_getL 7 4 4 c187_17 rfl rfl rfl rfl, T_inv (es := [some (vl (w 52 4)), none]) (st := [vl (w 52 4)]) (ks := [1]) (n := 2) (as := [vl (w 52 4)]) (rest := []) c187_20 (by decide +kernel) (by decide +kernel) rfl rfl (Nat.le_of_ble_eq_true rfl)]
  all_goals try simp only [lay_52, true_and, Nat.reduceAdd, eq_self_iff_true]
theorem g187_23 {d : Nat} {s0 : Int} {x1 x2 x3 x4 x5 x6 : Option aV} {w : aW} {Q : Option aV → aW → Prop} : T (d + 1) 187 23 [some (vr 52), x1, x2, x3, x4, x5, x6] [vi s0] w Q = T d 256 0 [some (vl (w 52 5)), none] [] w (fun r w1 => T (d + 1) 187 30 [some (vr 52), x1, x2, x3, x4, x5, x6] (r.toList ++ [vi s0]) w1 Q) := by
  rw [T_aload_0 c187_23, T_getL 7 5 5 c187_24 rfl rfl rfl rfl, T_inv (es := [some (vl (w 52 5)), none]) (st := [vl (w 52 5), vi s0]) (ks := [1]) (n := 2) (as := [vl (w 52 5)]) (rest := [vi s0]) c187_27 (by decide +kernel) (by decide +kernel) rfl rfl (Nat.le_of_ble_eq_true rfl)]
  all_goals try simp only [lay_52, true_and, Nat.reduceAdd, eq_self_iff_true]
theorem g187_30 {d : Nat} {s0 s1 : Int} {x0 x1 x2 x3 x4 x5 x6 : Option aV} {w : aW} {Q : Option aV → aW → Prop} : T d 187 30 [x0, x1, x2, x3, x4, x5, x6] [vi s1, vi s0] w Q = T d 187 36 [x0, x1, x2, x3, some (vi (w32 (s0 + s1))), some (vi 0), x6] [] w Q := by
  rw [T_iadd c187_30, T_istore_4 c187_31, T_sipush c187_33, T_istore_5 c187_34]
  all_goals try simp only [true_and, Nat.reduceAdd, eq_self_iff_true]
theorem g187_36 {d : Nat} {a3 a4 a5 : Int} {x1 x2 x6 : Option aV} {w : aW} {Q : Option aV → aW → Prop} : T (d + 1) 187 36 [some (vr 52), x1, x2, some (vi a3), some (vi a4), some (vi a5), x6] [] w Q = ((5040 ≤ a5 → Q (some (vi a4)) w) ∧ (¬ (5040 ≤ a5) → T d 257 0 [some (vr 52), some (vi a3), none, none, none, none] [] w (fun r w1 => T (d + 1) 187 49 [some (vr 52), x1, x2, some (vi a3), some (vi a4), some (vi a5), x6] (r.toList ++ []) w1 Q))) := by
  rw [T_iload_5 c187_36, T_sipush c187_38, T_icmp_ge 95 c187_41 rfl, T_iload_4 c187_95, T_ireti c187_97 (by decide +kernel), T_aload_0 c187_44, T_iload_3 c187_45, T_invv (es := [some (vr 52), some (vi a3), none, none, none, none]) (st := [vi a3, vr 52]) (ks := [2, 0]) (n := 6) (c := 7) (k := 52) (as := [vi a3]) (rest := []) c187_46 (by decide +kernel) (by decide +kernel) (by decide +kernel) (by decide) rfl rfl (Nat.le_of_ble_eq_true rfl)]
  all_goals try simp only [Int.reduceToNat, lay_52, true_and, Nat.reduceAdd, eq_self_iff_true]
theorem g187_49 {d : Nat} {a3 a4 s0 : Int} {x1 x2 x5 x6 : Option aV} {w : aW} {Q : Option aV → aW → Prop} : T (d + 1) 187 49 [some (vr 52), x1, x2, some (vi a3), some (vi a4), x5, x6] [vi s0] w Q = ((¬ s0 = (-1) → T d 258 0 [some (vr 52), some (vi s0), some (vi a3), none, none, none, none] [] w (fun r w1 => T (d + 1) 187 67 [some (vr 52), x1, x2, some (vi a3), some (vi a4), x5, some (vi s0)] (r.toList ++ []) w1 Q)) ∧ (¬ (¬ s0 = (-1)) → Q (some (vi a4)) w)) := by
  rw [T_istore_6 c187_49, T_iload_6 c187_51, T_sipush c187_53, T_icmp_ne 60 c187_54 rfl, T_aload_0 c187_60, T_iload_6 c187_61, T_iload_3 c187_63, T_invv (es := [some (vr 52), some (vi s0), some (vi a3), none, none, none, none]) (st := [vi a3, vi s0, vr 52]) (ks := [2, 0, 0]) (n := 7) (c := 7) (k := 52) (as := [vi s0, vi a3]) (rest := []) c187_64 (by decide +kernel) (by decide +kernel) (by decide +kernel) (by decide) rfl rfl (Nat.le_of_ble_eq_true rfl), T_iload_4 c187_57, T_ireti c187_59 (by decide +kernel)]
  all_goals try simp only [Int.reduceToNat, lay_52, true_and, Nat.reduceAdd, eq_self_iff_true]
theorem g187_67 {d : Nat} {a4 : Int} {x1 x2 x3 x5 x6 : Option aV} {w : aW} {Q : Option aV → aW → Prop} : T (d + 1) 187 67 [some (vr 52), x1, x2, x3, some (vi a4), x5, x6] [] w Q = T d 256 0 [some (vl (w 52 4)), none] [] w (fun r w1 => T (d + 1) 187 76 [some (vr 52), x1, x2, x3, some (vi a4), x5, x6] (r.toList ++ [vi a4]) w1 Q) := by
  rw [T_iload_4 c187_67, T_aload_0 c187_69, T_getL 7 4 4 c187_70 rfl rfl rfl rfl, T_inv (es := [some (vl (w 52 4)), none]) (st := [vl (w 52 4), vi a4]) (ks := [1]) (n := 2) (as := [vl (w 52 4)]) (rest := [vi a4]) c187_73 (by decide +kernel) (by decide +kernel) rfl rfl (Nat.le_of_ble_eq_true rfl)]
  all_goals try simp only [lay_52, true_and, Nat.reduceAdd, eq_self_iff_true]
theorem g187_76 {d : Nat} {s0 s1 : Int} {x1 x2 x3 x4 x5 x6 : Option aV} {w : aW} {Q : Option aV → aW → Prop} : T (d + 1) 187 76 [some (vr 52), x1, x2, x3, x4, x5, x6] [vi s1, vi s0] w Q = T d 256 0 [some (vl (w 52 5)), none] [] w (fun r w1 => T (d + 1) 187 83 [some (vr 52), x1, x2, x3, x4, x5, x6] (r.toList ++ [vi s1, vi s0]) w1 Q) := by
  rw [T_aload_0 c187_76, T_getL 7 5 5 c187_77 rfl rfl rfl rfl, T_inv (es := [some (vl (w 52 5)), none]) (st := [vl (w 52 5), vi s1, vi s0]) (ks := [1]) (n := 2) (as := [vl (w 52 5)]) (rest := [vi s1, vi s0]) c187_80 (by decide +kernel) (by decide +kernel) rfl rfl (Nat.le_of_ble_eq_true rfl)]
  all_goals try simp only [lay_52, true_and, Nat.reduceAdd, eq_self_iff_true]
theorem g187_83 {d : Nat} {a5 s0 s1 s2 : Int} {x0 x1 x2 x3 x4 x6 : Option aV} {w : aW} {Q : Option aV → aW → Prop} : T d 187 83 [x0, x1, x2, x3, x4, some (vi a5), x6] [vi s2, vi s1, vi s0] w Q = T d 187 36 [x0, x1, x2, x3, some (vi (if w32 (s1 + s2) < s0 then w32 (s1 + s2) else s0)), some (vi (w32 (a5 + 1))), x6] [] w Q := by
  rw [T_iadd c187_83, T_min (st := []) c187_84 (Nat.le_of_ble_eq_true rfl), T_istore_4 c187_87, T_iinc_5 c187_89, T_goto 36 c187_92 rfl]
  all_goals try simp only [true_and, Nat.reduceAdd, eq_self_iff_true]
/-! 188: StringHandsModel.leastFrom.(III)I -/
theorem c188_0 : cd 188 0 = some (.iload 1, 1) := by decide +kernel
theorem c188_1 : cd 188 1 = some (.aload 0, 1) := by decide +kernel
theorem c188_2 : cd 188 2 = some (.getfield 3078, 3) := by decide +kernel
theorem c188_5 : cd 188 5 = some (.sipush 2, 1) := by decide +kernel
theorem c188_6 : cd 188 6 = some (.iaload, 1) := by decide +kernel
theorem c188_7 : cd 188 7 = some (.if_icmp .ne 29, 3) := by decide +kernel
theorem c188_10 : cd 188 10 = some (.aload 0, 1) := by decide +kernel
theorem c188_11 : cd 188 11 = some (.invokevirtual 233, 3) := by decide +kernel
theorem c188_14 : cd 188 14 = some (.istore 4, 2) := by decide +kernel
theorem c188_16 : cd 188 16 = some (.iload 4, 2) := by decide +kernel
theorem c188_18 : cd 188 18 = some (.iload 3, 1) := by decide +kernel
theorem c188_19 : cd 188 19 = some (.if_icmp .ge 27, 3) := by decide +kernel
theorem c188_22 : cd 188 22 = some (.iload 4, 2) := by decide +kernel
theorem c188_24 : cd 188 24 = some (.goto 28, 3) := by decide +kernel
theorem c188_27 : cd 188 27 = some (.iload 3, 1) := by decide +kernel
theorem c188_28 : cd 188 28 = some (.ireturn, 1) := by decide +kernel
theorem c188_29 : cd 188 29 = some (.iload 3, 1) := by decide +kernel
theorem c188_30 : cd 188 30 = some (.istore 4, 2) := by decide +kernel
theorem c188_32 : cd 188 32 = some (.sipush 0, 1) := by decide +kernel
theorem c188_33 : cd 188 33 = some (.istore 5, 2) := by decide +kernel
theorem c188_35 : cd 188 35 = some (.iload 5, 2) := by decide +kernel
theorem c188_37 : cd 188 37 = some (.aload 0, 1) := by decide +kernel
theorem c188_38 : cd 188 38 = some (.getfield 3078, 3) := by decide +kernel
theorem c188_41 : cd 188 41 = some (.sipush 2, 1) := by decide +kernel
theorem c188_42 : cd 188 42 = some (.iaload, 1) := by decide +kernel
theorem c188_43 : cd 188 43 = some (.if_icmp .ge 90, 3) := by decide +kernel
theorem c188_46 : cd 188 46 = some (.iload 2, 1) := by decide +kernel
theorem c188_47 : cd 188 47 = some (.i2l, 1) := by decide +kernel
theorem c188_48 : cd 188 48 = some (.iload 5, 2) := by decide +kernel
theorem c188_50 : cd 188 50 = some (.invokestatic 230, 3) := by decide +kernel
theorem c188_53 : cd 188 53 = some (.ifCond .eq 59, 3) := by decide +kernel
theorem c188_56 : cd 188 56 = some (.goto 84, 3) := by decide +kernel
theorem c188_59 : cd 188 59 = some (.aload 0, 1) := by decide +kernel
theorem c188_60 : cd 188 60 = some (.getfield 3190, 3) := by decide +kernel
theorem c188_63 : cd 188 63 = some (.iload 1, 1) := by decide +kernel
theorem c188_64 : cd 188 64 = some (.iload 5, 2) := by decide +kernel
theorem c188_66 : cd 188 66 = some (.iastore, 1) := by decide +kernel
theorem c188_67 : cd 188 67 = some (.aload 0, 1) := by decide +kernel
theorem c188_68 : cd 188 68 = some (.iload 1, 1) := by decide +kernel
theorem c188_69 : cd 188 69 = some (.sipush 1, 1) := by decide +kernel
theorem c188_70 : cd 188 70 = some (.iadd, 1) := by decide +kernel
theorem c188_71 : cd 188 71 = some (.iload 2, 1) := by decide +kernel
theorem c188_72 : cd 188 72 = some (.sipush 1, 1) := by decide +kernel
theorem c188_73 : cd 188 73 = some (.iload 5, 2) := by decide +kernel
theorem c188_75 : cd 188 75 = some (.ishl, 1) := by decide +kernel
theorem c188_76 : cd 188 76 = some (.ior, 1) := by decide +kernel
theorem c188_77 : cd 188 77 = some (.iload 4, 2) := by decide +kernel
theorem c188_79 : cd 188 79 = some (.invokevirtual 188, 3) := by decide +kernel
theorem c188_82 : cd 188 82 = some (.istore 4, 2) := by decide +kernel
theorem c188_84 : cd 188 84 = some (.iinc 5 1, 3) := by decide +kernel
theorem c188_87 : cd 188 87 = some (.goto 35, 3) := by decide +kernel
theorem c188_90 : cd 188 90 = some (.iload 4, 2) := by decide +kernel
theorem c188_92 : cd 188 92 = some (.ireturn, 1) := by decide +kernel
theorem g188_0 {d : Nat} {a1 a3 : Int} {x2 x4 x5 : Option aV} {w : aW} {Q : Option aV → aW → Prop} : T (d + 1) 188 0 [some (vr 167), some (vi a1), x2, some (vi a3), x4, x5] [] w Q = ((¬ a1 = w 168 2 → T (d + 1) 188 35 [some (vr 167), some (vi a1), x2, some (vi a3), some (vi a3), some (vi 0)] [] w Q) ∧ (¬ (¬ a1 = w 168 2) → T d 233 0 [some (vr 167), none, none, none] [] w (fun r w1 => T (d + 1) 188 14 [some (vr 167), some (vi a1), x2, some (vi a3), x4, x5] (r.toList ++ []) w1 Q))) := by
  rw [T_iload_1 c188_0, T_aload_0 c188_1, T_getR 12 1 1 c188_2 rfl rfl rfl rfl, rf_167_1, T_sipush c188_5, T_iald c188_6, T_icmp_ne 29 c188_7 rfl, T_iload_3 c188_29, T_istore_4 c188_30, T_sipush c188_32, T_istore_5 c188_33, T_aload_0 c188_10, T_invv (es := [some (vr 167), none, none, none]) (st := [vr 167]) (ks := [2]) (n := 4) (c := 12) (k := 167) (as := []) (rest := []) c188_11 (by decide +kernel) (by decide +kernel) (by decide +kernel) (by decide) rfl rfl (Nat.le_of_ble_eq_true rfl)]
  all_goals try simp only [Int.reduceLE, Int.reduceLT, Int.reduceToNat, and_self, lay_167, ld_168, true_and, Nat.reduceAdd, eq_self_iff_true]
theorem g188_14 {d : Nat} {a3 s0 : Int} {x0 x1 x2 x4 x5 : Option aV} {w : aW} {Q : Option aV → aW → Prop} : T d 188 14 [x0, x1, x2, some (vi a3), x4, x5] [vi s0] w Q = ((a3 ≤ s0 → T d 188 28 [x0, x1, x2, some (vi a3), some (vi s0), x5] [vi a3] w Q) ∧ (¬ (a3 ≤ s0) → T d 188 28 [x0, x1, x2, some (vi a3), some (vi s0), x5] [vi s0] w Q)) := by
  rw [T_istore_4 c188_14, T_iload_4 c188_16, T_iload_3 c188_18, T_icmp_ge 27 c188_19 rfl, T_iload_3 c188_27, T_iload_4 c188_22, T_goto 28 c188_24 rfl]
  all_goals try simp only [Int.reduceToNat, true_and, Nat.reduceAdd, eq_self_iff_true]
theorem g188_28 {d : Nat} {s0 : Int} {x0 x1 x2 x3 x4 x5 : Option aV} {w : aW} {Q : Option aV → aW → Prop} : T d 188 28 [x0, x1, x2, x3, x4, x5] [vi s0] w Q = Q (some (vi s0)) w := by
  rw [T_ireti c188_28 (by decide +kernel)]
  all_goals try simp only [true_and, Nat.reduceAdd, eq_self_iff_true]
theorem g188_35 {d : Nat} {a2 a4 a5 : Int} {x1 x3 : Option aV} {w : aW} {Q : Option aV → aW → Prop} : T (d + 1) 188 35 [some (vr 167), x1, some (vi a2), x3, some (vi a4), some (vi a5)] [] w Q = ((w 168 2 ≤ a5 → Q (some (vi a4)) w) ∧ (¬ (w 168 2 ≤ a5) → T d 230 0 [some (vl a2), none, some (vi a5)] [] w (fun r w1 => T (d + 1) 188 53 [some (vr 167), x1, some (vi a2), x3, some (vi a4), some (vi a5)] (r.toList ++ []) w1 Q))) := by
  rw [T_iload_5 c188_35, T_aload_0 c188_37, T_getR 12 1 1 c188_38 rfl rfl rfl rfl, rf_167_1, T_sipush c188_41, T_iald c188_42, T_icmp_ge 90 c188_43 rfl, T_iload_4 c188_90, T_ireti c188_92 (by decide +kernel), T_iload_2 c188_46, T_i2l c188_47, T_iload_5 c188_48, T_inv (es := [some (vl a2), none, some (vi a5)]) (st := [vi a5, vl a2]) (ks := [1, 0]) (n := 3) (as := [vl a2, vi a5]) (rest := []) c188_50 (by decide +kernel) (by decide +kernel) rfl rfl (Nat.le_of_ble_eq_true rfl)]
  all_goals try simp only [Int.reduceLE, Int.reduceLT, Int.reduceToNat, and_self, lay_167, ld_168, true_and, Nat.reduceAdd, eq_self_iff_true]
theorem g188_53 {d : Nat} {a1 a2 a4 a5 s0 : Int} {x3 : Option aV} {w : aW} {Q : Option aV → aW → Prop} : T (d + 1) 188 53 [some (vr 167), some (vi a1), some (vi a2), x3, some (vi a4), some (vi a5)] [vi s0] w Q = ((s0 = 0 → ((0 ≤ a1 ∧ a1 < 10) ∧ T d 188 0 [some (vr 167), some (vi (w32 (a1 + 1))), some (vi (jor a2 (jshl 1 a5))), some (vi a4), none, none] [] (iup w 184 a1 a5) (fun r w1 => T (d + 1) 188 82 [some (vr 167), some (vi a1), some (vi a2), x3, some (vi a4), some (vi a5)] (r.toList ++ []) w1 Q))) ∧ (¬ (s0 = 0) → T (d + 1) 188 84 [some (vr 167), some (vi a1), some (vi a2), x3, some (vi a4), some (vi a5)] [] w Q)) := by
  rw [T_if_eq 59 c188_53 rfl, T_aload_0 c188_59, T_getR 12 29 29 c188_60 rfl rfl rfl rfl, rf_167_29, T_iload_1 c188_63, T_iload_5 c188_64, T_iast c188_66, T_aload_0 c188_67, T_iload_1 c188_68, T_sipush c188_69, T_iadd c188_70, T_iload_2 c188_71, T_sipush c188_72, T_iload_5 c188_73, T_ishl c188_75, T_ior c188_76, T_iload_4 c188_77, T_invv (es := [some (vr 167), some (vi (w32 (a1 + 1))), some (vi (jor a2 (jshl 1 a5))), some (vi a4), none, none]) (st := [vi a4, vi (jor a2 (jshl 1 a5)), vi (w32 (a1 + 1)), vr 167]) (ks := [2, 0, 0, 0]) (n := 6) (c := 12) (k := 167) (as := [vi (w32 (a1 + 1)), vi (jor a2 (jshl 1 a5)), vi a4]) (rest := []) c188_79 (by decide +kernel) (by decide +kernel) (by decide +kernel) (by decide) rfl rfl (Nat.le_of_ble_eq_true rfl), T_goto 84 c188_56 rfl]
  all_goals try simp only [Int.reduceToNat, ia0_184, lay_167, true_and, Nat.reduceAdd, eq_self_iff_true]
theorem g188_82 {d : Nat} {s0 : Int} {x0 x1 x2 x3 x4 x5 : Option aV} {w : aW} {Q : Option aV → aW → Prop} : T d 188 82 [x0, x1, x2, x3, x4, x5] [vi s0] w Q = T d 188 84 [x0, x1, x2, x3, some (vi s0), x5] [] w Q := by
  rw [T_istore_4 c188_82]
  all_goals try simp only [true_and, Nat.reduceAdd, eq_self_iff_true]
theorem g188_84 {d : Nat} {a5 : Int} {x0 x1 x2 x3 x4 : Option aV} {w : aW} {Q : Option aV → aW → Prop} : T d 188 84 [x0, x1, x2, x3, x4, some (vi a5)] [] w Q = T d 188 35 [x0, x1, x2, x3, x4, some (vi (w32 (a5 + 1)))] [] w Q := by
  rw [T_iinc_5 c188_84, T_goto 35 c188_87 rfl]
  all_goals try simp only [true_and, Nat.reduceAdd, eq_self_iff_true]
/-! 189: StringHands$Scenes.clear.()V -/
theorem c189_0 : cd 189 0 = some (.aload 0, 1) := by decide +kernel
theorem c189_1 : cd 189 1 = some (.sipush 0, 1) := by decide +kernel
theorem c189_2 : cd 189 2 = some (.putfield 1288, 3) := by decide +kernel
theorem c189_5 : cd 189 5 = some (.return_, 1) := by decide +kernel
theorem g189_0 {d : Nat} {w : aW} {Q : Option aV → aW → Prop} : T d 189 0 [some (vr 57)] [] w Q = Q none (iup w 57 2 0) := by
  rw [T_aload_0 c189_0, T_sipush c189_1, T_putI 5 2 2 c189_2 rfl rfl rfl rfl, T_vret c189_5 (by decide +kernel)]
  all_goals try simp only [lay_57, true_and, Nat.reduceAdd, eq_self_iff_true]
/-! 190: StringHands$Troupe.allLimbs.()I -/
theorem c190_0 : cd 190 0 = some (.sipush 1, 1) := by decide +kernel
theorem c190_1 : cd 190 1 = some (.aload 0, 1) := by decide +kernel
theorem c190_2 : cd 190 2 = some (.getfield 2052, 3) := by decide +kernel
theorem c190_5 : cd 190 5 = some (.ishl, 1) := by decide +kernel
theorem c190_6 : cd 190 6 = some (.sipush 1, 1) := by decide +kernel
theorem c190_7 : cd 190 7 = some (.isub, 1) := by decide +kernel
theorem c190_8 : cd 190 8 = some (.ireturn, 1) := by decide +kernel
theorem g190_0 {d : Nat} {r0 : Nat} {w : aW} {Q : Option aV → aW → Prop} : T d 190 0 [some (vr r0)] [] w Q = (lay r0 = (8, 0) ∧ Q (some (vi (w32 ((jshl 1 (w r0 1)) - 1)))) w) := by
  rw [T_sipush c190_0, T_aload_0 c190_1, T_getI 8 1 1 c190_2 rfl rfl rfl rfl, T_ishl c190_5, T_sipush c190_6, T_isub c190_7, T_ireti c190_8 (by decide +kernel)]
  all_goals try simp only [true_and, Nat.reduceAdd, eq_self_iff_true]
/-! 191: StringHands$Scenes.addScene.(JI)Z -/
theorem c191_0 : cd 191 0 = some (.lload 1, 1) := by decide +kernel
theorem c191_1 : cd 191 1 = some (.sipush 10, 2) := by decide +kernel
theorem c191_3 : cd 191 3 = some (.lshr, 1) := by decide +kernel
theorem c191_4 : cd 191 4 = some (.lstore 4, 2) := by decide +kernel
theorem c191_6 : cd 191 6 = some (.lload 1, 1) := by decide +kernel
theorem c191_7 : cd 191 7 = some (.bipush 1023, 3) := by decide +kernel
theorem c191_10 : cd 191 10 = some (.land, 1) := by decide +kernel
theorem c191_11 : cd 191 11 = some (.l2i, 1) := by decide +kernel
theorem c191_12 : cd 191 12 = some (.istore 6, 2) := by decide +kernel
theorem c191_14 : cd 191 14 = some (.lload 1, 1) := by decide +kernel
theorem c191_15 : cd 191 15 = some (.bipush 0, 1) := by decide +kernel
theorem c191_16 : cd 191 16 = some (.lcmp, 1) := by decide +kernel
theorem c191_17 : cd 191 17 = some (.ifCond .lt 54, 3) := by decide +kernel
theorem c191_20 : cd 191 20 = some (.lload 4, 2) := by decide +kernel
theorem c191_22 : cd 191 22 = some (.iload 3, 1) := by decide +kernel
theorem c191_23 : cd 191 23 = some (.i2l, 1) := by decide +kernel
theorem c191_24 : cd 191 24 = some (.bipush (-1), 3) := by decide +kernel
theorem c191_27 : cd 191 27 = some (.lxor, 1) := by decide +kernel
theorem c191_28 : cd 191 28 = some (.land, 1) := by decide +kernel
theorem c191_29 : cd 191 29 = some (.bipush 0, 1) := by decide +kernel
theorem c191_30 : cd 191 30 = some (.lcmp, 1) := by decide +kernel
theorem c191_31 : cd 191 31 = some (.ifCond .ne 54, 3) := by decide +kernel
theorem c191_34 : cd 191 34 = some (.iload 6, 2) := by decide +kernel
theorem c191_36 : cd 191 36 = some (.lload 4, 2) := by decide +kernel
theorem c191_38 : cd 191 38 = some (.l2i, 1) := by decide +kernel
theorem c191_39 : cd 191 39 = some (.sipush (-1), 1) := by decide +kernel
theorem c191_40 : cd 191 40 = some (.ixor, 1) := by decide +kernel
theorem c191_41 : cd 191 41 = some (.iand, 1) := by decide +kernel
theorem c191_42 : cd 191 42 = some (.ifCond .ne 54, 3) := by decide +kernel
theorem c191_45 : cd 191 45 = some (.aload 0, 1) := by decide +kernel
theorem c191_46 : cd 191 46 = some (.getfield 1288, 3) := by decide +kernel
theorem c191_49 : cd 191 49 = some (.sipush 12, 2) := by decide +kernel
theorem c191_51 : cd 191 51 = some (.if_icmp .lt 56, 3) := by decide +kernel
theorem c191_54 : cd 191 54 = some (.sipush 0, 1) := by decide +kernel
theorem c191_55 : cd 191 55 = some (.ireturn, 1) := by decide +kernel
theorem c191_56 : cd 191 56 = some (.aload 0, 1) := by decide +kernel
theorem c191_57 : cd 191 57 = some (.getfield 1294, 3) := by decide +kernel
theorem c191_60 : cd 191 60 = some (.aload 0, 1) := by decide +kernel
theorem c191_61 : cd 191 61 = some (.getfield 1288, 3) := by decide +kernel
theorem c191_64 : cd 191 64 = some (.lload 4, 2) := by decide +kernel
theorem c191_66 : cd 191 66 = some (.l2i, 1) := by decide +kernel
theorem c191_67 : cd 191 67 = some (.iastore, 1) := by decide +kernel
theorem c191_68 : cd 191 68 = some (.aload 0, 1) := by decide +kernel
theorem c191_69 : cd 191 69 = some (.getfield 1298, 3) := by decide +kernel
theorem c191_72 : cd 191 72 = some (.aload 0, 1) := by decide +kernel
theorem c191_73 : cd 191 73 = some (.getfield 1288, 3) := by decide +kernel
theorem c191_76 : cd 191 76 = some (.iload 6, 2) := by decide +kernel
theorem c191_78 : cd 191 78 = some (.iastore, 1) := by decide +kernel
theorem c191_79 : cd 191 79 = some (.aload 0, 1) := by decide +kernel
theorem c191_80 : cd 191 80 = some (.dup, 1) := by decide +kernel
theorem c191_81 : cd 191 81 = some (.getfield 1288, 3) := by decide +kernel
theorem c191_84 : cd 191 84 = some (.sipush 1, 1) := by decide +kernel
theorem c191_85 : cd 191 85 = some (.iadd, 1) := by decide +kernel
theorem c191_86 : cd 191 86 = some (.putfield 1288, 3) := by decide +kernel
theorem c191_89 : cd 191 89 = some (.sipush 1, 1) := by decide +kernel
theorem c191_90 : cd 191 90 = some (.ireturn, 1) := by decide +kernel
theorem g191_0 {d : Nat} {b1 a3 : Int} {x4 x5 x6 : Option aV} {w : aW} {Q : Option aV → aW → Prop} : T d 191 0 [some (vr 57), some (vl b1), none, some (vi a3), x4, x5, x6] [] w Q = ((kcmp b1 0 < 0 → T d 191 54 [some (vr 57), some (vl b1), none, some (vi a3), some (vl (kshr b1 10)), none, some (vi (w32 (kand b1 1023)))] [] w Q) ∧ (¬ (kcmp b1 0 < 0) → ((¬ kcmp (kand (kshr b1 10) (kxor a3 (-1))) 0 = 0 → T d 191 54 [some (vr 57), some (vl b1), none, some (vi a3), some (vl (kshr b1 10)), none, some (vi (w32 (kand b1 1023)))] [] w Q) ∧ (¬ (¬ kcmp (kand (kshr b1 10) (kxor a3 (-1))) 0 = 0) → ((¬ jand (w32 (kand b1 1023)) (jxor (w32 (kshr b1 10)) (-1)) = 0 → T d 191 54 [some (vr 57), some (vl b1), none, some (vi a3), some (vl (kshr b1 10)), none, some (vi (w32 (kand b1 1023)))] [] w Q) ∧ (¬ (¬ jand (w32 (kand b1 1023)) (jxor (w32 (kshr b1 10)) (-1)) = 0) → ((w 57 2 < 12 → ((0 ≤ w 57 2 ∧ w 57 2 < 12) ∧ ((0 ≤ (iup w 60 (w 57 2) (w32 (kshr b1 10))) 57 2 ∧ (iup w 60 (w 57 2) (w32 (kshr b1 10))) 57 2 < 12) ∧ Q (some (vi 1)) (iup (iup (iup w 60 (w 57 2) (w32 (kshr b1 10))) 61 ((iup w 60 (w 57 2) (w32 (kshr b1 10))) 57 2) (w32 (kand b1 1023))) 57 2 (w32 (((iup (iup w 60 (w 57 2) (w32 (kshr b1 10))) 61 ((iup w 60 (w 57 2) (w32 (kshr b1 10))) 57 2) (w32 (kand b1 1023))) 57 2) + 1)))))) ∧ (¬ (w 57 2 < 12) → T d 191 54 [some (vr 57), some (vl b1), none, some (vi a3), some (vl (kshr b1 10)), none, some (vi (w32 (kand b1 1023)))] [] w Q)))))))) := by
  rw [T_lload_1 c191_0, T_sipush c191_1, T_lshr c191_3, T_lstore_4 c191_4, T_lload_1 c191_6, T_bipush c191_7, T_land c191_10, T_l2i c191_11, T_istore_6 c191_12, T_lload_1 c191_14, T_bipush c191_15, T_lcmp c191_16, T_if_lt 54 c191_17 rfl, T_lload_4 c191_20, T_iload_3 c191_22, T_i2l c191_23, T_bipush c191_24, T_lxor c191_27, T_land c191_28, T_bipush c191_29, T_lcmp c191_30, T_if_ne 54 c191_31 rfl, T_iload_6 c191_34, T_lload_4 c191_36, T_l2i c191_38, T_sipush c191_39, T_ixor c191_40, T_iand c191_41, T_if_ne 54 c191_42 rfl, T_aload_0 c191_45, T_getI 5 2 2 c191_46 rfl rfl rfl rfl, T_sipush c191_49, T_icmp_lt 56 c191_51 rfl, T_aload_0 c191_56, T_getR 5 3 3 c191_57 rfl rfl rfl rfl, rf_57_3, T_aload_0 c191_60, T_getI 5 2 2 c191_61 rfl rfl rfl rfl, T_lload_4 c191_64, T_l2i c191_66, T_iast c191_67, T_aload_0 c191_68, T_getR 5 4 4 c191_69 rfl rfl rfl rfl, rf_57_4, T_aload_0 c191_72, T_getI 5 2 2 c191_73 rfl rfl rfl rfl, T_iload_6 c191_76, T_iast c191_78, T_aload_0 c191_79, T_dup_r c191_80, T_getI 5 2 2 c191_81 rfl rfl rfl rfl, T_sipush c191_84, T_iadd c191_85, T_putI 5 2 2 c191_86 rfl rfl rfl rfl, T_sipush c191_89, T_iretz c191_90 (by decide +kernel)]
  all_goals try simp only [Int.reduceToNat, ia0_60, ia0_61, lay_57, true_and, Nat.reduceAdd, eq_self_iff_true, zero_eq_1, one_eq_0, true_or, or_true]
theorem g191_54 {d : Nat} {x0 x1 x2 x3 x4 x5 x6 : Option aV} {w : aW} {Q : Option aV → aW → Prop} : T d 191 54 [x0, x1, x2, x3, x4, x5, x6] [] w Q = Q (some (vi 0)) w := by
  rw [T_sipush c191_54, T_iretz c191_55 (by decide +kernel)]
  all_goals try simp only [true_and, Nat.reduceAdd, eq_self_iff_true, zero_eq_1, one_eq_0, true_or, or_true]
/-! 192: StringHands$Scenes.playAll.([IIII)V -/
theorem c192_0 : cd 192 0 = some (.sipush 0, 1) := by decide +kernel
theorem c192_1 : cd 192 1 = some (.istore 5, 2) := by decide +kernel
theorem c192_3 : cd 192 3 = some (.iload 5, 2) := by decide +kernel
theorem c192_5 : cd 192 5 = some (.sipush 9, 2) := by decide +kernel
theorem c192_7 : cd 192 7 = some (.if_icmp .ge 141, 3) := by decide +kernel
theorem c192_10 : cd 192 10 = some (.aload 0, 1) := by decide +kernel
theorem c192_11 : cd 192 11 = some (.getfield 1282, 3) := by decide +kernel
theorem c192_14 : cd 192 14 = some (.iload 5, 2) := by decide +kernel
theorem c192_16 : cd 192 16 = some (.sipush 0, 1) := by decide +kernel
theorem c192_17 : cd 192 17 = some (.iastore, 1) := by decide +kernel
theorem c192_18 : cd 192 18 = some (.aload 0, 1) := by decide +kernel
theorem c192_19 : cd 192 19 = some (.getfield 1286, 3) := by decide +kernel
theorem c192_22 : cd 192 22 = some (.iload 5, 2) := by decide +kernel
theorem c192_24 : cd 192 24 = some (.sipush 0, 1) := by decide +kernel
theorem c192_25 : cd 192 25 = some (.iastore, 1) := by decide +kernel
theorem c192_26 : cd 192 26 = some (.iload 2, 1) := by decide +kernel
theorem c192_27 : cd 192 27 = some (.iload 3, 1) := by decide +kernel
theorem c192_28 : cd 192 28 = some (.iload 5, 2) := by decide +kernel
theorem c192_30 : cd 192 30 = some (.sipush 3, 1) := by decide +kernel
theorem c192_31 : cd 192 31 = some (.idiv, 1) := by decide +kernel
theorem c192_32 : cd 192 32 = some (.invokestatic 259, 3) := by decide +kernel
theorem c192_35 : cd 192 35 = some (.iload 4, 2) := by decide +kernel
theorem c192_37 : cd 192 37 = some (.iload 5, 2) := by decide +kernel
theorem c192_39 : cd 192 39 = some (.sipush 3, 1) := by decide +kernel
theorem c192_40 : cd 192 40 = some (.irem, 1) := by decide +kernel
theorem c192_41 : cd 192 41 = some (.invokestatic 259, 3) := by decide +kernel
theorem c192_44 : cd 192 44 = some (.istore 6, 2) := by decide +kernel
theorem c192_46 : cd 192 46 = some (.sipush 0, 1) := by decide +kernel
theorem c192_47 : cd 192 47 = some (.istore 7, 2) := by decide +kernel
theorem c192_49 : cd 192 49 = some (.iload 7, 2) := by decide +kernel
theorem c192_51 : cd 192 51 = some (.sipush 60, 2) := by decide +kernel
theorem c192_53 : cd 192 53 = some (.if_icmp .ge 135, 3) := by decide +kernel
theorem c192_56 : cd 192 56 = some (.aload 1, 1) := by decide +kernel
theorem c192_57 : cd 192 57 = some (.iload 6, 2) := by decide +kernel
theorem c192_59 : cd 192 59 = some (.iaload, 1) := by decide +kernel
theorem c192_60 : cd 192 60 = some (.iload 3, 1) := by decide +kernel
theorem c192_61 : cd 192 61 = some (.iload 5, 2) := by decide +kernel
theorem c192_63 : cd 192 63 = some (.sipush 3, 1) := by decide +kernel
theorem c192_64 : cd 192 64 = some (.idiv, 1) := by decide +kernel
theorem c192_65 : cd 192 65 = some (.invokestatic 259, 3) := by decide +kernel
theorem c192_68 : cd 192 68 = some (.iload 4, 2) := by decide +kernel
theorem c192_70 : cd 192 70 = some (.iload 5, 2) := by decide +kernel
theorem c192_72 : cd 192 72 = some (.sipush 3, 1) := by decide +kernel
theorem c192_73 : cd 192 73 = some (.irem, 1) := by decide +kernel
theorem c192_74 : cd 192 74 = some (.invokestatic 259, 3) := by decide +kernel
theorem c192_77 : cd 192 77 = some (.istore 6, 2) := by decide +kernel
theorem c192_79 : cd 192 79 = some (.aload 0, 1) := by decide +kernel
theorem c192_80 : cd 192 80 = some (.getfield 1282, 3) := by decide +kernel
theorem c192_83 : cd 192 83 = some (.iload 5, 2) := by decide +kernel
theorem c192_85 : cd 192 85 = some (.dup2, 1) := by decide +kernel
theorem c192_86 : cd 192 86 = some (.iaload, 1) := by decide +kernel
theorem c192_87 : cd 192 87 = some (.aload 0, 1) := by decide +kernel
theorem c192_88 : cd 192 88 = some (.sipush 0, 1) := by decide +kernel
theorem c192_89 : cd 192 89 = some (.iload 6, 2) := by decide +kernel
theorem c192_91 : cd 192 91 = some (.invokevirtual 249, 3) := by decide +kernel
theorem c192_94 : cd 192 94 = some (.ifCond .eq 101, 3) := by decide +kernel
theorem c192_97 : cd 192 97 = some (.sipush 1, 1) := by decide +kernel
theorem c192_98 : cd 192 98 = some (.goto 102, 3) := by decide +kernel
theorem c192_101 : cd 192 101 = some (.sipush 0, 1) := by decide +kernel
theorem c192_102 : cd 192 102 = some (.iadd, 1) := by decide +kernel
theorem c192_103 : cd 192 103 = some (.iastore, 1) := by decide +kernel
theorem c192_104 : cd 192 104 = some (.aload 0, 1) := by decide +kernel
theorem c192_105 : cd 192 105 = some (.getfield 1286, 3) := by decide +kernel
theorem c192_108 : cd 192 108 = some (.iload 5, 2) := by decide +kernel
theorem c192_110 : cd 192 110 = some (.dup2, 1) := by decide +kernel
theorem c192_111 : cd 192 111 = some (.iaload, 1) := by decide +kernel
theorem c192_112 : cd 192 112 = some (.aload 0, 1) := by decide +kernel
theorem c192_113 : cd 192 113 = some (.sipush 1, 1) := by decide +kernel
theorem c192_114 : cd 192 114 = some (.iload 6, 2) := by decide +kernel
theorem c192_116 : cd 192 116 = some (.invokevirtual 249, 3) := by decide +kernel
theorem c192_119 : cd 192 119 = some (.ifCond .eq 126, 3) := by decide +kernel
theorem c192_122 : cd 192 122 = some (.sipush 1, 1) := by decide +kernel
theorem c192_123 : cd 192 123 = some (.goto 127, 3) := by decide +kernel
theorem c192_126 : cd 192 126 = some (.sipush 0, 1) := by decide +kernel
theorem c192_127 : cd 192 127 = some (.iadd, 1) := by decide +kernel
theorem c192_128 : cd 192 128 = some (.iastore, 1) := by decide +kernel
theorem c192_129 : cd 192 129 = some (.iinc 7 1, 3) := by decide +kernel
theorem c192_132 : cd 192 132 = some (.goto 49, 3) := by decide +kernel
theorem c192_135 : cd 192 135 = some (.iinc 5 1, 3) := by decide +kernel
theorem c192_138 : cd 192 138 = some (.goto 3, 3) := by decide +kernel
theorem c192_141 : cd 192 141 = some (.return_, 1) := by decide +kernel
theorem g192_0 {d : Nat} {x0 x1 x2 x3 x4 x5 x6 x7 : Option aV} {w : aW} {Q : Option aV → aW → Prop} : T d 192 0 [x0, x1, x2, x3, x4, x5, x6, x7] [] w Q = T d 192 3 [x0, x1, x2, x3, x4, some (vi 0), x6, x7] [] w Q := by
  rw [T_sipush c192_0, T_istore_5 c192_1]
  all_goals try simp only [true_and, Nat.reduceAdd, eq_self_iff_true]
theorem g192_3 {d : Nat} {a2 a3 a5 : Int} {x1 x4 x6 x7 : Option aV} {w : aW} {Q : Option aV → aW → Prop} : T (d + 1) 192 3 [some (vr 57), x1, some (vi a2), some (vi a3), x4, some (vi a5), x6, x7] [] w Q = ((9 ≤ a5 → Q none w) ∧ (¬ (9 ≤ a5) → ((0 ≤ a5 ∧ a5 < 9) ∧ ((0 ≤ a5 ∧ a5 < 9) ∧ T d 259 0 [some (vi a2), some (vi a3), some (vi (jdiv a5 3))] [] (iup (iup w 58 a5 0) 59 a5 0) (fun r w1 => T (d + 1) 192 35 [some (vr 57), x1, some (vi a2), some (vi a3), x4, some (vi a5), x6, x7] (r.toList ++ []) w1 Q))))) := by
  rw [T_iload_5 c192_3, T_sipush c192_5, T_icmp_ge 141 c192_7 rfl, T_vret c192_141 (by decide +kernel), T_aload_0 c192_10, T_getR 5 0 0 c192_11 rfl rfl rfl rfl, rf_57_0, T_iload_5 c192_14, T_sipush c192_16, T_iast c192_17, T_aload_0 c192_18, T_getR 5 1 1 c192_19 rfl rfl rfl rfl, rf_57_1, T_iload_5 c192_22, T_sipush c192_24, T_iast c192_25, T_iload_2 c192_26, T_iload_3 c192_27, T_iload_5 c192_28, T_sipush c192_30, T_idiv c192_31, T_inv (es := [some (vi a2), some (vi a3), some (vi (jdiv a5 3))]) (st := [vi (jdiv a5 3), vi a3, vi a2]) (ks := [0, 0, 0]) (n := 3) (as := [vi a2, vi a3, vi (jdiv a5 3)]) (rest := []) c192_32 (by decide +kernel) (by decide +kernel) rfl rfl (Nat.le_of_ble_eq_true rfl)]
  all_goals try simp only [Int.reduceEq, Int.reduceToNat, ia0_58, ia0_59, lay_57, ne_eq, not_false_eq_true, true_and, Nat.reduceAdd, eq_self_iff_true]
theorem g192_35 {d : Nat} {a4 a5 s0 : Int} {x0 x1 x2 x3 x6 x7 : Option aV} {w : aW} {Q : Option aV → aW → Prop} : T (d + 1) 192 35 [x0, x1, x2, x3, some (vi a4), some (vi a5), x6, x7] [vi s0] w Q = T d 259 0 [some (vi s0), some (vi a4), some (vi (jrem a5 3))] [] w (fun r w1 => T (d + 1) 192 44 [x0, x1, x2, x3, some (vi a4), some (vi a5), x6, x7] (r.toList ++ []) w1 Q) := by
  rw [T_iload_4 c192_35, T_iload_5 c192_37, T_sipush c192_39, T_irem c192_40, T_inv (es := [some (vi s0), some (vi a4), some (vi (jrem a5 3))]) (st := [vi (jrem a5 3), vi a4, vi s0]) (ks := [0, 0, 0]) (n := 3) (as := [vi s0, vi a4, vi (jrem a5 3)]) (rest := []) c192_41 (by decide +kernel) (by decide +kernel) rfl rfl (Nat.le_of_ble_eq_true rfl)]
  all_goals try simp only [Int.reduceEq, ne_eq, not_false_eq_true, true_and, Nat.reduceAdd, eq_self_iff_true]
theorem g192_44 {d : Nat} {s0 : Int} {x0 x1 x2 x3 x4 x5 x6 x7 : Option aV} {w : aW} {Q : Option aV → aW → Prop} : T d 192 44 [x0, x1, x2, x3, x4, x5, x6, x7] [vi s0] w Q = T d 192 49 [x0, x1, x2, x3, x4, x5, some (vi s0), some (vi 0)] [] w Q := by
  rw [T_istore_6 c192_44, T_sipush c192_46, T_istore_7 c192_47]
  all_goals try simp only [true_and, Nat.reduceAdd, eq_self_iff_true]
theorem g192_49 {d : Nat} {a3 a5 a6 a7 : Int} {x0 x2 x4 : Option aV} {w : aW} {Q : Option aV → aW → Prop} : T (d + 1) 192 49 [x0, some (vr 20), x2, some (vi a3), x4, some (vi a5), some (vi a6), some (vi a7)] [] w Q = ((60 ≤ a7 → T (d + 1) 192 3 [x0, some (vr 20), x2, some (vi a3), x4, some (vi (w32 (a5 + 1))), some (vi a6), some (vi a7)] [] w Q) ∧ (¬ (60 ≤ a7) → ((0 ≤ a6 ∧ a6 < 1024) ∧ T d 259 0 [some (vi (w 20 a6)), some (vi a3), some (vi (jdiv a5 3))] [] w (fun r w1 => T (d + 1) 192 68 [x0, some (vr 20), x2, some (vi a3), x4, some (vi a5), some (vi a6), some (vi a7)] (r.toList ++ []) w1 Q)))) := by
  rw [T_iload_7 c192_49, T_sipush c192_51, T_icmp_ge 135 c192_53 rfl, T_iinc_5 c192_135, T_goto 3 c192_138 rfl, T_aload_1 c192_56, T_iload_6 c192_57, T_iald c192_59, T_iload_3 c192_60, T_iload_5 c192_61, T_sipush c192_63, T_idiv c192_64, T_inv (es := [some (vi (w 20 a6)), some (vi a3), some (vi (jdiv a5 3))]) (st := [vi (jdiv a5 3), vi a3, vi (w 20 a6)]) (ks := [0, 0, 0]) (n := 3) (as := [vi (w 20 a6), vi a3, vi (jdiv a5 3)]) (rest := []) c192_65 (by decide +kernel) (by decide +kernel) rfl rfl (Nat.le_of_ble_eq_true rfl)]
  all_goals try simp only [Int.reduceEq, Int.reduceToNat, ld_20, ne_eq, not_false_eq_true, true_and, Nat.reduceAdd, eq_self_iff_true]
theorem g192_68 {d : Nat} {a4 a5 s0 : Int} {x0 x1 x2 x3 x6 x7 : Option aV} {w : aW} {Q : Option aV → aW → Prop} : T (d + 1) 192 68 [x0, x1, x2, x3, some (vi a4), some (vi a5), x6, x7] [vi s0] w Q = T d 259 0 [some (vi s0), some (vi a4), some (vi (jrem a5 3))] [] w (fun r w1 => T (d + 1) 192 77 [x0, x1, x2, x3, some (vi a4), some (vi a5), x6, x7] (r.toList ++ []) w1 Q) := by
  rw [T_iload_4 c192_68, T_iload_5 c192_70, T_sipush c192_72, T_irem c192_73, T_inv (es := [some (vi s0), some (vi a4), some (vi (jrem a5 3))]) (st := [vi (jrem a5 3), vi a4, vi s0]) (ks := [0, 0, 0]) (n := 3) (as := [vi s0, vi a4, vi (jrem a5 3)]) (rest := []) c192_74 (by decide +kernel) (by decide +kernel) rfl rfl (Nat.le_of_ble_eq_true rfl)]
  all_goals try simp only [Int.reduceEq, ne_eq, not_false_eq_true, true_and, Nat.reduceAdd, eq_self_iff_true]
theorem g192_77 {d : Nat} {a5 s0 : Int} {x1 x2 x3 x4 x6 x7 : Option aV} {w : aW} {Q : Option aV → aW → Prop} : T (d + 1) 192 77 [some (vr 57), x1, x2, x3, x4, some (vi a5), x6, x7] [vi s0] w Q = ((0 ≤ a5 ∧ a5 < 9) ∧ T d 249 0 [some (vr 57), some (vi 0), some (vi s0)] [] w (fun r w1 => T (d + 1) 192 94 [some (vr 57), x1, x2, x3, x4, some (vi a5), some (vi s0), x7] (r.toList ++ [vi (w 58 a5), vi a5, vr 58]) w1 Q)) := by
  rw [T_istore_6 c192_77, T_aload_0 c192_79, T_getR 5 0 0 c192_80 rfl rfl rfl rfl, rf_57_0, T_iload_5 c192_83, T_dup2 c192_85, T_iald c192_86, T_aload_0 c192_87, T_sipush c192_88, T_iload_6 c192_89, T_invv (es := [some (vr 57), some (vi 0), some (vi s0)]) (st := [vi s0, vi 0, vr 57, vi (w 58 a5), vi a5, vr 58]) (ks := [2, 0, 0]) (n := 3) (c := 5) (k := 57) (as := [vi 0, vi s0]) (rest := [vi (w 58 a5), vi a5, vr 58]) c192_91 (by decide +kernel) (by decide +kernel) (by decide +kernel) (by decide) rfl rfl (Nat.le_of_ble_eq_true rfl)]
  all_goals try simp only [lay_57, ld_58, true_and, Nat.reduceAdd, eq_self_iff_true]
theorem g192_94 {d : Nat} {s1 s2 s3 : Int} {s0 : Nat} {x0 x1 x2 x3 x4 x5 x6 x7 : Option aV} {w : aW} {Q : Option aV → aW → Prop} : T d 192 94 [x0, x1, x2, x3, x4, x5, x6, x7] [vi s3, vi s2, vi s1, vr s0] w Q = ((s3 = 0 → T d 192 102 [x0, x1, x2, x3, x4, x5, x6, x7] [vi 0, vi s2, vi s1, vr s0] w Q) ∧ (¬ (s3 = 0) → T d 192 102 [x0, x1, x2, x3, x4, x5, x6, x7] [vi 1, vi s2, vi s1, vr s0] w Q)) := by
  rw [T_if_eq 101 c192_94 rfl, T_sipush c192_101, T_sipush c192_97, T_goto 102 c192_98 rfl]
  all_goals try simp only [Int.reduceToNat, true_and, Nat.reduceAdd, eq_self_iff_true]
theorem g192_102 {d : Nat} {a5 a6 s1 s2 s3 : Int} {s0 : Nat} {x1 x2 x3 x4 x7 : Option aV} {w : aW} {Q : Option aV → aW → Prop} : T (d + 1) 192 102 [some (vr 57), x1, x2, x3, x4, some (vi a5), some (vi a6), x7] [vi s3, vi s2, vi s1, vr s0] w Q = (inA s0 0 s1 = true ∧ ((0 ≤ a5 ∧ a5 < 9) ∧ T d 249 0 [some (vr 57), some (vi 1), some (vi a6)] [] (iup w s0 s1 (w32 (s2 + s3))) (fun r w1 => T (d + 1) 192 119 [some (vr 57), x1, x2, x3, x4, some (vi a5), some (vi a6), x7] (r.toList ++ [vi ((iup w s0 s1 (w32 (s2 + s3))) 59 a5), vi a5, vr 59]) w1 Q))) := by
  rw [T_iadd c192_102, T_iast c192_103, T_aload_0 c192_104, T_getR 5 1 1 c192_105 rfl rfl rfl rfl, rf_57_1, T_iload_5 c192_108, T_dup2 c192_110, T_iald c192_111, T_aload_0 c192_112, T_sipush c192_113, T_iload_6 c192_114, T_invv (es := [some (vr 57), some (vi 1), some (vi a6)]) (st := [vi a6, vi 1, vr 57, vi ((iup w s0 s1 (w32 (s2 + s3))) 59 a5), vi a5, vr 59]) (ks := [2, 0, 0]) (n := 3) (c := 5) (k := 57) (as := [vi 1, vi a6]) (rest := [vi ((iup w s0 s1 (w32 (s2 + s3))) 59 a5), vi a5, vr 59]) c192_116 (by decide +kernel) (by decide +kernel) (by decide +kernel) (by decide) rfl rfl (Nat.le_of_ble_eq_true rfl)]
  all_goals try simp only [lay_57, ld_59, true_and, Nat.reduceAdd, eq_self_iff_true]
theorem g192_119 {d : Nat} {s1 s2 s3 : Int} {s0 : Nat} {x0 x1 x2 x3 x4 x5 x6 x7 : Option aV} {w : aW} {Q : Option aV → aW → Prop} : T d 192 119 [x0, x1, x2, x3, x4, x5, x6, x7] [vi s3, vi s2, vi s1, vr s0] w Q = ((s3 = 0 → T d 192 127 [x0, x1, x2, x3, x4, x5, x6, x7] [vi 0, vi s2, vi s1, vr s0] w Q) ∧ (¬ (s3 = 0) → T d 192 127 [x0, x1, x2, x3, x4, x5, x6, x7] [vi 1, vi s2, vi s1, vr s0] w Q)) := by
  rw [T_if_eq 126 c192_119 rfl, T_sipush c192_126, T_sipush c192_122, T_goto 127 c192_123 rfl]
  all_goals try simp only [Int.reduceToNat, true_and, Nat.reduceAdd, eq_self_iff_true]
theorem g192_127 {d : Nat} {a7 s1 s2 s3 : Int} {s0 : Nat} {x0 x1 x2 x3 x4 x5 x6 : Option aV} {w : aW} {Q : Option aV → aW → Prop} : T d 192 127 [x0, x1, x2, x3, x4, x5, x6, some (vi a7)] [vi s3, vi s2, vi s1, vr s0] w Q = (inA s0 0 s1 = true ∧ T d 192 49 [x0, x1, x2, x3, x4, x5, x6, some (vi (w32 (a7 + 1)))] [] (iup w s0 s1 (w32 (s2 + s3))) Q) := by
  rw [T_iadd c192_127, T_iast c192_128, T_iinc_7 c192_129, T_goto 49 c192_132 rfl]
  all_goals try simp only [true_and, Nat.reduceAdd, eq_self_iff_true]
/-! 193: StringHands$Scenes.firstAtRest.()I -/
theorem c193_0 : cd 193 0 = some (.sipush 0, 1) := by decide +kernel
theorem c193_1 : cd 193 1 = some (.istore 1, 1) := by decide +kernel
theorem c193_2 : cd 193 2 = some (.iload 1, 1) := by decide +kernel
theorem c193_3 : cd 193 3 = some (.sipush 9, 2) := by decide +kernel
theorem c193_5 : cd 193 5 = some (.if_icmp .ge 24, 3) := by decide +kernel
theorem c193_8 : cd 193 8 = some (.aload 0, 1) := by decide +kernel
theorem c193_9 : cd 193 9 = some (.iload 1, 1) := by decide +kernel
theorem c193_10 : cd 193 10 = some (.invokevirtual 260, 3) := by decide +kernel
theorem c193_13 : cd 193 13 = some (.ifCond .eq 18, 3) := by decide +kernel
theorem c193_16 : cd 193 16 = some (.iload 1, 1) := by decide +kernel
theorem c193_17 : cd 193 17 = some (.ireturn, 1) := by decide +kernel
theorem c193_18 : cd 193 18 = some (.iinc 1 1, 3) := by decide +kernel
theorem c193_21 : cd 193 21 = some (.goto 2, 3) := by decide +kernel
theorem c193_24 : cd 193 24 = some (.sipush (-1), 1) := by decide +kernel
theorem c193_25 : cd 193 25 = some (.ireturn, 1) := by decide +kernel
theorem g193_0 {d : Nat} {x0 x1 : Option aV} {w : aW} {Q : Option aV → aW → Prop} : T d 193 0 [x0, x1] [] w Q = T d 193 2 [x0, some (vi 0)] [] w Q := by
  rw [T_sipush c193_0, T_istore_1 c193_1]
  all_goals try simp only [true_and, Nat.reduceAdd, eq_self_iff_true]
theorem g193_2 {d : Nat} {a1 : Int} {w : aW} {Q : Option aV → aW → Prop} : T (d + 1) 193 2 [some (vr 57), some (vi a1)] [] w Q = ((9 ≤ a1 → Q (some (vi (-1))) w) ∧ (¬ (9 ≤ a1) → T d 260 0 [some (vr 57), some (vi a1), none, none, none] [] w (fun r w1 => T (d + 1) 193 13 [some (vr 57), some (vi a1)] (r.toList ++ []) w1 Q))) := by
  rw [T_iload_1 c193_2, T_sipush c193_3, T_icmp_ge 24 c193_5 rfl, T_sipush c193_24, T_ireti c193_25 (by decide +kernel), T_aload_0 c193_8, T_iload_1 c193_9, T_invv (es := [some (vr 57), some (vi a1), none, none, none]) (st := [vi a1, vr 57]) (ks := [2, 0]) (n := 5) (c := 5) (k := 57) (as := [vi a1]) (rest := []) c193_10 (by decide +kernel) (by decide +kernel) (by decide +kernel) (by decide) rfl rfl (Nat.le_of_ble_eq_true rfl)]
  all_goals try simp only [Int.reduceToNat, lay_57, true_and, Nat.reduceAdd, eq_self_iff_true]
theorem g193_13 {d : Nat} {a1 s0 : Int} {x0 : Option aV} {w : aW} {Q : Option aV → aW → Prop} : T d 193 13 [x0, some (vi a1)] [vi s0] w Q = ((s0 = 0 → T d 193 2 [x0, some (vi (w32 (a1 + 1)))] [] w Q) ∧ (¬ (s0 = 0) → Q (some (vi a1)) w)) := by
  rw [T_if_eq 18 c193_13 rfl, T_iinc_1 c193_18, T_goto 2 c193_21 rfl, T_iload_1 c193_16, T_ireti c193_17 (by decide +kernel)]
  all_goals try simp only [Int.reduceToNat, true_and, Nat.reduceAdd, eq_self_iff_true]
/-! 194: StringHandsModel.isScene.(J)Z -/
theorem c194_0 : cd 194 0 = some (.lload 1, 1) := by decide +kernel
theorem c194_1 : cd 194 1 = some (.bipush 0, 1) := by decide +kernel
theorem c194_2 : cd 194 2 = some (.lcmp, 1) := by decide +kernel
theorem c194_3 : cd 194 3 = some (.ifCond .lt 44, 3) := by decide +kernel
theorem c194_6 : cd 194 6 = some (.lload 1, 1) := by decide +kernel
theorem c194_7 : cd 194 7 = some (.bipush 1024, 3) := by decide +kernel
theorem c194_10 : cd 194 10 = some (.ldiv, 1) := by decide +kernel
theorem c194_11 : cd 194 11 = some (.aload 0, 1) := by decide +kernel
theorem c194_12 : cd 194 12 = some (.invokevirtual 164, 3) := by decide +kernel
theorem c194_15 : cd 194 15 = some (.i2l, 1) := by decide +kernel
theorem c194_16 : cd 194 16 = some (.lcmp, 1) := by decide +kernel
theorem c194_17 : cd 194 17 = some (.ifCond .ge 44, 3) := by decide +kernel
theorem c194_20 : cd 194 20 = some (.lload 1, 1) := by decide +kernel
theorem c194_21 : cd 194 21 = some (.bipush 1024, 3) := by decide +kernel
theorem c194_24 : cd 194 24 = some (.lrem, 1) := by decide +kernel
theorem c194_25 : cd 194 25 = some (.lload 1, 1) := by decide +kernel
theorem c194_26 : cd 194 26 = some (.bipush 1024, 3) := by decide +kernel
theorem c194_29 : cd 194 29 = some (.ldiv, 1) := by decide +kernel
theorem c194_30 : cd 194 30 = some (.bipush (-1), 3) := by decide +kernel
theorem c194_33 : cd 194 33 = some (.lxor, 1) := by decide +kernel
theorem c194_34 : cd 194 34 = some (.land, 1) := by decide +kernel
theorem c194_35 : cd 194 35 = some (.bipush 0, 1) := by decide +kernel
theorem c194_36 : cd 194 36 = some (.lcmp, 1) := by decide +kernel
theorem c194_37 : cd 194 37 = some (.ifCond .ne 44, 3) := by decide +kernel
theorem c194_40 : cd 194 40 = some (.sipush 1, 1) := by decide +kernel
theorem c194_41 : cd 194 41 = some (.goto 45, 3) := by decide +kernel
theorem c194_44 : cd 194 44 = some (.sipush 0, 1) := by decide +kernel
theorem c194_45 : cd 194 45 = some (.ireturn, 1) := by decide +kernel
theorem g194_0 {d : Nat} {b1 : Int} {w : aW} {Q : Option aV → aW → Prop} : T (d + 1) 194 0 [some (vr 167), some (vl b1), none] [] w Q = ((kcmp b1 0 < 0 → T (d + 1) 194 44 [some (vr 167), some (vl b1), none] [] w Q) ∧ (¬ (kcmp b1 0 < 0) → T d 164 0 [some (vr 167)] [] w (fun r w1 => T (d + 1) 194 15 [some (vr 167), some (vl b1), none] (r.toList ++ [vl (kdiv b1 1024)]) w1 Q))) := by
  rw [T_lload_1 c194_0, T_bipush c194_1, T_lcmp c194_2, T_if_lt 44 c194_3 rfl, T_lload_1 c194_6, T_bipush c194_7, T_ldiv c194_10, T_aload_0 c194_11, T_invv (es := [some (vr 167)]) (st := [vr 167, vl (kdiv b1 1024)]) (ks := [2]) (n := 1) (c := 12) (k := 167) (as := []) (rest := [vl (kdiv b1 1024)]) c194_12 (by decide +kernel) (by decide +kernel) (by decide +kernel) (by decide) rfl rfl (Nat.le_of_ble_eq_true rfl)]
  all_goals try simp only [Int.reduceEq, Int.reduceToNat, lay_167, ne_eq, not_false_eq_true, true_and, Nat.reduceAdd, eq_self_iff_true]
theorem g194_15 {d : Nat} {b1 s0 s1 : Int} {x0 : Option aV} {w : aW} {Q : Option aV → aW → Prop} : T d 194 15 [x0, some (vl b1), none] [vi s1, vl s0] w Q = ((0 ≤ kcmp s0 s1 → T d 194 44 [x0, some (vl b1), none] [] w Q) ∧ (¬ (0 ≤ kcmp s0 s1) → ((¬ kcmp (kand (krem b1 1024) (kxor (kdiv b1 1024) (-1))) 0 = 0 → T d 194 44 [x0, some (vl b1), none] [] w Q) ∧ (¬ (¬ kcmp (kand (krem b1 1024) (kxor (kdiv b1 1024) (-1))) 0 = 0) → T d 194 45 [x0, some (vl b1), none] [vi 1] w Q)))) := by
  rw [T_i2l c194_15, T_lcmp c194_16, T_if_ge 44 c194_17 rfl, T_lload_1 c194_20, T_bipush c194_21, T_lrem c194_24, T_lload_1 c194_25, T_bipush c194_26, T_ldiv c194_29, T_bipush c194_30, T_lxor c194_33, T_land c194_34, T_bipush c194_35, T_lcmp c194_36, T_if_ne 44 c194_37 rfl, T_sipush c194_40, T_goto 45 c194_41 rfl]
  all_goals try simp only [Int.reduceEq, Int.reduceToNat, ne_eq, not_false_eq_true, true_and, Nat.reduceAdd, eq_self_iff_true]
theorem g194_44 {d : Nat} {x0 x1 x2 : Option aV} {w : aW} {Q : Option aV → aW → Prop} : T d 194 44 [x0, x1, x2] [] w Q = T d 194 45 [x0, x1, x2] [vi 0] w Q := by
  rw [T_sipush c194_44]
  all_goals try simp only [true_and, Nat.reduceAdd, eq_self_iff_true]
theorem g194_45 {d : Nat} {s0 : Int} {x0 x1 x2 : Option aV} {w : aW} {Q : Option aV → aW → Prop} : T d 194 45 [x0, x1, x2] [vi s0] w Q = ((s0 = 0 ∨ s0 = 1) ∧ Q (some (vi s0)) w) := by
  rw [T_iretz c194_45 (by decide +kernel)]
  all_goals try simp only [true_and, Nat.reduceAdd, eq_self_iff_true]
/-! 195: StringHandsModel.laysGains.(IIII)V -/
theorem c195_0 : cd 195 0 = some (.aload 0, 1) := by decide +kernel
theorem c195_1 : cd 195 1 = some (.invokevirtual 156, 3) := by decide +kernel
theorem c195_4 : cd 195 4 = some (.sipush 0, 1) := by decide +kernel
theorem c195_5 : cd 195 5 = some (.istore 5, 2) := by decide +kernel
theorem c195_7 : cd 195 7 = some (.iload 5, 2) := by decide +kernel
theorem c195_9 : cd 195 9 = some (.sipush 3, 1) := by decide +kernel
theorem c195_10 : cd 195 10 = some (.if_icmp .ge 182, 3) := by decide +kernel
theorem c195_13 : cd 195 13 = some (.sipush 0, 1) := by decide +kernel
theorem c195_14 : cd 195 14 = some (.istore 6, 2) := by decide +kernel
theorem c195_16 : cd 195 16 = some (.iload 6, 2) := by decide +kernel
theorem c195_18 : cd 195 18 = some (.sipush 3, 1) := by decide +kernel
theorem c195_19 : cd 195 19 = some (.if_icmp .ge 176, 3) := by decide +kernel
theorem c195_22 : cd 195 22 = some (.aload 0, 1) := by decide +kernel
theorem c195_23 : cd 195 23 = some (.getfield 3078, 3) := by decide +kernel
theorem c195_26 : cd 195 26 = some (.sipush 5, 1) := by decide +kernel
theorem c195_27 : cd 195 27 = some (.iaload, 1) := by decide +kernel
theorem c195_28 : cd 195 28 = some (.iload 1, 1) := by decide +kernel
theorem c195_29 : cd 195 29 = some (.iload 5, 2) := by decide +kernel
theorem c195_31 : cd 195 31 = some (.invokestatic 261, 3) := by decide +kernel
theorem c195_34 : cd 195 34 = some (.iload 3, 1) := by decide +kernel
theorem c195_35 : cd 195 35 = some (.iload 6, 2) := by decide +kernel
theorem c195_37 : cd 195 37 = some (.invokestatic 261, 3) := by decide +kernel
theorem c195_40 : cd 195 40 = some (.istore 7, 2) := by decide +kernel
theorem c195_42 : cd 195 42 = some (.aload 0, 1) := by decide +kernel
theorem c195_43 : cd 195 43 = some (.getfield 3194, 3) := by decide +kernel
theorem c195_46 : cd 195 46 = some (.sipush 10, 2) := by decide +kernel
theorem c195_48 : cd 195 48 = some (.iload 5, 2) := by decide +kernel
theorem c195_50 : cd 195 50 = some (.imul, 1) := by decide +kernel
theorem c195_51 : cd 195 51 = some (.iload 6, 2) := by decide +kernel
theorem c195_53 : cd 195 53 = some (.iadd, 1) := by decide +kernel
theorem c195_54 : cd 195 54 = some (.sipush 0, 1) := by decide +kernel
theorem c195_55 : cd 195 55 = some (.iastore, 1) := by decide +kernel
theorem c195_56 : cd 195 56 = some (.aload 0, 1) := by decide +kernel
theorem c195_57 : cd 195 57 = some (.getfield 3198, 3) := by decide +kernel
theorem c195_60 : cd 195 60 = some (.sipush 10, 2) := by decide +kernel
theorem c195_62 : cd 195 62 = some (.iload 5, 2) := by decide +kernel
theorem c195_64 : cd 195 64 = some (.imul, 1) := by decide +kernel
theorem c195_65 : cd 195 65 = some (.iload 6, 2) := by decide +kernel
theorem c195_67 : cd 195 67 = some (.iadd, 1) := by decide +kernel
theorem c195_68 : cd 195 68 = some (.sipush 0, 1) := by decide +kernel
theorem c195_69 : cd 195 69 = some (.iastore, 1) := by decide +kernel
theorem c195_70 : cd 195 70 = some (.sipush 0, 1) := by decide +kernel
theorem c195_71 : cd 195 71 = some (.istore 8, 2) := by decide +kernel
theorem c195_73 : cd 195 73 = some (.iload 8, 2) := by decide +kernel
theorem c195_75 : cd 195 75 = some (.sipush 60, 2) := by decide +kernel
theorem c195_77 : cd 195 77 = some (.if_icmp .ge 170, 3) := by decide +kernel
theorem c195_80 : cd 195 80 = some (.aload 0, 1) := by decide +kernel
theorem c195_81 : cd 195 81 = some (.getfield 3150, 3) := by decide +kernel
theorem c195_84 : cd 195 84 = some (.iload 7, 2) := by decide +kernel
theorem c195_86 : cd 195 86 = some (.iaload, 1) := by decide +kernel
theorem c195_87 : cd 195 87 = some (.iload 1, 1) := by decide +kernel
theorem c195_88 : cd 195 88 = some (.iload 5, 2) := by decide +kernel
theorem c195_90 : cd 195 90 = some (.invokestatic 261, 3) := by decide +kernel
theorem c195_93 : cd 195 93 = some (.iload 3, 1) := by decide +kernel
theorem c195_94 : cd 195 94 = some (.iload 6, 2) := by decide +kernel
theorem c195_96 : cd 195 96 = some (.invokestatic 261, 3) := by decide +kernel
theorem c195_99 : cd 195 99 = some (.istore 7, 2) := by decide +kernel
theorem c195_101 : cd 195 101 = some (.aload 0, 1) := by decide +kernel
theorem c195_102 : cd 195 102 = some (.getfield 3194, 3) := by decide +kernel
theorem c195_105 : cd 195 105 = some (.sipush 10, 2) := by decide +kernel
theorem c195_107 : cd 195 107 = some (.iload 5, 2) := by decide +kernel
theorem c195_109 : cd 195 109 = some (.imul, 1) := by decide +kernel
theorem c195_110 : cd 195 110 = some (.iload 6, 2) := by decide +kernel
theorem c195_112 : cd 195 112 = some (.iadd, 1) := by decide +kernel
theorem c195_113 : cd 195 113 = some (.dup2, 1) := by decide +kernel
theorem c195_114 : cd 195 114 = some (.iaload, 1) := by decide +kernel
theorem c195_115 : cd 195 115 = some (.iload 7, 2) := by decide +kernel
theorem c195_117 : cd 195 117 = some (.iload 2, 1) := by decide +kernel
theorem c195_118 : cd 195 118 = some (.i2l, 1) := by decide +kernel
theorem c195_119 : cd 195 119 = some (.invokestatic 250, 3) := by decide +kernel
theorem c195_122 : cd 195 122 = some (.ifCond .eq 129, 3) := by decide +kernel
theorem c195_125 : cd 195 125 = some (.sipush 1, 1) := by decide +kernel
theorem c195_126 : cd 195 126 = some (.goto 130, 3) := by decide +kernel
theorem c195_129 : cd 195 129 = some (.sipush 0, 1) := by decide +kernel
theorem c195_130 : cd 195 130 = some (.iadd, 1) := by decide +kernel
theorem c195_131 : cd 195 131 = some (.iastore, 1) := by decide +kernel
theorem c195_132 : cd 195 132 = some (.aload 0, 1) := by decide +kernel
theorem c195_133 : cd 195 133 = some (.getfield 3198, 3) := by decide +kernel
theorem c195_136 : cd 195 136 = some (.sipush 10, 2) := by decide +kernel
theorem c195_138 : cd 195 138 = some (.iload 5, 2) := by decide +kernel
theorem c195_140 : cd 195 140 = some (.imul, 1) := by decide +kernel
theorem c195_141 : cd 195 141 = some (.iload 6, 2) := by decide +kernel
theorem c195_143 : cd 195 143 = some (.iadd, 1) := by decide +kernel
theorem c195_144 : cd 195 144 = some (.dup2, 1) := by decide +kernel
theorem c195_145 : cd 195 145 = some (.iaload, 1) := by decide +kernel
theorem c195_146 : cd 195 146 = some (.iload 7, 2) := by decide +kernel
theorem c195_148 : cd 195 148 = some (.iload 4, 2) := by decide +kernel
theorem c195_150 : cd 195 150 = some (.i2l, 1) := by decide +kernel
theorem c195_151 : cd 195 151 = some (.invokestatic 250, 3) := by decide +kernel
theorem c195_154 : cd 195 154 = some (.ifCond .eq 161, 3) := by decide +kernel
theorem c195_157 : cd 195 157 = some (.sipush 1, 1) := by decide +kernel
theorem c195_158 : cd 195 158 = some (.goto 162, 3) := by decide +kernel
theorem c195_161 : cd 195 161 = some (.sipush 0, 1) := by decide +kernel
theorem c195_162 : cd 195 162 = some (.iadd, 1) := by decide +kernel
theorem c195_163 : cd 195 163 = some (.iastore, 1) := by decide +kernel
theorem c195_164 : cd 195 164 = some (.iinc 8 1, 3) := by decide +kernel
theorem c195_167 : cd 195 167 = some (.goto 73, 3) := by decide +kernel
theorem c195_170 : cd 195 170 = some (.iinc 6 1, 3) := by decide +kernel
theorem c195_173 : cd 195 173 = some (.goto 16, 3) := by decide +kernel
theorem c195_176 : cd 195 176 = some (.iinc 5 1, 3) := by decide +kernel
theorem c195_179 : cd 195 179 = some (.goto 7, 3) := by decide +kernel
theorem c195_182 : cd 195 182 = some (.return_, 1) := by decide +kernel
theorem g195_0 {d : Nat} {x1 x2 x3 x4 x5 x6 x7 x8 : Option aV} {w : aW} {Q : Option aV → aW → Prop} : T (d + 1) 195 0 [some (vr 167), x1, x2, x3, x4, x5, x6, x7, x8] [] w Q = T d 156 0 [some (vr 167), none] [] w (fun r w1 => T (d + 1) 195 4 [some (vr 167), x1, x2, x3, x4, x5, x6, x7, x8] (r.toList ++ []) w1 Q) := by
  rw [T_aload_0 c195_0, T_invv (es := [some (vr 167), none]) (st := [vr 167]) (ks := [2]) (n := 2) (c := 12) (k := 167) (as := []) (rest := []) c195_1 (by decide +kernel) (by decide +kernel) (by decide +kernel) (by decide) rfl rfl (Nat.le_of_ble_eq_true rfl)]
  all_goals try simp only [lay_167, true_and, Nat.reduceAdd, eq_self_iff_true]
theorem g195_4 {d : Nat} {x0 x1 x2 x3 x4 x5 x6 x7 x8 : Option aV} {w : aW} {Q : Option aV → aW → Prop} : T d 195 4 [x0, x1, x2, x3, x4, x5, x6, x7, x8] [] w Q = T d 195 7 [x0, x1, x2, x3, x4, some (vi 0), x6, x7, x8] [] w Q := by
  rw [T_sipush c195_4, T_istore_5 c195_5]
  all_goals try simp only [true_and, Nat.reduceAdd, eq_self_iff_true]
theorem g195_7 {d : Nat} {a5 : Int} {x0 x1 x2 x3 x4 x6 x7 x8 : Option aV} {w : aW} {Q : Option aV → aW → Prop} : T d 195 7 [x0, x1, x2, x3, x4, some (vi a5), x6, x7, x8] [] w Q = ((3 ≤ a5 → Q none w) ∧ (¬ (3 ≤ a5) → T d 195 16 [x0, x1, x2, x3, x4, some (vi a5), some (vi 0), x7, x8] [] w Q)) := by
  rw [T_iload_5 c195_7, T_sipush c195_9, T_icmp_ge 182 c195_10 rfl, T_vret c195_182 (by decide +kernel), T_sipush c195_13, T_istore_6 c195_14]
  all_goals try simp only [Int.reduceToNat, true_and, Nat.reduceAdd, eq_self_iff_true]
theorem g195_16 {d : Nat} {a1 a5 a6 : Int} {x2 x3 x4 x7 x8 : Option aV} {w : aW} {Q : Option aV → aW → Prop} : T (d + 1) 195 16 [some (vr 167), some (vi a1), x2, x3, x4, some (vi a5), some (vi a6), x7, x8] [] w Q = ((3 ≤ a6 → T (d + 1) 195 7 [some (vr 167), some (vi a1), x2, x3, x4, some (vi (w32 (a5 + 1))), some (vi a6), x7, x8] [] w Q) ∧ (¬ (3 ≤ a6) → T d 261 0 [some (vi (w 168 5)), some (vi a1), some (vi a5)] [] w (fun r w1 => T (d + 1) 195 34 [some (vr 167), some (vi a1), x2, x3, x4, some (vi a5), some (vi a6), x7, x8] (r.toList ++ []) w1 Q))) := by
  rw [T_iload_6 c195_16, T_sipush c195_18, T_icmp_ge 176 c195_19 rfl, T_iinc_5 c195_176, T_goto 7 c195_179 rfl, T_aload_0 c195_22, T_getR 12 1 1 c195_23 rfl rfl rfl rfl, rf_167_1, T_sipush c195_26, T_iald c195_27, T_iload_1 c195_28, T_iload_5 c195_29, T_inv (es := [some (vi (w 168 5)), some (vi a1), some (vi a5)]) (st := [vi a5, vi a1, vi (w 168 5)]) (ks := [0, 0, 0]) (n := 3) (as := [vi (w 168 5), vi a1, vi a5]) (rest := []) c195_31 (by decide +kernel) (by decide +kernel) rfl rfl (Nat.le_of_ble_eq_true rfl)]
  all_goals try simp only [Int.reduceLE, Int.reduceLT, Int.reduceToNat, and_self, lay_167, ld_168, true_and, Nat.reduceAdd, eq_self_iff_true]
theorem g195_34 {d : Nat} {a3 a6 s0 : Int} {x0 x1 x2 x4 x5 x7 x8 : Option aV} {w : aW} {Q : Option aV → aW → Prop} : T (d + 1) 195 34 [x0, x1, x2, some (vi a3), x4, x5, some (vi a6), x7, x8] [vi s0] w Q = T d 261 0 [some (vi s0), some (vi a3), some (vi a6)] [] w (fun r w1 => T (d + 1) 195 40 [x0, x1, x2, some (vi a3), x4, x5, some (vi a6), x7, x8] (r.toList ++ []) w1 Q) := by
  rw [T_iload_3 c195_34, T_iload_6 c195_35, T_inv (es := [some (vi s0), some (vi a3), some (vi a6)]) (st := [vi a6, vi a3, vi s0]) (ks := [0, 0, 0]) (n := 3) (as := [vi s0, vi a3, vi a6]) (rest := []) c195_37 (by decide +kernel) (by decide +kernel) rfl rfl (Nat.le_of_ble_eq_true rfl)]
  all_goals try simp only [true_and, Nat.reduceAdd, eq_self_iff_true]
theorem g195_40 {d : Nat} {a5 a6 s0 : Int} {x1 x2 x3 x4 x7 x8 : Option aV} {w : aW} {Q : Option aV → aW → Prop} : T d 195 40 [some (vr 167), x1, x2, x3, x4, some (vi a5), some (vi a6), x7, x8] [vi s0] w Q = ((0 ≤ w32 ((w32 (10 * a5)) + a6) ∧ w32 ((w32 (10 * a5)) + a6) < 30) ∧ ((0 ≤ w32 ((w32 (10 * a5)) + a6) ∧ w32 ((w32 (10 * a5)) + a6) < 30) ∧ T d 195 73 [some (vr 167), x1, x2, x3, x4, some (vi a5), some (vi a6), some (vi s0), some (vi 0)] [] (iup (iup w 185 (w32 ((w32 (10 * a5)) + a6)) 0) 186 (w32 ((w32 (10 * a5)) + a6)) 0) Q)) := by
  rw [T_istore_7 c195_40, T_aload_0 c195_42, T_getR 12 30 30 c195_43 rfl rfl rfl rfl, rf_167_30, T_sipush c195_46, T_iload_5 c195_48, T_imul c195_50, T_iload_6 c195_51, T_iadd c195_53, T_sipush c195_54, T_iast c195_55, T_aload_0 c195_56, T_getR 12 31 31 c195_57 rfl rfl rfl rfl, rf_167_31, T_sipush c195_60, T_iload_5 c195_62, T_imul c195_64, T_iload_6 c195_65, T_iadd c195_67, T_sipush c195_68, T_iast c195_69, T_sipush c195_70, T_istore_8 c195_71]
  all_goals try simp only [ia0_185, ia0_186, lay_167, true_and, Nat.reduceAdd, eq_self_iff_true]
theorem g195_73 {d : Nat} {a1 a5 a6 a7 a8 : Int} {x2 x3 x4 : Option aV} {w : aW} {Q : Option aV → aW → Prop} : T (d + 1) 195 73 [some (vr 167), some (vi a1), x2, x3, x4, some (vi a5), some (vi a6), some (vi a7), some (vi a8)] [] w Q = ((60 ≤ a8 → T (d + 1) 195 16 [some (vr 167), some (vi a1), x2, x3, x4, some (vi a5), some (vi (w32 (a6 + 1))), some (vi a7), some (vi a8)] [] w Q) ∧ (¬ (60 ≤ a8) → ((0 ≤ a7 ∧ a7 < 1024) ∧ T d 261 0 [some (vi (w 174 a7)), some (vi a1), some (vi a5)] [] w (fun r w1 => T (d + 1) 195 93 [some (vr 167), some (vi a1), x2, x3, x4, some (vi a5), some (vi a6), some (vi a7), some (vi a8)] (r.toList ++ []) w1 Q)))) := by
  rw [T_iload_8 c195_73, T_sipush c195_75, T_icmp_ge 170 c195_77 rfl, T_iinc_6 c195_170, T_goto 16 c195_173 rfl, T_aload_0 c195_80, T_getR 12 19 19 c195_81 rfl rfl rfl rfl, rf_167_19, T_iload_7 c195_84, T_iald c195_86, T_iload_1 c195_87, T_iload_5 c195_88, T_inv (es := [some (vi (w 174 a7)), some (vi a1), some (vi a5)]) (st := [vi a5, vi a1, vi (w 174 a7)]) (ks := [0, 0, 0]) (n := 3) (as := [vi (w 174 a7), vi a1, vi a5]) (rest := []) c195_90 (by decide +kernel) (by decide +kernel) rfl rfl (Nat.le_of_ble_eq_true rfl)]
  all_goals try simp only [Int.reduceToNat, lay_167, ld_174, true_and, Nat.reduceAdd, eq_self_iff_true]
theorem g195_93 {d : Nat} {a3 a6 s0 : Int} {x0 x1 x2 x4 x5 x7 x8 : Option aV} {w : aW} {Q : Option aV → aW → Prop} : T (d + 1) 195 93 [x0, x1, x2, some (vi a3), x4, x5, some (vi a6), x7, x8] [vi s0] w Q = T d 261 0 [some (vi s0), some (vi a3), some (vi a6)] [] w (fun r w1 => T (d + 1) 195 99 [x0, x1, x2, some (vi a3), x4, x5, some (vi a6), x7, x8] (r.toList ++ []) w1 Q) := by
  rw [T_iload_3 c195_93, T_iload_6 c195_94, T_inv (es := [some (vi s0), some (vi a3), some (vi a6)]) (st := [vi a6, vi a3, vi s0]) (ks := [0, 0, 0]) (n := 3) (as := [vi s0, vi a3, vi a6]) (rest := []) c195_96 (by decide +kernel) (by decide +kernel) rfl rfl (Nat.le_of_ble_eq_true rfl)]
  all_goals try simp only [true_and, Nat.reduceAdd, eq_self_iff_true]
theorem g195_99 {d : Nat} {a2 a5 a6 s0 : Int} {x1 x3 x4 x7 x8 : Option aV} {w : aW} {Q : Option aV → aW → Prop} : T (d + 1) 195 99 [some (vr 167), x1, some (vi a2), x3, x4, some (vi a5), some (vi a6), x7, x8] [vi s0] w Q = ((0 ≤ w32 ((w32 (10 * a5)) + a6) ∧ w32 ((w32 (10 * a5)) + a6) < 30) ∧ T d 250 0 [some (vi s0), some (vl a2), none] [] w (fun r w1 => T (d + 1) 195 122 [some (vr 167), x1, some (vi a2), x3, x4, some (vi a5), some (vi a6), some (vi s0), x8] (r.toList ++ [vi (w 185 (w32 ((w32 (10 * a5)) + a6))), vi (w32 ((w32 (10 * a5)) + a6)), vr 185]) w1 Q)) := by
  rw [T_istore_7 c195_99, T_aload_0 c195_101, T_getR 12 30 30 c195_102 rfl rfl rfl rfl, rf_167_30, T_sipush c195_105, T_iload_5 c195_107, T_imul c195_109, T_iload_6 c195_110, T_iadd c195_112, T_dup2 c195_113, T_iald c195_114, T_iload_7 c195_115, T_iload_2 c195_117, T_i2l c195_118, T_inv (es := [some (vi s0), some (vl a2), none]) (st := [vl a2, vi s0, vi (w 185 (w32 ((w32 (10 * a5)) + a6))), vi (w32 ((w32 (10 * a5)) + a6)), vr 185]) (ks := [0, 1]) (n := 3) (as := [vi s0, vl a2]) (rest := [vi (w 185 (w32 ((w32 (10 * a5)) + a6))), vi (w32 ((w32 (10 * a5)) + a6)), vr 185]) c195_119 (by decide +kernel) (by decide +kernel) rfl rfl (Nat.le_of_ble_eq_true rfl)]
  all_goals try simp only [lay_167, ld_185, true_and, Nat.reduceAdd, eq_self_iff_true]
theorem g195_122 {d : Nat} {s1 s2 s3 : Int} {s0 : Nat} {x0 x1 x2 x3 x4 x5 x6 x7 x8 : Option aV} {w : aW} {Q : Option aV → aW → Prop} : T d 195 122 [x0, x1, x2, x3, x4, x5, x6, x7, x8] [vi s3, vi s2, vi s1, vr s0] w Q = ((s3 = 0 → T d 195 130 [x0, x1, x2, x3, x4, x5, x6, x7, x8] [vi 0, vi s2, vi s1, vr s0] w Q) ∧ (¬ (s3 = 0) → T d 195 130 [x0, x1, x2, x3, x4, x5, x6, x7, x8] [vi 1, vi s2, vi s1, vr s0] w Q)) := by
  rw [T_if_eq 129 c195_122 rfl, T_sipush c195_129, T_sipush c195_125, T_goto 130 c195_126 rfl]
  all_goals try simp only [Int.reduceToNat, true_and, Nat.reduceAdd, eq_self_iff_true]
theorem g195_130 {d : Nat} {a4 a5 a6 a7 s1 s2 s3 : Int} {s0 : Nat} {x1 x2 x3 x8 : Option aV} {w : aW} {Q : Option aV → aW → Prop} : T (d + 1) 195 130 [some (vr 167), x1, x2, x3, some (vi a4), some (vi a5), some (vi a6), some (vi a7), x8] [vi s3, vi s2, vi s1, vr s0] w Q = (inA s0 0 s1 = true ∧ ((0 ≤ w32 ((w32 (10 * a5)) + a6) ∧ w32 ((w32 (10 * a5)) + a6) < 30) ∧ T d 250 0 [some (vi a7), some (vl a4), none] [] (iup w s0 s1 (w32 (s2 + s3))) (fun r w1 => T (d + 1) 195 154 [some (vr 167), x1, x2, x3, some (vi a4), some (vi a5), some (vi a6), some (vi a7), x8] (r.toList ++ [vi ((iup w s0 s1 (w32 (s2 + s3))) 186 (w32 ((w32 (10 * a5)) + a6))), vi (w32 ((w32 (10 * a5)) + a6)), vr 186]) w1 Q))) := by
  rw [T_iadd c195_130, T_iast c195_131, T_aload_0 c195_132, T_getR 12 31 31 c195_133 rfl rfl rfl rfl, rf_167_31, T_sipush c195_136, T_iload_5 c195_138, T_imul c195_140, T_iload_6 c195_141, T_iadd c195_143, T_dup2 c195_144, T_iald c195_145, T_iload_7 c195_146, T_iload_4 c195_148, T_i2l c195_150, T_inv (es := [some (vi a7), some (vl a4), none]) (st := [vl a4, vi a7, vi ((iup w s0 s1 (w32 (s2 + s3))) 186 (w32 ((w32 (10 * a5)) + a6))), vi (w32 ((w32 (10 * a5)) + a6)), vr 186]) (ks := [0, 1]) (n := 3) (as := [vi a7, vl a4]) (rest := [vi ((iup w s0 s1 (w32 (s2 + s3))) 186 (w32 ((w32 (10 * a5)) + a6))), vi (w32 ((w32 (10 * a5)) + a6)), vr 186]) c195_151 (by decide +kernel) (by decide +kernel) rfl rfl (Nat.le_of_ble_eq_true rfl)]
  all_goals try simp only [lay_167, ld_186, true_and, Nat.reduceAdd, eq_self_iff_true]
theorem g195_154 {d : Nat} {s1 s2 s3 : Int} {s0 : Nat} {x0 x1 x2 x3 x4 x5 x6 x7 x8 : Option aV} {w : aW} {Q : Option aV → aW → Prop} : T d 195 154 [x0, x1, x2, x3, x4, x5, x6, x7, x8] [vi s3, vi s2, vi s1, vr s0] w Q = ((s3 = 0 → T d 195 162 [x0, x1, x2, x3, x4, x5, x6, x7, x8] [vi 0, vi s2, vi s1, vr s0] w Q) ∧ (¬ (s3 = 0) → T d 195 162 [x0, x1, x2, x3, x4, x5, x6, x7, x8] [vi 1, vi s2, vi s1, vr s0] w Q)) := by
  rw [T_if_eq 161 c195_154 rfl, T_sipush c195_161, T_sipush c195_157, T_goto 162 c195_158 rfl]
  all_goals try simp only [Int.reduceToNat, true_and, Nat.reduceAdd, eq_self_iff_true]
theorem g195_162 {d : Nat} {a8 s1 s2 s3 : Int} {s0 : Nat} {x0 x1 x2 x3 x4 x5 x6 x7 : Option aV} {w : aW} {Q : Option aV → aW → Prop} : T d 195 162 [x0, x1, x2, x3, x4, x5, x6, x7, some (vi a8)] [vi s3, vi s2, vi s1, vr s0] w Q = (inA s0 0 s1 = true ∧ T d 195 73 [x0, x1, x2, x3, x4, x5, x6, x7, some (vi (w32 (a8 + 1)))] [] (iup w s0 s1 (w32 (s2 + s3))) Q) := by
  rw [T_iadd c195_162, T_iast c195_163, T_iinc_8 c195_164, T_goto 73 c195_167 rfl]
  all_goals try simp only [true_and, Nat.reduceAdd, eq_self_iff_true]
/-! 196: StringHandsModel.isRest.(II)Z -/
theorem c196_0 : cd 196 0 = some (.sipush 0, 1) := by decide +kernel
theorem c196_1 : cd 196 1 = some (.istore 3, 1) := by decide +kernel
theorem c196_2 : cd 196 2 = some (.iload 3, 1) := by decide +kernel
theorem c196_3 : cd 196 3 = some (.sipush 3, 1) := by decide +kernel
theorem c196_4 : cd 196 4 = some (.if_icmp .ge 65, 3) := by decide +kernel
theorem c196_7 : cd 196 7 = some (.aload 0, 1) := by decide +kernel
theorem c196_8 : cd 196 8 = some (.getfield 3194, 3) := by decide +kernel
theorem c196_11 : cd 196 11 = some (.sipush 10, 2) := by decide +kernel
theorem c196_13 : cd 196 13 = some (.iload 3, 1) := by decide +kernel
theorem c196_14 : cd 196 14 = some (.imul, 1) := by decide +kernel
theorem c196_15 : cd 196 15 = some (.iload 2, 1) := by decide +kernel
theorem c196_16 : cd 196 16 = some (.iadd, 1) := by decide +kernel
theorem c196_17 : cd 196 17 = some (.iaload, 1) := by decide +kernel
theorem c196_18 : cd 196 18 = some (.aload 0, 1) := by decide +kernel
theorem c196_19 : cd 196 19 = some (.getfield 3194, 3) := by decide +kernel
theorem c196_22 : cd 196 22 = some (.sipush 10, 2) := by decide +kernel
theorem c196_24 : cd 196 24 = some (.iload 1, 1) := by decide +kernel
theorem c196_25 : cd 196 25 = some (.imul, 1) := by decide +kernel
theorem c196_26 : cd 196 26 = some (.iload 2, 1) := by decide +kernel
theorem c196_27 : cd 196 27 = some (.iadd, 1) := by decide +kernel
theorem c196_28 : cd 196 28 = some (.iaload, 1) := by decide +kernel
theorem c196_29 : cd 196 29 = some (.if_icmp .gt 57, 3) := by decide +kernel
theorem c196_32 : cd 196 32 = some (.aload 0, 1) := by decide +kernel
theorem c196_33 : cd 196 33 = some (.getfield 3198, 3) := by decide +kernel
theorem c196_36 : cd 196 36 = some (.sipush 10, 2) := by decide +kernel
theorem c196_38 : cd 196 38 = some (.iload 1, 1) := by decide +kernel
theorem c196_39 : cd 196 39 = some (.imul, 1) := by decide +kernel
theorem c196_40 : cd 196 40 = some (.iload 3, 1) := by decide +kernel
theorem c196_41 : cd 196 41 = some (.iadd, 1) := by decide +kernel
theorem c196_42 : cd 196 42 = some (.iaload, 1) := by decide +kernel
theorem c196_43 : cd 196 43 = some (.aload 0, 1) := by decide +kernel
theorem c196_44 : cd 196 44 = some (.getfield 3198, 3) := by decide +kernel
theorem c196_47 : cd 196 47 = some (.sipush 10, 2) := by decide +kernel
theorem c196_49 : cd 196 49 = some (.iload 1, 1) := by decide +kernel
theorem c196_50 : cd 196 50 = some (.imul, 1) := by decide +kernel
theorem c196_51 : cd 196 51 = some (.iload 2, 1) := by decide +kernel
theorem c196_52 : cd 196 52 = some (.iadd, 1) := by decide +kernel
theorem c196_53 : cd 196 53 = some (.iaload, 1) := by decide +kernel
theorem c196_54 : cd 196 54 = some (.if_icmp .le 59, 3) := by decide +kernel
theorem c196_57 : cd 196 57 = some (.sipush 0, 1) := by decide +kernel
theorem c196_58 : cd 196 58 = some (.ireturn, 1) := by decide +kernel
theorem c196_59 : cd 196 59 = some (.iinc 3 1, 3) := by decide +kernel
theorem c196_62 : cd 196 62 = some (.goto 2, 3) := by decide +kernel
theorem c196_65 : cd 196 65 = some (.sipush 1, 1) := by decide +kernel
theorem c196_66 : cd 196 66 = some (.ireturn, 1) := by decide +kernel
theorem g196_0 {d : Nat} {x0 x1 x2 x3 : Option aV} {w : aW} {Q : Option aV → aW → Prop} : T d 196 0 [x0, x1, x2, x3] [] w Q = T d 196 2 [x0, x1, x2, some (vi 0)] [] w Q := by
  rw [T_sipush c196_0, T_istore_3 c196_1]
  all_goals try simp only [true_and, Nat.reduceAdd, eq_self_iff_true]
theorem g196_2 {d : Nat} {a1 a2 a3 : Int} {w : aW} {Q : Option aV → aW → Prop} : T d 196 2 [some (vr 167), some (vi a1), some (vi a2), some (vi a3)] [] w Q = ((3 ≤ a3 → Q (some (vi 1)) w) ∧ (¬ (3 ≤ a3) → ((0 ≤ w32 ((w32 (10 * a3)) + a2) ∧ w32 ((w32 (10 * a3)) + a2) < 30) ∧ ((0 ≤ w32 ((w32 (10 * a1)) + a2) ∧ w32 ((w32 (10 * a1)) + a2) < 30) ∧ ((w 185 (w32 ((w32 (10 * a1)) + a2)) < w 185 (w32 ((w32 (10 * a3)) + a2)) → T d 196 57 [some (vr 167), some (vi a1), some (vi a2), some (vi a3)] [] w Q) ∧ (¬ (w 185 (w32 ((w32 (10 * a1)) + a2)) < w 185 (w32 ((w32 (10 * a3)) + a2))) → ((0 ≤ w32 ((w32 (10 * a1)) + a3) ∧ w32 ((w32 (10 * a1)) + a3) < 30) ∧ ((0 ≤ w32 ((w32 (10 * a1)) + a2) ∧ w32 ((w32 (10 * a1)) + a2) < 30) ∧ ((w 186 (w32 ((w32 (10 * a1)) + a3)) ≤ w 186 (w32 ((w32 (10 * a1)) + a2)) → T d 196 2 [some (vr 167), some (vi a1), some (vi a2), some (vi (w32 (a3 + 1)))] [] w Q) ∧ (¬ (w 186 (w32 ((w32 (10 * a1)) + a3)) ≤ w 186 (w32 ((w32 (10 * a1)) + a2))) → T d 196 57 [some (vr 167), some (vi a1), some (vi a2), some (vi a3)] [] w Q)))))))))) := by
  rw [T_iload_3 c196_2, T_sipush c196_3, T_icmp_ge 65 c196_4 rfl, T_sipush c196_65, T_iretz c196_66 (by decide +kernel), T_aload_0 c196_7, T_getR 12 30 30 c196_8 rfl rfl rfl rfl, rf_167_30, T_sipush c196_11, T_iload_3 c196_13, T_imul c196_14, T_iload_2 c196_15, T_iadd c196_16, T_iald c196_17, T_aload_0 c196_18, T_getR 12 30 30 c196_19 rfl rfl rfl rfl, rf_167_30, T_sipush c196_22, T_iload_1 c196_24, T_imul c196_25, T_iload_2 c196_26, T_iadd c196_27, T_iald c196_28, T_icmp_gt 57 c196_29 rfl, T_aload_0 c196_32, T_getR 12 31 31 c196_33 rfl rfl rfl rfl, rf_167_31, T_sipush c196_36, T_iload_1 c196_38, T_imul c196_39, T_iload_3 c196_40, T_iadd c196_41, T_iald c196_42, T_aload_0 c196_43, T_getR 12 31 31 c196_44 rfl rfl rfl rfl, rf_167_31, T_sipush c196_47, T_iload_1 c196_49, T_imul c196_50, T_iload_2 c196_51, T_iadd c196_52, T_iald c196_53, T_icmp_le 59 c196_54 rfl, T_iinc_3 c196_59, T_goto 2 c196_62 rfl]
  all_goals try simp only [Int.reduceToNat, lay_167, ld_185, ld_186, true_and, Nat.reduceAdd, eq_self_iff_true, zero_eq_1, one_eq_0, true_or, or_true]
theorem g196_57 {d : Nat} {x0 x1 x2 x3 : Option aV} {w : aW} {Q : Option aV → aW → Prop} : T d 196 57 [x0, x1, x2, x3] [] w Q = Q (some (vi 0)) w := by
  rw [T_sipush c196_57, T_iretz c196_58 (by decide +kernel)]
  all_goals try simp only [true_and, Nat.reduceAdd, eq_self_iff_true, zero_eq_1, one_eq_0, true_or, or_true]
/-! 197: StringHands$Follow.otherwiseBehind.(II)I -/
theorem c197_0 : cd 197 0 = some (.sipush 0, 1) := by decide +kernel
theorem c197_1 : cd 197 1 = some (.istore 3, 1) := by decide +kernel
theorem c197_2 : cd 197 2 = some (.iload 3, 1) := by decide +kernel
theorem c197_3 : cd 197 3 = some (.aload 0, 1) := by decide +kernel
theorem c197_4 : cd 197 4 = some (.getfield 0, 3) := by decide +kernel
theorem c197_7 : cd 197 7 = some (.if_icmp .ge 23, 3) := by decide +kernel
theorem c197_10 : cd 197 10 = some (.aload 0, 1) := by decide +kernel
theorem c197_11 : cd 197 11 = some (.getfield 22, 3) := by decide +kernel
theorem c197_14 : cd 197 14 = some (.iload 3, 1) := by decide +kernel
theorem c197_15 : cd 197 15 = some (.iload 3, 1) := by decide +kernel
theorem c197_16 : cd 197 16 = some (.iastore, 1) := by decide +kernel
theorem c197_17 : cd 197 17 = some (.iinc 3 1, 3) := by decide +kernel
theorem c197_20 : cd 197 20 = some (.goto 2, 3) := by decide +kernel
theorem c197_23 : cd 197 23 = some (.sipush 0, 1) := by decide +kernel
theorem c197_24 : cd 197 24 = some (.istore 3, 1) := by decide +kernel
theorem c197_25 : cd 197 25 = some (.iload 3, 1) := by decide +kernel
theorem c197_26 : cd 197 26 = some (.iload 2, 1) := by decide +kernel
theorem c197_27 : cd 197 27 = some (.if_icmp .ge 73, 3) := by decide +kernel
theorem c197_30 : cd 197 30 = some (.sipush 0, 1) := by decide +kernel
theorem c197_31 : cd 197 31 = some (.istore 4, 2) := by decide +kernel
theorem c197_33 : cd 197 33 = some (.iload 4, 2) := by decide +kernel
theorem c197_35 : cd 197 35 = some (.aload 0, 1) := by decide +kernel
theorem c197_36 : cd 197 36 = some (.getfield 0, 3) := by decide +kernel
theorem c197_39 : cd 197 39 = some (.if_icmp .ge 67, 3) := by decide +kernel
theorem c197_42 : cd 197 42 = some (.aload 0, 1) := by decide +kernel
theorem c197_43 : cd 197 43 = some (.getfield 22, 3) := by decide +kernel
theorem c197_46 : cd 197 46 = some (.iload 4, 2) := by decide +kernel
theorem c197_48 : cd 197 48 = some (.aload 0, 1) := by decide +kernel
theorem c197_49 : cd 197 49 = some (.getfield 6, 3) := by decide +kernel
theorem c197_52 : cd 197 52 = some (.aload 0, 1) := by decide +kernel
theorem c197_53 : cd 197 53 = some (.getfield 22, 3) := by decide +kernel
theorem c197_56 : cd 197 56 = some (.iload 4, 2) := by decide +kernel
theorem c197_58 : cd 197 58 = some (.iaload, 1) := by decide +kernel
theorem c197_59 : cd 197 59 = some (.iaload, 1) := by decide +kernel
theorem c197_60 : cd 197 60 = some (.iastore, 1) := by decide +kernel
theorem c197_61 : cd 197 61 = some (.iinc 4 1, 3) := by decide +kernel
theorem c197_64 : cd 197 64 = some (.goto 33, 3) := by decide +kernel
theorem c197_67 : cd 197 67 = some (.iinc 3 1, 3) := by decide +kernel
theorem c197_70 : cd 197 70 = some (.goto 25, 3) := by decide +kernel
theorem c197_73 : cd 197 73 = some (.sipush 0, 1) := by decide +kernel
theorem c197_74 : cd 197 74 = some (.istore 3, 1) := by decide +kernel
theorem c197_75 : cd 197 75 = some (.sipush 0, 1) := by decide +kernel
theorem c197_76 : cd 197 76 = some (.istore 4, 2) := by decide +kernel
theorem c197_78 : cd 197 78 = some (.iload 4, 2) := by decide +kernel
theorem c197_80 : cd 197 80 = some (.aload 0, 1) := by decide +kernel
theorem c197_81 : cd 197 81 = some (.getfield 0, 3) := by decide +kernel
theorem c197_84 : cd 197 84 = some (.if_icmp .ge 128, 3) := by decide +kernel
theorem c197_87 : cd 197 87 = some (.iload 4, 2) := by decide +kernel
theorem c197_89 : cd 197 89 = some (.iload 1, 1) := by decide +kernel
theorem c197_90 : cd 197 90 = some (.ixor, 1) := by decide +kernel
theorem c197_91 : cd 197 91 = some (.istore 5, 2) := by decide +kernel
theorem c197_93 : cd 197 93 = some (.iload 5, 2) := by decide +kernel
theorem c197_95 : cd 197 95 = some (.aload 0, 1) := by decide +kernel
theorem c197_96 : cd 197 96 = some (.getfield 0, 3) := by decide +kernel
theorem c197_99 : cd 197 99 = some (.if_icmp .ge 122, 3) := by decide +kernel
theorem c197_102 : cd 197 102 = some (.aload 0, 1) := by decide +kernel
theorem c197_103 : cd 197 103 = some (.getfield 22, 3) := by decide +kernel
theorem c197_106 : cd 197 106 = some (.iload 4, 2) := by decide +kernel
theorem c197_108 : cd 197 108 = some (.iaload, 1) := by decide +kernel
theorem c197_109 : cd 197 109 = some (.aload 0, 1) := by decide +kernel
theorem c197_110 : cd 197 110 = some (.getfield 22, 3) := by decide +kernel
theorem c197_113 : cd 197 113 = some (.iload 5, 2) := by decide +kernel
theorem c197_115 : cd 197 115 = some (.iaload, 1) := by decide +kernel
theorem c197_116 : cd 197 116 = some (.if_icmp .eq 122, 3) := by decide +kernel
theorem c197_119 : cd 197 119 = some (.iinc 3 1, 3) := by decide +kernel
theorem c197_122 : cd 197 122 = some (.iinc 4 1, 3) := by decide +kernel
theorem c197_125 : cd 197 125 = some (.goto 78, 3) := by decide +kernel
theorem c197_128 : cd 197 128 = some (.iload 3, 1) := by decide +kernel
theorem c197_129 : cd 197 129 = some (.ireturn, 1) := by decide +kernel
theorem g197_0 {d : Nat} {x0 x1 x2 x3 x4 x5 : Option aV} {w : aW} {Q : Option aV → aW → Prop} : T d 197 0 [x0, x1, x2, x3, x4, x5] [] w Q = T d 197 2 [x0, x1, x2, some (vi 0), x4, x5] [] w Q := by
  rw [T_sipush c197_0, T_istore_3 c197_1]
  all_goals try simp only [true_and, Nat.reduceAdd, eq_self_iff_true]
theorem g197_2 {d : Nat} {a3 : Int} {x1 x2 x4 x5 : Option aV} {w : aW} {Q : Option aV → aW → Prop} : T d 197 2 [some (vr 19), x1, x2, some (vi a3), x4, x5] [] w Q = ((w 19 0 ≤ a3 → T d 197 25 [some (vr 19), x1, x2, some (vi 0), x4, x5] [] w Q) ∧ (¬ (w 19 0 ≤ a3) → ((0 ≤ a3 ∧ a3 < 1024) ∧ T d 197 2 [some (vr 19), x1, x2, some (vi (w32 (a3 + 1))), x4, x5] [] (iup w 24 a3 a3) Q))) := by
  rw [T_iload_3 c197_2, T_aload_0 c197_3, T_getI 0 0 0 c197_4 rfl rfl rfl rfl, T_icmp_ge 23 c197_7 rfl, T_sipush c197_23, T_istore_3 c197_24, T_aload_0 c197_10, T_getR 0 5 5 c197_11 rfl rfl rfl rfl, rf_19_5, T_iload_3 c197_14, T_iload_3 c197_15, T_iast c197_16, T_iinc_3 c197_17, T_goto 2 c197_20 rfl]
  all_goals try simp only [Int.reduceToNat, ia0_24, lay_19, true_and, Nat.reduceAdd, eq_self_iff_true]
theorem g197_25 {d : Nat} {a2 a3 : Int} {x0 x1 x4 x5 : Option aV} {w : aW} {Q : Option aV → aW → Prop} : T d 197 25 [x0, x1, some (vi a2), some (vi a3), x4, x5] [] w Q = ((a2 ≤ a3 → T d 197 78 [x0, x1, some (vi a2), some (vi 0), some (vi 0), x5] [] w Q) ∧ (¬ (a2 ≤ a3) → T d 197 33 [x0, x1, some (vi a2), some (vi a3), some (vi 0), x5] [] w Q)) := by
  rw [T_iload_3 c197_25, T_iload_2 c197_26, T_icmp_ge 73 c197_27 rfl, T_sipush c197_73, T_istore_3 c197_74, T_sipush c197_75, T_istore_4 c197_76, T_sipush c197_30, T_istore_4 c197_31]
  all_goals try simp only [Int.reduceToNat, true_and, Nat.reduceAdd, eq_self_iff_true]
theorem g197_33 {d : Nat} {a3 a4 : Int} {x1 x2 x5 : Option aV} {w : aW} {Q : Option aV → aW → Prop} : T d 197 33 [some (vr 19), x1, x2, some (vi a3), some (vi a4), x5] [] w Q = ((w 19 0 ≤ a4 → T d 197 25 [some (vr 19), x1, x2, some (vi (w32 (a3 + 1))), some (vi a4), x5] [] w Q) ∧ (¬ (w 19 0 ≤ a4) → ((0 ≤ a4 ∧ a4 < 1024) ∧ ((0 ≤ w 24 a4 ∧ w 24 a4 < 1024) ∧ ((0 ≤ a4 ∧ a4 < 1024) ∧ T d 197 33 [some (vr 19), x1, x2, some (vi a3), some (vi (w32 (a4 + 1))), x5] [] (iup w 24 a4 (w 20 (w 24 a4))) Q))))) := by
  rw [T_iload_4 c197_33, T_aload_0 c197_35, T_getI 0 0 0 c197_36 rfl rfl rfl rfl, T_icmp_ge 67 c197_39 rfl, T_iinc_3 c197_67, T_goto 25 c197_70 rfl, T_aload_0 c197_42, T_getR 0 5 5 c197_43 rfl rfl rfl rfl, rf_19_5, T_iload_4 c197_46, T_aload_0 c197_48, T_getR 0 1 1 c197_49 rfl rfl rfl rfl, rf_19_1, T_aload_0 c197_52, T_getR 0 5 5 c197_53 rfl rfl rfl rfl, rf_19_5, T_iload_4 c197_56, T_iald c197_58, T_iald c197_59, T_iast c197_60, T_iinc_4 c197_61, T_goto 33 c197_64 rfl]
  all_goals try simp only [Int.reduceToNat, ia0_24, lay_19, ld_20, ld_24, true_and, Nat.reduceAdd, eq_self_iff_true]
theorem g197_78 {d : Nat} {a1 a3 a4 : Int} {x2 x5 : Option aV} {w : aW} {Q : Option aV → aW → Prop} : T d 197 78 [some (vr 19), some (vi a1), x2, some (vi a3), some (vi a4), x5] [] w Q = ((w 19 0 ≤ a4 → Q (some (vi a3)) w) ∧ (¬ (w 19 0 ≤ a4) → ((w 19 0 ≤ jxor a4 a1 → T d 197 122 [some (vr 19), some (vi a1), x2, some (vi a3), some (vi a4), some (vi (jxor a4 a1))] [] w Q) ∧ (¬ (w 19 0 ≤ jxor a4 a1) → ((0 ≤ a4 ∧ a4 < 1024) ∧ ((0 ≤ jxor a4 a1 ∧ jxor a4 a1 < 1024) ∧ ((w 24 a4 = w 24 (jxor a4 a1) → T d 197 122 [some (vr 19), some (vi a1), x2, some (vi a3), some (vi a4), some (vi (jxor a4 a1))] [] w Q) ∧ (¬ (w 24 a4 = w 24 (jxor a4 a1)) → T d 197 122 [some (vr 19), some (vi a1), x2, some (vi (w32 (a3 + 1))), some (vi a4), some (vi (jxor a4 a1))] [] w Q)))))))) := by
  rw [T_iload_4 c197_78, T_aload_0 c197_80, T_getI 0 0 0 c197_81 rfl rfl rfl rfl, T_icmp_ge 128 c197_84 rfl, T_iload_3 c197_128, T_ireti c197_129 (by decide +kernel), T_iload_4 c197_87, T_iload_1 c197_89, T_ixor c197_90, T_istore_5 c197_91, T_iload_5 c197_93, T_aload_0 c197_95, T_getI 0 0 0 c197_96 rfl rfl rfl rfl, T_icmp_ge 122 c197_99 rfl, T_aload_0 c197_102, T_getR 0 5 5 c197_103 rfl rfl rfl rfl, rf_19_5, T_iload_4 c197_106, T_iald c197_108, T_aload_0 c197_109, T_getR 0 5 5 c197_110 rfl rfl rfl rfl, rf_19_5, T_iload_5 c197_113, T_iald c197_115, T_icmp_eq 122 c197_116 rfl, T_iinc_3 c197_119]
  all_goals try simp only [Int.reduceToNat, lay_19, ld_24, true_and, Nat.reduceAdd, eq_self_iff_true]
theorem g197_122 {d : Nat} {a4 : Int} {x0 x1 x2 x3 x5 : Option aV} {w : aW} {Q : Option aV → aW → Prop} : T d 197 122 [x0, x1, x2, x3, some (vi a4), x5] [] w Q = T d 197 78 [x0, x1, x2, x3, some (vi (w32 (a4 + 1))), x5] [] w Q := by
  rw [T_iinc_4 c197_122, T_goto 78 c197_125 rfl]
  all_goals try simp only [true_and, Nat.reduceAdd, eq_self_iff_true]
/-! 198: StringHands.readFilm.(II)I -/
theorem c198_0 : cd 198 0 = some (.iload 1, 1) := by decide +kernel
theorem c198_1 : cd 198 1 = some (.invokestatic 147, 3) := by decide +kernel
theorem c198_4 : cd 198 4 = some (.ifCond .eq 15, 3) := by decide +kernel
theorem c198_7 : cd 198 7 = some (.aload 0, 1) := by decide +kernel
theorem c198_8 : cd 198 8 = some (.iload 2, 1) := by decide +kernel
theorem c198_9 : cd 198 9 = some (.invokevirtual 116, 3) := by decide +kernel
theorem c198_12 : cd 198 12 = some (.ifCond .ne 18, 3) := by decide +kernel
theorem c198_15 : cd 198 15 = some (.sipush (-2), 2) := by decide +kernel
theorem c198_17 : cd 198 17 = some (.ireturn, 1) := by decide +kernel
theorem c198_18 : cd 198 18 = some (.aload 0, 1) := by decide +kernel
theorem c198_19 : cd 198 19 = some (.getfield 2870, 3) := by decide +kernel
theorem c198_22 : cd 198 22 = some (.iload 1, 1) := by decide +kernel
theorem c198_23 : cd 198 23 = some (.aaload, 1) := by decide +kernel
theorem c198_24 : cd 198 24 = some (.astore 3, 1) := by decide +kernel
theorem c198_25 : cd 198 25 = some (.aload 3, 1) := by decide +kernel
theorem c198_26 : cd 198 26 = some (.invokevirtual 148, 3) := by decide +kernel
theorem c198_29 : cd 198 29 = some (.ifCond .eq 35, 3) := by decide +kernel
theorem c198_32 : cd 198 32 = some (.sipush (-6), 2) := by decide +kernel
theorem c198_34 : cd 198 34 = some (.ireturn, 1) := by decide +kernel
theorem c198_35 : cd 198 35 = some (.aload 3, 1) := by decide +kernel
theorem c198_36 : cd 198 36 = some (.getfield 768, 3) := by decide +kernel
theorem c198_39 : cd 198 39 = some (.sipush 2, 1) := by decide +kernel
theorem c198_40 : cd 198 40 = some (.if_icmp .lt 52, 3) := by decide +kernel
theorem c198_43 : cd 198 43 = some (.aload 3, 1) := by decide +kernel
theorem c198_44 : cd 198 44 = some (.getfield 768, 3) := by decide +kernel
theorem c198_47 : cd 198 47 = some (.sipush 30, 2) := by decide +kernel
theorem c198_49 : cd 198 49 = some (.if_icmp .le 55, 3) := by decide +kernel
theorem c198_52 : cd 198 52 = some (.sipush (-4), 2) := by decide +kernel
theorem c198_54 : cd 198 54 = some (.ireturn, 1) := by decide +kernel
theorem c198_55 : cd 198 55 = some (.aload 0, 1) := by decide +kernel
theorem c198_56 : cd 198 56 = some (.getfield 2846, 3) := by decide +kernel
theorem c198_59 : cd 198 59 = some (.aload 3, 1) := by decide +kernel
theorem c198_60 : cd 198 60 = some (.aload 0, 1) := by decide +kernel
theorem c198_61 : cd 198 61 = some (.getfield 2850, 3) := by decide +kernel
theorem c198_64 : cd 198 64 = some (.invokevirtual 190, 3) := by decide +kernel
theorem c198_67 : cd 198 67 = some (.invokevirtual 262, 3) := by decide +kernel
theorem c198_70 : cd 198 70 = some (.ifCond .ne 76, 3) := by decide +kernel
theorem c198_73 : cd 198 73 = some (.sipush (-3), 2) := by decide +kernel
theorem c198_75 : cd 198 75 = some (.ireturn, 1) := by decide +kernel
theorem c198_76 : cd 198 76 = some (.aload 0, 1) := by decide +kernel
theorem c198_77 : cd 198 77 = some (.getfield 2846, 3) := by decide +kernel
theorem c198_80 : cd 198 80 = some (.aload 0, 1) := by decide +kernel
theorem c198_81 : cd 198 81 = some (.getfield 2850, 3) := by decide +kernel
theorem c198_84 : cd 198 84 = some (.invokevirtual 190, 3) := by decide +kernel
theorem c198_87 : cd 198 87 = some (.iload 2, 1) := by decide +kernel
theorem c198_88 : cd 198 88 = some (.invokevirtual 263, 3) := by decide +kernel
theorem c198_91 : cd 198 91 = some (.sipush 0, 1) := by decide +kernel
theorem c198_92 : cd 198 92 = some (.ireturn, 1) := by decide +kernel
theorem g198_0 {d : Nat} {a1 : Int} {x0 x2 x3 : Option aV} {w : aW} {Q : Option aV → aW → Prop} : T (d + 1) 198 0 [x0, some (vi a1), x2, x3] [] w Q = T d 147 0 [some (vi a1)] [] w (fun r w1 => T (d + 1) 198 4 [x0, some (vi a1), x2, x3] (r.toList ++ []) w1 Q) := by
  rw [T_iload_1 c198_0, T_inv (es := [some (vi a1)]) (st := [vi a1]) (ks := [0]) (n := 1) (as := [vi a1]) (rest := []) c198_1 (by decide +kernel) (by decide +kernel) rfl rfl (Nat.le_of_ble_eq_true rfl)]
  all_goals try simp only [true_and, Nat.reduceAdd, eq_self_iff_true]
theorem g198_4 {d : Nat} {a2 s0 : Int} {x1 x3 : Option aV} {w : aW} {Q : Option aV → aW → Prop} : T (d + 1) 198 4 [some (vr 0), x1, some (vi a2), x3] [vi s0] w Q = ((s0 = 0 → T (d + 1) 198 15 [some (vr 0), x1, some (vi a2), x3] [] w Q) ∧ (¬ (s0 = 0) → T d 116 0 [some (vr 0), some (vi a2)] [] w (fun r w1 => T (d + 1) 198 12 [some (vr 0), x1, some (vi a2), x3] (r.toList ++ []) w1 Q))) := by
  rw [T_if_eq 15 c198_4 rfl, T_aload_0 c198_7, T_iload_2 c198_8, T_invv (es := [some (vr 0), some (vi a2)]) (st := [vi a2, vr 0]) (ks := [2, 0]) (n := 2) (c := 11) (k := 0) (as := [vi a2]) (rest := []) c198_9 (by decide +kernel) (by decide +kernel) (by decide +kernel) (by decide) rfl rfl (Nat.le_of_ble_eq_true rfl)]
  all_goals try simp only [Int.reduceToNat, lay_0, true_and, Nat.reduceAdd, eq_self_iff_true]
theorem g198_12 {d : Nat} {a1 s0 : Int} {x2 x3 : Option aV} {w : aW} {Q : Option aV → aW → Prop} : T (d + 1) 198 12 [some (vr 0), some (vi a1), x2, x3] [vi s0] w Q = ((¬ s0 = 0 → ((isRA 88 a1 = true ∧ (88 = 87 → (w 87 a1).toNat < 191)) ∧ (lay (rAt w 88 a1) = (3, 0) ∧ T d 148 0 [some (vr (rAt w 88 a1))] [] w (fun r w1 => T (d + 1) 198 29 [some (vr 0), some (vi a1), x2, some (vr (rAt w 88 a1))] (r.toList ++ []) w1 Q)))) ∧ (¬ (¬ s0 = 0) → T (d + 1) 198 15 [some (vr 0), some (vi a1), x2, x3] [] w Q)) := by
  rw [T_if_ne 18 c198_12 rfl, T_aload_0 c198_18, T_getR 11 13 13 c198_19 rfl rfl rfl rfl, rf_0_13, T_iload_1 c198_22, T_aald c198_23, T_astore_3 c198_24, T_aload_3 c198_25, T_invv (es := [some (vr (rAt w 88 a1))]) (st := [vr (rAt w 88 a1)]) (ks := [2]) (n := 1) (c := 3) (k := (rAt w 88 a1)) (as := []) (rest := []) c198_26 (by decide +kernel) (by decide +kernel) (by decide +kernel) (by decide) rfl rfl (Nat.le_of_ble_eq_true rfl)]
  all_goals try simp only [Int.reduceToNat, lay_0, true_and, Nat.reduceAdd, eq_self_iff_true]
theorem g198_15 {d : Nat} {x0 x1 x2 x3 : Option aV} {w : aW} {Q : Option aV → aW → Prop} : T d 198 15 [x0, x1, x2, x3] [] w Q = Q (some (vi (-2))) w := by
  rw [T_sipush c198_15, T_ireti c198_17 (by decide +kernel)]
  all_goals try simp only [true_and, Nat.reduceAdd, eq_self_iff_true]
theorem g198_29 {d : Nat} {s0 : Int} {r3 : Nat} {x1 x2 : Option aV} {w : aW} {Q : Option aV → aW → Prop} : T (d + 1) 198 29 [some (vr 0), x1, x2, some (vr r3)] [vi s0] w Q = ((s0 = 0 → (lay r3 = (3, 0) ∧ ((w r3 0 < 2 → T (d + 1) 198 52 [some (vr 0), x1, x2, some (vr r3)] [] w Q) ∧ (¬ (w r3 0 < 2) → (lay r3 = (3, 0) ∧ ((w r3 0 ≤ 30 → T d 190 0 [some (vr 69)] [] w (fun r w1 => T (d + 1) 198 67 [some (vr 0), x1, x2, some (vr r3)] (r.toList ++ [vr r3, vr 64]) w1 Q)) ∧ (¬ (w r3 0 ≤ 30) → T (d + 1) 198 52 [some (vr 0), x1, x2, some (vr r3)] [] w Q))))))) ∧ (¬ (s0 = 0) → Q (some (vi (-6))) w)) := by
  rw [T_if_eq 35 c198_29 rfl, T_aload_3 c198_35, T_getI 3 0 0 c198_36 rfl rfl rfl rfl, T_sipush c198_39, T_icmp_lt 52 c198_40 rfl, T_aload_3 c198_43, T_getI 3 0 0 c198_44 rfl rfl rfl rfl, T_sipush c198_47, T_icmp_le 55 c198_49 rfl, T_aload_0 c198_55, T_getR 11 7 7 c198_56 rfl rfl rfl rfl, rf_0_7, T_aload_3 c198_59, T_aload_0 c198_60, T_getR 11 8 8 c198_61 rfl rfl rfl rfl, rf_0_8, T_invv (es := [some (vr 69)]) (st := [vr 69, vr r3, vr 64]) (ks := [2]) (n := 1) (c := 8) (k := 69) (as := []) (rest := [vr r3, vr 64]) c198_64 (by decide +kernel) (by decide +kernel) (by decide +kernel) (by decide) rfl rfl (Nat.le_of_ble_eq_true rfl), T_sipush c198_32, T_ireti c198_34 (by decide +kernel)]
  all_goals try simp only [Int.reduceToNat, lay_0, lay_69, true_and, Nat.reduceAdd, eq_self_iff_true]
theorem g198_52 {d : Nat} {x0 x1 x2 x3 : Option aV} {w : aW} {Q : Option aV → aW → Prop} : T d 198 52 [x0, x1, x2, x3] [] w Q = Q (some (vi (-4))) w := by
  rw [T_sipush c198_52, T_ireti c198_54 (by decide +kernel)]
  all_goals try simp only [true_and, Nat.reduceAdd, eq_self_iff_true]
theorem g198_67 {d : Nat} {s2 : Int} {s0 s1 : Nat} {x0 x1 x2 x3 : Option aV} {w : aW} {Q : Option aV → aW → Prop} : T (d + 1) 198 67 [x0, x1, x2, x3] [vi s2, vr s1, vr s0] w Q = (lay s0 = (1, 0) ∧ T d 262 0 [some (vr s0), some (vr s1), some (vi s2), none] [] w (fun r w1 => T (d + 1) 198 70 [x0, x1, x2, x3] (r.toList ++ []) w1 Q)) := by
  rw [T_invv (es := [some (vr s0), some (vr s1), some (vi s2), none]) (st := [vi s2, vr s1, vr s0]) (ks := [2, 2, 0]) (n := 4) (c := 1) (k := s0) (as := [vr s1, vi s2]) (rest := []) c198_67 (by decide +kernel) (by decide +kernel) (by decide +kernel) (by decide) rfl rfl (Nat.le_of_ble_eq_true rfl)]
  all_goals try simp only [true_and, Nat.reduceAdd, eq_self_iff_true]
theorem g198_70 {d : Nat} {s0 : Int} {x1 x2 x3 : Option aV} {w : aW} {Q : Option aV → aW → Prop} : T (d + 1) 198 70 [some (vr 0), x1, x2, x3] [vi s0] w Q = ((¬ s0 = 0 → T d 190 0 [some (vr 69)] [] w (fun r w1 => T (d + 1) 198 87 [some (vr 0), x1, x2, x3] (r.toList ++ [vr 64]) w1 Q)) ∧ (¬ (¬ s0 = 0) → Q (some (vi (-3))) w)) := by
  rw [T_if_ne 76 c198_70 rfl, T_aload_0 c198_76, T_getR 11 7 7 c198_77 rfl rfl rfl rfl, rf_0_7, T_aload_0 c198_80, T_getR 11 8 8 c198_81 rfl rfl rfl rfl, rf_0_8, T_invv (es := [some (vr 69)]) (st := [vr 69, vr 64]) (ks := [2]) (n := 1) (c := 8) (k := 69) (as := []) (rest := [vr 64]) c198_84 (by decide +kernel) (by decide +kernel) (by decide +kernel) (by decide) rfl rfl (Nat.le_of_ble_eq_true rfl), T_sipush c198_73, T_ireti c198_75 (by decide +kernel)]
  all_goals try simp only [Int.reduceToNat, lay_0, lay_69, true_and, Nat.reduceAdd, eq_self_iff_true]
theorem g198_87 {d : Nat} {a2 s1 : Int} {s0 : Nat} {x0 x1 x3 : Option aV} {w : aW} {Q : Option aV → aW → Prop} : T (d + 1) 198 87 [x0, x1, some (vi a2), x3] [vi s1, vr s0] w Q = (lay s0 = (1, 0) ∧ T d 263 0 [some (vr s0), some (vi s1), some (vi a2), none] [] w (fun r w1 => T (d + 1) 198 91 [x0, x1, some (vi a2), x3] (r.toList ++ []) w1 Q)) := by
  rw [T_iload_2 c198_87, T_invv (es := [some (vr s0), some (vi s1), some (vi a2), none]) (st := [vi a2, vi s1, vr s0]) (ks := [2, 0, 0]) (n := 4) (c := 1) (k := s0) (as := [vi s1, vi a2]) (rest := []) c198_88 (by decide +kernel) (by decide +kernel) (by decide +kernel) (by decide) rfl rfl (Nat.le_of_ble_eq_true rfl)]
  all_goals try simp only [true_and, Nat.reduceAdd, eq_self_iff_true]
theorem g198_91 {d : Nat} {x0 x1 x2 x3 : Option aV} {w : aW} {Q : Option aV → aW → Prop} : T d 198 91 [x0, x1, x2, x3] [] w Q = Q (some (vi 0)) w := by
  rw [T_sipush c198_91, T_ireti c198_92 (by decide +kernel)]
  all_goals try simp only [true_and, Nat.reduceAdd, eq_self_iff_true]
/-! 199: StringHandsModel.noFilm.(II)I -/
theorem c199_0 : cd 199 0 = some (.iload 1, 1) := by decide +kernel
theorem c199_1 : cd 199 1 = some (.i2l, 1) := by decide +kernel
theorem c199_2 : cd 199 2 = some (.bipush 0, 1) := by decide +kernel
theorem c199_3 : cd 199 3 = some (.bipush 3, 3) := by decide +kernel
theorem c199_6 : cd 199 6 = some (.invokestatic 105, 3) := by decide +kernel
theorem c199_9 : cd 199 9 = some (.ifCond .eq 21, 3) := by decide +kernel
theorem c199_12 : cd 199 12 = some (.aload 0, 1) := by decide +kernel
theorem c199_13 : cd 199 13 = some (.iload 2, 1) := by decide +kernel
theorem c199_14 : cd 199 14 = some (.i2l, 1) := by decide +kernel
theorem c199_15 : cd 199 15 = some (.invokevirtual 121, 3) := by decide +kernel
theorem c199_18 : cd 199 18 = some (.ifCond .ne 24, 3) := by decide +kernel
theorem c199_21 : cd 199 21 = some (.sipush (-2), 2) := by decide +kernel
theorem c199_23 : cd 199 23 = some (.ireturn, 1) := by decide +kernel
theorem c199_24 : cd 199 24 = some (.aload 0, 1) := by decide +kernel
theorem c199_25 : cd 199 25 = some (.getfield 3210, 3) := by decide +kernel
theorem c199_28 : cd 199 28 = some (.iload 1, 1) := by decide +kernel
theorem c199_29 : cd 199 29 = some (.iaload, 1) := by decide +kernel
theorem c199_30 : cd 199 30 = some (.sipush (-1), 1) := by decide +kernel
theorem c199_31 : cd 199 31 = some (.if_icmp .ne 37, 3) := by decide +kernel
theorem c199_34 : cd 199 34 = some (.sipush (-6), 2) := by decide +kernel
theorem c199_36 : cd 199 36 = some (.ireturn, 1) := by decide +kernel
theorem c199_37 : cd 199 37 = some (.aload 0, 1) := by decide +kernel
theorem c199_38 : cd 199 38 = some (.getfield 3214, 3) := by decide +kernel
theorem c199_41 : cd 199 41 = some (.iload 1, 1) := by decide +kernel
theorem c199_42 : cd 199 42 = some (.iaload, 1) := by decide +kernel
theorem c199_43 : cd 199 43 = some (.i2l, 1) := by decide +kernel
theorem c199_44 : cd 199 44 = some (.bipush 2, 3) := by decide +kernel
theorem c199_47 : cd 199 47 = some (.bipush 30, 3) := by decide +kernel
theorem c199_50 : cd 199 50 = some (.invokestatic 105, 3) := by decide +kernel
theorem c199_53 : cd 199 53 = some (.ifCond .ne 59, 3) := by decide +kernel
theorem c199_56 : cd 199 56 = some (.sipush (-4), 2) := by decide +kernel
theorem c199_58 : cd 199 58 = some (.ireturn, 1) := by decide +kernel
theorem c199_59 : cd 199 59 = some (.sipush 0, 1) := by decide +kernel
theorem c199_60 : cd 199 60 = some (.istore 3, 1) := by decide +kernel
theorem c199_61 : cd 199 61 = some (.iload 3, 1) := by decide +kernel
theorem c199_62 : cd 199 62 = some (.aload 0, 1) := by decide +kernel
theorem c199_63 : cd 199 63 = some (.getfield 3214, 3) := by decide +kernel
theorem c199_66 : cd 199 66 = some (.iload 1, 1) := by decide +kernel
theorem c199_67 : cd 199 67 = some (.iaload, 1) := by decide +kernel
theorem c199_68 : cd 199 68 = some (.if_icmp .ge 98, 3) := by decide +kernel
theorem c199_71 : cd 199 71 = some (.aload 0, 1) := by decide +kernel
theorem c199_72 : cd 199 72 = some (.aload 0, 1) := by decide +kernel
theorem c199_73 : cd 199 73 = some (.getfield 3218, 3) := by decide +kernel
theorem c199_76 : cd 199 76 = some (.sipush 40, 2) := by decide +kernel
theorem c199_78 : cd 199 78 = some (.iload 1, 1) := by decide +kernel
theorem c199_79 : cd 199 79 = some (.imul, 1) := by decide +kernel
theorem c199_80 : cd 199 80 = some (.iload 3, 1) := by decide +kernel
theorem c199_81 : cd 199 81 = some (.iadd, 1) := by decide +kernel
theorem c199_82 : cd 199 82 = some (.laload, 1) := by decide +kernel
theorem c199_83 : cd 199 83 = some (.invokevirtual 133, 3) := by decide +kernel
theorem c199_86 : cd 199 86 = some (.ifCond .ne 92, 3) := by decide +kernel
theorem c199_89 : cd 199 89 = some (.sipush (-3), 2) := by decide +kernel
theorem c199_91 : cd 199 91 = some (.ireturn, 1) := by decide +kernel
theorem c199_92 : cd 199 92 = some (.iinc 3 1, 3) := by decide +kernel
theorem c199_95 : cd 199 95 = some (.goto 61, 3) := by decide +kernel
theorem c199_98 : cd 199 98 = some (.sipush 0, 1) := by decide +kernel
theorem c199_99 : cd 199 99 = some (.ireturn, 1) := by decide +kernel
theorem g199_0 {d : Nat} {a1 : Int} {x0 x2 x3 : Option aV} {w : aW} {Q : Option aV → aW → Prop} : T (d + 1) 199 0 [x0, some (vi a1), x2, x3] [] w Q = T d 105 0 [some (vl a1), none, some (vl 0), none, some (vl 3), none] [] w (fun r w1 => T (d + 1) 199 9 [x0, some (vi a1), x2, x3] (r.toList ++ []) w1 Q) := by
  rw [T_iload_1 c199_0, T_i2l c199_1, T_bipush c199_2, T_bipush c199_3, T_inv (es := [some (vl a1), none, some (vl 0), none, some (vl 3), none]) (st := [vl 3, vl 0, vl a1]) (ks := [1, 1, 1]) (n := 6) (as := [vl a1, vl 0, vl 3]) (rest := []) c199_6 (by decide +kernel) (by decide +kernel) rfl rfl (Nat.le_of_ble_eq_true rfl)]
  all_goals try simp only [true_and, Nat.reduceAdd, eq_self_iff_true]
theorem g199_9 {d : Nat} {a2 s0 : Int} {x1 x3 : Option aV} {w : aW} {Q : Option aV → aW → Prop} : T (d + 1) 199 9 [some (vr 167), x1, some (vi a2), x3] [vi s0] w Q = ((s0 = 0 → T (d + 1) 199 21 [some (vr 167), x1, some (vi a2), x3] [] w Q) ∧ (¬ (s0 = 0) → T d 121 0 [some (vr 167), some (vl a2), none] [] w (fun r w1 => T (d + 1) 199 18 [some (vr 167), x1, some (vi a2), x3] (r.toList ++ []) w1 Q))) := by
  rw [T_if_eq 21 c199_9 rfl, T_aload_0 c199_12, T_iload_2 c199_13, T_i2l c199_14, T_invv (es := [some (vr 167), some (vl a2), none]) (st := [vl a2, vr 167]) (ks := [2, 1]) (n := 3) (c := 12) (k := 167) (as := [vl a2]) (rest := []) c199_15 (by decide +kernel) (by decide +kernel) (by decide +kernel) (by decide) rfl rfl (Nat.le_of_ble_eq_true rfl)]
  all_goals try simp only [Int.reduceToNat, lay_167, true_and, Nat.reduceAdd, eq_self_iff_true]
theorem g199_18 {d : Nat} {a1 s0 : Int} {x2 x3 : Option aV} {w : aW} {Q : Option aV → aW → Prop} : T (d + 1) 199 18 [some (vr 167), some (vi a1), x2, x3] [vi s0] w Q = ((¬ s0 = 0 → ((0 ≤ a1 ∧ a1 < 4) ∧ ((¬ w 188 a1 = (-1) → ((0 ≤ a1 ∧ a1 < 4) ∧ T d 105 0 [some (vl (w 189 a1)), none, some (vl 2), none, some (vl 30), none] [] w (fun r w1 => T (d + 1) 199 53 [some (vr 167), some (vi a1), x2, x3] (r.toList ++ []) w1 Q))) ∧ (¬ (¬ w 188 a1 = (-1)) → Q (some (vi (-6))) w)))) ∧ (¬ (¬ s0 = 0) → T (d + 1) 199 21 [some (vr 167), some (vi a1), x2, x3] [] w Q)) := by
  rw [T_if_ne 24 c199_18 rfl, T_aload_0 c199_24, T_getR 12 34 34 c199_25 rfl rfl rfl rfl, rf_167_34, T_iload_1 c199_28, T_iald c199_29, T_sipush c199_30, T_icmp_ne 37 c199_31 rfl, T_aload_0 c199_37, T_getR 12 35 35 c199_38 rfl rfl rfl rfl, rf_167_35, T_iload_1 c199_41, T_iald c199_42, T_i2l c199_43, T_bipush c199_44, T_bipush c199_47, T_inv (es := [some (vl (w 189 a1)), none, some (vl 2), none, some (vl 30), none]) (st := [vl 30, vl 2, vl (w 189 a1)]) (ks := [1, 1, 1]) (n := 6) (as := [vl (w 189 a1), vl 2, vl 30]) (rest := []) c199_50 (by decide +kernel) (by decide +kernel) rfl rfl (Nat.le_of_ble_eq_true rfl), T_sipush c199_34, T_ireti c199_36 (by decide +kernel)]
  all_goals try simp only [Int.reduceToNat, lay_167, ld_188, ld_189, true_and, Nat.reduceAdd, eq_self_iff_true]
theorem g199_21 {d : Nat} {x0 x1 x2 x3 : Option aV} {w : aW} {Q : Option aV → aW → Prop} : T d 199 21 [x0, x1, x2, x3] [] w Q = Q (some (vi (-2))) w := by
  rw [T_sipush c199_21, T_ireti c199_23 (by decide +kernel)]
  all_goals try simp only [true_and, Nat.reduceAdd, eq_self_iff_true]
theorem g199_53 {d : Nat} {s0 : Int} {x0 x1 x2 x3 : Option aV} {w : aW} {Q : Option aV → aW → Prop} : T d 199 53 [x0, x1, x2, x3] [vi s0] w Q = ((¬ s0 = 0 → T d 199 61 [x0, x1, x2, some (vi 0)] [] w Q) ∧ (¬ (¬ s0 = 0) → Q (some (vi (-4))) w)) := by
  rw [T_if_ne 59 c199_53 rfl, T_sipush c199_59, T_istore_3 c199_60, T_sipush c199_56, T_ireti c199_58 (by decide +kernel)]
  all_goals try simp only [Int.reduceToNat, true_and, Nat.reduceAdd, eq_self_iff_true]
theorem g199_61 {d : Nat} {a1 a3 : Int} {x2 : Option aV} {w : aW} {Q : Option aV → aW → Prop} : T (d + 1) 199 61 [some (vr 167), some (vi a1), x2, some (vi a3)] [] w Q = ((0 ≤ a1 ∧ a1 < 4) ∧ ((w 189 a1 ≤ a3 → Q (some (vi 0)) w) ∧ (¬ (w 189 a1 ≤ a3) → ((0 ≤ w32 ((w32 (40 * a1)) + a3) ∧ w32 ((w32 (40 * a1)) + a3) < 160) ∧ T d 133 0 [some (vr 167), some (vl (w 190 (w32 ((w32 (40 * a1)) + a3)))), none] [] w (fun r w1 => T (d + 1) 199 86 [some (vr 167), some (vi a1), x2, some (vi a3)] (r.toList ++ []) w1 Q))))) := by
  rw [T_iload_3 c199_61, T_aload_0 c199_62, T_getR 12 35 35 c199_63 rfl rfl rfl rfl, rf_167_35, T_iload_1 c199_66, T_iald c199_67, T_icmp_ge 98 c199_68 rfl, T_sipush c199_98, T_ireti c199_99 (by decide +kernel), T_aload_0 c199_71, T_aload_0 c199_72, T_getR 12 36 36 c199_73 rfl rfl rfl rfl, rf_167_36, T_sipush c199_76, T_iload_1 c199_78, T_imul c199_79, T_iload_3 c199_80, T_iadd c199_81, T_lald c199_82, T_invv (es := [some (vr 167), some (vl (w 190 (w32 ((w32 (40 * a1)) + a3)))), none]) (st := [vl (w 190 (w32 ((w32 (40 * a1)) + a3))), vr 167]) (ks := [2, 1]) (n := 3) (c := 12) (k := 167) (as := [vl (w 190 (w32 ((w32 (40 * a1)) + a3)))]) (rest := []) c199_83 (by decide +kernel) (by decide +kernel) (by decide +kernel) (by decide) rfl rfl (Nat.le_of_ble_eq_true rfl)]
  all_goals try simp only [Int.reduceToNat, ia1_190, lay_167, ld_189, true_and, Nat.reduceAdd, eq_self_iff_true]
theorem g199_86 {d : Nat} {a3 s0 : Int} {x0 x1 x2 : Option aV} {w : aW} {Q : Option aV → aW → Prop} : T d 199 86 [x0, x1, x2, some (vi a3)] [vi s0] w Q = ((¬ s0 = 0 → T d 199 61 [x0, x1, x2, some (vi (w32 (a3 + 1)))] [] w Q) ∧ (¬ (¬ s0 = 0) → Q (some (vi (-3))) w)) := by
  rw [T_if_ne 92 c199_86 rfl, T_iinc_3 c199_92, T_goto 61 c199_95 rfl, T_sipush c199_89, T_ireti c199_91 (by decide +kernel)]
  all_goals try simp only [Int.reduceToNat, true_and, Nat.reduceAdd, eq_self_iff_true]
/-! 200: StringHandsModel.laysGuesses.(II)V -/
theorem c200_0 : cd 200 0 = some (.aload 0, 1) := by decide +kernel
theorem c200_1 : cd 200 1 = some (.sipush 0, 1) := by decide +kernel
theorem c200_2 : cd 200 2 = some (.putfield 3204, 3) := by decide +kernel
theorem c200_5 : cd 200 5 = some (.sipush 1, 1) := by decide +kernel
theorem c200_6 : cd 200 6 = some (.istore 3, 1) := by decide +kernel
theorem c200_7 : cd 200 7 = some (.iload 3, 1) := by decide +kernel
theorem c200_8 : cd 200 8 = some (.aload 0, 1) := by decide +kernel
theorem c200_9 : cd 200 9 = some (.invokevirtual 164, 3) := by decide +kernel
theorem c200_12 : cd 200 12 = some (.if_icmp .ge 92, 3) := by decide +kernel
theorem c200_15 : cd 200 15 = some (.iload 3, 1) := by decide +kernel
theorem c200_16 : cd 200 16 = some (.i2l, 1) := by decide +kernel
theorem c200_17 : cd 200 17 = some (.iload 2, 1) := by decide +kernel
theorem c200_18 : cd 200 18 = some (.invokestatic 230, 3) := by decide +kernel
theorem c200_21 : cd 200 21 = some (.ifCond .eq 27, 3) := by decide +kernel
theorem c200_24 : cd 200 24 = some (.goto 86, 3) := by decide +kernel
theorem c200_27 : cd 200 27 = some (.sipush 1, 1) := by decide +kernel
theorem c200_28 : cd 200 28 = some (.istore 4, 2) := by decide +kernel
theorem c200_30 : cd 200 30 = some (.iload 4, 2) := by decide +kernel
theorem c200_32 : cd 200 32 = some (.iload 3, 1) := by decide +kernel
theorem c200_33 : cd 200 33 = some (.invokestatic 134, 3) := by decide +kernel
theorem c200_36 : cd 200 36 = some (.if_icmp .gt 86, 3) := by decide +kernel
theorem c200_39 : cd 200 39 = some (.aload 0, 1) := by decide +kernel
theorem c200_40 : cd 200 40 = some (.iload 1, 1) := by decide +kernel
theorem c200_41 : cd 200 41 = some (.iload 2, 1) := by decide +kernel
theorem c200_42 : cd 200 42 = some (.iload 3, 1) := by decide +kernel
theorem c200_43 : cd 200 43 = some (.iload 4, 2) := by decide +kernel
theorem c200_45 : cd 200 45 = some (.invokevirtual 264, 3) := by decide +kernel
theorem c200_48 : cd 200 48 = some (.ifCond .ne 54, 3) := by decide +kernel
theorem c200_51 : cd 200 51 = some (.goto 80, 3) := by decide +kernel
theorem c200_54 : cd 200 54 = some (.aload 0, 1) := by decide +kernel
theorem c200_55 : cd 200 55 = some (.getfield 3202, 3) := by decide +kernel
theorem c200_58 : cd 200 58 = some (.aload 0, 1) := by decide +kernel
theorem c200_59 : cd 200 59 = some (.getfield 3204, 3) := by decide +kernel
theorem c200_62 : cd 200 62 = some (.sipush 16, 2) := by decide +kernel
theorem c200_64 : cd 200 64 = some (.iload 3, 1) := by decide +kernel
theorem c200_65 : cd 200 65 = some (.imul, 1) := by decide +kernel
theorem c200_66 : cd 200 66 = some (.iload 4, 2) := by decide +kernel
theorem c200_68 : cd 200 68 = some (.iadd, 1) := by decide +kernel
theorem c200_69 : cd 200 69 = some (.iastore, 1) := by decide +kernel
theorem c200_70 : cd 200 70 = some (.aload 0, 1) := by decide +kernel
theorem c200_71 : cd 200 71 = some (.dup, 1) := by decide +kernel
theorem c200_72 : cd 200 72 = some (.getfield 3204, 3) := by decide +kernel
theorem c200_75 : cd 200 75 = some (.sipush 1, 1) := by decide +kernel
theorem c200_76 : cd 200 76 = some (.iadd, 1) := by decide +kernel
theorem c200_77 : cd 200 77 = some (.putfield 3204, 3) := by decide +kernel
theorem c200_80 : cd 200 80 = some (.iinc 4 1, 3) := by decide +kernel
theorem c200_83 : cd 200 83 = some (.goto 30, 3) := by decide +kernel
theorem c200_86 : cd 200 86 = some (.iinc 3 1, 3) := by decide +kernel
theorem c200_89 : cd 200 89 = some (.goto 7, 3) := by decide +kernel
theorem c200_92 : cd 200 92 = some (.return_, 1) := by decide +kernel
theorem g200_0 {d : Nat} {x1 x2 x3 x4 : Option aV} {w : aW} {Q : Option aV → aW → Prop} : T d 200 0 [some (vr 167), x1, x2, x3, x4] [] w Q = T d 200 7 [some (vr 167), x1, x2, some (vi 1), x4] [] (iup w 167 33 0) Q := by
  rw [T_aload_0 c200_0, T_sipush c200_1, T_putI 12 33 33 c200_2 rfl rfl rfl rfl, T_sipush c200_5, T_istore_3 c200_6]
  all_goals try simp only [lay_167, true_and, Nat.reduceAdd, eq_self_iff_true]
theorem g200_7 {d : Nat} {a3 : Int} {x1 x2 x4 : Option aV} {w : aW} {Q : Option aV → aW → Prop} : T (d + 1) 200 7 [some (vr 167), x1, x2, some (vi a3), x4] [] w Q = T d 164 0 [some (vr 167)] [] w (fun r w1 => T (d + 1) 200 12 [some (vr 167), x1, x2, some (vi a3), x4] (r.toList ++ [vi a3]) w1 Q) := by
  rw [T_iload_3 c200_7, T_aload_0 c200_8, T_invv (es := [some (vr 167)]) (st := [vr 167, vi a3]) (ks := [2]) (n := 1) (c := 12) (k := 167) (as := []) (rest := [vi a3]) c200_9 (by decide +kernel) (by decide +kernel) (by decide +kernel) (by decide) rfl rfl (Nat.le_of_ble_eq_true rfl)]
  all_goals try simp only [lay_167, true_and, Nat.reduceAdd, eq_self_iff_true]
theorem g200_12 {d : Nat} {a2 a3 s0 s1 : Int} {x0 x1 x4 : Option aV} {w : aW} {Q : Option aV → aW → Prop} : T (d + 1) 200 12 [x0, x1, some (vi a2), some (vi a3), x4] [vi s1, vi s0] w Q = ((s1 ≤ s0 → Q none w) ∧ (¬ (s1 ≤ s0) → T d 230 0 [some (vl a3), none, some (vi a2)] [] w (fun r w1 => T (d + 1) 200 21 [x0, x1, some (vi a2), some (vi a3), x4] (r.toList ++ []) w1 Q))) := by
  rw [T_icmp_ge 92 c200_12 rfl, T_vret c200_92 (by decide +kernel), T_iload_3 c200_15, T_i2l c200_16, T_iload_2 c200_17, T_inv (es := [some (vl a3), none, some (vi a2)]) (st := [vi a2, vl a3]) (ks := [1, 0]) (n := 3) (as := [vl a3, vi a2]) (rest := []) c200_18 (by decide +kernel) (by decide +kernel) rfl rfl (Nat.le_of_ble_eq_true rfl)]
  all_goals try simp only [Int.reduceToNat, true_and, Nat.reduceAdd, eq_self_iff_true]
theorem g200_21 {d : Nat} {s0 : Int} {x0 x1 x2 x3 x4 : Option aV} {w : aW} {Q : Option aV → aW → Prop} : T d 200 21 [x0, x1, x2, x3, x4] [vi s0] w Q = ((s0 = 0 → T d 200 30 [x0, x1, x2, x3, some (vi 1)] [] w Q) ∧ (¬ (s0 = 0) → T d 200 86 [x0, x1, x2, x3, x4] [] w Q)) := by
  rw [T_if_eq 27 c200_21 rfl, T_sipush c200_27, T_istore_4 c200_28, T_goto 86 c200_24 rfl]
  all_goals try simp only [Int.reduceToNat, true_and, Nat.reduceAdd, eq_self_iff_true]
theorem g200_30 {d : Nat} {a3 a4 : Int} {x0 x1 x2 : Option aV} {w : aW} {Q : Option aV → aW → Prop} : T (d + 1) 200 30 [x0, x1, x2, some (vi a3), some (vi a4)] [] w Q = T d 134 0 [some (vi a3), none, none] [] w (fun r w1 => T (d + 1) 200 36 [x0, x1, x2, some (vi a3), some (vi a4)] (r.toList ++ [vi a4]) w1 Q) := by
  rw [T_iload_4 c200_30, T_iload_3 c200_32, T_inv (es := [some (vi a3), none, none]) (st := [vi a3, vi a4]) (ks := [0]) (n := 3) (as := [vi a3]) (rest := [vi a4]) c200_33 (by decide +kernel) (by decide +kernel) rfl rfl (Nat.le_of_ble_eq_true rfl)]
  all_goals try simp only [true_and, Nat.reduceAdd, eq_self_iff_true]
theorem g200_36 {d : Nat} {a1 a2 a3 a4 s0 s1 : Int} {w : aW} {Q : Option aV → aW → Prop} : T (d + 1) 200 36 [some (vr 167), some (vi a1), some (vi a2), some (vi a3), some (vi a4)] [vi s1, vi s0] w Q = ((s1 < s0 → T (d + 1) 200 86 [some (vr 167), some (vi a1), some (vi a2), some (vi a3), some (vi a4)] [] w Q) ∧ (¬ (s1 < s0) → T d 264 0 [some (vr 167), some (vi a1), some (vi a2), some (vi a3), some (vi a4), none, none] [] w (fun r w1 => T (d + 1) 200 48 [some (vr 167), some (vi a1), some (vi a2), some (vi a3), some (vi a4)] (r.toList ++ []) w1 Q))) := by
  rw [T_icmp_gt 86 c200_36 rfl, T_aload_0 c200_39, T_iload_1 c200_40, T_iload_2 c200_41, T_iload_3 c200_42, T_iload_4 c200_43, T_invv (es := [some (vr 167), some (vi a1), some (vi a2), some (vi a3), some (vi a4), none, none]) (st := [vi a4, vi a3, vi a2, vi a1, vr 167]) (ks := [2, 0, 0, 0, 0]) (n := 7) (c := 12) (k := 167) (as := [vi a1, vi a2, vi a3, vi a4]) (rest := []) c200_45 (by decide +kernel) (by decide +kernel) (by decide +kernel) (by decide) rfl rfl (Nat.le_of_ble_eq_true rfl)]
  all_goals try simp only [Int.reduceToNat, lay_167, true_and, Nat.reduceAdd, eq_self_iff_true]
theorem g200_48 {d : Nat} {a3 a4 s0 : Int} {x1 x2 : Option aV} {w : aW} {Q : Option aV → aW → Prop} : T d 200 48 [some (vr 167), x1, x2, some (vi a3), some (vi a4)] [vi s0] w Q = ((¬ s0 = 0 → ((0 ≤ w 167 33 ∧ w 167 33 < 2400) ∧ T d 200 80 [some (vr 167), x1, x2, some (vi a3), some (vi a4)] [] (iup (iup w 187 (w 167 33) (w32 ((w32 (16 * a3)) + a4))) 167 33 (w32 (((iup w 187 (w 167 33) (w32 ((w32 (16 * a3)) + a4))) 167 33) + 1))) Q)) ∧ (¬ (¬ s0 = 0) → T d 200 80 [some (vr 167), x1, x2, some (vi a3), some (vi a4)] [] w Q)) := by
  rw [T_if_ne 54 c200_48 rfl, T_aload_0 c200_54, T_getR 12 32 32 c200_55 rfl rfl rfl rfl, rf_167_32, T_aload_0 c200_58, T_getI 12 33 33 c200_59 rfl rfl rfl rfl, T_sipush c200_62, T_iload_3 c200_64, T_imul c200_65, T_iload_4 c200_66, T_iadd c200_68, T_iast c200_69, T_aload_0 c200_70, T_dup_r c200_71, T_getI 12 33 33 c200_72 rfl rfl rfl rfl, T_sipush c200_75, T_iadd c200_76, T_putI 12 33 33 c200_77 rfl rfl rfl rfl, T_goto 80 c200_51 rfl]
  all_goals try simp only [Int.reduceToNat, ia0_187, lay_167, true_and, Nat.reduceAdd, eq_self_iff_true]
theorem g200_80 {d : Nat} {a4 : Int} {x0 x1 x2 x3 : Option aV} {w : aW} {Q : Option aV → aW → Prop} : T d 200 80 [x0, x1, x2, x3, some (vi a4)] [] w Q = T d 200 30 [x0, x1, x2, x3, some (vi (w32 (a4 + 1)))] [] w Q := by
  rw [T_iinc_4 c200_80, T_goto 30 c200_83 rfl]
  all_goals try simp only [true_and, Nat.reduceAdd, eq_self_iff_true]
theorem g200_86 {d : Nat} {a3 : Int} {x0 x1 x2 x4 : Option aV} {w : aW} {Q : Option aV → aW → Prop} : T d 200 86 [x0, x1, x2, some (vi a3), x4] [] w Q = T d 200 7 [x0, x1, x2, some (vi (w32 (a3 + 1))), x4] [] w Q := by
  rw [T_iinc_3 c200_86, T_goto 7 c200_89 rfl]
  all_goals try simp only [true_and, Nat.reduceAdd, eq_self_iff_true]
/-! 201: StringHands$Guesses.smallest.()I -/
theorem c201_0 : cd 201 0 = some (.sipush (-1), 1) := by decide +kernel
theorem c201_1 : cd 201 1 = some (.istore 1, 1) := by decide +kernel
theorem c201_2 : cd 201 2 = some (.sipush 0, 1) := by decide +kernel
theorem c201_3 : cd 201 3 = some (.istore 2, 1) := by decide +kernel
theorem c201_4 : cd 201 4 = some (.iload 2, 1) := by decide +kernel
theorem c201_5 : cd 201 5 = some (.aload 0, 1) := by decide +kernel
theorem c201_6 : cd 201 6 = some (.getfield 272, 3) := by decide +kernel
theorem c201_9 : cd 201 9 = some (.if_icmp .ge 46, 3) := by decide +kernel
theorem c201_12 : cd 201 12 = some (.iload 1, 1) := by decide +kernel
theorem c201_13 : cd 201 13 = some (.sipush (-1), 1) := by decide +kernel
theorem c201_14 : cd 201 14 = some (.if_icmp .eq 38, 3) := by decide +kernel
theorem c201_17 : cd 201 17 = some (.aload 0, 1) := by decide +kernel
theorem c201_18 : cd 201 18 = some (.getfield 262, 3) := by decide +kernel
theorem c201_21 : cd 201 21 = some (.iload 2, 1) := by decide +kernel
theorem c201_22 : cd 201 22 = some (.iaload, 1) := by decide +kernel
theorem c201_23 : cd 201 23 = some (.invokestatic 132, 3) := by decide +kernel
theorem c201_26 : cd 201 26 = some (.aload 0, 1) := by decide +kernel
theorem c201_27 : cd 201 27 = some (.getfield 262, 3) := by decide +kernel
theorem c201_30 : cd 201 30 = some (.iload 1, 1) := by decide +kernel
theorem c201_31 : cd 201 31 = some (.iaload, 1) := by decide +kernel
theorem c201_32 : cd 201 32 = some (.invokestatic 132, 3) := by decide +kernel
theorem c201_35 : cd 201 35 = some (.if_icmp .ge 40, 3) := by decide +kernel
theorem c201_38 : cd 201 38 = some (.iload 2, 1) := by decide +kernel
theorem c201_39 : cd 201 39 = some (.istore 1, 1) := by decide +kernel
theorem c201_40 : cd 201 40 = some (.iinc 2 1, 3) := by decide +kernel
theorem c201_43 : cd 201 43 = some (.goto 4, 3) := by decide +kernel
theorem c201_46 : cd 201 46 = some (.iload 1, 1) := by decide +kernel
theorem c201_47 : cd 201 47 = some (.ireturn, 1) := by decide +kernel
theorem g201_0 {d : Nat} {x0 x1 x2 : Option aV} {w : aW} {Q : Option aV → aW → Prop} : T d 201 0 [x0, x1, x2] [] w Q = T d 201 4 [x0, some (vi (-1)), some (vi 0)] [] w Q := by
  rw [T_sipush c201_0, T_istore_1 c201_1, T_sipush c201_2, T_istore_2 c201_3]
  all_goals try simp only [true_and, Nat.reduceAdd, eq_self_iff_true]
theorem g201_4 {d : Nat} {a1 a2 : Int} {w : aW} {Q : Option aV → aW → Prop} : T (d + 1) 201 4 [some (vr 64), some (vi a1), some (vi a2)] [] w Q = ((w 64 4 ≤ a2 → Q (some (vi a1)) w) ∧ (¬ (w 64 4 ≤ a2) → ((a1 = (-1) → T (d + 1) 201 38 [some (vr 64), some (vi a1), some (vi a2)] [] w Q) ∧ (¬ (a1 = (-1)) → ((0 ≤ a2 ∧ a2 < 1024) ∧ T d 132 0 [some (vi (w 65 a2))] [] w (fun r w1 => T (d + 1) 201 26 [some (vr 64), some (vi a1), some (vi a2)] (r.toList ++ []) w1 Q)))))) := by
  rw [T_iload_2 c201_4, T_aload_0 c201_5, T_getI 1 4 4 c201_6 rfl rfl rfl rfl, T_icmp_ge 46 c201_9 rfl, T_iload_1 c201_46, T_ireti c201_47 (by decide +kernel), T_iload_1 c201_12, T_sipush c201_13, T_icmp_eq 38 c201_14 rfl, T_aload_0 c201_17, T_getR 1 1 1 c201_18 rfl rfl rfl rfl, rf_64_1, T_iload_2 c201_21, T_iald c201_22, T_inv (es := [some (vi (w 65 a2))]) (st := [vi (w 65 a2)]) (ks := [0]) (n := 1) (as := [vi (w 65 a2)]) (rest := []) c201_23 (by decide +kernel) (by decide +kernel) rfl rfl (Nat.le_of_ble_eq_true rfl)]
  all_goals try simp only [Int.reduceToNat, lay_64, ld_65, true_and, Nat.reduceAdd, eq_self_iff_true]
theorem g201_26 {d : Nat} {a1 s0 : Int} {x2 : Option aV} {w : aW} {Q : Option aV → aW → Prop} : T (d + 1) 201 26 [some (vr 64), some (vi a1), x2] [vi s0] w Q = ((0 ≤ a1 ∧ a1 < 1024) ∧ T d 132 0 [some (vi (w 65 a1))] [] w (fun r w1 => T (d + 1) 201 35 [some (vr 64), some (vi a1), x2] (r.toList ++ [vi s0]) w1 Q)) := by
  rw [T_aload_0 c201_26, T_getR 1 1 1 c201_27 rfl rfl rfl rfl, rf_64_1, T_iload_1 c201_30, T_iald c201_31, T_inv (es := [some (vi (w 65 a1))]) (st := [vi (w 65 a1), vi s0]) (ks := [0]) (n := 1) (as := [vi (w 65 a1)]) (rest := [vi s0]) c201_32 (by decide +kernel) (by decide +kernel) rfl rfl (Nat.le_of_ble_eq_true rfl)]
  all_goals try simp only [lay_64, ld_65, true_and, Nat.reduceAdd, eq_self_iff_true]
theorem g201_35 {d : Nat} {s0 s1 : Int} {x0 x1 x2 : Option aV} {w : aW} {Q : Option aV → aW → Prop} : T d 201 35 [x0, x1, x2] [vi s1, vi s0] w Q = ((s1 ≤ s0 → T d 201 40 [x0, x1, x2] [] w Q) ∧ (¬ (s1 ≤ s0) → T d 201 38 [x0, x1, x2] [] w Q)) := by
  rw [T_icmp_ge 40 c201_35 rfl]
  all_goals try simp only [Int.reduceToNat, true_and, Nat.reduceAdd, eq_self_iff_true]
theorem g201_38 {d : Nat} {a2 : Int} {x0 x1 : Option aV} {w : aW} {Q : Option aV → aW → Prop} : T d 201 38 [x0, x1, some (vi a2)] [] w Q = T d 201 40 [x0, some (vi a2), some (vi a2)] [] w Q := by
  rw [T_iload_2 c201_38, T_istore_1 c201_39]
  all_goals try simp only [true_and, Nat.reduceAdd, eq_self_iff_true]
theorem g201_40 {d : Nat} {a2 : Int} {x0 x1 : Option aV} {w : aW} {Q : Option aV → aW → Prop} : T d 201 40 [x0, x1, some (vi a2)] [] w Q = T d 201 4 [x0, x1, some (vi (w32 (a2 + 1)))] [] w Q := by
  rw [T_iinc_2 c201_40, T_goto 4 c201_43 rfl]
  all_goals try simp only [true_and, Nat.reduceAdd, eq_self_iff_true]
/-! 202: StringHands$Guesses.inAll.()I -/
theorem c202_0 : cd 202 0 = some (.sipush (-1), 1) := by decide +kernel
theorem c202_1 : cd 202 1 = some (.istore 1, 1) := by decide +kernel
theorem c202_2 : cd 202 2 = some (.sipush 0, 1) := by decide +kernel
theorem c202_3 : cd 202 3 = some (.istore 2, 1) := by decide +kernel
theorem c202_4 : cd 202 4 = some (.iload 2, 1) := by decide +kernel
theorem c202_5 : cd 202 5 = some (.aload 0, 1) := by decide +kernel
theorem c202_6 : cd 202 6 = some (.getfield 272, 3) := by decide +kernel
theorem c202_9 : cd 202 9 = some (.if_icmp .ge 27, 3) := by decide +kernel
theorem c202_12 : cd 202 12 = some (.iload 1, 1) := by decide +kernel
theorem c202_13 : cd 202 13 = some (.aload 0, 1) := by decide +kernel
theorem c202_14 : cd 202 14 = some (.getfield 262, 3) := by decide +kernel
theorem c202_17 : cd 202 17 = some (.iload 2, 1) := by decide +kernel
theorem c202_18 : cd 202 18 = some (.iaload, 1) := by decide +kernel
theorem c202_19 : cd 202 19 = some (.iand, 1) := by decide +kernel
theorem c202_20 : cd 202 20 = some (.istore 1, 1) := by decide +kernel
theorem c202_21 : cd 202 21 = some (.iinc 2 1, 3) := by decide +kernel
theorem c202_24 : cd 202 24 = some (.goto 4, 3) := by decide +kernel
theorem c202_27 : cd 202 27 = some (.iload 1, 1) := by decide +kernel
theorem c202_28 : cd 202 28 = some (.ireturn, 1) := by decide +kernel
theorem g202_0 {d : Nat} {x0 x1 x2 : Option aV} {w : aW} {Q : Option aV → aW → Prop} : T d 202 0 [x0, x1, x2] [] w Q = T d 202 4 [x0, some (vi (-1)), some (vi 0)] [] w Q := by
  rw [T_sipush c202_0, T_istore_1 c202_1, T_sipush c202_2, T_istore_2 c202_3]
  all_goals try simp only [true_and, Nat.reduceAdd, eq_self_iff_true]
theorem g202_4 {d : Nat} {a1 a2 : Int} {w : aW} {Q : Option aV → aW → Prop} : T d 202 4 [some (vr 64), some (vi a1), some (vi a2)] [] w Q = ((w 64 4 ≤ a2 → Q (some (vi a1)) w) ∧ (¬ (w 64 4 ≤ a2) → ((0 ≤ a2 ∧ a2 < 1024) ∧ T d 202 4 [some (vr 64), some (vi (jand a1 (w 65 a2))), some (vi (w32 (a2 + 1)))] [] w Q))) := by
  rw [T_iload_2 c202_4, T_aload_0 c202_5, T_getI 1 4 4 c202_6 rfl rfl rfl rfl, T_icmp_ge 27 c202_9 rfl, T_iload_1 c202_27, T_ireti c202_28 (by decide +kernel), T_iload_1 c202_12, T_aload_0 c202_13, T_getR 1 1 1 c202_14 rfl rfl rfl rfl, rf_64_1, T_iload_2 c202_17, T_iald c202_18, T_iand c202_19, T_istore_1 c202_20, T_iinc_2 c202_21, T_goto 4 c202_24 rfl]
  all_goals try simp only [Int.reduceToNat, lay_64, ld_65, true_and, Nat.reduceAdd, eq_self_iff_true]
/-! 203: StringHands$Guesses.mostTelling.(II)I -/
theorem c203_0 : cd 203 0 = some (.sipush 0, 1) := by decide +kernel
theorem c203_1 : cd 203 1 = some (.istore 3, 1) := by decide +kernel
theorem c203_2 : cd 203 2 = some (.aload 0, 1) := by decide +kernel
theorem c203_3 : cd 203 3 = some (.getfield 256, 3) := by decide +kernel
theorem c203_6 : cd 203 6 = some (.sipush 1, 1) := by decide +kernel
theorem c203_7 : cd 203 7 = some (.iadd, 1) := by decide +kernel
theorem c203_8 : cd 203 8 = some (.istore 4, 2) := by decide +kernel
theorem c203_10 : cd 203 10 = some (.sipush 0, 1) := by decide +kernel
theorem c203_11 : cd 203 11 = some (.istore 5, 2) := by decide +kernel
theorem c203_13 : cd 203 13 = some (.iload 5, 2) := by decide +kernel
theorem c203_15 : cd 203 15 = some (.iload 1, 1) := by decide +kernel
theorem c203_16 : cd 203 16 = some (.if_icmp .gt 68, 3) := by decide +kernel
theorem c203_19 : cd 203 19 = some (.iload 5, 2) := by decide +kernel
theorem c203_21 : cd 203 21 = some (.iload 2, 1) := by decide +kernel
theorem c203_22 : cd 203 22 = some (.iand, 1) := by decide +kernel
theorem c203_23 : cd 203 23 = some (.ifCond .ne 62, 3) := by decide +kernel
theorem c203_26 : cd 203 26 = some (.aload 0, 1) := by decide +kernel
theorem c203_27 : cd 203 27 = some (.iload 5, 2) := by decide +kernel
theorem c203_29 : cd 203 29 = some (.invokevirtual 265, 3) := by decide +kernel
theorem c203_32 : cd 203 32 = some (.istore 6, 2) := by decide +kernel
theorem c203_34 : cd 203 34 = some (.iload 6, 2) := by decide +kernel
theorem c203_36 : cd 203 36 = some (.aload 0, 1) := by decide +kernel
theorem c203_37 : cd 203 37 = some (.getfield 256, 3) := by decide +kernel
theorem c203_40 : cd 203 40 = some (.iload 6, 2) := by decide +kernel
theorem c203_42 : cd 203 42 = some (.isub, 1) := by decide +kernel
theorem c203_43 : cd 203 43 = some (.invokedynamic 2, 3) := by decide +kernel
theorem c203_46 : cd 203 46 = some (.istore 7, 2) := by decide +kernel
theorem c203_48 : cd 203 48 = some (.iload 7, 2) := by decide +kernel
theorem c203_50 : cd 203 50 = some (.iload 4, 2) := by decide +kernel
theorem c203_52 : cd 203 52 = some (.if_icmp .ge 62, 3) := by decide +kernel
theorem c203_55 : cd 203 55 = some (.iload 5, 2) := by decide +kernel
theorem c203_57 : cd 203 57 = some (.istore 3, 1) := by decide +kernel
theorem c203_58 : cd 203 58 = some (.iload 7, 2) := by decide +kernel
theorem c203_60 : cd 203 60 = some (.istore 4, 2) := by decide +kernel
theorem c203_62 : cd 203 62 = some (.iinc 5 1, 3) := by decide +kernel
theorem c203_65 : cd 203 65 = some (.goto 13, 3) := by decide +kernel
theorem c203_68 : cd 203 68 = some (.iload 3, 1) := by decide +kernel
theorem c203_69 : cd 203 69 = some (.ireturn, 1) := by decide +kernel
theorem g203_0 {d : Nat} {x1 x2 x3 x4 x5 x6 x7 : Option aV} {w : aW} {Q : Option aV → aW → Prop} : T d 203 0 [some (vr 64), x1, x2, x3, x4, x5, x6, x7] [] w Q = T d 203 13 [some (vr 64), x1, x2, some (vi 0), some (vi (w32 ((w 64 0) + 1))), some (vi 0), x6, x7] [] w Q := by
  rw [T_sipush c203_0, T_istore_3 c203_1, T_aload_0 c203_2, T_getI 1 0 0 c203_3 rfl rfl rfl rfl, T_sipush c203_6, T_iadd c203_7, T_istore_4 c203_8, T_sipush c203_10, T_istore_5 c203_11]
  all_goals try simp only [lay_64, true_and, Nat.reduceAdd, eq_self_iff_true]
theorem g203_13 {d : Nat} {a1 a2 a3 a5 : Int} {x4 x6 x7 : Option aV} {w : aW} {Q : Option aV → aW → Prop} : T (d + 1) 203 13 [some (vr 64), some (vi a1), some (vi a2), some (vi a3), x4, some (vi a5), x6, x7] [] w Q = ((a1 < a5 → Q (some (vi a3)) w) ∧ (¬ (a1 < a5) → ((¬ jand a5 a2 = 0 → T (d + 1) 203 62 [some (vr 64), some (vi a1), some (vi a2), some (vi a3), x4, some (vi a5), x6, x7] [] w Q) ∧ (¬ (¬ jand a5 a2 = 0) → T d 265 0 [some (vr 64), some (vi a5), none, none, none] [] w (fun r w1 => T (d + 1) 203 32 [some (vr 64), some (vi a1), some (vi a2), some (vi a3), x4, some (vi a5), x6, x7] (r.toList ++ []) w1 Q))))) := by
  rw [T_iload_5 c203_13, T_iload_1 c203_15, T_icmp_gt 68 c203_16 rfl, T_iload_3 c203_68, T_ireti c203_69 (by decide +kernel), T_iload_5 c203_19, T_iload_2 c203_21, T_iand c203_22, T_if_ne 62 c203_23 rfl, T_aload_0 c203_26, T_iload_5 c203_27, T_invv (es := [some (vr 64), some (vi a5), none, none, none]) (st := [vi a5, vr 64]) (ks := [2, 0]) (n := 5) (c := 1) (k := 64) (as := [vi a5]) (rest := []) c203_29 (by decide +kernel) (by decide +kernel) (by decide +kernel) (by decide) rfl rfl (Nat.le_of_ble_eq_true rfl)]
  all_goals try simp only [Int.reduceToNat, lay_64, true_and, Nat.reduceAdd, eq_self_iff_true]
theorem g203_32 {d : Nat} {a4 a5 s0 : Int} {x1 x2 x3 x6 x7 : Option aV} {w : aW} {Q : Option aV → aW → Prop} : T d 203 32 [some (vr 64), x1, x2, x3, some (vi a4), some (vi a5), x6, x7] [vi s0] w Q = ((a4 ≤ (if s0 < w32 ((w 64 0) - s0) then w32 ((w 64 0) - s0) else s0) → T d 203 62 [some (vr 64), x1, x2, x3, some (vi a4), some (vi a5), some (vi s0), some (vi (if s0 < w32 ((w 64 0) - s0) then w32 ((w 64 0) - s0) else s0))] [] w Q) ∧ (¬ (a4 ≤ (if s0 < w32 ((w 64 0) - s0) then w32 ((w 64 0) - s0) else s0)) → T d 203 62 [some (vr 64), x1, x2, some (vi a5), some (vi (if s0 < w32 ((w 64 0) - s0) then w32 ((w 64 0) - s0) else s0)), some (vi a5), some (vi s0), some (vi (if s0 < w32 ((w 64 0) - s0) then w32 ((w 64 0) - s0) else s0))] [] w Q)) := by
  rw [T_istore_6 c203_32, T_iload_6 c203_34, T_aload_0 c203_36, T_getI 1 0 0 c203_37 rfl rfl rfl rfl, T_iload_6 c203_40, T_isub c203_42, T_max (st := []) c203_43 (Nat.le_of_ble_eq_true rfl), T_istore_7 c203_46, T_iload_7 c203_48, T_iload_4 c203_50, T_icmp_ge 62 c203_52 rfl, T_iload_5 c203_55, T_istore_3 c203_57, T_iload_7 c203_58, T_istore_4 c203_60]
  all_goals try simp only [Int.reduceToNat, lay_64, true_and, Nat.reduceAdd, eq_self_iff_true]
theorem g203_62 {d : Nat} {a5 : Int} {x0 x1 x2 x3 x4 x6 x7 : Option aV} {w : aW} {Q : Option aV → aW → Prop} : T d 203 62 [x0, x1, x2, x3, x4, some (vi a5), x6, x7] [] w Q = T d 203 13 [x0, x1, x2, x3, x4, some (vi (w32 (a5 + 1))), x6, x7] [] w Q := by
  rw [T_iinc_5 c203_62, T_goto 13 c203_65 rfl]
  all_goals try simp only [true_and, Nat.reduceAdd, eq_self_iff_true]
/-! 204: StringHands$NumberRow.put.(IJ)J -/
theorem c204_0 : cd 204 0 = some (.iload 1, 1) := by decide +kernel
theorem c204_1 : cd 204 1 = some (.ifCond .lt 18, 3) := by decide +kernel
theorem c204_4 : cd 204 4 = some (.iload 1, 1) := by decide +kernel
theorem c204_5 : cd 204 5 = some (.aload 0, 1) := by decide +kernel
theorem c204_6 : cd 204 6 = some (.getfield 768, 3) := by decide +kernel
theorem c204_9 : cd 204 9 = some (.if_icmp .ge 18, 3) := by decide +kernel
theorem c204_12 : cd 204 12 = some (.iload 1, 1) := by decide +kernel
theorem c204_13 : cd 204 13 = some (.sipush 40, 2) := by decide +kernel
theorem c204_15 : cd 204 15 = some (.if_icmp .lt 22, 3) := by decide +kernel
theorem c204_18 : cd 204 18 = some (.bipush (-7), 3) := by decide +kernel
theorem c204_21 : cd 204 21 = some (.lreturn, 1) := by decide +kernel
theorem c204_22 : cd 204 22 = some (.aload 0, 1) := by decide +kernel
theorem c204_23 : cd 204 23 = some (.getfield 774, 3) := by decide +kernel
theorem c204_26 : cd 204 26 = some (.iload 1, 1) := by decide +kernel
theorem c204_27 : cd 204 27 = some (.aload 0, 1) := by decide +kernel
theorem c204_28 : cd 204 28 = some (.getfield 776, 3) := by decide +kernel
theorem c204_31 : cd 204 31 = some (.lload 2, 1) := by decide +kernel
theorem c204_32 : cd 204 32 = some (.invokestatic 266, 3) := by decide +kernel
theorem c204_35 : cd 204 35 = some (.lastore, 1) := by decide +kernel
theorem c204_36 : cd 204 36 = some (.aload 0, 1) := by decide +kernel
theorem c204_37 : cd 204 37 = some (.getfield 774, 3) := by decide +kernel
theorem c204_40 : cd 204 40 = some (.iload 1, 1) := by decide +kernel
theorem c204_41 : cd 204 41 = some (.laload, 1) := by decide +kernel
theorem c204_42 : cd 204 42 = some (.lreturn, 1) := by decide +kernel
theorem g204_0 {d : Nat} {a1 b2 : Int} {r0 : Nat} {w : aW} {Q : Option aV → aW → Prop} : T (d + 1) 204 0 [some (vr r0), some (vi a1), some (vl b2), none] [] w Q = ((a1 < 0 → T (d + 1) 204 18 [some (vr r0), some (vi a1), some (vl b2), none] [] w Q) ∧ (¬ (a1 < 0) → (lay r0 = (3, 0) ∧ ((w r0 0 ≤ a1 → T (d + 1) 204 18 [some (vr r0), some (vi a1), some (vl b2), none] [] w Q) ∧ (¬ (w r0 0 ≤ a1) → ((a1 < 40 → (lay r0 = (3, 0) ∧ (lay r0 = (3, 0) ∧ T d 266 0 [some (vi (w r0 2)), some (vl b2), none] [] w (fun r w1 => T (d + 1) 204 35 [some (vr r0), some (vi a1), some (vl b2), none] (r.toList ++ [vi a1, vr (rfA r0 1)]) w1 Q)))) ∧ (¬ (a1 < 40) → T (d + 1) 204 18 [some (vr r0), some (vi a1), some (vl b2), none] [] w Q))))))) := by
  rw [T_iload_1 c204_0, T_if_lt 18 c204_1 rfl, T_iload_1 c204_4, T_aload_0 c204_5, T_getI 3 0 0 c204_6 rfl rfl rfl rfl, T_icmp_ge 18 c204_9 rfl, T_iload_1 c204_12, T_sipush c204_13, T_icmp_lt 22 c204_15 rfl, T_aload_0 c204_22, T_getR 3 1 1 c204_23 rfl rfl rfl rfl, T_iload_1 c204_26, T_aload_0 c204_27, T_getI 3 2 2 c204_28 rfl rfl rfl rfl, T_lload_2 c204_31, T_inv (es := [some (vi (w r0 2)), some (vl b2), none]) (st := [vl b2, vi (w r0 2), vi a1, vr (rfA r0 1)]) (ks := [0, 1]) (n := 3) (as := [vi (w r0 2), vl b2]) (rest := [vi a1, vr (rfA r0 1)]) c204_32 (by decide +kernel) (by decide +kernel) rfl rfl (Nat.le_of_ble_eq_true rfl)]
  all_goals try simp only [Int.reduceToNat, true_and, Nat.reduceAdd, eq_self_iff_true]
theorem g204_18 {d : Nat} {x0 x1 x2 x3 : Option aV} {w : aW} {Q : Option aV → aW → Prop} : T d 204 18 [x0, x1, x2, x3] [] w Q = Q (some (vl (-7))) w := by
  rw [T_bipush c204_18, T_lret c204_21 (by decide +kernel)]
  all_goals try simp only [true_and, Nat.reduceAdd, eq_self_iff_true]
theorem g204_35 {d : Nat} {a1 s1 s2 : Int} {r0 s0 : Nat} {x2 x3 : Option aV} {w : aW} {Q : Option aV → aW → Prop} : T d 204 35 [some (vr r0), some (vi a1), x2, x3] [vl s2, vi s1, vr s0] w Q = (inA s0 1 s1 = true ∧ (lay r0 = (3, 0) ∧ (inA (rfA r0 1) 1 a1 = true ∧ Q (some (vl ((iup w s0 s1 s2) (rfA r0 1) a1))) (iup w s0 s1 s2)))) := by
  rw [T_last c204_35, T_aload_0 c204_36, T_getR 3 1 1 c204_37 rfl rfl rfl rfl, T_iload_1 c204_40, T_lald c204_41, T_lret c204_42 (by decide +kernel)]
  all_goals try simp only [true_and, Nat.reduceAdd, eq_self_iff_true]
/-! 205: StringHandsModel.sized.(JI)J -/
theorem c205_0 : cd 205 0 = some (.iload 2, 1) := by decide +kernel
theorem c205_1 : cd 205 1 = some (.ifCond .ne 11, 3) := by decide +kernel
theorem c205_4 : cd 205 4 = some (.lload 0, 1) := by decide +kernel
theorem c205_5 : cd 205 5 = some (.l2i, 1) := by decide +kernel
theorem c205_6 : cd 205 6 = some (.i2b, 1) := by decide +kernel
theorem c205_7 : cd 205 7 = some (.i2l, 1) := by decide +kernel
theorem c205_8 : cd 205 8 = some (.goto 35, 3) := by decide +kernel
theorem c205_11 : cd 205 11 = some (.iload 2, 1) := by decide +kernel
theorem c205_12 : cd 205 12 = some (.sipush 1, 1) := by decide +kernel
theorem c205_13 : cd 205 13 = some (.if_icmp .ne 23, 3) := by decide +kernel
theorem c205_16 : cd 205 16 = some (.lload 0, 1) := by decide +kernel
theorem c205_17 : cd 205 17 = some (.l2i, 1) := by decide +kernel
theorem c205_18 : cd 205 18 = some (.i2s, 1) := by decide +kernel
theorem c205_19 : cd 205 19 = some (.i2l, 1) := by decide +kernel
theorem c205_20 : cd 205 20 = some (.goto 35, 3) := by decide +kernel
theorem c205_23 : cd 205 23 = some (.iload 2, 1) := by decide +kernel
theorem c205_24 : cd 205 24 = some (.sipush 2, 1) := by decide +kernel
theorem c205_25 : cd 205 25 = some (.if_icmp .ne 34, 3) := by decide +kernel
theorem c205_28 : cd 205 28 = some (.lload 0, 1) := by decide +kernel
theorem c205_29 : cd 205 29 = some (.l2i, 1) := by decide +kernel
theorem c205_30 : cd 205 30 = some (.i2l, 1) := by decide +kernel
theorem c205_31 : cd 205 31 = some (.goto 35, 3) := by decide +kernel
theorem c205_34 : cd 205 34 = some (.lload 0, 1) := by decide +kernel
theorem c205_35 : cd 205 35 = some (.lreturn, 1) := by decide +kernel
theorem g205_0 {d : Nat} {b0 a2 : Int} {w : aW} {Q : Option aV → aW → Prop} : T d 205 0 [some (vl b0), none, some (vi a2)] [] w Q = ((¬ a2 = 0 → ((¬ a2 = 1 → ((¬ a2 = 2 → T d 205 35 [some (vl b0), none, some (vi a2)] [vl b0] w Q) ∧ (¬ (¬ a2 = 2) → T d 205 35 [some (vl b0), none, some (vi a2)] [vl (w32 b0)] w Q))) ∧ (¬ (¬ a2 = 1) → T d 205 35 [some (vl b0), none, some (vi a2)] [vl (j16 (w32 b0))] w Q))) ∧ (¬ (¬ a2 = 0) → T d 205 35 [some (vl b0), none, some (vi a2)] [vl (j8 (w32 b0))] w Q)) := by
  rw [T_iload_2 c205_0, T_if_ne 11 c205_1 rfl, T_iload_2 c205_11, T_sipush c205_12, T_icmp_ne 23 c205_13 rfl, T_iload_2 c205_23, T_sipush c205_24, T_icmp_ne 34 c205_25 rfl, T_lload_0 c205_34, T_lload_0 c205_28, T_l2i c205_29, T_i2l c205_30, T_goto 35 c205_31 rfl, T_lload_0 c205_16, T_l2i c205_17, T_i2s c205_18, T_i2l c205_19, T_goto 35 c205_20 rfl, T_lload_0 c205_4, T_l2i c205_5, T_i2b c205_6, T_i2l c205_7, T_goto 35 c205_8 rfl]
  all_goals try simp only [Int.reduceToNat, true_and, Nat.reduceAdd, eq_self_iff_true]
theorem g205_35 {d : Nat} {s0 : Int} {x0 x1 x2 : Option aV} {w : aW} {Q : Option aV → aW → Prop} : T d 205 35 [x0, x1, x2] [vl s0] w Q = Q (some (vl s0)) w := by
  rw [T_lret c205_35 (by decide +kernel)]
  all_goals try simp only [true_and, Nat.reduceAdd, eq_self_iff_true]
/-! 206: StringHands$NumberRow.begin.(II)V -/
theorem c206_0 : cd 206 0 = some (.aload 0, 1) := by decide +kernel
theorem c206_1 : cd 206 1 = some (.iload 1, 1) := by decide +kernel
theorem c206_2 : cd 206 2 = some (.putfield 776, 3) := by decide +kernel
theorem c206_5 : cd 206 5 = some (.aload 0, 1) := by decide +kernel
theorem c206_6 : cd 206 6 = some (.iload 2, 1) := by decide +kernel
theorem c206_7 : cd 206 7 = some (.putfield 768, 3) := by decide +kernel
theorem c206_10 : cd 206 10 = some (.aload 0, 1) := by decide +kernel
theorem c206_11 : cd 206 11 = some (.getfield 774, 3) := by decide +kernel
theorem c206_14 : cd 206 14 = some (.bipush 0, 1) := by decide +kernel
theorem c206_15 : cd 206 15 = some (.invokestatic 267, 3) := by decide +kernel
theorem c206_18 : cd 206 18 = some (.return_, 1) := by decide +kernel
theorem g206_0 {d : Nat} {a1 a2 : Int} {r0 : Nat} {w : aW} {Q : Option aV → aW → Prop} : T (d + 1) 206 0 [some (vr r0), some (vi a1), some (vi a2)] [] w Q = ((lay r0 = (3, 0)) ∧ ((lay r0 = (3, 0)) ∧ (lay r0 = (3, 0) ∧ T d 267 0 [some (vr (rfA r0 1)), some (vl 0), none, none, none] [] (iup (iup w r0 2 a1) r0 0 a2) (fun r w1 => T (d + 1) 206 18 [some (vr r0), some (vi a1), some (vi a2)] (r.toList ++ []) w1 Q)))) := by
  rw [T_aload_0 c206_0, T_iload_1 c206_1, T_putI 3 2 2 c206_2 rfl rfl rfl rfl, T_aload_0 c206_5, T_iload_2 c206_6, T_putI 3 0 0 c206_7 rfl rfl rfl rfl, T_aload_0 c206_10, T_getR 3 1 1 c206_11 rfl rfl rfl rfl, T_bipush c206_14, T_inv (es := [some (vr (rfA r0 1)), some (vl 0), none, none, none]) (st := [vl 0, vr (rfA r0 1)]) (ks := [2, 1]) (n := 5) (as := [vr (rfA r0 1), vl 0]) (rest := []) c206_15 (by decide +kernel) (by decide +kernel) rfl rfl (Nat.le_of_ble_eq_true rfl)]
  all_goals try simp only [true_and, Nat.reduceAdd, eq_self_iff_true]
theorem g206_18 {d : Nat} {x0 x1 x2 : Option aV} {w : aW} {Q : Option aV → aW → Prop} : T d 206 18 [x0, x1, x2] [] w Q = Q none w := by
  rw [T_vret c206_18 (by decide +kernel)]
  all_goals try simp only [true_and, Nat.reduceAdd, eq_self_iff_true]
/-! 207: StringHandsModel.ruleMany.()I -/
theorem c207_0 : cd 207 0 = some (.sipush 0, 1) := by decide +kernel
theorem c207_1 : cd 207 1 = some (.istore 1, 1) := by decide +kernel
theorem c207_2 : cd 207 2 = some (.sipush 0, 1) := by decide +kernel
theorem c207_3 : cd 207 3 = some (.istore 2, 1) := by decide +kernel
theorem c207_4 : cd 207 4 = some (.iload 2, 1) := by decide +kernel
theorem c207_5 : cd 207 5 = some (.aload 0, 1) := by decide +kernel
theorem c207_6 : cd 207 6 = some (.getfield 3078, 3) := by decide +kernel
theorem c207_9 : cd 207 9 = some (.sipush 2, 1) := by decide +kernel
theorem c207_10 : cd 207 10 = some (.iaload, 1) := by decide +kernel
theorem c207_11 : cd 207 11 = some (.if_icmp .ge 41, 3) := by decide +kernel
theorem c207_14 : cd 207 14 = some (.iload 1, 1) := by decide +kernel
theorem c207_15 : cd 207 15 = some (.aload 0, 1) := by decide +kernel
theorem c207_16 : cd 207 16 = some (.getfield 3078, 3) := by decide +kernel
theorem c207_19 : cd 207 19 = some (.sipush 142, 3) := by decide +kernel
theorem c207_22 : cd 207 22 = some (.iload 2, 1) := by decide +kernel
theorem c207_23 : cd 207 23 = some (.iadd, 1) := by decide +kernel
theorem c207_24 : cd 207 24 = some (.iaload, 1) := by decide +kernel
theorem c207_25 : cd 207 25 = some (.ifCond .le 32, 3) := by decide +kernel
theorem c207_28 : cd 207 28 = some (.sipush 1, 1) := by decide +kernel
theorem c207_29 : cd 207 29 = some (.goto 33, 3) := by decide +kernel
theorem c207_32 : cd 207 32 = some (.sipush 0, 1) := by decide +kernel
theorem c207_33 : cd 207 33 = some (.iadd, 1) := by decide +kernel
theorem c207_34 : cd 207 34 = some (.istore 1, 1) := by decide +kernel
theorem c207_35 : cd 207 35 = some (.iinc 2 1, 3) := by decide +kernel
theorem c207_38 : cd 207 38 = some (.goto 4, 3) := by decide +kernel
theorem c207_41 : cd 207 41 = some (.iload 1, 1) := by decide +kernel
theorem c207_42 : cd 207 42 = some (.ireturn, 1) := by decide +kernel
theorem g207_0 {d : Nat} {x0 x1 x2 : Option aV} {w : aW} {Q : Option aV → aW → Prop} : T d 207 0 [x0, x1, x2] [] w Q = T d 207 4 [x0, some (vi 0), some (vi 0)] [] w Q := by
  rw [T_sipush c207_0, T_istore_1 c207_1, T_sipush c207_2, T_istore_2 c207_3]
  all_goals try simp only [true_and, Nat.reduceAdd, eq_self_iff_true]
theorem g207_4 {d : Nat} {a1 a2 : Int} {w : aW} {Q : Option aV → aW → Prop} : T d 207 4 [some (vr 167), some (vi a1), some (vi a2)] [] w Q = ((w 168 2 ≤ a2 → Q (some (vi a1)) w) ∧ (¬ (w 168 2 ≤ a2) → ((0 ≤ w32 (142 + a2) ∧ w32 (142 + a2) < 4932) ∧ ((w 168 (w32 (142 + a2)) ≤ 0 → T d 207 33 [some (vr 167), some (vi a1), some (vi a2)] [vi 0, vi a1] w Q) ∧ (¬ (w 168 (w32 (142 + a2)) ≤ 0) → T d 207 33 [some (vr 167), some (vi a1), some (vi a2)] [vi 1, vi a1] w Q))))) := by
  rw [T_iload_2 c207_4, T_aload_0 c207_5, T_getR 12 1 1 c207_6 rfl rfl rfl rfl, rf_167_1, T_sipush c207_9, T_iald c207_10, T_icmp_ge 41 c207_11 rfl, T_iload_1 c207_41, T_ireti c207_42 (by decide +kernel), T_iload_1 c207_14, T_aload_0 c207_15, T_getR 12 1 1 c207_16 rfl rfl rfl rfl, rf_167_1, T_sipush c207_19, T_iload_2 c207_22, T_iadd c207_23, T_iald c207_24, T_if_le 32 c207_25 rfl, T_sipush c207_32, T_sipush c207_28, T_goto 33 c207_29 rfl]
  all_goals try simp only [Int.reduceLE, Int.reduceLT, Int.reduceToNat, and_self, lay_167, ld_168, true_and, Nat.reduceAdd, eq_self_iff_true]
theorem g207_33 {d : Nat} {a2 s0 s1 : Int} {x0 x1 : Option aV} {w : aW} {Q : Option aV → aW → Prop} : T d 207 33 [x0, x1, some (vi a2)] [vi s1, vi s0] w Q = T d 207 4 [x0, some (vi (w32 (s0 + s1))), some (vi (w32 (a2 + 1)))] [] w Q := by
  rw [T_iadd c207_33, T_istore_1 c207_34, T_iinc_2 c207_35, T_goto 4 c207_38 rfl]
  all_goals try simp only [true_and, Nat.reduceAdd, eq_self_iff_true]
/-! 208: StringHands$Reader.isBlank.(I)Z -/
theorem c208_0 : cd 208 0 = some (.iload 0, 1) := by decide +kernel
theorem c208_1 : cd 208 1 = some (.sipush 10, 2) := by decide +kernel
theorem c208_3 : cd 208 3 = some (.if_icmp .eq 12, 3) := by decide +kernel
theorem c208_6 : cd 208 6 = some (.iload 0, 1) := by decide +kernel
theorem c208_7 : cd 208 7 = some (.sipush 32, 2) := by decide +kernel
theorem c208_9 : cd 208 9 = some (.if_icmp .ne 16, 3) := by decide +kernel
theorem c208_12 : cd 208 12 = some (.sipush 1, 1) := by decide +kernel
theorem c208_13 : cd 208 13 = some (.goto 17, 3) := by decide +kernel
theorem c208_16 : cd 208 16 = some (.sipush 0, 1) := by decide +kernel
theorem c208_17 : cd 208 17 = some (.ireturn, 1) := by decide +kernel
theorem g208_0 {d : Nat} {a0 : Int} {w : aW} {Q : Option aV → aW → Prop} : T d 208 0 [some (vi a0)] [] w Q = ((a0 = 10 → T d 208 12 [some (vi a0)] [] w Q) ∧ (¬ (a0 = 10) → ((¬ a0 = 32 → T d 208 17 [some (vi a0)] [vi 0] w Q) ∧ (¬ (¬ a0 = 32) → T d 208 12 [some (vi a0)] [] w Q)))) := by
  rw [T_iload_0 c208_0, T_sipush c208_1, T_icmp_eq 12 c208_3 rfl, T_iload_0 c208_6, T_sipush c208_7, T_icmp_ne 16 c208_9 rfl, T_sipush c208_16]
  all_goals try simp only [Int.reduceToNat, true_and, Nat.reduceAdd, eq_self_iff_true]
theorem g208_12 {d : Nat} {x0 : Option aV} {w : aW} {Q : Option aV → aW → Prop} : T d 208 12 [x0] [] w Q = T d 208 17 [x0] [vi 1] w Q := by
  rw [T_sipush c208_12, T_goto 17 c208_13 rfl]
  all_goals try simp only [true_and, Nat.reduceAdd, eq_self_iff_true]
theorem g208_17 {d : Nat} {s0 : Int} {x0 : Option aV} {w : aW} {Q : Option aV → aW → Prop} : T d 208 17 [x0] [vi s0] w Q = ((s0 = 0 ∨ s0 = 1) ∧ Q (some (vi s0)) w) := by
  rw [T_iretz c208_17 (by decide +kernel)]
  all_goals try simp only [true_and, Nat.reduceAdd, eq_self_iff_true]
/-! 209: StringHands$Reader.cutToken.(II)I -/
theorem c209_0 : cd 209 0 = some (.iload 1, 1) := by decide +kernel
theorem c209_1 : cd 209 1 = some (.istore 3, 1) := by decide +kernel
theorem c209_2 : cd 209 2 = some (.sipush 0, 1) := by decide +kernel
theorem c209_3 : cd 209 3 = some (.istore 4, 2) := by decide +kernel
theorem c209_5 : cd 209 5 = some (.aload 0, 1) := by decide +kernel
theorem c209_6 : cd 209 6 = some (.getfield 1026, 3) := by decide +kernel
theorem c209_9 : cd 209 9 = some (.iload 1, 1) := by decide +kernel
theorem c209_10 : cd 209 10 = some (.baload, 1) := by decide +kernel
theorem c209_11 : cd 209 11 = some (.invokestatic 268, 3) := by decide +kernel
theorem c209_14 : cd 209 14 = some (.ifCond .eq 54, 3) := by decide +kernel
theorem c209_17 : cd 209 17 = some (.iload 3, 1) := by decide +kernel
theorem c209_18 : cd 209 18 = some (.iload 2, 1) := by decide +kernel
theorem c209_19 : cd 209 19 = some (.if_icmp .ge 40, 3) := by decide +kernel
theorem c209_22 : cd 209 22 = some (.aload 0, 1) := by decide +kernel
theorem c209_23 : cd 209 23 = some (.getfield 1026, 3) := by decide +kernel
theorem c209_26 : cd 209 26 = some (.iload 3, 1) := by decide +kernel
theorem c209_27 : cd 209 27 = some (.baload, 1) := by decide +kernel
theorem c209_28 : cd 209 28 = some (.invokestatic 268, 3) := by decide +kernel
theorem c209_31 : cd 209 31 = some (.ifCond .eq 40, 3) := by decide +kernel
theorem c209_34 : cd 209 34 = some (.iinc 3 1, 3) := by decide +kernel
theorem c209_37 : cd 209 37 = some (.goto 17, 3) := by decide +kernel
theorem c209_40 : cd 209 40 = some (.aload 0, 1) := by decide +kernel
theorem c209_41 : cd 209 41 = some (.aload 0, 1) := by decide +kernel
theorem c209_42 : cd 209 42 = some (.iload 1, 1) := by decide +kernel
theorem c209_43 : cd 209 43 = some (.iload 3, 1) := by decide +kernel
theorem c209_44 : cd 209 44 = some (.invokevirtual 269, 3) := by decide +kernel
theorem c209_47 : cd 209 47 = some (.iload 1, 1) := by decide +kernel
theorem c209_48 : cd 209 48 = some (.sipush 0, 1) := by decide +kernel
theorem c209_49 : cd 209 49 = some (.invokevirtual 210, 3) := by decide +kernel
theorem c209_52 : cd 209 52 = some (.iload 3, 1) := by decide +kernel
theorem c209_53 : cd 209 53 = some (.ireturn, 1) := by decide +kernel
theorem c209_54 : cd 209 54 = some (.aload 0, 1) := by decide +kernel
theorem c209_55 : cd 209 55 = some (.getfield 1026, 3) := by decide +kernel
theorem c209_58 : cd 209 58 = some (.iload 1, 1) := by decide +kernel
theorem c209_59 : cd 209 59 = some (.baload, 1) := by decide +kernel
theorem c209_60 : cd 209 60 = some (.invokestatic 270, 3) := by decide +kernel
theorem c209_63 : cd 209 63 = some (.ifCond .eq 127, 3) := by decide +kernel
theorem c209_66 : cd 209 66 = some (.iload 3, 1) := by decide +kernel
theorem c209_67 : cd 209 67 = some (.iload 2, 1) := by decide +kernel
theorem c209_68 : cd 209 68 = some (.if_icmp .ge 106, 3) := by decide +kernel
theorem c209_71 : cd 209 71 = some (.aload 0, 1) := by decide +kernel
theorem c209_72 : cd 209 72 = some (.getfield 1026, 3) := by decide +kernel
theorem c209_75 : cd 209 75 = some (.iload 3, 1) := by decide +kernel
theorem c209_76 : cd 209 76 = some (.baload, 1) := by decide +kernel
theorem c209_77 : cd 209 77 = some (.invokestatic 270, 3) := by decide +kernel
theorem c209_80 : cd 209 80 = some (.ifCond .eq 106, 3) := by decide +kernel
theorem c209_83 : cd 209 83 = some (.iload 4, 2) := by decide +kernel
theorem c209_85 : cd 209 85 = some (.sipush 10, 2) := by decide +kernel
theorem c209_87 : cd 209 87 = some (.imul, 1) := by decide +kernel
theorem c209_88 : cd 209 88 = some (.aload 0, 1) := by decide +kernel
theorem c209_89 : cd 209 89 = some (.getfield 1026, 3) := by decide +kernel
theorem c209_92 : cd 209 92 = some (.iload 3, 1) := by decide +kernel
theorem c209_93 : cd 209 93 = some (.baload, 1) := by decide +kernel
theorem c209_94 : cd 209 94 = some (.iadd, 1) := by decide +kernel
theorem c209_95 : cd 209 95 = some (.sipush 48, 2) := by decide +kernel
theorem c209_97 : cd 209 97 = some (.isub, 1) := by decide +kernel
theorem c209_98 : cd 209 98 = some (.istore 4, 2) := by decide +kernel
theorem c209_100 : cd 209 100 = some (.iinc 3 1, 3) := by decide +kernel
theorem c209_103 : cd 209 103 = some (.goto 66, 3) := by decide +kernel
theorem c209_106 : cd 209 106 = some (.aload 0, 1) := by decide +kernel
theorem c209_107 : cd 209 107 = some (.iload 3, 1) := by decide +kernel
theorem c209_108 : cd 209 108 = some (.iload 1, 1) := by decide +kernel
theorem c209_109 : cd 209 109 = some (.isub, 1) := by decide +kernel
theorem c209_110 : cd 209 110 = some (.sipush 3, 1) := by decide +kernel
theorem c209_111 : cd 209 111 = some (.if_icmp .le 118, 3) := by decide +kernel
theorem c209_114 : cd 209 114 = some (.sipush (-1), 1) := by decide +kernel
theorem c209_115 : cd 209 115 = some (.goto 119, 3) := by decide +kernel
theorem c209_118 : cd 209 118 = some (.sipush 1, 1) := by decide +kernel
theorem c209_119 : cd 209 119 = some (.iload 1, 1) := by decide +kernel
theorem c209_120 : cd 209 120 = some (.iload 4, 2) := by decide +kernel
theorem c209_122 : cd 209 122 = some (.invokevirtual 210, 3) := by decide +kernel
theorem c209_125 : cd 209 125 = some (.iload 3, 1) := by decide +kernel
theorem c209_126 : cd 209 126 = some (.ireturn, 1) := by decide +kernel
theorem c209_127 : cd 209 127 = some (.aload 0, 1) := by decide +kernel
theorem c209_128 : cd 209 128 = some (.aload 0, 1) := by decide +kernel
theorem c209_129 : cd 209 129 = some (.getfield 1026, 3) := by decide +kernel
theorem c209_132 : cd 209 132 = some (.iload 1, 1) := by decide +kernel
theorem c209_133 : cd 209 133 = some (.baload, 1) := by decide +kernel
theorem c209_134 : cd 209 134 = some (.invokestatic 271, 3) := by decide +kernel
theorem c209_137 : cd 209 137 = some (.ifCond .eq 149, 3) := by decide +kernel
theorem c209_140 : cd 209 140 = some (.aload 0, 1) := by decide +kernel
theorem c209_141 : cd 209 141 = some (.getfield 1026, 3) := by decide +kernel
theorem c209_144 : cd 209 144 = some (.iload 1, 1) := by decide +kernel
theorem c209_145 : cd 209 145 = some (.baload, 1) := by decide +kernel
theorem c209_146 : cd 209 146 = some (.goto 150, 3) := by decide +kernel
theorem c209_149 : cd 209 149 = some (.sipush (-1), 1) := by decide +kernel
theorem c209_150 : cd 209 150 = some (.iload 1, 1) := by decide +kernel
theorem c209_151 : cd 209 151 = some (.sipush 0, 1) := by decide +kernel
theorem c209_152 : cd 209 152 = some (.invokevirtual 210, 3) := by decide +kernel
theorem c209_155 : cd 209 155 = some (.iload 1, 1) := by decide +kernel
theorem c209_156 : cd 209 156 = some (.sipush 1, 1) := by decide +kernel
theorem c209_157 : cd 209 157 = some (.iadd, 1) := by decide +kernel
theorem c209_158 : cd 209 158 = some (.ireturn, 1) := by decide +kernel
theorem g209_0 {d : Nat} {a1 : Int} {x2 x3 x4 : Option aV} {w : aW} {Q : Option aV → aW → Prop} : T (d + 1) 209 0 [some (vr 1), some (vi a1), x2, x3, x4] [] w Q = ((0 ≤ a1 ∧ a1 < 900) ∧ T d 268 0 [some (vi (w 2 a1))] [] w (fun r w1 => T (d + 1) 209 14 [some (vr 1), some (vi a1), x2, some (vi a1), some (vi 0)] (r.toList ++ []) w1 Q)) := by
  rw [T_iload_1 c209_0, T_istore_3 c209_1, T_sipush c209_2, T_istore_4 c209_3, T_aload_0 c209_5, T_getR 4 0 0 c209_6 rfl rfl rfl rfl, rf_1_0, T_iload_1 c209_9, T_bald c209_10, lbv_2, T_inv (es := [some (vi (w 2 a1))]) (st := [vi (w 2 a1)]) (ks := [0]) (n := 1) (as := [vi (w 2 a1)]) (rest := []) c209_11 (by decide +kernel) (by decide +kernel) rfl rfl (Nat.le_of_ble_eq_true rfl)]
  all_goals try simp only [lay_1, lb_2, lbv_2, true_and, Nat.reduceAdd, eq_self_iff_true]
theorem g209_14 {d : Nat} {a1 s0 : Int} {x2 x3 x4 : Option aV} {w : aW} {Q : Option aV → aW → Prop} : T (d + 1) 209 14 [some (vr 1), some (vi a1), x2, x3, x4] [vi s0] w Q = ((s0 = 0 → ((0 ≤ a1 ∧ a1 < 900) ∧ T d 270 0 [some (vi (w 2 a1))] [] w (fun r w1 => T (d + 1) 209 63 [some (vr 1), some (vi a1), x2, x3, x4] (r.toList ++ []) w1 Q))) ∧ (¬ (s0 = 0) → T (d + 1) 209 17 [some (vr 1), some (vi a1), x2, x3, x4] [] w Q)) := by
  rw [T_if_eq 54 c209_14 rfl, T_aload_0 c209_54, T_getR 4 0 0 c209_55 rfl rfl rfl rfl, rf_1_0, T_iload_1 c209_58, T_bald c209_59, lbv_2, T_inv (es := [some (vi (w 2 a1))]) (st := [vi (w 2 a1)]) (ks := [0]) (n := 1) (as := [vi (w 2 a1)]) (rest := []) c209_60 (by decide +kernel) (by decide +kernel) rfl rfl (Nat.le_of_ble_eq_true rfl)]
  all_goals try simp only [Int.reduceToNat, lay_1, lb_2, lbv_2, true_and, Nat.reduceAdd, eq_self_iff_true]
theorem g209_17 {d : Nat} {a2 a3 : Int} {x1 x4 : Option aV} {w : aW} {Q : Option aV → aW → Prop} : T (d + 1) 209 17 [some (vr 1), x1, some (vi a2), some (vi a3), x4] [] w Q = ((a2 ≤ a3 → T (d + 1) 209 40 [some (vr 1), x1, some (vi a2), some (vi a3), x4] [] w Q) ∧ (¬ (a2 ≤ a3) → ((0 ≤ a3 ∧ a3 < 900) ∧ T d 268 0 [some (vi (w 2 a3))] [] w (fun r w1 => T (d + 1) 209 31 [some (vr 1), x1, some (vi a2), some (vi a3), x4] (r.toList ++ []) w1 Q)))) := by
  rw [T_iload_3 c209_17, T_iload_2 c209_18, T_icmp_ge 40 c209_19 rfl, T_aload_0 c209_22, T_getR 4 0 0 c209_23 rfl rfl rfl rfl, rf_1_0, T_iload_3 c209_26, T_bald c209_27, lbv_2, T_inv (es := [some (vi (w 2 a3))]) (st := [vi (w 2 a3)]) (ks := [0]) (n := 1) (as := [vi (w 2 a3)]) (rest := []) c209_28 (by decide +kernel) (by decide +kernel) rfl rfl (Nat.le_of_ble_eq_true rfl)]
  all_goals try simp only [Int.reduceToNat, lay_1, lb_2, lbv_2, true_and, Nat.reduceAdd, eq_self_iff_true]
theorem g209_31 {d : Nat} {a3 s0 : Int} {x0 x1 x2 x4 : Option aV} {w : aW} {Q : Option aV → aW → Prop} : T d 209 31 [x0, x1, x2, some (vi a3), x4] [vi s0] w Q = ((s0 = 0 → T d 209 40 [x0, x1, x2, some (vi a3), x4] [] w Q) ∧ (¬ (s0 = 0) → T d 209 17 [x0, x1, x2, some (vi (w32 (a3 + 1))), x4] [] w Q)) := by
  rw [T_if_eq 40 c209_31 rfl, T_iinc_3 c209_34, T_goto 17 c209_37 rfl]
  all_goals try simp only [Int.reduceToNat, true_and, Nat.reduceAdd, eq_self_iff_true]
theorem g209_40 {d : Nat} {a1 a3 : Int} {x2 x4 : Option aV} {w : aW} {Q : Option aV → aW → Prop} : T (d + 1) 209 40 [some (vr 1), some (vi a1), x2, some (vi a3), x4] [] w Q = T d 269 0 [some (vr 1), some (vi a1), some (vi a3), none, none, none] [] w (fun r w1 => T (d + 1) 209 47 [some (vr 1), some (vi a1), x2, some (vi a3), x4] (r.toList ++ [vr 1]) w1 Q) := by
  rw [T_aload_0 c209_40, T_aload_0 c209_41, T_iload_1 c209_42, T_iload_3 c209_43, T_invv (es := [some (vr 1), some (vi a1), some (vi a3), none, none, none]) (st := [vi a3, vi a1, vr 1, vr 1]) (ks := [2, 0, 0]) (n := 6) (c := 4) (k := 1) (as := [vi a1, vi a3]) (rest := [vr 1]) c209_44 (by decide +kernel) (by decide +kernel) (by decide +kernel) (by decide) rfl rfl (Nat.le_of_ble_eq_true rfl)]
  all_goals try simp only [lay_1, true_and, Nat.reduceAdd, eq_self_iff_true]
theorem g209_47 {d : Nat} {a1 s1 : Int} {s0 : Nat} {x0 x2 x3 x4 : Option aV} {w : aW} {Q : Option aV → aW → Prop} : T (d + 1) 209 47 [x0, some (vi a1), x2, x3, x4] [vi s1, vr s0] w Q = (lay s0 = (4, 0) ∧ T d 210 0 [some (vr s0), some (vi s1), some (vi a1), some (vi 0)] [] w (fun r w1 => T (d + 1) 209 52 [x0, some (vi a1), x2, x3, x4] (r.toList ++ []) w1 Q)) := by
  rw [T_iload_1 c209_47, T_sipush c209_48, T_invv (es := [some (vr s0), some (vi s1), some (vi a1), some (vi 0)]) (st := [vi 0, vi a1, vi s1, vr s0]) (ks := [2, 0, 0, 0]) (n := 4) (c := 4) (k := s0) (as := [vi s1, vi a1, vi 0]) (rest := []) c209_49 (by decide +kernel) (by decide +kernel) (by decide +kernel) (by decide) rfl rfl (Nat.le_of_ble_eq_true rfl)]
  all_goals try simp only [true_and, Nat.reduceAdd, eq_self_iff_true]
theorem g209_52 {d : Nat} {a3 : Int} {x0 x1 x2 x4 : Option aV} {w : aW} {Q : Option aV → aW → Prop} : T d 209 52 [x0, x1, x2, some (vi a3), x4] [] w Q = Q (some (vi a3)) w := by
  rw [T_iload_3 c209_52, T_ireti c209_53 (by decide +kernel)]
  all_goals try simp only [true_and, Nat.reduceAdd, eq_self_iff_true]
theorem g209_63 {d : Nat} {a1 s0 : Int} {x2 x3 x4 : Option aV} {w : aW} {Q : Option aV → aW → Prop} : T (d + 1) 209 63 [some (vr 1), some (vi a1), x2, x3, x4] [vi s0] w Q = ((s0 = 0 → ((0 ≤ a1 ∧ a1 < 900) ∧ T d 271 0 [some (vi (w 2 a1))] [] w (fun r w1 => T (d + 1) 209 137 [some (vr 1), some (vi a1), x2, x3, x4] (r.toList ++ [vr 1]) w1 Q))) ∧ (¬ (s0 = 0) → T (d + 1) 209 66 [some (vr 1), some (vi a1), x2, x3, x4] [] w Q)) := by
  rw [T_if_eq 127 c209_63 rfl, T_aload_0 c209_127, T_aload_0 c209_128, T_getR 4 0 0 c209_129 rfl rfl rfl rfl, rf_1_0, T_iload_1 c209_132, T_bald c209_133, lbv_2, T_inv (es := [some (vi (w 2 a1))]) (st := [vi (w 2 a1), vr 1]) (ks := [0]) (n := 1) (as := [vi (w 2 a1)]) (rest := [vr 1]) c209_134 (by decide +kernel) (by decide +kernel) rfl rfl (Nat.le_of_ble_eq_true rfl)]
  all_goals try simp only [Int.reduceToNat, lay_1, lb_2, lbv_2, true_and, Nat.reduceAdd, eq_self_iff_true]
theorem g209_66 {d : Nat} {a2 a3 : Int} {x1 x4 : Option aV} {w : aW} {Q : Option aV → aW → Prop} : T (d + 1) 209 66 [some (vr 1), x1, some (vi a2), some (vi a3), x4] [] w Q = ((a2 ≤ a3 → T (d + 1) 209 106 [some (vr 1), x1, some (vi a2), some (vi a3), x4] [] w Q) ∧ (¬ (a2 ≤ a3) → ((0 ≤ a3 ∧ a3 < 900) ∧ T d 270 0 [some (vi (w 2 a3))] [] w (fun r w1 => T (d + 1) 209 80 [some (vr 1), x1, some (vi a2), some (vi a3), x4] (r.toList ++ []) w1 Q)))) := by
  rw [T_iload_3 c209_66, T_iload_2 c209_67, T_icmp_ge 106 c209_68 rfl, T_aload_0 c209_71, T_getR 4 0 0 c209_72 rfl rfl rfl rfl, rf_1_0, T_iload_3 c209_75, T_bald c209_76, lbv_2, T_inv (es := [some (vi (w 2 a3))]) (st := [vi (w 2 a3)]) (ks := [0]) (n := 1) (as := [vi (w 2 a3)]) (rest := []) c209_77 (by decide +kernel) (by decide +kernel) rfl rfl (Nat.le_of_ble_eq_true rfl)]
  all_goals try simp only [Int.reduceToNat, lay_1, lb_2, lbv_2, true_and, Nat.reduceAdd, eq_self_iff_true]
theorem g209_80 {d : Nat} {a3 a4 s0 : Int} {x1 x2 : Option aV} {w : aW} {Q : Option aV → aW → Prop} : T d 209 80 [some (vr 1), x1, x2, some (vi a3), some (vi a4)] [vi s0] w Q = ((s0 = 0 → T d 209 106 [some (vr 1), x1, x2, some (vi a3), some (vi a4)] [] w Q) ∧ (¬ (s0 = 0) → ((0 ≤ a3 ∧ a3 < 900) ∧ T d 209 66 [some (vr 1), x1, x2, some (vi (w32 (a3 + 1))), some (vi (w32 ((w32 ((w32 (a4 * 10)) + (w 2 a3))) - 48)))] [] w Q))) := by
  rw [T_if_eq 106 c209_80 rfl, T_iload_4 c209_83, T_sipush c209_85, T_imul c209_87, T_aload_0 c209_88, T_getR 4 0 0 c209_89 rfl rfl rfl rfl, rf_1_0, T_iload_3 c209_92, T_bald c209_93, lbv_2, T_iadd c209_94, T_sipush c209_95, T_isub c209_97, T_istore_4 c209_98, T_iinc_3 c209_100, T_goto 66 c209_103 rfl]
  all_goals try simp only [Int.reduceToNat, lay_1, lb_2, lbv_2, true_and, Nat.reduceAdd, eq_self_iff_true]
theorem g209_106 {d : Nat} {a1 a3 : Int} {x2 x4 : Option aV} {w : aW} {Q : Option aV → aW → Prop} : T d 209 106 [some (vr 1), some (vi a1), x2, some (vi a3), x4] [] w Q = ((w32 (a3 - a1) ≤ 3 → T d 209 119 [some (vr 1), some (vi a1), x2, some (vi a3), x4] [vi 1, vr 1] w Q) ∧ (¬ (w32 (a3 - a1) ≤ 3) → T d 209 119 [some (vr 1), some (vi a1), x2, some (vi a3), x4] [vi (-1), vr 1] w Q)) := by
  rw [T_aload_0 c209_106, T_iload_3 c209_107, T_iload_1 c209_108, T_isub c209_109, T_sipush c209_110, T_icmp_le 118 c209_111 rfl, T_sipush c209_118, T_sipush c209_114, T_goto 119 c209_115 rfl]
  all_goals try simp only [Int.reduceToNat, true_and, Nat.reduceAdd, eq_self_iff_true]
theorem g209_119 {d : Nat} {a1 a4 s1 : Int} {s0 : Nat} {x0 x2 x3 : Option aV} {w : aW} {Q : Option aV → aW → Prop} : T (d + 1) 209 119 [x0, some (vi a1), x2, x3, some (vi a4)] [vi s1, vr s0] w Q = (lay s0 = (4, 0) ∧ T d 210 0 [some (vr s0), some (vi s1), some (vi a1), some (vi a4)] [] w (fun r w1 => T (d + 1) 209 125 [x0, some (vi a1), x2, x3, some (vi a4)] (r.toList ++ []) w1 Q)) := by
  rw [T_iload_1 c209_119, T_iload_4 c209_120, T_invv (es := [some (vr s0), some (vi s1), some (vi a1), some (vi a4)]) (st := [vi a4, vi a1, vi s1, vr s0]) (ks := [2, 0, 0, 0]) (n := 4) (c := 4) (k := s0) (as := [vi s1, vi a1, vi a4]) (rest := []) c209_122 (by decide +kernel) (by decide +kernel) (by decide +kernel) (by decide) rfl rfl (Nat.le_of_ble_eq_true rfl)]
  all_goals try simp only [true_and, Nat.reduceAdd, eq_self_iff_true]
theorem g209_125 {d : Nat} {a3 : Int} {x0 x1 x2 x4 : Option aV} {w : aW} {Q : Option aV → aW → Prop} : T d 209 125 [x0, x1, x2, some (vi a3), x4] [] w Q = Q (some (vi a3)) w := by
  rw [T_iload_3 c209_125, T_ireti c209_126 (by decide +kernel)]
  all_goals try simp only [true_and, Nat.reduceAdd, eq_self_iff_true]
theorem g209_137 {d : Nat} {a1 s1 : Int} {s0 : Nat} {x2 x3 x4 : Option aV} {w : aW} {Q : Option aV → aW → Prop} : T d 209 137 [some (vr 1), some (vi a1), x2, x3, x4] [vi s1, vr s0] w Q = ((s1 = 0 → T d 209 150 [some (vr 1), some (vi a1), x2, x3, x4] [vi (-1), vr s0] w Q) ∧ (¬ (s1 = 0) → ((0 ≤ a1 ∧ a1 < 900) ∧ T d 209 150 [some (vr 1), some (vi a1), x2, x3, x4] [vi (w 2 a1), vr s0] w Q))) := by
  rw [T_if_eq 149 c209_137 rfl, T_sipush c209_149, T_aload_0 c209_140, T_getR 4 0 0 c209_141 rfl rfl rfl rfl, rf_1_0, T_iload_1 c209_144, T_bald c209_145, lbv_2, T_goto 150 c209_146 rfl]
  all_goals try simp only [Int.reduceToNat, lay_1, lb_2, lbv_2, true_and, Nat.reduceAdd, eq_self_iff_true]
theorem g209_150 {d : Nat} {a1 s1 : Int} {s0 : Nat} {x0 x2 x3 x4 : Option aV} {w : aW} {Q : Option aV → aW → Prop} : T (d + 1) 209 150 [x0, some (vi a1), x2, x3, x4] [vi s1, vr s0] w Q = (lay s0 = (4, 0) ∧ T d 210 0 [some (vr s0), some (vi s1), some (vi a1), some (vi 0)] [] w (fun r w1 => T (d + 1) 209 155 [x0, some (vi a1), x2, x3, x4] (r.toList ++ []) w1 Q)) := by
  rw [T_iload_1 c209_150, T_sipush c209_151, T_invv (es := [some (vr s0), some (vi s1), some (vi a1), some (vi 0)]) (st := [vi 0, vi a1, vi s1, vr s0]) (ks := [2, 0, 0, 0]) (n := 4) (c := 4) (k := s0) (as := [vi s1, vi a1, vi 0]) (rest := []) c209_152 (by decide +kernel) (by decide +kernel) (by decide +kernel) (by decide) rfl rfl (Nat.le_of_ble_eq_true rfl)]
  all_goals try simp only [true_and, Nat.reduceAdd, eq_self_iff_true]
theorem g209_155 {d : Nat} {a1 : Int} {x0 x2 x3 x4 : Option aV} {w : aW} {Q : Option aV → aW → Prop} : T d 209 155 [x0, some (vi a1), x2, x3, x4] [] w Q = Q (some (vi (w32 (a1 + 1)))) w := by
  rw [T_iload_1 c209_155, T_sipush c209_156, T_iadd c209_157, T_ireti c209_158 (by decide +kernel)]
  all_goals try simp only [true_and, Nat.reduceAdd, eq_self_iff_true]
/-! 210: StringHands$Reader.addToken.(III)V -/
theorem c210_0 : cd 210 0 = some (.aload 0, 1) := by decide +kernel
theorem c210_1 : cd 210 1 = some (.getfield 1056, 3) := by decide +kernel
theorem c210_4 : cd 210 4 = some (.sipush 900, 3) := by decide +kernel
theorem c210_7 : cd 210 7 = some (.if_icmp .gt 50, 3) := by decide +kernel
theorem c210_10 : cd 210 10 = some (.aload 0, 1) := by decide +kernel
theorem c210_11 : cd 210 11 = some (.getfield 1046, 3) := by decide +kernel
theorem c210_14 : cd 210 14 = some (.aload 0, 1) := by decide +kernel
theorem c210_15 : cd 210 15 = some (.getfield 1056, 3) := by decide +kernel
theorem c210_18 : cd 210 18 = some (.iload 1, 1) := by decide +kernel
theorem c210_19 : cd 210 19 = some (.iastore, 1) := by decide +kernel
theorem c210_20 : cd 210 20 = some (.aload 0, 1) := by decide +kernel
theorem c210_21 : cd 210 21 = some (.getfield 1050, 3) := by decide +kernel
theorem c210_24 : cd 210 24 = some (.aload 0, 1) := by decide +kernel
theorem c210_25 : cd 210 25 = some (.getfield 1056, 3) := by decide +kernel
theorem c210_28 : cd 210 28 = some (.iload 2, 1) := by decide +kernel
theorem c210_29 : cd 210 29 = some (.iastore, 1) := by decide +kernel
theorem c210_30 : cd 210 30 = some (.aload 0, 1) := by decide +kernel
theorem c210_31 : cd 210 31 = some (.getfield 1054, 3) := by decide +kernel
theorem c210_34 : cd 210 34 = some (.aload 0, 1) := by decide +kernel
theorem c210_35 : cd 210 35 = some (.getfield 1056, 3) := by decide +kernel
theorem c210_38 : cd 210 38 = some (.iload 3, 1) := by decide +kernel
theorem c210_39 : cd 210 39 = some (.iastore, 1) := by decide +kernel
theorem c210_40 : cd 210 40 = some (.aload 0, 1) := by decide +kernel
theorem c210_41 : cd 210 41 = some (.dup, 1) := by decide +kernel
theorem c210_42 : cd 210 42 = some (.getfield 1056, 3) := by decide +kernel
theorem c210_45 : cd 210 45 = some (.sipush 1, 1) := by decide +kernel
theorem c210_46 : cd 210 46 = some (.iadd, 1) := by decide +kernel
theorem c210_47 : cd 210 47 = some (.putfield 1056, 3) := by decide +kernel
theorem c210_50 : cd 210 50 = some (.return_, 1) := by decide +kernel
theorem g210_0 {d : Nat} {a1 a2 a3 : Int} {w : aW} {Q : Option aV → aW → Prop} : T d 210 0 [some (vr 1), some (vi a1), some (vi a2), some (vi a3)] [] w Q = ((900 < w 1 8 → T d 210 50 [some (vr 1), some (vi a1), some (vi a2), some (vi a3)] [] w Q) ∧ (¬ (900 < w 1 8) → ((0 ≤ w 1 8 ∧ w 1 8 < 901) ∧ ((0 ≤ (iup w 13 (w 1 8) a1) 1 8 ∧ (iup w 13 (w 1 8) a1) 1 8 < 901) ∧ ((0 ≤ (iup (iup w 13 (w 1 8) a1) 14 ((iup w 13 (w 1 8) a1) 1 8) a2) 1 8 ∧ (iup (iup w 13 (w 1 8) a1) 14 ((iup w 13 (w 1 8) a1) 1 8) a2) 1 8 < 901) ∧ T d 210 50 [some (vr 1), some (vi a1), some (vi a2), some (vi a3)] [] (iup (iup (iup (iup w 13 (w 1 8) a1) 14 ((iup w 13 (w 1 8) a1) 1 8) a2) 15 ((iup (iup w 13 (w 1 8) a1) 14 ((iup w 13 (w 1 8) a1) 1 8) a2) 1 8) a3) 1 8 (w32 (((iup (iup (iup w 13 (w 1 8) a1) 14 ((iup w 13 (w 1 8) a1) 1 8) a2) 15 ((iup (iup w 13 (w 1 8) a1) 14 ((iup w 13 (w 1 8) a1) 1 8) a2) 1 8) a3) 1 8) + 1))) Q))))) := by
  rw [T_aload_0 c210_0, T_getI 4 8 8 c210_1 rfl rfl rfl rfl, T_sipush c210_4, T_icmp_gt 50 c210_7 rfl, T_aload_0 c210_10, T_getR 4 5 5 c210_11 rfl rfl rfl rfl, rf_1_5, T_aload_0 c210_14, T_getI 4 8 8 c210_15 rfl rfl rfl rfl, T_iload_1 c210_18, T_iast c210_19, T_aload_0 c210_20, T_getR 4 6 6 c210_21 rfl rfl rfl rfl, rf_1_6, T_aload_0 c210_24, T_getI 4 8 8 c210_25 rfl rfl rfl rfl, T_iload_2 c210_28, T_iast c210_29, T_aload_0 c210_30, T_getR 4 7 7 c210_31 rfl rfl rfl rfl, rf_1_7, T_aload_0 c210_34, T_getI 4 8 8 c210_35 rfl rfl rfl rfl, T_iload_3 c210_38, T_iast c210_39, T_aload_0 c210_40, T_dup_r c210_41, T_getI 4 8 8 c210_42 rfl rfl rfl rfl, T_sipush c210_45, T_iadd c210_46, T_putI 4 8 8 c210_47 rfl rfl rfl rfl]
  all_goals try simp only [Int.reduceToNat, ia0_13, ia0_14, ia0_15, lay_1, true_and, Nat.reduceAdd, eq_self_iff_true]
theorem g210_50 {d : Nat} {x0 x1 x2 x3 : Option aV} {w : aW} {Q : Option aV → aW → Prop} : T d 210 50 [x0, x1, x2, x3] [] w Q = Q none w := by
  rw [T_vret c210_50 (by decide +kernel)]
  all_goals try simp only [true_and, Nat.reduceAdd, eq_self_iff_true]
/-! 211: StringHands$Troupe.clear.()V -/
theorem c211_0 : cd 211 0 = some (.aload 0, 1) := by decide +kernel
theorem c211_1 : cd 211 1 = some (.sipush 0, 1) := by decide +kernel
theorem c211_2 : cd 211 2 = some (.putfield 2048, 3) := by decide +kernel
theorem c211_5 : cd 211 5 = some (.aload 0, 1) := by decide +kernel
theorem c211_6 : cd 211 6 = some (.sipush 0, 1) := by decide +kernel
theorem c211_7 : cd 211 7 = some (.putfield 2052, 3) := by decide +kernel
theorem c211_10 : cd 211 10 = some (.aload 0, 1) := by decide +kernel
theorem c211_11 : cd 211 11 = some (.sipush 0, 1) := by decide +kernel
theorem c211_12 : cd 211 12 = some (.putfield 2056, 3) := by decide +kernel
theorem c211_15 : cd 211 15 = some (.aload 0, 1) := by decide +kernel
theorem c211_16 : cd 211 16 = some (.sipush 0, 1) := by decide +kernel
theorem c211_17 : cd 211 17 = some (.putfield 2060, 3) := by decide +kernel
theorem c211_20 : cd 211 20 = some (.aload 0, 1) := by decide +kernel
theorem c211_21 : cd 211 21 = some (.sipush 0, 1) := by decide +kernel
theorem c211_22 : cd 211 22 = some (.putfield 2064, 3) := by decide +kernel
theorem c211_25 : cd 211 25 = some (.aload 0, 1) := by decide +kernel
theorem c211_26 : cd 211 26 = some (.sipush 0, 1) := by decide +kernel
theorem c211_27 : cd 211 27 = some (.putfield 2068, 3) := by decide +kernel
theorem c211_30 : cd 211 30 = some (.aload 0, 1) := by decide +kernel
theorem c211_31 : cd 211 31 = some (.sipush 0, 1) := by decide +kernel
theorem c211_32 : cd 211 32 = some (.putfield 2092, 3) := by decide +kernel
theorem c211_35 : cd 211 35 = some (.aload 0, 1) := by decide +kernel
theorem c211_36 : cd 211 36 = some (.sipush 0, 1) := by decide +kernel
theorem c211_37 : cd 211 37 = some (.putfield 2096, 3) := by decide +kernel
theorem c211_40 : cd 211 40 = some (.aload 0, 1) := by decide +kernel
theorem c211_41 : cd 211 41 = some (.sipush 0, 1) := by decide +kernel
theorem c211_42 : cd 211 42 = some (.putfield 2100, 3) := by decide +kernel
theorem c211_45 : cd 211 45 = some (.aload 0, 1) := by decide +kernel
theorem c211_46 : cd 211 46 = some (.sipush 0, 1) := by decide +kernel
theorem c211_47 : cd 211 47 = some (.putfield 2120, 3) := by decide +kernel
theorem c211_50 : cd 211 50 = some (.return_, 1) := by decide +kernel
theorem g211_0 {d : Nat} {r0 : Nat} {w : aW} {Q : Option aV → aW → Prop} : T d 211 0 [some (vr r0)] [] w Q = ((lay r0 = (8, 0)) ∧ ((lay r0 = (8, 0)) ∧ ((lay r0 = (8, 0)) ∧ ((lay r0 = (8, 0)) ∧ ((lay r0 = (8, 0)) ∧ ((lay r0 = (8, 0)) ∧ ((lay r0 = (8, 0)) ∧ ((lay r0 = (8, 0)) ∧ ((lay r0 = (8, 0)) ∧ ((lay r0 = (8, 0)) ∧ Q none (iup (iup (iup (iup (iup (iup (iup (iup (iup (iup w r0 0 0) r0 1 0) r0 2 0) r0 3 0) r0 4 0) r0 5 0) r0 11 0) r0 12 0) r0 13 0) r0 18 0))))))))))) := by
  rw [T_aload_0 c211_0, T_sipush c211_1, T_putI 8 0 0 c211_2 rfl rfl rfl rfl, T_aload_0 c211_5, T_sipush c211_6, T_putI 8 1 1 c211_7 rfl rfl rfl rfl, T_aload_0 c211_10, T_sipush c211_11, T_putI 8 2 2 c211_12 rfl rfl rfl rfl, T_aload_0 c211_15, T_sipush c211_16, T_putI 8 3 3 c211_17 rfl rfl rfl rfl, T_aload_0 c211_20, T_sipush c211_21, T_putI 8 4 4 c211_22 rfl rfl rfl rfl, T_aload_0 c211_25, T_sipush c211_26, T_putI 8 5 5 c211_27 rfl rfl rfl rfl, T_aload_0 c211_30, T_sipush c211_31, T_putI 8 11 11 c211_32 rfl rfl rfl rfl, T_aload_0 c211_35, T_sipush c211_36, T_putI 8 12 12 c211_37 rfl rfl rfl rfl, T_aload_0 c211_40, T_sipush c211_41, T_putI 8 13 13 c211_42 rfl rfl rfl rfl, T_aload_0 c211_45, T_sipush c211_46, T_putI 8 18 18 c211_47 rfl rfl rfl rfl, T_vret c211_50 (by decide +kernel)]
  all_goals try simp only [true_and, Nat.reduceAdd, eq_self_iff_true]
/-! 212: StringHands$Reader.goOn.()Z -/
theorem c212_0 : cd 212 0 = some (.aload 0, 1) := by decide +kernel
theorem c212_1 : cd 212 1 = some (.getfield 1060, 3) := by decide +kernel
theorem c212_4 : cd 212 4 = some (.sipush 1, 1) := by decide +kernel
theorem c212_5 : cd 212 5 = some (.iadd, 1) := by decide +kernel
theorem c212_6 : cd 212 6 = some (.aload 0, 1) := by decide +kernel
theorem c212_7 : cd 212 7 = some (.getfield 1056, 3) := by decide +kernel
theorem c212_10 : cd 212 10 = some (.if_icmp .ge 23, 3) := by decide +kernel
theorem c212_13 : cd 212 13 = some (.aload 0, 1) := by decide +kernel
theorem c212_14 : cd 212 14 = some (.dup, 1) := by decide +kernel
theorem c212_15 : cd 212 15 = some (.getfield 1060, 3) := by decide +kernel
theorem c212_18 : cd 212 18 = some (.sipush 1, 1) := by decide +kernel
theorem c212_19 : cd 212 19 = some (.iadd, 1) := by decide +kernel
theorem c212_20 : cd 212 20 = some (.putfield 1060, 3) := by decide +kernel
theorem c212_23 : cd 212 23 = some (.aload 0, 1) := by decide +kernel
theorem c212_24 : cd 212 24 = some (.aload 0, 1) := by decide +kernel
theorem c212_25 : cd 212 25 = some (.getfield 1046, 3) := by decide +kernel
theorem c212_28 : cd 212 28 = some (.aload 0, 1) := by decide +kernel
theorem c212_29 : cd 212 29 = some (.getfield 1060, 3) := by decide +kernel
theorem c212_32 : cd 212 32 = some (.iaload, 1) := by decide +kernel
theorem c212_33 : cd 212 33 = some (.putfield 1064, 3) := by decide +kernel
theorem c212_36 : cd 212 36 = some (.aload 0, 1) := by decide +kernel
theorem c212_37 : cd 212 37 = some (.aload 0, 1) := by decide +kernel
theorem c212_38 : cd 212 38 = some (.getfield 1054, 3) := by decide +kernel
theorem c212_41 : cd 212 41 = some (.aload 0, 1) := by decide +kernel
theorem c212_42 : cd 212 42 = some (.getfield 1060, 3) := by decide +kernel
theorem c212_45 : cd 212 45 = some (.iaload, 1) := by decide +kernel
theorem c212_46 : cd 212 46 = some (.putfield 1068, 3) := by decide +kernel
theorem c212_49 : cd 212 49 = some (.aload 0, 1) := by decide +kernel
theorem c212_50 : cd 212 50 = some (.getfield 1064, 3) := by decide +kernel
theorem c212_53 : cd 212 53 = some (.sipush (-1), 1) := by decide +kernel
theorem c212_54 : cd 212 54 = some (.if_icmp .ne 65, 3) := by decide +kernel
theorem c212_57 : cd 212 57 = some (.aload 0, 1) := by decide +kernel
theorem c212_58 : cd 212 58 = some (.sipush 1, 1) := by decide +kernel
theorem c212_59 : cd 212 59 = some (.invokevirtual 219, 3) := by decide +kernel
theorem c212_62 : cd 212 62 = some (.ifCond .eq 69, 3) := by decide +kernel
theorem c212_65 : cd 212 65 = some (.sipush 1, 1) := by decide +kernel
theorem c212_66 : cd 212 66 = some (.goto 70, 3) := by decide +kernel
theorem c212_69 : cd 212 69 = some (.sipush 0, 1) := by decide +kernel
theorem c212_70 : cd 212 70 = some (.ireturn, 1) := by decide +kernel
theorem g212_0 {d : Nat} {w : aW} {Q : Option aV → aW → Prop} : T d 212 0 [some (vr 1)] [] w Q = ((w 1 8 ≤ w32 ((w 1 9) + 1) → T d 212 23 [some (vr 1)] [] w Q) ∧ (¬ (w 1 8 ≤ w32 ((w 1 9) + 1)) → T d 212 23 [some (vr 1)] [] (iup w 1 9 (w32 ((w 1 9) + 1))) Q)) := by
  rw [T_aload_0 c212_0, T_getI 4 9 9 c212_1 rfl rfl rfl rfl, T_sipush c212_4, T_iadd c212_5, T_aload_0 c212_6, T_getI 4 8 8 c212_7 rfl rfl rfl rfl, T_icmp_ge 23 c212_10 rfl, T_aload_0 c212_13, T_dup_r c212_14, T_getI 4 9 9 c212_15 rfl rfl rfl rfl, T_sipush c212_18, T_iadd c212_19, T_putI 4 9 9 c212_20 rfl rfl rfl rfl]
  all_goals try simp only [Int.reduceToNat, lay_1, true_and, Nat.reduceAdd, eq_self_iff_true]
theorem g212_23 {d : Nat} {w : aW} {Q : Option aV → aW → Prop} : T (d + 1) 212 23 [some (vr 1)] [] w Q = ((0 ≤ w 1 9 ∧ w 1 9 < 901) ∧ ((0 ≤ (iup w 1 10 (w 13 (w 1 9))) 1 9 ∧ (iup w 1 10 (w 13 (w 1 9))) 1 9 < 901) ∧ ((¬ (iup (iup w 1 10 (w 13 (w 1 9))) 1 11 ((iup w 1 10 (w 13 (w 1 9))) 15 ((iup w 1 10 (w 13 (w 1 9))) 1 9))) 1 10 = (-1) → T (d + 1) 212 65 [some (vr 1)] [] (iup (iup w 1 10 (w 13 (w 1 9))) 1 11 ((iup w 1 10 (w 13 (w 1 9))) 15 ((iup w 1 10 (w 13 (w 1 9))) 1 9))) Q) ∧ (¬ (¬ (iup (iup w 1 10 (w 13 (w 1 9))) 1 11 ((iup w 1 10 (w 13 (w 1 9))) 15 ((iup w 1 10 (w 13 (w 1 9))) 1 9))) 1 10 = (-1)) → T d 219 0 [some (vr 1), some (vi 1)] [] (iup (iup w 1 10 (w 13 (w 1 9))) 1 11 ((iup w 1 10 (w 13 (w 1 9))) 15 ((iup w 1 10 (w 13 (w 1 9))) 1 9))) (fun r w1 => T (d + 1) 212 62 [some (vr 1)] (r.toList ++ []) w1 Q))))) := by
  rw [T_aload_0 c212_23, T_aload_0 c212_24, T_getR 4 5 5 c212_25 rfl rfl rfl rfl, rf_1_5, T_aload_0 c212_28, T_getI 4 9 9 c212_29 rfl rfl rfl rfl, T_iald c212_32, T_putI 4 10 10 c212_33 rfl rfl rfl rfl, T_aload_0 c212_36, T_aload_0 c212_37, T_getR 4 7 7 c212_38 rfl rfl rfl rfl, rf_1_7, T_aload_0 c212_41, T_getI 4 9 9 c212_42 rfl rfl rfl rfl, T_iald c212_45, T_putI 4 11 11 c212_46 rfl rfl rfl rfl, T_aload_0 c212_49, T_getI 4 10 10 c212_50 rfl rfl rfl rfl, T_sipush c212_53, T_icmp_ne 65 c212_54 rfl, T_aload_0 c212_57, T_sipush c212_58, T_invv (es := [some (vr 1), some (vi 1)]) (st := [vi 1, vr 1]) (ks := [2, 0]) (n := 2) (c := 4) (k := 1) (as := [vi 1]) (rest := []) c212_59 (by decide +kernel) (by decide +kernel) (by decide +kernel) (by decide) rfl rfl (Nat.le_of_ble_eq_true rfl)]
  all_goals try simp only [Int.reduceToNat, lay_1, ld_13, ld_15, true_and, Nat.reduceAdd, eq_self_iff_true]
theorem g212_62 {d : Nat} {s0 : Int} {x0 : Option aV} {w : aW} {Q : Option aV → aW → Prop} : T d 212 62 [x0] [vi s0] w Q = ((s0 = 0 → T d 212 70 [x0] [vi 0] w Q) ∧ (¬ (s0 = 0) → T d 212 65 [x0] [] w Q)) := by
  rw [T_if_eq 69 c212_62 rfl, T_sipush c212_69]
  all_goals try simp only [Int.reduceToNat, true_and, Nat.reduceAdd, eq_self_iff_true]
theorem g212_65 {d : Nat} {x0 : Option aV} {w : aW} {Q : Option aV → aW → Prop} : T d 212 65 [x0] [] w Q = T d 212 70 [x0] [vi 1] w Q := by
  rw [T_sipush c212_65, T_goto 70 c212_66 rfl]
  all_goals try simp only [true_and, Nat.reduceAdd, eq_self_iff_true]
theorem g212_70 {d : Nat} {s0 : Int} {x0 : Option aV} {w : aW} {Q : Option aV → aW → Prop} : T d 212 70 [x0] [vi s0] w Q = ((s0 = 0 ∨ s0 = 1) ∧ Q (some (vi s0)) w) := by
  rw [T_iretz c212_70 (by decide +kernel)]
  all_goals try simp only [true_and, Nat.reduceAdd, eq_self_iff_true]
/-! 213: StringHands$Reader.readPuppet.()Z -/
theorem c213_0 : cd 213 0 = some (.aload 0, 1) := by decide +kernel
theorem c213_1 : cd 213 1 = some (.invokevirtual 212, 3) := by decide +kernel
theorem c213_4 : cd 213 4 = some (.ifCond .eq 17, 3) := by decide +kernel
theorem c213_7 : cd 213 7 = some (.aload 0, 1) := by decide +kernel
theorem c213_8 : cd 213 8 = some (.sipush 1, 1) := by decide +kernel
theorem c213_9 : cd 213 9 = some (.sipush 6, 2) := by decide +kernel
theorem c213_11 : cd 213 11 = some (.invokevirtual 272, 3) := by decide +kernel
theorem c213_14 : cd 213 14 = some (.ifCond .ne 19, 3) := by decide +kernel
theorem c213_17 : cd 213 17 = some (.sipush 0, 1) := by decide +kernel
theorem c213_18 : cd 213 18 = some (.ireturn, 1) := by decide +kernel
theorem c213_19 : cd 213 19 = some (.aload 0, 1) := by decide +kernel
theorem c213_20 : cd 213 20 = some (.getfield 1042, 3) := by decide +kernel
theorem c213_23 : cd 213 23 = some (.getfield 2052, 3) := by decide +kernel
theorem c213_26 : cd 213 26 = some (.aload 0, 1) := by decide +kernel
theorem c213_27 : cd 213 27 = some (.getfield 1068, 3) := by decide +kernel
theorem c213_30 : cd 213 30 = some (.iadd, 1) := by decide +kernel
theorem c213_31 : cd 213 31 = some (.sipush 10, 2) := by decide +kernel
theorem c213_33 : cd 213 33 = some (.if_icmp .le 42, 3) := by decide +kernel
theorem c213_36 : cd 213 36 = some (.aload 0, 1) := by decide +kernel
theorem c213_37 : cd 213 37 = some (.sipush 4, 1) := by decide +kernel
theorem c213_38 : cd 213 38 = some (.invokevirtual 219, 3) := by decide +kernel
theorem c213_41 : cd 213 41 = some (.ireturn, 1) := by decide +kernel
theorem c213_42 : cd 213 42 = some (.aload 0, 1) := by decide +kernel
theorem c213_43 : cd 213 43 = some (.getfield 1042, 3) := by decide +kernel
theorem c213_46 : cd 213 46 = some (.aload 0, 1) := by decide +kernel
theorem c213_47 : cd 213 47 = some (.getfield 1068, 3) := by decide +kernel
theorem c213_50 : cd 213 50 = some (.invokevirtual 273, 3) := by decide +kernel
theorem c213_53 : cd 213 53 = some (.aload 0, 1) := by decide +kernel
theorem c213_54 : cd 213 54 = some (.invokevirtual 212, 3) := by decide +kernel
theorem c213_57 : cd 213 57 = some (.ireturn, 1) := by decide +kernel
theorem g213_0 {d : Nat} {w : aW} {Q : Option aV → aW → Prop} : T (d + 1) 213 0 [some (vr 1)] [] w Q = T d 212 0 [some (vr 1)] [] w (fun r w1 => T (d + 1) 213 4 [some (vr 1)] (r.toList ++ []) w1 Q) := by
  rw [T_aload_0 c213_0, T_invv (es := [some (vr 1)]) (st := [vr 1]) (ks := [2]) (n := 1) (c := 4) (k := 1) (as := []) (rest := []) c213_1 (by decide +kernel) (by decide +kernel) (by decide +kernel) (by decide) rfl rfl (Nat.le_of_ble_eq_true rfl)]
  all_goals try simp only [lay_1, true_and, Nat.reduceAdd, eq_self_iff_true]
theorem g213_4 {d : Nat} {s0 : Int} {w : aW} {Q : Option aV → aW → Prop} : T (d + 1) 213 4 [some (vr 1)] [vi s0] w Q = ((s0 = 0 → T (d + 1) 213 17 [some (vr 1)] [] w Q) ∧ (¬ (s0 = 0) → T d 272 0 [some (vr 1), some (vi 1), some (vi 6)] [] w (fun r w1 => T (d + 1) 213 14 [some (vr 1)] (r.toList ++ []) w1 Q))) := by
  rw [T_if_eq 17 c213_4 rfl, T_aload_0 c213_7, T_sipush c213_8, T_sipush c213_9, T_invv (es := [some (vr 1), some (vi 1), some (vi 6)]) (st := [vi 6, vi 1, vr 1]) (ks := [2, 0, 0]) (n := 3) (c := 4) (k := 1) (as := [vi 1, vi 6]) (rest := []) c213_11 (by decide +kernel) (by decide +kernel) (by decide +kernel) (by decide) rfl rfl (Nat.le_of_ble_eq_true rfl)]
  all_goals try simp only [Int.reduceToNat, lay_1, true_and, Nat.reduceAdd, eq_self_iff_true]
theorem g213_14 {d : Nat} {s0 : Int} {w : aW} {Q : Option aV → aW → Prop} : T (d + 1) 213 14 [some (vr 1)] [vi s0] w Q = ((¬ s0 = 0 → ((w32 ((w 3 1) + (w 1 11)) ≤ 10 → T d 273 0 [some (vr 3), some (vi (w 1 11)), none] [] w (fun r w1 => T (d + 1) 213 53 [some (vr 1)] (r.toList ++ []) w1 Q)) ∧ (¬ (w32 ((w 3 1) + (w 1 11)) ≤ 10) → T d 219 0 [some (vr 1), some (vi 4)] [] w (fun r w1 => T (d + 1) 213 41 [some (vr 1)] (r.toList ++ []) w1 Q)))) ∧ (¬ (¬ s0 = 0) → T (d + 1) 213 17 [some (vr 1)] [] w Q)) := by
  rw [T_if_ne 19 c213_14 rfl, T_aload_0 c213_19, T_getR 4 4 4 c213_20 rfl rfl rfl rfl, rf_1_4, T_getI 8 1 1 c213_23 rfl rfl rfl rfl, T_aload_0 c213_26, T_getI 4 11 11 c213_27 rfl rfl rfl rfl, T_iadd c213_30, T_sipush c213_31, T_icmp_le 42 c213_33 rfl, T_aload_0 c213_42, T_getR 4 4 4 c213_43 rfl rfl rfl rfl, rf_1_4, T_aload_0 c213_46, T_getI 4 11 11 c213_47 rfl rfl rfl rfl, T_invv (es := [some (vr 3), some (vi (w 1 11)), none]) (st := [vi (w 1 11), vr 3]) (ks := [2, 0]) (n := 3) (c := 8) (k := 3) (as := [vi (w 1 11)]) (rest := []) c213_50 (by decide +kernel) (by decide +kernel) (by decide +kernel) (by decide) rfl rfl (Nat.le_of_ble_eq_true rfl), T_aload_0 c213_36, T_sipush c213_37, T_invv (es := [some (vr 1), some (vi 4)]) (st := [vi 4, vr 1]) (ks := [2, 0]) (n := 2) (c := 4) (k := 1) (as := [vi 4]) (rest := []) c213_38 (by decide +kernel) (by decide +kernel) (by decide +kernel) (by decide) rfl rfl (Nat.le_of_ble_eq_true rfl)]
  all_goals try simp only [Int.reduceToNat, lay_1, lay_3, true_and, Nat.reduceAdd, eq_self_iff_true]
theorem g213_17 {d : Nat} {x0 : Option aV} {w : aW} {Q : Option aV → aW → Prop} : T d 213 17 [x0] [] w Q = Q (some (vi 0)) w := by
  rw [T_sipush c213_17, T_iretz c213_18 (by decide +kernel)]
  all_goals try simp only [true_and, Nat.reduceAdd, eq_self_iff_true, zero_eq_1, one_eq_0, true_or, or_true]
theorem g213_41 {d : Nat} {s0 : Int} {x0 : Option aV} {w : aW} {Q : Option aV → aW → Prop} : T d 213 41 [x0] [vi s0] w Q = ((s0 = 0 ∨ s0 = 1) ∧ Q (some (vi s0)) w) := by
  rw [T_iretz c213_41 (by decide +kernel)]
  all_goals try simp only [true_and, Nat.reduceAdd, eq_self_iff_true]
theorem g213_53 {d : Nat} {w : aW} {Q : Option aV → aW → Prop} : T (d + 1) 213 53 [some (vr 1)] [] w Q = T d 212 0 [some (vr 1)] [] w (fun r w1 => T (d + 1) 213 57 [some (vr 1)] (r.toList ++ []) w1 Q) := by
  rw [T_aload_0 c213_53, T_invv (es := [some (vr 1)]) (st := [vr 1]) (ks := [2]) (n := 1) (c := 4) (k := 1) (as := []) (rest := []) c213_54 (by decide +kernel) (by decide +kernel) (by decide +kernel) (by decide) rfl rfl (Nat.le_of_ble_eq_true rfl)]
  all_goals try simp only [lay_1, true_and, Nat.reduceAdd, eq_self_iff_true]
theorem g213_57 {d : Nat} {s0 : Int} {x0 : Option aV} {w : aW} {Q : Option aV → aW → Prop} : T d 213 57 [x0] [vi s0] w Q = ((s0 = 0 ∨ s0 = 1) ∧ Q (some (vi s0)) w) := by
  rw [T_iretz c213_57 (by decide +kernel)]
  all_goals try simp only [true_and, Nat.reduceAdd, eq_self_iff_true]
/-! 214: StringHands$Reader.readString.()Z -/
theorem c214_0 : cd 214 0 = some (.aload 0, 1) := by decide +kernel
theorem c214_1 : cd 214 1 = some (.getfield 1042, 3) := by decide +kernel
theorem c214_4 : cd 214 4 = some (.getfield 2056, 3) := by decide +kernel
theorem c214_7 : cd 214 7 = some (.sipush 16, 2) := by decide +kernel
theorem c214_9 : cd 214 9 = some (.if_icmp .lt 18, 3) := by decide +kernel
theorem c214_12 : cd 214 12 = some (.aload 0, 1) := by decide +kernel
theorem c214_13 : cd 214 13 = some (.sipush 4, 1) := by decide +kernel
theorem c214_14 : cd 214 14 = some (.invokevirtual 219, 3) := by decide +kernel
theorem c214_17 : cd 214 17 = some (.ireturn, 1) := by decide +kernel
theorem c214_18 : cd 214 18 = some (.aload 0, 1) := by decide +kernel
theorem c214_19 : cd 214 19 = some (.invokevirtual 212, 3) := by decide +kernel
theorem c214_22 : cd 214 22 = some (.ifCond .eq 42, 3) := by decide +kernel
theorem c214_25 : cd 214 25 = some (.aload 0, 1) := by decide +kernel
theorem c214_26 : cd 214 26 = some (.sipush 0, 1) := by decide +kernel
theorem c214_27 : cd 214 27 = some (.aload 0, 1) := by decide +kernel
theorem c214_28 : cd 214 28 = some (.getfield 1042, 3) := by decide +kernel
theorem c214_31 : cd 214 31 = some (.getfield 2052, 3) := by decide +kernel
theorem c214_34 : cd 214 34 = some (.sipush 1, 1) := by decide +kernel
theorem c214_35 : cd 214 35 = some (.isub, 1) := by decide +kernel
theorem c214_36 : cd 214 36 = some (.invokevirtual 272, 3) := by decide +kernel
theorem c214_39 : cd 214 39 = some (.ifCond .ne 44, 3) := by decide +kernel
theorem c214_42 : cd 214 42 = some (.sipush 0, 1) := by decide +kernel
theorem c214_43 : cd 214 43 = some (.ireturn, 1) := by decide +kernel
theorem c214_44 : cd 214 44 = some (.aload 0, 1) := by decide +kernel
theorem c214_45 : cd 214 45 = some (.getfield 1068, 3) := by decide +kernel
theorem c214_48 : cd 214 48 = some (.istore 1, 1) := by decide +kernel
theorem c214_49 : cd 214 49 = some (.aload 0, 1) := by decide +kernel
theorem c214_50 : cd 214 50 = some (.invokevirtual 212, 3) := by decide +kernel
theorem c214_53 : cd 214 53 = some (.ifCond .eq 90, 3) := by decide +kernel
theorem c214_56 : cd 214 56 = some (.aload 0, 1) := by decide +kernel
theorem c214_57 : cd 214 57 = some (.sipush 203, 3) := by decide +kernel
theorem c214_60 : cd 214 60 = some (.invokevirtual 220, 3) := by decide +kernel
theorem c214_63 : cd 214 63 = some (.ifCond .eq 90, 3) := by decide +kernel
theorem c214_66 : cd 214 66 = some (.aload 0, 1) := by decide +kernel
theorem c214_67 : cd 214 67 = some (.invokevirtual 212, 3) := by decide +kernel
theorem c214_70 : cd 214 70 = some (.ifCond .eq 90, 3) := by decide +kernel
theorem c214_73 : cd 214 73 = some (.aload 0, 1) := by decide +kernel
theorem c214_74 : cd 214 74 = some (.sipush 0, 1) := by decide +kernel
theorem c214_75 : cd 214 75 = some (.aload 0, 1) := by decide +kernel
theorem c214_76 : cd 214 76 = some (.getfield 1042, 3) := by decide +kernel
theorem c214_79 : cd 214 79 = some (.getfield 2052, 3) := by decide +kernel
theorem c214_82 : cd 214 82 = some (.sipush 1, 1) := by decide +kernel
theorem c214_83 : cd 214 83 = some (.isub, 1) := by decide +kernel
theorem c214_84 : cd 214 84 = some (.invokevirtual 272, 3) := by decide +kernel
theorem c214_87 : cd 214 87 = some (.ifCond .ne 92, 3) := by decide +kernel
theorem c214_90 : cd 214 90 = some (.sipush 0, 1) := by decide +kernel
theorem c214_91 : cd 214 91 = some (.ireturn, 1) := by decide +kernel
theorem c214_92 : cd 214 92 = some (.aload 0, 1) := by decide +kernel
theorem c214_93 : cd 214 93 = some (.getfield 1068, 3) := by decide +kernel
theorem c214_96 : cd 214 96 = some (.iload 1, 1) := by decide +kernel
theorem c214_97 : cd 214 97 = some (.if_icmp .ne 106, 3) := by decide +kernel
theorem c214_100 : cd 214 100 = some (.aload 0, 1) := by decide +kernel
theorem c214_101 : cd 214 101 = some (.sipush 3, 1) := by decide +kernel
theorem c214_102 : cd 214 102 = some (.invokevirtual 219, 3) := by decide +kernel
theorem c214_105 : cd 214 105 = some (.ireturn, 1) := by decide +kernel
theorem c214_106 : cd 214 106 = some (.aload 0, 1) := by decide +kernel
theorem c214_107 : cd 214 107 = some (.getfield 1042, 3) := by decide +kernel
theorem c214_110 : cd 214 110 = some (.getfield 2056, 3) := by decide +kernel
theorem c214_113 : cd 214 113 = some (.istore 2, 1) := by decide +kernel
theorem c214_114 : cd 214 114 = some (.aload 0, 1) := by decide +kernel
theorem c214_115 : cd 214 115 = some (.getfield 1042, 3) := by decide +kernel
theorem c214_118 : cd 214 118 = some (.dup, 1) := by decide +kernel
theorem c214_119 : cd 214 119 = some (.getfield 2056, 3) := by decide +kernel
theorem c214_122 : cd 214 122 = some (.sipush 1, 1) := by decide +kernel
theorem c214_123 : cd 214 123 = some (.iadd, 1) := by decide +kernel
theorem c214_124 : cd 214 124 = some (.putfield 2056, 3) := by decide +kernel
theorem c214_127 : cd 214 127 = some (.aload 0, 1) := by decide +kernel
theorem c214_128 : cd 214 128 = some (.getfield 1042, 3) := by decide +kernel
theorem c214_131 : cd 214 131 = some (.getfield 2082, 3) := by decide +kernel
theorem c214_134 : cd 214 134 = some (.iload 2, 1) := by decide +kernel
theorem c214_135 : cd 214 135 = some (.iload 1, 1) := by decide +kernel
theorem c214_136 : cd 214 136 = some (.iastore, 1) := by decide +kernel
theorem c214_137 : cd 214 137 = some (.aload 0, 1) := by decide +kernel
theorem c214_138 : cd 214 138 = some (.getfield 1042, 3) := by decide +kernel
theorem c214_141 : cd 214 141 = some (.getfield 2086, 3) := by decide +kernel
theorem c214_144 : cd 214 144 = some (.iload 2, 1) := by decide +kernel
theorem c214_145 : cd 214 145 = some (.aload 0, 1) := by decide +kernel
theorem c214_146 : cd 214 146 = some (.getfield 1068, 3) := by decide +kernel
theorem c214_149 : cd 214 149 = some (.iastore, 1) := by decide +kernel
theorem c214_150 : cd 214 150 = some (.aload 0, 1) := by decide +kernel
theorem c214_151 : cd 214 151 = some (.getfield 1042, 3) := by decide +kernel
theorem c214_154 : cd 214 154 = some (.getfield 2090, 3) := by decide +kernel
theorem c214_157 : cd 214 157 = some (.iload 2, 1) := by decide +kernel
theorem c214_158 : cd 214 158 = some (.sipush 1, 1) := by decide +kernel
theorem c214_159 : cd 214 159 = some (.iastore, 1) := by decide +kernel
theorem c214_160 : cd 214 160 = some (.aload 0, 1) := by decide +kernel
theorem c214_161 : cd 214 161 = some (.invokevirtual 212, 3) := by decide +kernel
theorem c214_164 : cd 214 164 = some (.ifCond .eq 187, 3) := by decide +kernel
theorem c214_167 : cd 214 167 = some (.aload 0, 1) := by decide +kernel
theorem c214_168 : cd 214 168 = some (.iload 2, 1) := by decide +kernel
theorem c214_169 : cd 214 169 = some (.invokevirtual 274, 3) := by decide +kernel
theorem c214_172 : cd 214 172 = some (.ifCond .eq 187, 3) := by decide +kernel
theorem c214_175 : cd 214 175 = some (.aload 0, 1) := by decide +kernel
theorem c214_176 : cd 214 176 = some (.iload 2, 1) := by decide +kernel
theorem c214_177 : cd 214 177 = some (.invokevirtual 275, 3) := by decide +kernel
theorem c214_180 : cd 214 180 = some (.ifCond .eq 187, 3) := by decide +kernel
theorem c214_183 : cd 214 183 = some (.sipush 1, 1) := by decide +kernel
theorem c214_184 : cd 214 184 = some (.goto 188, 3) := by decide +kernel
theorem c214_187 : cd 214 187 = some (.sipush 0, 1) := by decide +kernel
theorem c214_188 : cd 214 188 = some (.ireturn, 1) := by decide +kernel
theorem g214_0 {d : Nat} {x1 x2 : Option aV} {w : aW} {Q : Option aV → aW → Prop} : T (d + 1) 214 0 [some (vr 1), x1, x2] [] w Q = ((w 3 2 < 16 → T d 212 0 [some (vr 1)] [] w (fun r w1 => T (d + 1) 214 22 [some (vr 1), x1, x2] (r.toList ++ []) w1 Q)) ∧ (¬ (w 3 2 < 16) → T d 219 0 [some (vr 1), some (vi 4)] [] w (fun r w1 => T (d + 1) 214 17 [some (vr 1), x1, x2] (r.toList ++ []) w1 Q))) := by
  rw [T_aload_0 c214_0, T_getR 4 4 4 c214_1 rfl rfl rfl rfl, rf_1_4, T_getI 8 2 2 c214_4 rfl rfl rfl rfl, T_sipush c214_7, T_icmp_lt 18 c214_9 rfl, T_aload_0 c214_18, T_invv (es := [some (vr 1)]) (st := [vr 1]) (ks := [2]) (n := 1) (c := 4) (k := 1) (as := []) (rest := []) c214_19 (by decide +kernel) (by decide +kernel) (by decide +kernel) (by decide) rfl rfl (Nat.le_of_ble_eq_true rfl), T_aload_0 c214_12, T_sipush c214_13, T_invv (es := [some (vr 1), some (vi 4)]) (st := [vi 4, vr 1]) (ks := [2, 0]) (n := 2) (c := 4) (k := 1) (as := [vi 4]) (rest := []) c214_14 (by decide +kernel) (by decide +kernel) (by decide +kernel) (by decide) rfl rfl (Nat.le_of_ble_eq_true rfl)]
  all_goals try simp only [Int.reduceToNat, lay_1, lay_3, true_and, Nat.reduceAdd, eq_self_iff_true]
theorem g214_17 {d : Nat} {s0 : Int} {x0 x1 x2 : Option aV} {w : aW} {Q : Option aV → aW → Prop} : T d 214 17 [x0, x1, x2] [vi s0] w Q = ((s0 = 0 ∨ s0 = 1) ∧ Q (some (vi s0)) w) := by
  rw [T_iretz c214_17 (by decide +kernel)]
  all_goals try simp only [true_and, Nat.reduceAdd, eq_self_iff_true]
theorem g214_22 {d : Nat} {s0 : Int} {x1 x2 : Option aV} {w : aW} {Q : Option aV → aW → Prop} : T (d + 1) 214 22 [some (vr 1), x1, x2] [vi s0] w Q = ((s0 = 0 → T (d + 1) 214 42 [some (vr 1), x1, x2] [] w Q) ∧ (¬ (s0 = 0) → T d 272 0 [some (vr 1), some (vi 0), some (vi (w32 ((w 3 1) - 1)))] [] w (fun r w1 => T (d + 1) 214 39 [some (vr 1), x1, x2] (r.toList ++ []) w1 Q))) := by
  rw [T_if_eq 42 c214_22 rfl, T_aload_0 c214_25, T_sipush c214_26, T_aload_0 c214_27, T_getR 4 4 4 c214_28 rfl rfl rfl rfl, rf_1_4, T_getI 8 1 1 c214_31 rfl rfl rfl rfl, T_sipush c214_34, T_isub c214_35, T_invv (es := [some (vr 1), some (vi 0), some (vi (w32 ((w 3 1) - 1)))]) (st := [vi (w32 ((w 3 1) - 1)), vi 0, vr 1]) (ks := [2, 0, 0]) (n := 3) (c := 4) (k := 1) (as := [vi 0, vi (w32 ((w 3 1) - 1))]) (rest := []) c214_36 (by decide +kernel) (by decide +kernel) (by decide +kernel) (by decide) rfl rfl (Nat.le_of_ble_eq_true rfl)]
  all_goals try simp only [Int.reduceToNat, lay_1, lay_3, true_and, Nat.reduceAdd, eq_self_iff_true]
theorem g214_39 {d : Nat} {s0 : Int} {x1 x2 : Option aV} {w : aW} {Q : Option aV → aW → Prop} : T (d + 1) 214 39 [some (vr 1), x1, x2] [vi s0] w Q = ((¬ s0 = 0 → T d 212 0 [some (vr 1)] [] w (fun r w1 => T (d + 1) 214 53 [some (vr 1), some (vi (w 1 11)), x2] (r.toList ++ []) w1 Q)) ∧ (¬ (¬ s0 = 0) → T (d + 1) 214 42 [some (vr 1), x1, x2] [] w Q)) := by
  rw [T_if_ne 44 c214_39 rfl, T_aload_0 c214_44, T_getI 4 11 11 c214_45 rfl rfl rfl rfl, T_istore_1 c214_48, T_aload_0 c214_49, T_invv (es := [some (vr 1)]) (st := [vr 1]) (ks := [2]) (n := 1) (c := 4) (k := 1) (as := []) (rest := []) c214_50 (by decide +kernel) (by decide +kernel) (by decide +kernel) (by decide) rfl rfl (Nat.le_of_ble_eq_true rfl)]
  all_goals try simp only [Int.reduceToNat, lay_1, true_and, Nat.reduceAdd, eq_self_iff_true]
theorem g214_42 {d : Nat} {x0 x1 x2 : Option aV} {w : aW} {Q : Option aV → aW → Prop} : T d 214 42 [x0, x1, x2] [] w Q = Q (some (vi 0)) w := by
  rw [T_sipush c214_42, T_iretz c214_43 (by decide +kernel)]
  all_goals try simp only [true_and, Nat.reduceAdd, eq_self_iff_true, zero_eq_1, one_eq_0, true_or, or_true]
theorem g214_53 {d : Nat} {s0 : Int} {x1 x2 : Option aV} {w : aW} {Q : Option aV → aW → Prop} : T (d + 1) 214 53 [some (vr 1), x1, x2] [vi s0] w Q = ((s0 = 0 → T (d + 1) 214 90 [some (vr 1), x1, x2] [] w Q) ∧ (¬ (s0 = 0) → T d 220 0 [some (vr 1), some (vi 203)] [] w (fun r w1 => T (d + 1) 214 63 [some (vr 1), x1, x2] (r.toList ++ []) w1 Q))) := by
  rw [T_if_eq 90 c214_53 rfl, T_aload_0 c214_56, T_sipush c214_57, T_invv (es := [some (vr 1), some (vi 203)]) (st := [vi 203, vr 1]) (ks := [2, 0]) (n := 2) (c := 4) (k := 1) (as := [vi 203]) (rest := []) c214_60 (by decide +kernel) (by decide +kernel) (by decide +kernel) (by decide) rfl rfl (Nat.le_of_ble_eq_true rfl)]
  all_goals try simp only [Int.reduceToNat, lay_1, true_and, Nat.reduceAdd, eq_self_iff_true]
theorem g214_63 {d : Nat} {s0 : Int} {x1 x2 : Option aV} {w : aW} {Q : Option aV → aW → Prop} : T (d + 1) 214 63 [some (vr 1), x1, x2] [vi s0] w Q = ((s0 = 0 → T (d + 1) 214 90 [some (vr 1), x1, x2] [] w Q) ∧ (¬ (s0 = 0) → T d 212 0 [some (vr 1)] [] w (fun r w1 => T (d + 1) 214 70 [some (vr 1), x1, x2] (r.toList ++ []) w1 Q))) := by
  rw [T_if_eq 90 c214_63 rfl, T_aload_0 c214_66, T_invv (es := [some (vr 1)]) (st := [vr 1]) (ks := [2]) (n := 1) (c := 4) (k := 1) (as := []) (rest := []) c214_67 (by decide +kernel) (by decide +kernel) (by decide +kernel) (by decide) rfl rfl (Nat.le_of_ble_eq_true rfl)]
  all_goals try simp only [Int.reduceToNat, lay_1, true_and, Nat.reduceAdd, eq_self_iff_true]
theorem g214_70 {d : Nat} {s0 : Int} {x1 x2 : Option aV} {w : aW} {Q : Option aV → aW → Prop} : T (d + 1) 214 70 [some (vr 1), x1, x2] [vi s0] w Q = ((s0 = 0 → T (d + 1) 214 90 [some (vr 1), x1, x2] [] w Q) ∧ (¬ (s0 = 0) → T d 272 0 [some (vr 1), some (vi 0), some (vi (w32 ((w 3 1) - 1)))] [] w (fun r w1 => T (d + 1) 214 87 [some (vr 1), x1, x2] (r.toList ++ []) w1 Q))) := by
  rw [T_if_eq 90 c214_70 rfl, T_aload_0 c214_73, T_sipush c214_74, T_aload_0 c214_75, T_getR 4 4 4 c214_76 rfl rfl rfl rfl, rf_1_4, T_getI 8 1 1 c214_79 rfl rfl rfl rfl, T_sipush c214_82, T_isub c214_83, T_invv (es := [some (vr 1), some (vi 0), some (vi (w32 ((w 3 1) - 1)))]) (st := [vi (w32 ((w 3 1) - 1)), vi 0, vr 1]) (ks := [2, 0, 0]) (n := 3) (c := 4) (k := 1) (as := [vi 0, vi (w32 ((w 3 1) - 1))]) (rest := []) c214_84 (by decide +kernel) (by decide +kernel) (by decide +kernel) (by decide) rfl rfl (Nat.le_of_ble_eq_true rfl)]
  all_goals try simp only [Int.reduceToNat, lay_1, lay_3, true_and, Nat.reduceAdd, eq_self_iff_true]
theorem g214_87 {d : Nat} {a1 s0 : Int} {x2 : Option aV} {w : aW} {Q : Option aV → aW → Prop} : T (d + 1) 214 87 [some (vr 1), some (vi a1), x2] [vi s0] w Q = ((¬ s0 = 0 → ((¬ w 1 11 = a1 → ((0 ≤ w 3 2 ∧ w 3 2 < 16) ∧ ((0 ≤ w 3 2 ∧ w 3 2 < 16) ∧ ((0 ≤ w 3 2 ∧ w 3 2 < 16) ∧ T d 212 0 [some (vr 1)] [] (iup (iup (iup (iup w 3 2 (w32 ((w 3 2) + 1))) 6 (w 3 2) a1) 7 (w 3 2) ((iup (iup w 3 2 (w32 ((w 3 2) + 1))) 6 (w 3 2) a1) 1 11)) 8 (w 3 2) 1) (fun r w1 => T (d + 1) 214 164 [some (vr 1), some (vi a1), some (vi (w 3 2))] (r.toList ++ []) w1 Q))))) ∧ (¬ (¬ w 1 11 = a1) → T d 219 0 [some (vr 1), some (vi 3)] [] w (fun r w1 => T (d + 1) 214 105 [some (vr 1), some (vi a1), x2] (r.toList ++ []) w1 Q)))) ∧ (¬ (¬ s0 = 0) → T (d + 1) 214 90 [some (vr 1), some (vi a1), x2] [] w Q)) := by
  rw [T_if_ne 92 c214_87 rfl, T_aload_0 c214_92, T_getI 4 11 11 c214_93 rfl rfl rfl rfl, T_iload_1 c214_96, T_icmp_ne 106 c214_97 rfl, T_aload_0 c214_106, T_getR 4 4 4 c214_107 rfl rfl rfl rfl, rf_1_4, T_getI 8 2 2 c214_110 rfl rfl rfl rfl, T_istore_2 c214_113, T_aload_0 c214_114, T_getR 4 4 4 c214_115 rfl rfl rfl rfl, rf_1_4, T_dup_r c214_118, T_getI 8 2 2 c214_119 rfl rfl rfl rfl, T_sipush c214_122, T_iadd c214_123, T_putI 8 2 2 c214_124 rfl rfl rfl rfl, T_aload_0 c214_127, T_getR 4 4 4 c214_128 rfl rfl rfl rfl, rf_1_4, T_getR 8 8 8 c214_131 rfl rfl rfl rfl, rf_3_8, T_iload_2 c214_134, T_iload_1 c214_135, T_iast c214_136, T_aload_0 c214_137, T_getR 4 4 4 c214_138 rfl rfl rfl rfl, rf_1_4, T_getR 8 9 9 c214_141 rfl rfl rfl rfl, rf_3_9, T_iload_2 c214_144, T_aload_0 c214_145, T_getI 4 11 11 c214_146 rfl rfl rfl rfl, T_iast c214_149, T_aload_0 c214_150, T_getR 4 4 4 c214_151 rfl rfl rfl rfl, rf_1_4, T_getR 8 10 10 c214_154 rfl rfl rfl rfl, rf_3_10, T_iload_2 c214_157, T_sipush c214_158, T_iast c214_159, T_aload_0 c214_160, T_invv (es := [some (vr 1)]) (st := [vr 1]) (ks := [2]) (n := 1) (c := 4) (k := 1) (as := []) (rest := []) c214_161 (by decide +kernel) (by decide +kernel) (by decide +kernel) (by decide) rfl rfl (Nat.le_of_ble_eq_true rfl), T_aload_0 c214_100, T_sipush c214_101, T_invv (es := [some (vr 1), some (vi 3)]) (st := [vi 3, vr 1]) (ks := [2, 0]) (n := 2) (c := 4) (k := 1) (as := [vi 3]) (rest := []) c214_102 (by decide +kernel) (by decide +kernel) (by decide +kernel) (by decide) rfl rfl (Nat.le_of_ble_eq_true rfl)]
  all_goals try simp only [Int.reduceToNat, ia0_6, ia0_7, ia0_8, lay_1, lay_3, true_and, Nat.reduceAdd, eq_self_iff_true]
theorem g214_90 {d : Nat} {x0 x1 x2 : Option aV} {w : aW} {Q : Option aV → aW → Prop} : T d 214 90 [x0, x1, x2] [] w Q = Q (some (vi 0)) w := by
  rw [T_sipush c214_90, T_iretz c214_91 (by decide +kernel)]
  all_goals try simp only [true_and, Nat.reduceAdd, eq_self_iff_true, zero_eq_1, one_eq_0, true_or, or_true]
theorem g214_105 {d : Nat} {s0 : Int} {x0 x1 x2 : Option aV} {w : aW} {Q : Option aV → aW → Prop} : T d 214 105 [x0, x1, x2] [vi s0] w Q = ((s0 = 0 ∨ s0 = 1) ∧ Q (some (vi s0)) w) := by
  rw [T_iretz c214_105 (by decide +kernel)]
  all_goals try simp only [true_and, Nat.reduceAdd, eq_self_iff_true]
theorem g214_164 {d : Nat} {a2 s0 : Int} {x1 : Option aV} {w : aW} {Q : Option aV → aW → Prop} : T (d + 1) 214 164 [some (vr 1), x1, some (vi a2)] [vi s0] w Q = ((s0 = 0 → T (d + 1) 214 187 [some (vr 1), x1, some (vi a2)] [] w Q) ∧ (¬ (s0 = 0) → T d 274 0 [some (vr 1), some (vi a2)] [] w (fun r w1 => T (d + 1) 214 172 [some (vr 1), x1, some (vi a2)] (r.toList ++ []) w1 Q))) := by
  rw [T_if_eq 187 c214_164 rfl, T_aload_0 c214_167, T_iload_2 c214_168, T_invv (es := [some (vr 1), some (vi a2)]) (st := [vi a2, vr 1]) (ks := [2, 0]) (n := 2) (c := 4) (k := 1) (as := [vi a2]) (rest := []) c214_169 (by decide +kernel) (by decide +kernel) (by decide +kernel) (by decide) rfl rfl (Nat.le_of_ble_eq_true rfl)]
  all_goals try simp only [Int.reduceToNat, lay_1, true_and, Nat.reduceAdd, eq_self_iff_true]
theorem g214_172 {d : Nat} {a2 s0 : Int} {x1 : Option aV} {w : aW} {Q : Option aV → aW → Prop} : T (d + 1) 214 172 [some (vr 1), x1, some (vi a2)] [vi s0] w Q = ((s0 = 0 → T (d + 1) 214 187 [some (vr 1), x1, some (vi a2)] [] w Q) ∧ (¬ (s0 = 0) → T d 275 0 [some (vr 1), some (vi a2)] [] w (fun r w1 => T (d + 1) 214 180 [some (vr 1), x1, some (vi a2)] (r.toList ++ []) w1 Q))) := by
  rw [T_if_eq 187 c214_172 rfl, T_aload_0 c214_175, T_iload_2 c214_176, T_invv (es := [some (vr 1), some (vi a2)]) (st := [vi a2, vr 1]) (ks := [2, 0]) (n := 2) (c := 4) (k := 1) (as := [vi a2]) (rest := []) c214_177 (by decide +kernel) (by decide +kernel) (by decide +kernel) (by decide) rfl rfl (Nat.le_of_ble_eq_true rfl)]
  all_goals try simp only [Int.reduceToNat, lay_1, true_and, Nat.reduceAdd, eq_self_iff_true]
theorem g214_180 {d : Nat} {s0 : Int} {x0 x1 x2 : Option aV} {w : aW} {Q : Option aV → aW → Prop} : T d 214 180 [x0, x1, x2] [vi s0] w Q = ((s0 = 0 → T d 214 187 [x0, x1, x2] [] w Q) ∧ (¬ (s0 = 0) → T d 214 188 [x0, x1, x2] [vi 1] w Q)) := by
  rw [T_if_eq 187 c214_180 rfl, T_sipush c214_183, T_goto 188 c214_184 rfl]
  all_goals try simp only [Int.reduceToNat, true_and, Nat.reduceAdd, eq_self_iff_true]
theorem g214_187 {d : Nat} {x0 x1 x2 : Option aV} {w : aW} {Q : Option aV → aW → Prop} : T d 214 187 [x0, x1, x2] [] w Q = T d 214 188 [x0, x1, x2] [vi 0] w Q := by
  rw [T_sipush c214_187]
  all_goals try simp only [true_and, Nat.reduceAdd, eq_self_iff_true]
theorem g214_188 {d : Nat} {s0 : Int} {x0 x1 x2 : Option aV} {w : aW} {Q : Option aV → aW → Prop} : T d 214 188 [x0, x1, x2] [vi s0] w Q = ((s0 = 0 ∨ s0 = 1) ∧ Q (some (vi s0)) w) := by
  rw [T_iretz c214_188 (by decide +kernel)]
  all_goals try simp only [true_and, Nat.reduceAdd, eq_self_iff_true]
/-! 215: StringHands$Reader.readNeed.()Z -/
theorem c215_0 : cd 215 0 = some (.aload 0, 1) := by decide +kernel
theorem c215_1 : cd 215 1 = some (.invokevirtual 212, 3) := by decide +kernel
theorem c215_4 : cd 215 4 = some (.ifCond .eq 24, 3) := by decide +kernel
theorem c215_7 : cd 215 7 = some (.aload 0, 1) := by decide +kernel
theorem c215_8 : cd 215 8 = some (.sipush 0, 1) := by decide +kernel
theorem c215_9 : cd 215 9 = some (.aload 0, 1) := by decide +kernel
theorem c215_10 : cd 215 10 = some (.getfield 1042, 3) := by decide +kernel
theorem c215_13 : cd 215 13 = some (.getfield 2052, 3) := by decide +kernel
theorem c215_16 : cd 215 16 = some (.sipush 1, 1) := by decide +kernel
theorem c215_17 : cd 215 17 = some (.isub, 1) := by decide +kernel
theorem c215_18 : cd 215 18 = some (.invokevirtual 272, 3) := by decide +kernel
theorem c215_21 : cd 215 21 = some (.ifCond .ne 26, 3) := by decide +kernel
theorem c215_24 : cd 215 24 = some (.sipush 0, 1) := by decide +kernel
theorem c215_25 : cd 215 25 = some (.ireturn, 1) := by decide +kernel
theorem c215_26 : cd 215 26 = some (.aload 0, 1) := by decide +kernel
theorem c215_27 : cd 215 27 = some (.getfield 1068, 3) := by decide +kernel
theorem c215_30 : cd 215 30 = some (.istore 1, 1) := by decide +kernel
theorem c215_31 : cd 215 31 = some (.aload 0, 1) := by decide +kernel
theorem c215_32 : cd 215 32 = some (.invokevirtual 212, 3) := by decide +kernel
theorem c215_35 : cd 215 35 = some (.ifCond .eq 48, 3) := by decide +kernel
theorem c215_38 : cd 215 38 = some (.aload 0, 1) := by decide +kernel
theorem c215_39 : cd 215 39 = some (.sipush 1, 1) := by decide +kernel
theorem c215_40 : cd 215 40 = some (.sipush 9, 2) := by decide +kernel
theorem c215_42 : cd 215 42 = some (.invokevirtual 272, 3) := by decide +kernel
theorem c215_45 : cd 215 45 = some (.ifCond .ne 50, 3) := by decide +kernel
theorem c215_48 : cd 215 48 = some (.sipush 0, 1) := by decide +kernel
theorem c215_49 : cd 215 49 = some (.ireturn, 1) := by decide +kernel
theorem c215_50 : cd 215 50 = some (.aload 0, 1) := by decide +kernel
theorem c215_51 : cd 215 51 = some (.getfield 1042, 3) := by decide +kernel
theorem c215_54 : cd 215 54 = some (.getfield 2078, 3) := by decide +kernel
theorem c215_57 : cd 215 57 = some (.iload 1, 1) := by decide +kernel
theorem c215_58 : cd 215 58 = some (.aload 0, 1) := by decide +kernel
theorem c215_59 : cd 215 59 = some (.getfield 1068, 3) := by decide +kernel
theorem c215_62 : cd 215 62 = some (.iastore, 1) := by decide +kernel
theorem c215_63 : cd 215 63 = some (.aload 0, 1) := by decide +kernel
theorem c215_64 : cd 215 64 = some (.invokevirtual 212, 3) := by decide +kernel
theorem c215_67 : cd 215 67 = some (.ireturn, 1) := by decide +kernel
theorem g215_0 {d : Nat} {x1 : Option aV} {w : aW} {Q : Option aV → aW → Prop} : T (d + 1) 215 0 [some (vr 1), x1] [] w Q = T d 212 0 [some (vr 1)] [] w (fun r w1 => T (d + 1) 215 4 [some (vr 1), x1] (r.toList ++ []) w1 Q) := by
  rw [T_aload_0 c215_0, T_invv (es := [some (vr 1)]) (st := [vr 1]) (ks := [2]) (n := 1) (c := 4) (k := 1) (as := []) (rest := []) c215_1 (by decide +kernel) (by decide +kernel) (by decide +kernel) (by decide) rfl rfl (Nat.le_of_ble_eq_true rfl)]
  all_goals try simp only [lay_1, true_and, Nat.reduceAdd, eq_self_iff_true]
theorem g215_4 {d : Nat} {s0 : Int} {x1 : Option aV} {w : aW} {Q : Option aV → aW → Prop} : T (d + 1) 215 4 [some (vr 1), x1] [vi s0] w Q = ((s0 = 0 → T (d + 1) 215 24 [some (vr 1), x1] [] w Q) ∧ (¬ (s0 = 0) → T d 272 0 [some (vr 1), some (vi 0), some (vi (w32 ((w 3 1) - 1)))] [] w (fun r w1 => T (d + 1) 215 21 [some (vr 1), x1] (r.toList ++ []) w1 Q))) := by
  rw [T_if_eq 24 c215_4 rfl, T_aload_0 c215_7, T_sipush c215_8, T_aload_0 c215_9, T_getR 4 4 4 c215_10 rfl rfl rfl rfl, rf_1_4, T_getI 8 1 1 c215_13 rfl rfl rfl rfl, T_sipush c215_16, T_isub c215_17, T_invv (es := [some (vr 1), some (vi 0), some (vi (w32 ((w 3 1) - 1)))]) (st := [vi (w32 ((w 3 1) - 1)), vi 0, vr 1]) (ks := [2, 0, 0]) (n := 3) (c := 4) (k := 1) (as := [vi 0, vi (w32 ((w 3 1) - 1))]) (rest := []) c215_18 (by decide +kernel) (by decide +kernel) (by decide +kernel) (by decide) rfl rfl (Nat.le_of_ble_eq_true rfl)]
  all_goals try simp only [Int.reduceToNat, lay_1, lay_3, true_and, Nat.reduceAdd, eq_self_iff_true]
theorem g215_21 {d : Nat} {s0 : Int} {x1 : Option aV} {w : aW} {Q : Option aV → aW → Prop} : T (d + 1) 215 21 [some (vr 1), x1] [vi s0] w Q = ((¬ s0 = 0 → T d 212 0 [some (vr 1)] [] w (fun r w1 => T (d + 1) 215 35 [some (vr 1), some (vi (w 1 11))] (r.toList ++ []) w1 Q)) ∧ (¬ (¬ s0 = 0) → T (d + 1) 215 24 [some (vr 1), x1] [] w Q)) := by
  rw [T_if_ne 26 c215_21 rfl, T_aload_0 c215_26, T_getI 4 11 11 c215_27 rfl rfl rfl rfl, T_istore_1 c215_30, T_aload_0 c215_31, T_invv (es := [some (vr 1)]) (st := [vr 1]) (ks := [2]) (n := 1) (c := 4) (k := 1) (as := []) (rest := []) c215_32 (by decide +kernel) (by decide +kernel) (by decide +kernel) (by decide) rfl rfl (Nat.le_of_ble_eq_true rfl)]
  all_goals try simp only [Int.reduceToNat, lay_1, true_and, Nat.reduceAdd, eq_self_iff_true]
theorem g215_24 {d : Nat} {x0 x1 : Option aV} {w : aW} {Q : Option aV → aW → Prop} : T d 215 24 [x0, x1] [] w Q = Q (some (vi 0)) w := by
  rw [T_sipush c215_24, T_iretz c215_25 (by decide +kernel)]
  all_goals try simp only [true_and, Nat.reduceAdd, eq_self_iff_true, zero_eq_1, one_eq_0, true_or, or_true]
theorem g215_35 {d : Nat} {s0 : Int} {x1 : Option aV} {w : aW} {Q : Option aV → aW → Prop} : T (d + 1) 215 35 [some (vr 1), x1] [vi s0] w Q = ((s0 = 0 → T (d + 1) 215 48 [some (vr 1), x1] [] w Q) ∧ (¬ (s0 = 0) → T d 272 0 [some (vr 1), some (vi 1), some (vi 9)] [] w (fun r w1 => T (d + 1) 215 45 [some (vr 1), x1] (r.toList ++ []) w1 Q))) := by
  rw [T_if_eq 48 c215_35 rfl, T_aload_0 c215_38, T_sipush c215_39, T_sipush c215_40, T_invv (es := [some (vr 1), some (vi 1), some (vi 9)]) (st := [vi 9, vi 1, vr 1]) (ks := [2, 0, 0]) (n := 3) (c := 4) (k := 1) (as := [vi 1, vi 9]) (rest := []) c215_42 (by decide +kernel) (by decide +kernel) (by decide +kernel) (by decide) rfl rfl (Nat.le_of_ble_eq_true rfl)]
  all_goals try simp only [Int.reduceToNat, lay_1, true_and, Nat.reduceAdd, eq_self_iff_true]
theorem g215_45 {d : Nat} {a1 s0 : Int} {w : aW} {Q : Option aV → aW → Prop} : T (d + 1) 215 45 [some (vr 1), some (vi a1)] [vi s0] w Q = ((¬ s0 = 0 → ((0 ≤ a1 ∧ a1 < 10) ∧ T d 212 0 [some (vr 1)] [] (iup w 5 a1 (w 1 11)) (fun r w1 => T (d + 1) 215 67 [some (vr 1), some (vi a1)] (r.toList ++ []) w1 Q))) ∧ (¬ (¬ s0 = 0) → T (d + 1) 215 48 [some (vr 1), some (vi a1)] [] w Q)) := by
  rw [T_if_ne 50 c215_45 rfl, T_aload_0 c215_50, T_getR 4 4 4 c215_51 rfl rfl rfl rfl, rf_1_4, T_getR 8 7 7 c215_54 rfl rfl rfl rfl, rf_3_7, T_iload_1 c215_57, T_aload_0 c215_58, T_getI 4 11 11 c215_59 rfl rfl rfl rfl, T_iast c215_62, T_aload_0 c215_63, T_invv (es := [some (vr 1)]) (st := [vr 1]) (ks := [2]) (n := 1) (c := 4) (k := 1) (as := []) (rest := []) c215_64 (by decide +kernel) (by decide +kernel) (by decide +kernel) (by decide) rfl rfl (Nat.le_of_ble_eq_true rfl)]
  all_goals try simp only [Int.reduceToNat, ia0_5, lay_1, lay_3, true_and, Nat.reduceAdd, eq_self_iff_true]
theorem g215_48 {d : Nat} {x0 x1 : Option aV} {w : aW} {Q : Option aV → aW → Prop} : T d 215 48 [x0, x1] [] w Q = Q (some (vi 0)) w := by
  rw [T_sipush c215_48, T_iretz c215_49 (by decide +kernel)]
  all_goals try simp only [true_and, Nat.reduceAdd, eq_self_iff_true, zero_eq_1, one_eq_0, true_or, or_true]
theorem g215_67 {d : Nat} {s0 : Int} {x0 x1 : Option aV} {w : aW} {Q : Option aV → aW → Prop} : T d 215 67 [x0, x1] [vi s0] w Q = ((s0 = 0 ∨ s0 = 1) ∧ Q (some (vi s0)) w) := by
  rw [T_iretz c215_67 (by decide +kernel)]
  all_goals try simp only [true_and, Nat.reduceAdd, eq_self_iff_true]
/-! 216: StringHands$Reader.readRule.()Z -/
theorem c216_0 : cd 216 0 = some (.aload 0, 1) := by decide +kernel
theorem c216_1 : cd 216 1 = some (.invokevirtual 212, 3) := by decide +kernel
theorem c216_4 : cd 216 4 = some (.ifCond .eq 24, 3) := by decide +kernel
theorem c216_7 : cd 216 7 = some (.aload 0, 1) := by decide +kernel
theorem c216_8 : cd 216 8 = some (.sipush 0, 1) := by decide +kernel
theorem c216_9 : cd 216 9 = some (.aload 0, 1) := by decide +kernel
theorem c216_10 : cd 216 10 = some (.getfield 1042, 3) := by decide +kernel
theorem c216_13 : cd 216 13 = some (.getfield 2052, 3) := by decide +kernel
theorem c216_16 : cd 216 16 = some (.sipush 1, 1) := by decide +kernel
theorem c216_17 : cd 216 17 = some (.isub, 1) := by decide +kernel
theorem c216_18 : cd 216 18 = some (.invokevirtual 272, 3) := by decide +kernel
theorem c216_21 : cd 216 21 = some (.ifCond .ne 26, 3) := by decide +kernel
theorem c216_24 : cd 216 24 = some (.sipush 0, 1) := by decide +kernel
theorem c216_25 : cd 216 25 = some (.ireturn, 1) := by decide +kernel
theorem c216_26 : cd 216 26 = some (.aload 0, 1) := by decide +kernel
theorem c216_27 : cd 216 27 = some (.getfield 1068, 3) := by decide +kernel
theorem c216_30 : cd 216 30 = some (.istore 1, 1) := by decide +kernel
theorem c216_31 : cd 216 31 = some (.aload 0, 1) := by decide +kernel
theorem c216_32 : cd 216 32 = some (.getfield 1042, 3) := by decide +kernel
theorem c216_35 : cd 216 35 = some (.getfield 2120, 3) := by decide +kernel
theorem c216_38 : cd 216 38 = some (.istore 2, 1) := by decide +kernel
theorem c216_39 : cd 216 39 = some (.aload 0, 1) := by decide +kernel
theorem c216_40 : cd 216 40 = some (.sipush 0, 1) := by decide +kernel
theorem c216_41 : cd 216 41 = some (.putfield 1072, 3) := by decide +kernel
theorem c216_44 : cd 216 44 = some (.aload 0, 1) := by decide +kernel
theorem c216_45 : cd 216 45 = some (.sipush 0, 1) := by decide +kernel
theorem c216_46 : cd 216 46 = some (.putfield 1079, 3) := by decide +kernel
theorem c216_49 : cd 216 49 = some (.aload 0, 1) := by decide +kernel
theorem c216_50 : cd 216 50 = some (.invokevirtual 212, 3) := by decide +kernel
theorem c216_53 : cd 216 53 = some (.ifCond .eq 80, 3) := by decide +kernel
theorem c216_56 : cd 216 56 = some (.aload 0, 1) := by decide +kernel
theorem c216_57 : cd 216 57 = some (.sipush 58, 2) := by decide +kernel
theorem c216_59 : cd 216 59 = some (.invokevirtual 220, 3) := by decide +kernel
theorem c216_62 : cd 216 62 = some (.ifCond .eq 80, 3) := by decide +kernel
theorem c216_65 : cd 216 65 = some (.aload 0, 1) := by decide +kernel
theorem c216_66 : cd 216 66 = some (.invokevirtual 212, 3) := by decide +kernel
theorem c216_69 : cd 216 69 = some (.ifCond .eq 80, 3) := by decide +kernel
theorem c216_72 : cd 216 72 = some (.aload 0, 1) := by decide +kernel
theorem c216_73 : cd 216 73 = some (.sipush 0, 1) := by decide +kernel
theorem c216_74 : cd 216 74 = some (.invokevirtual 276, 3) := by decide +kernel
theorem c216_77 : cd 216 77 = some (.ifCond .ne 82, 3) := by decide +kernel
theorem c216_80 : cd 216 80 = some (.sipush 0, 1) := by decide +kernel
theorem c216_81 : cd 216 81 = some (.ireturn, 1) := by decide +kernel
theorem c216_82 : cd 216 82 = some (.sipush 1, 1) := by decide +kernel
theorem c216_83 : cd 216 83 = some (.iload 1, 1) := by decide +kernel
theorem c216_84 : cd 216 84 = some (.ishl, 1) := by decide +kernel
theorem c216_85 : cd 216 85 = some (.istore 3, 1) := by decide +kernel
theorem c216_86 : cd 216 86 = some (.aload 0, 1) := by decide +kernel
theorem c216_87 : cd 216 87 = some (.getfield 1042, 3) := by decide +kernel
theorem c216_90 : cd 216 90 = some (.dup, 1) := by decide +kernel
theorem c216_91 : cd 216 91 = some (.getfield 2096, 3) := by decide +kernel
theorem c216_94 : cd 216 94 = some (.iload 3, 1) := by decide +kernel
theorem c216_95 : cd 216 95 = some (.ior, 1) := by decide +kernel
theorem c216_96 : cd 216 96 = some (.putfield 2096, 3) := by decide +kernel
theorem c216_99 : cd 216 99 = some (.aload 0, 1) := by decide +kernel
theorem c216_100 : cd 216 100 = some (.getfield 1042, 3) := by decide +kernel
theorem c216_103 : cd 216 103 = some (.aload 0, 1) := by decide +kernel
theorem c216_104 : cd 216 104 = some (.getfield 1079, 3) := by decide +kernel
theorem c216_107 : cd 216 107 = some (.ifCond .eq 122, 3) := by decide +kernel
theorem c216_110 : cd 216 110 = some (.aload 0, 1) := by decide +kernel
theorem c216_111 : cd 216 111 = some (.getfield 1042, 3) := by decide +kernel
theorem c216_114 : cd 216 114 = some (.getfield 2100, 3) := by decide +kernel
theorem c216_117 : cd 216 117 = some (.iload 3, 1) := by decide +kernel
theorem c216_118 : cd 216 118 = some (.ior, 1) := by decide +kernel
theorem c216_119 : cd 216 119 = some (.goto 133, 3) := by decide +kernel
theorem c216_122 : cd 216 122 = some (.aload 0, 1) := by decide +kernel
theorem c216_123 : cd 216 123 = some (.getfield 1042, 3) := by decide +kernel
theorem c216_126 : cd 216 126 = some (.getfield 2100, 3) := by decide +kernel
theorem c216_129 : cd 216 129 = some (.iload 3, 1) := by decide +kernel
theorem c216_130 : cd 216 130 = some (.sipush (-1), 1) := by decide +kernel
theorem c216_131 : cd 216 131 = some (.ixor, 1) := by decide +kernel
theorem c216_132 : cd 216 132 = some (.iand, 1) := by decide +kernel
theorem c216_133 : cd 216 133 = some (.putfield 2100, 3) := by decide +kernel
theorem c216_136 : cd 216 136 = some (.aload 0, 1) := by decide +kernel
theorem c216_137 : cd 216 137 = some (.getfield 1042, 3) := by decide +kernel
theorem c216_140 : cd 216 140 = some (.getfield 2106, 3) := by decide +kernel
theorem c216_143 : cd 216 143 = some (.iload 1, 1) := by decide +kernel
theorem c216_144 : cd 216 144 = some (.aload 0, 1) := by decide +kernel
theorem c216_145 : cd 216 145 = some (.getfield 1072, 3) := by decide +kernel
theorem c216_148 : cd 216 148 = some (.iload 3, 1) := by decide +kernel
theorem c216_149 : cd 216 149 = some (.sipush (-1), 1) := by decide +kernel
theorem c216_150 : cd 216 150 = some (.ixor, 1) := by decide +kernel
theorem c216_151 : cd 216 151 = some (.iand, 1) := by decide +kernel
theorem c216_152 : cd 216 152 = some (.iastore, 1) := by decide +kernel
theorem c216_153 : cd 216 153 = some (.aload 0, 1) := by decide +kernel
theorem c216_154 : cd 216 154 = some (.getfield 1042, 3) := by decide +kernel
theorem c216_157 : cd 216 157 = some (.getfield 2110, 3) := by decide +kernel
theorem c216_160 : cd 216 160 = some (.iload 1, 1) := by decide +kernel
theorem c216_161 : cd 216 161 = some (.iload 2, 1) := by decide +kernel
theorem c216_162 : cd 216 162 = some (.iastore, 1) := by decide +kernel
theorem c216_163 : cd 216 163 = some (.aload 0, 1) := by decide +kernel
theorem c216_164 : cd 216 164 = some (.getfield 1042, 3) := by decide +kernel
theorem c216_167 : cd 216 167 = some (.getfield 2114, 3) := by decide +kernel
theorem c216_170 : cd 216 170 = some (.iload 1, 1) := by decide +kernel
theorem c216_171 : cd 216 171 = some (.aload 0, 1) := by decide +kernel
theorem c216_172 : cd 216 172 = some (.getfield 1042, 3) := by decide +kernel
theorem c216_175 : cd 216 175 = some (.getfield 2120, 3) := by decide +kernel
theorem c216_178 : cd 216 178 = some (.iastore, 1) := by decide +kernel
theorem c216_179 : cd 216 179 = some (.sipush 1, 1) := by decide +kernel
theorem c216_180 : cd 216 180 = some (.ireturn, 1) := by decide +kernel
theorem g216_0 {d : Nat} {x1 x2 x3 : Option aV} {w : aW} {Q : Option aV → aW → Prop} : T (d + 1) 216 0 [some (vr 1), x1, x2, x3] [] w Q = T d 212 0 [some (vr 1)] [] w (fun r w1 => T (d + 1) 216 4 [some (vr 1), x1, x2, x3] (r.toList ++ []) w1 Q) := by
  rw [T_aload_0 c216_0, T_invv (es := [some (vr 1)]) (st := [vr 1]) (ks := [2]) (n := 1) (c := 4) (k := 1) (as := []) (rest := []) c216_1 (by decide +kernel) (by decide +kernel) (by decide +kernel) (by decide) rfl rfl (Nat.le_of_ble_eq_true rfl)]
  all_goals try simp only [lay_1, true_and, Nat.reduceAdd, eq_self_iff_true]
theorem g216_4 {d : Nat} {s0 : Int} {x1 x2 x3 : Option aV} {w : aW} {Q : Option aV → aW → Prop} : T (d + 1) 216 4 [some (vr 1), x1, x2, x3] [vi s0] w Q = ((s0 = 0 → T (d + 1) 216 24 [some (vr 1), x1, x2, x3] [] w Q) ∧ (¬ (s0 = 0) → T d 272 0 [some (vr 1), some (vi 0), some (vi (w32 ((w 3 1) - 1)))] [] w (fun r w1 => T (d + 1) 216 21 [some (vr 1), x1, x2, x3] (r.toList ++ []) w1 Q))) := by
  rw [T_if_eq 24 c216_4 rfl, T_aload_0 c216_7, T_sipush c216_8, T_aload_0 c216_9, T_getR 4 4 4 c216_10 rfl rfl rfl rfl, rf_1_4, T_getI 8 1 1 c216_13 rfl rfl rfl rfl, T_sipush c216_16, T_isub c216_17, T_invv (es := [some (vr 1), some (vi 0), some (vi (w32 ((w 3 1) - 1)))]) (st := [vi (w32 ((w 3 1) - 1)), vi 0, vr 1]) (ks := [2, 0, 0]) (n := 3) (c := 4) (k := 1) (as := [vi 0, vi (w32 ((w 3 1) - 1))]) (rest := []) c216_18 (by decide +kernel) (by decide +kernel) (by decide +kernel) (by decide) rfl rfl (Nat.le_of_ble_eq_true rfl)]
  all_goals try simp only [Int.reduceToNat, lay_1, lay_3, true_and, Nat.reduceAdd, eq_self_iff_true]
theorem g216_21 {d : Nat} {s0 : Int} {x1 x2 x3 : Option aV} {w : aW} {Q : Option aV → aW → Prop} : T (d + 1) 216 21 [some (vr 1), x1, x2, x3] [vi s0] w Q = ((¬ s0 = 0 → T d 212 0 [some (vr 1)] [] (iup (iup w 1 12 0) 1 13 0) (fun r w1 => T (d + 1) 216 53 [some (vr 1), some (vi (w 1 11)), some (vi (w 3 18)), x3] (r.toList ++ []) w1 Q)) ∧ (¬ (¬ s0 = 0) → T (d + 1) 216 24 [some (vr 1), x1, x2, x3] [] w Q)) := by
  rw [T_if_ne 26 c216_21 rfl, T_aload_0 c216_26, T_getI 4 11 11 c216_27 rfl rfl rfl rfl, T_istore_1 c216_30, T_aload_0 c216_31, T_getR 4 4 4 c216_32 rfl rfl rfl rfl, rf_1_4, T_getI 8 18 18 c216_35 rfl rfl rfl rfl, T_istore_2 c216_38, T_aload_0 c216_39, T_sipush c216_40, T_putI 4 12 12 c216_41 rfl rfl rfl rfl, T_aload_0 c216_44, T_sipush c216_45, T_putZ 4 13 13 c216_46 rfl rfl rfl rfl, T_aload_0 c216_49, T_invv (es := [some (vr 1)]) (st := [vr 1]) (ks := [2]) (n := 1) (c := 4) (k := 1) (as := []) (rest := []) c216_50 (by decide +kernel) (by decide +kernel) (by decide +kernel) (by decide) rfl rfl (Nat.le_of_ble_eq_true rfl)]
  all_goals try simp only [Int.reduceEq, Int.reduceToNat, and_true, lay_1, lay_3, or_true, true_or, true_and, Nat.reduceAdd, eq_self_iff_true]
theorem g216_24 {d : Nat} {x0 x1 x2 x3 : Option aV} {w : aW} {Q : Option aV → aW → Prop} : T d 216 24 [x0, x1, x2, x3] [] w Q = Q (some (vi 0)) w := by
  rw [T_sipush c216_24, T_iretz c216_25 (by decide +kernel)]
  all_goals try simp only [true_and, Nat.reduceAdd, eq_self_iff_true, zero_eq_1, one_eq_0, true_or, or_true]
theorem g216_53 {d : Nat} {s0 : Int} {x1 x2 x3 : Option aV} {w : aW} {Q : Option aV → aW → Prop} : T (d + 1) 216 53 [some (vr 1), x1, x2, x3] [vi s0] w Q = ((s0 = 0 → T (d + 1) 216 80 [some (vr 1), x1, x2, x3] [] w Q) ∧ (¬ (s0 = 0) → T d 220 0 [some (vr 1), some (vi 58)] [] w (fun r w1 => T (d + 1) 216 62 [some (vr 1), x1, x2, x3] (r.toList ++ []) w1 Q))) := by
  rw [T_if_eq 80 c216_53 rfl, T_aload_0 c216_56, T_sipush c216_57, T_invv (es := [some (vr 1), some (vi 58)]) (st := [vi 58, vr 1]) (ks := [2, 0]) (n := 2) (c := 4) (k := 1) (as := [vi 58]) (rest := []) c216_59 (by decide +kernel) (by decide +kernel) (by decide +kernel) (by decide) rfl rfl (Nat.le_of_ble_eq_true rfl)]
  all_goals try simp only [Int.reduceToNat, lay_1, true_and, Nat.reduceAdd, eq_self_iff_true]
theorem g216_62 {d : Nat} {s0 : Int} {x1 x2 x3 : Option aV} {w : aW} {Q : Option aV → aW → Prop} : T (d + 1) 216 62 [some (vr 1), x1, x2, x3] [vi s0] w Q = ((s0 = 0 → T (d + 1) 216 80 [some (vr 1), x1, x2, x3] [] w Q) ∧ (¬ (s0 = 0) → T d 212 0 [some (vr 1)] [] w (fun r w1 => T (d + 1) 216 69 [some (vr 1), x1, x2, x3] (r.toList ++ []) w1 Q))) := by
  rw [T_if_eq 80 c216_62 rfl, T_aload_0 c216_65, T_invv (es := [some (vr 1)]) (st := [vr 1]) (ks := [2]) (n := 1) (c := 4) (k := 1) (as := []) (rest := []) c216_66 (by decide +kernel) (by decide +kernel) (by decide +kernel) (by decide) rfl rfl (Nat.le_of_ble_eq_true rfl)]
  all_goals try simp only [Int.reduceToNat, lay_1, true_and, Nat.reduceAdd, eq_self_iff_true]
theorem g216_69 {d : Nat} {s0 : Int} {x1 x2 x3 : Option aV} {w : aW} {Q : Option aV → aW → Prop} : T (d + 1) 216 69 [some (vr 1), x1, x2, x3] [vi s0] w Q = ((s0 = 0 → T (d + 1) 216 80 [some (vr 1), x1, x2, x3] [] w Q) ∧ (¬ (s0 = 0) → T d 276 0 [some (vr 1), some (vi 0), none] [] w (fun r w1 => T (d + 1) 216 77 [some (vr 1), x1, x2, x3] (r.toList ++ []) w1 Q))) := by
  rw [T_if_eq 80 c216_69 rfl, T_aload_0 c216_72, T_sipush c216_73, T_invv (es := [some (vr 1), some (vi 0), none]) (st := [vi 0, vr 1]) (ks := [2, 0]) (n := 3) (c := 4) (k := 1) (as := [vi 0]) (rest := []) c216_74 (by decide +kernel) (by decide +kernel) (by decide +kernel) (by decide) rfl rfl (Nat.le_of_ble_eq_true rfl)]
  all_goals try simp only [Int.reduceToNat, lay_1, true_and, Nat.reduceAdd, eq_self_iff_true]
theorem g216_77 {d : Nat} {a1 s0 : Int} {x2 x3 : Option aV} {w : aW} {Q : Option aV → aW → Prop} : T d 216 77 [some (vr 1), some (vi a1), x2, x3] [vi s0] w Q = ((¬ s0 = 0 → (((iup w 3 12 (jor (w 3 12) (jshl 1 a1))) 1 13 = 0 → T d 216 133 [some (vr 1), some (vi a1), x2, some (vi (jshl 1 a1))] [vi (jand ((iup w 3 12 (jor (w 3 12) (jshl 1 a1))) 3 13) (jxor (jshl 1 a1) (-1))), vr 3] (iup w 3 12 (jor (w 3 12) (jshl 1 a1))) Q) ∧ (¬ ((iup w 3 12 (jor (w 3 12) (jshl 1 a1))) 1 13 = 0) → T d 216 133 [some (vr 1), some (vi a1), x2, some (vi (jshl 1 a1))] [vi (jor ((iup w 3 12 (jor (w 3 12) (jshl 1 a1))) 3 13) (jshl 1 a1)), vr 3] (iup w 3 12 (jor (w 3 12) (jshl 1 a1))) Q))) ∧ (¬ (¬ s0 = 0) → T d 216 80 [some (vr 1), some (vi a1), x2, x3] [] w Q)) := by
  rw [T_if_ne 82 c216_77 rfl, T_sipush c216_82, T_iload_1 c216_83, T_ishl c216_84, T_istore_3 c216_85, T_aload_0 c216_86, T_getR 4 4 4 c216_87 rfl rfl rfl rfl, rf_1_4, T_dup_r c216_90, T_getI 8 12 12 c216_91 rfl rfl rfl rfl, T_iload_3 c216_94, T_ior c216_95, T_putI 8 12 12 c216_96 rfl rfl rfl rfl, T_aload_0 c216_99, T_getR 4 4 4 c216_100 rfl rfl rfl rfl, rf_1_4, T_aload_0 c216_103, T_getZ 4 13 13 c216_104 rfl rfl rfl rfl, T_if_eq 122 c216_107 rfl, T_aload_0 c216_122, T_getR 4 4 4 c216_123 rfl rfl rfl rfl, rf_1_4, T_getI 8 13 13 c216_126 rfl rfl rfl rfl, T_iload_3 c216_129, T_sipush c216_130, T_ixor c216_131, T_iand c216_132, T_aload_0 c216_110, T_getR 4 4 4 c216_111 rfl rfl rfl rfl, rf_1_4, T_getI 8 13 13 c216_114 rfl rfl rfl rfl, T_iload_3 c216_117, T_ior c216_118, T_goto 133 c216_119 rfl]
  all_goals try simp only [Int.reduceToNat, lay_1, lay_3, true_and, Nat.reduceAdd, eq_self_iff_true]
theorem g216_80 {d : Nat} {x0 x1 x2 x3 : Option aV} {w : aW} {Q : Option aV → aW → Prop} : T d 216 80 [x0, x1, x2, x3] [] w Q = Q (some (vi 0)) w := by
  rw [T_sipush c216_80, T_iretz c216_81 (by decide +kernel)]
  all_goals try simp only [true_and, Nat.reduceAdd, eq_self_iff_true, zero_eq_1, one_eq_0, true_or, or_true]
theorem g216_133 {d : Nat} {a1 a2 a3 s1 : Int} {s0 : Nat} {w : aW} {Q : Option aV → aW → Prop} : T d 216 133 [some (vr 1), some (vi a1), some (vi a2), some (vi a3)] [vi s1, vr s0] w Q = ((lay s0 = (8, 0)) ∧ ((0 ≤ a1 ∧ a1 < 10) ∧ ((0 ≤ a1 ∧ a1 < 10) ∧ ((0 ≤ a1 ∧ a1 < 10) ∧ Q (some (vi 1)) (iup (iup (iup (iup w s0 13 s1) 9 a1 (jand ((iup w s0 13 s1) 1 12) (jxor a3 (-1)))) 10 a1 a2) 11 a1 ((iup (iup (iup w s0 13 s1) 9 a1 (jand ((iup w s0 13 s1) 1 12) (jxor a3 (-1)))) 10 a1 a2) 3 18)))))) := by
  rw [T_putI 8 13 13 c216_133 rfl rfl rfl rfl, T_aload_0 c216_136, T_getR 4 4 4 c216_137 rfl rfl rfl rfl, rf_1_4, T_getR 8 14 14 c216_140 rfl rfl rfl rfl, rf_3_14, T_iload_1 c216_143, T_aload_0 c216_144, T_getI 4 12 12 c216_145 rfl rfl rfl rfl, T_iload_3 c216_148, T_sipush c216_149, T_ixor c216_150, T_iand c216_151, T_iast c216_152, T_aload_0 c216_153, T_getR 4 4 4 c216_154 rfl rfl rfl rfl, rf_1_4, T_getR 8 15 15 c216_157 rfl rfl rfl rfl, rf_3_15, T_iload_1 c216_160, T_iload_2 c216_161, T_iast c216_162, T_aload_0 c216_163, T_getR 4 4 4 c216_164 rfl rfl rfl rfl, rf_1_4, T_getR 8 16 16 c216_167 rfl rfl rfl rfl, rf_3_16, T_iload_1 c216_170, T_aload_0 c216_171, T_getR 4 4 4 c216_172 rfl rfl rfl rfl, rf_1_4, T_getI 8 18 18 c216_175 rfl rfl rfl rfl, T_iast c216_178, T_sipush c216_179, T_iretz c216_180 (by decide +kernel)]
  all_goals try simp only [ia0_10, ia0_11, ia0_9, lay_1, lay_3, true_and, Nat.reduceAdd, eq_self_iff_true, zero_eq_1, one_eq_0, true_or, or_true]
