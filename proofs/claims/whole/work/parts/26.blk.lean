/-! 107: StringHandsModel.eats.(I)Z -/
theorem c107_0 : cd 107 0 = some (.aload 0, 1) := by decide +kernel
theorem c107_1 : cd 107 1 = some (.iload 1, 1) := by decide +kernel
theorem c107_2 : cd 107 2 = some (.invokevirtual 109, 3) := by decide +kernel
theorem c107_5 : cd 107 5 = some (.ifCond .ne 10, 3) := by decide +kernel
theorem c107_8 : cd 107 8 = some (.sipush 0, 1) := by decide +kernel
theorem c107_9 : cd 107 9 = some (.ireturn, 1) := by decide +kernel
theorem c107_10 : cd 107 10 = some (.aload 0, 1) := by decide +kernel
theorem c107_11 : cd 107 11 = some (.invokevirtual 106, 3) := by decide +kernel
theorem c107_14 : cd 107 14 = some (.sipush 1, 1) := by decide +kernel
theorem c107_15 : cd 107 15 = some (.ireturn, 1) := by decide +kernel
theorem g107_0 {d : Nat} {a1 : Int} {w : aW} {Q : Option aV → aW → Prop} : T (d + 1) 107 0 [some (vr 167), some (vi a1)] [] w Q = T d 109 0 [some (vr 167), some (vi a1)] [] w (fun r w1 => T (d + 1) 107 5 [some (vr 167), some (vi a1)] (r.toList ++ []) w1 Q) := by
  rw [T_aload_0 c107_0, T_iload_1 c107_1, T_invv (es := [some (vr 167), some (vi a1)]) (st := [vi a1, vr 167]) (ks := [2, 0]) (n := 2) (c := 12) (k := 167) (as := [vi a1]) (rest := []) c107_2 (by decide +kernel) (by decide +kernel) (by decide +kernel) (by decide) rfl rfl (Nat.le_of_ble_eq_true rfl)]
  all_goals try simp only [lay_167, true_and, Nat.reduceAdd, eq_self_iff_true]
theorem g107_5 {d : Nat} {s0 : Int} {x1 : Option aV} {w : aW} {Q : Option aV → aW → Prop} : T (d + 1) 107 5 [some (vr 167), x1] [vi s0] w Q = ((¬ s0 = 0 → T d 106 0 [some (vr 167), none] [] w (fun r w1 => T (d + 1) 107 14 [some (vr 167), x1] (r.toList ++ []) w1 Q)) ∧ (¬ (¬ s0 = 0) → Q (some (vi 0)) w)) := by
  rw [T_if_ne 10 c107_5 rfl, T_aload_0 c107_10, T_invv (es := [some (vr 167), none]) (st := [vr 167]) (ks := [2]) (n := 2) (c := 12) (k := 167) (as := []) (rest := []) c107_11 (by decide +kernel) (by decide +kernel) (by decide +kernel) (by decide) rfl rfl (Nat.le_of_ble_eq_true rfl), T_sipush c107_8, T_iretz c107_9 (by decide +kernel)]
  all_goals try simp only [Int.reduceToNat, lay_167, true_and, Nat.reduceAdd, eq_self_iff_true, zero_eq_1, one_eq_0, true_or, or_true]
theorem g107_14 {d : Nat} {x0 x1 : Option aV} {w : aW} {Q : Option aV → aW → Prop} : T d 107 14 [x0, x1] [] w Q = Q (some (vi 1)) w := by
  rw [T_sipush c107_14, T_iretz c107_15 (by decide +kernel)]
  all_goals try simp only [true_and, Nat.reduceAdd, eq_self_iff_true, zero_eq_1, one_eq_0, true_or, or_true]
/-! 108: StringHandsModel.readPuppet.()V -/
theorem c108_0 : cd 108 0 = some (.aload 0, 1) := by decide +kernel
theorem c108_1 : cd 108 1 = some (.sipush 15, 2) := by decide +kernel
theorem c108_3 : cd 108 3 = some (.invokevirtual 109, 3) := by decide +kernel
theorem c108_6 : cd 108 6 = some (.ifCond .eq 45, 3) := by decide +kernel
theorem c108_9 : cd 108 9 = some (.aload 0, 1) := by decide +kernel
theorem c108_10 : cd 108 10 = some (.getfield 3112, 3) := by decide +kernel
theorem c108_13 : cd 108 13 = some (.i2l, 1) := by decide +kernel
theorem c108_14 : cd 108 14 = some (.bipush 1, 1) := by decide +kernel
theorem c108_15 : cd 108 15 = some (.bipush 6, 3) := by decide +kernel
theorem c108_18 : cd 108 18 = some (.invokestatic 105, 3) := by decide +kernel
theorem c108_21 : cd 108 21 = some (.ifCond .eq 45, 3) := by decide +kernel
theorem c108_24 : cd 108 24 = some (.aload 0, 1) := by decide +kernel
theorem c108_25 : cd 108 25 = some (.getfield 3090, 3) := by decide +kernel
theorem c108_28 : cd 108 28 = some (.sipush 2, 1) := by decide +kernel
theorem c108_29 : cd 108 29 = some (.iaload, 1) := by decide +kernel
theorem c108_30 : cd 108 30 = some (.aload 0, 1) := by decide +kernel
theorem c108_31 : cd 108 31 = some (.getfield 3112, 3) := by decide +kernel
theorem c108_34 : cd 108 34 = some (.iadd, 1) := by decide +kernel
theorem c108_35 : cd 108 35 = some (.sipush 10, 2) := by decide +kernel
theorem c108_37 : cd 108 37 = some (.if_icmp .le 45, 3) := by decide +kernel
theorem c108_40 : cd 108 40 = some (.aload 0, 1) := by decide +kernel
theorem c108_41 : cd 108 41 = some (.sipush 4, 1) := by decide +kernel
theorem c108_42 : cd 108 42 = some (.invokevirtual 115, 3) := by decide +kernel
theorem c108_45 : cd 108 45 = some (.aload 0, 1) := by decide +kernel
theorem c108_46 : cd 108 46 = some (.sipush 1, 1) := by decide +kernel
theorem c108_47 : cd 108 47 = some (.sipush 6, 2) := by decide +kernel
theorem c108_49 : cd 108 49 = some (.invokevirtual 114, 3) := by decide +kernel
theorem c108_52 : cd 108 52 = some (.istore 1, 1) := by decide +kernel
theorem c108_53 : cd 108 53 = some (.aload 0, 1) := by decide +kernel
theorem c108_54 : cd 108 54 = some (.getfield 3116, 3) := by decide +kernel
theorem c108_57 : cd 108 57 = some (.ifCond .eq 61, 3) := by decide +kernel
theorem c108_60 : cd 108 60 = some (.return_, 1) := by decide +kernel
theorem c108_61 : cd 108 61 = some (.sipush 0, 1) := by decide +kernel
theorem c108_62 : cd 108 62 = some (.istore 2, 1) := by decide +kernel
theorem c108_63 : cd 108 63 = some (.iload 2, 1) := by decide +kernel
theorem c108_64 : cd 108 64 = some (.iload 1, 1) := by decide +kernel
theorem c108_65 : cd 108 65 = some (.if_icmp .ge 126, 3) := by decide +kernel
theorem c108_68 : cd 108 68 = some (.aload 0, 1) := by decide +kernel
theorem c108_69 : cd 108 69 = some (.getfield 3090, 3) := by decide +kernel
theorem c108_72 : cd 108 72 = some (.sipush 2, 1) := by decide +kernel
theorem c108_73 : cd 108 73 = some (.iaload, 1) := by decide +kernel
theorem c108_74 : cd 108 74 = some (.istore 3, 1) := by decide +kernel
theorem c108_75 : cd 108 75 = some (.aload 0, 1) := by decide +kernel
theorem c108_76 : cd 108 76 = some (.getfield 3090, 3) := by decide +kernel
theorem c108_79 : cd 108 79 = some (.sipush 112, 2) := by decide +kernel
theorem c108_81 : cd 108 81 = some (.iload 3, 1) := by decide +kernel
theorem c108_82 : cd 108 82 = some (.iadd, 1) := by decide +kernel
theorem c108_83 : cd 108 83 = some (.aload 0, 1) := by decide +kernel
theorem c108_84 : cd 108 84 = some (.getfield 3090, 3) := by decide +kernel
theorem c108_87 : cd 108 87 = some (.sipush 1, 1) := by decide +kernel
theorem c108_88 : cd 108 88 = some (.iaload, 1) := by decide +kernel
theorem c108_89 : cd 108 89 = some (.iastore, 1) := by decide +kernel
theorem c108_90 : cd 108 90 = some (.aload 0, 1) := by decide +kernel
theorem c108_91 : cd 108 91 = some (.getfield 3090, 3) := by decide +kernel
theorem c108_94 : cd 108 94 = some (.sipush 122, 2) := by decide +kernel
theorem c108_96 : cd 108 96 = some (.iload 3, 1) := by decide +kernel
theorem c108_97 : cd 108 97 = some (.iadd, 1) := by decide +kernel
theorem c108_98 : cd 108 98 = some (.sipush 1, 1) := by decide +kernel
theorem c108_99 : cd 108 99 = some (.iastore, 1) := by decide +kernel
theorem c108_100 : cd 108 100 = some (.aload 0, 1) := by decide +kernel
theorem c108_101 : cd 108 101 = some (.getfield 3090, 3) := by decide +kernel
theorem c108_104 : cd 108 104 = some (.sipush 54, 2) := by decide +kernel
theorem c108_106 : cd 108 106 = some (.iload 3, 1) := by decide +kernel
theorem c108_107 : cd 108 107 = some (.iadd, 1) := by decide +kernel
theorem c108_108 : cd 108 108 = some (.iload 3, 1) := by decide +kernel
theorem c108_109 : cd 108 109 = some (.iastore, 1) := by decide +kernel
theorem c108_110 : cd 108 110 = some (.aload 0, 1) := by decide +kernel
theorem c108_111 : cd 108 111 = some (.getfield 3090, 3) := by decide +kernel
theorem c108_114 : cd 108 114 = some (.sipush 2, 1) := by decide +kernel
theorem c108_115 : cd 108 115 = some (.dup2, 1) := by decide +kernel
theorem c108_116 : cd 108 116 = some (.iaload, 1) := by decide +kernel
theorem c108_117 : cd 108 117 = some (.sipush 1, 1) := by decide +kernel
theorem c108_118 : cd 108 118 = some (.iadd, 1) := by decide +kernel
theorem c108_119 : cd 108 119 = some (.iastore, 1) := by decide +kernel
theorem c108_120 : cd 108 120 = some (.iinc 2 1, 3) := by decide +kernel
theorem c108_123 : cd 108 123 = some (.goto 63, 3) := by decide +kernel
theorem c108_126 : cd 108 126 = some (.aload 0, 1) := by decide +kernel
theorem c108_127 : cd 108 127 = some (.getfield 3090, 3) := by decide +kernel
theorem c108_130 : cd 108 130 = some (.sipush 1, 1) := by decide +kernel
theorem c108_131 : cd 108 131 = some (.dup2, 1) := by decide +kernel
theorem c108_132 : cd 108 132 = some (.iaload, 1) := by decide +kernel
theorem c108_133 : cd 108 133 = some (.sipush 1, 1) := by decide +kernel
theorem c108_134 : cd 108 134 = some (.iadd, 1) := by decide +kernel
theorem c108_135 : cd 108 135 = some (.iastore, 1) := by decide +kernel
theorem c108_136 : cd 108 136 = some (.return_, 1) := by decide +kernel
theorem g108_0 {d : Nat} {x1 x2 x3 : Option aV} {w : aW} {Q : Option aV → aW → Prop} : T (d + 1) 108 0 [some (vr 167), x1, x2, x3] [] w Q = T d 109 0 [some (vr 167), some (vi 15)] [] w (fun r w1 => T (d + 1) 108 6 [some (vr 167), x1, x2, x3] (r.toList ++ []) w1 Q) := by
  rw [T_aload_0 c108_0, T_sipush c108_1, T_invv (es := [some (vr 167), some (vi 15)]) (st := [vi 15, vr 167]) (ks := [2, 0]) (n := 2) (c := 12) (k := 167) (as := [vi 15]) (rest := []) c108_3 (by decide +kernel) (by decide +kernel) (by decide +kernel) (by decide) rfl rfl (Nat.le_of_ble_eq_true rfl)]
  all_goals try simp only [lay_167, true_and, Nat.reduceAdd, eq_self_iff_true]
theorem g108_6 {d : Nat} {s0 : Int} {x1 x2 x3 : Option aV} {w : aW} {Q : Option aV → aW → Prop} : T (d + 1) 108 6 [some (vr 167), x1, x2, x3] [vi s0] w Q = ((s0 = 0 → T (d + 1) 108 45 [some (vr 167), x1, x2, x3] [] w Q) ∧ (¬ (s0 = 0) → T d 105 0 [some (vl (w 167 10)), none, some (vl 1), none, some (vl 6), none] [] w (fun r w1 => T (d + 1) 108 21 [some (vr 167), x1, x2, x3] (r.toList ++ []) w1 Q))) := by
  rw [T_if_eq 45 c108_6 rfl, T_aload_0 c108_9, T_getI 12 10 10 c108_10 rfl rfl rfl rfl, T_i2l c108_13, T_bipush c108_14, T_bipush c108_15, T_inv (es := [some (vl (w 167 10)), none, some (vl 1), none, some (vl 6), none]) (st := [vl 6, vl 1, vl (w 167 10)]) (ks := [1, 1, 1]) (n := 6) (as := [vl (w 167 10), vl 1, vl 6]) (rest := []) c108_18 (by decide +kernel) (by decide +kernel) rfl rfl (Nat.le_of_ble_eq_true rfl)]
  all_goals try simp only [Int.reduceToNat, lay_167, true_and, Nat.reduceAdd, eq_self_iff_true]
theorem g108_21 {d : Nat} {s0 : Int} {x1 x2 x3 : Option aV} {w : aW} {Q : Option aV → aW → Prop} : T (d + 1) 108 21 [some (vr 167), x1, x2, x3] [vi s0] w Q = ((s0 = 0 → T (d + 1) 108 45 [some (vr 167), x1, x2, x3] [] w Q) ∧ (¬ (s0 = 0) → ((w32 ((w 171 2) + (w 167 10)) ≤ 10 → T (d + 1) 108 45 [some (vr 167), x1, x2, x3] [] w Q) ∧ (¬ (w32 ((w 171 2) + (w 167 10)) ≤ 10) → T d 115 0 [some (vr 167), some (vi 4)] [] w (fun r w1 => T (d + 1) 108 45 [some (vr 167), x1, x2, x3] (r.toList ++ []) w1 Q))))) := by
  rw [T_if_eq 45 c108_21 rfl, T_aload_0 c108_24, T_getR 12 4 4 c108_25 rfl rfl rfl rfl, rf_167_4, T_sipush c108_28, T_iald c108_29, T_aload_0 c108_30, T_getI 12 10 10 c108_31 rfl rfl rfl rfl, T_iadd c108_34, T_sipush c108_35, T_icmp_le 45 c108_37 rfl, T_aload_0 c108_40, T_sipush c108_41, T_invv (es := [some (vr 167), some (vi 4)]) (st := [vi 4, vr 167]) (ks := [2, 0]) (n := 2) (c := 12) (k := 167) (as := [vi 4]) (rest := []) c108_42 (by decide +kernel) (by decide +kernel) (by decide +kernel) (by decide) rfl rfl (Nat.le_of_ble_eq_true rfl)]
  all_goals try simp only [Int.reduceLE, Int.reduceLT, Int.reduceToNat, and_self, lay_167, ld_171, true_and, Nat.reduceAdd, eq_self_iff_true]
theorem g108_45 {d : Nat} {x1 x2 x3 : Option aV} {w : aW} {Q : Option aV → aW → Prop} : T (d + 1) 108 45 [some (vr 167), x1, x2, x3] [] w Q = T d 114 0 [some (vr 167), some (vi 1), some (vi 6), none] [] w (fun r w1 => T (d + 1) 108 52 [some (vr 167), x1, x2, x3] (r.toList ++ []) w1 Q) := by
  rw [T_aload_0 c108_45, T_sipush c108_46, T_sipush c108_47, T_invv (es := [some (vr 167), some (vi 1), some (vi 6), none]) (st := [vi 6, vi 1, vr 167]) (ks := [2, 0, 0]) (n := 4) (c := 12) (k := 167) (as := [vi 1, vi 6]) (rest := []) c108_49 (by decide +kernel) (by decide +kernel) (by decide +kernel) (by decide) rfl rfl (Nat.le_of_ble_eq_true rfl)]
  all_goals try simp only [lay_167, true_and, Nat.reduceAdd, eq_self_iff_true]
theorem g108_52 {d : Nat} {s0 : Int} {x1 x2 x3 : Option aV} {w : aW} {Q : Option aV → aW → Prop} : T d 108 52 [some (vr 167), x1, x2, x3] [vi s0] w Q = ((w 167 11 = 0 → T d 108 63 [some (vr 167), some (vi s0), some (vi 0), x3] [] w Q) ∧ (¬ (w 167 11 = 0) → Q none w)) := by
  rw [T_istore_1 c108_52, T_aload_0 c108_53, T_getI 12 11 11 c108_54 rfl rfl rfl rfl, T_if_eq 61 c108_57 rfl, T_sipush c108_61, T_istore_2 c108_62, T_vret c108_60 (by decide +kernel)]
  all_goals try simp only [Int.reduceToNat, lay_167, true_and, Nat.reduceAdd, eq_self_iff_true]
theorem g108_63 {d : Nat} {a1 a2 : Int} {x3 : Option aV} {w : aW} {Q : Option aV → aW → Prop} : T d 108 63 [some (vr 167), some (vi a1), some (vi a2), x3] [] w Q = ((a1 ≤ a2 → Q none (iup w 171 1 (w32 ((w 171 1) + 1)))) ∧ (¬ (a1 ≤ a2) → ((0 ≤ w32 (112 + (w 171 2)) ∧ w32 (112 + (w 171 2)) < 1644) ∧ ((0 ≤ w32 (122 + (w 171 2)) ∧ w32 (122 + (w 171 2)) < 1644) ∧ ((0 ≤ w32 (54 + (w 171 2)) ∧ w32 (54 + (w 171 2)) < 1644) ∧ T d 108 63 [some (vr 167), some (vi a1), some (vi (w32 (a2 + 1))), some (vi (w 171 2))] [] (iup (iup (iup (iup w 171 (w32 (112 + (w 171 2))) (w 171 1)) 171 (w32 (122 + (w 171 2))) 1) 171 (w32 (54 + (w 171 2))) (w 171 2)) 171 2 (w32 (((iup (iup (iup w 171 (w32 (112 + (w 171 2))) (w 171 1)) 171 (w32 (122 + (w 171 2))) 1) 171 (w32 (54 + (w 171 2))) (w 171 2)) 171 2) + 1))) Q))))) := by
  rw [T_iload_2 c108_63, T_iload_1 c108_64, T_icmp_ge 126 c108_65 rfl, T_aload_0 c108_126, T_getR 12 4 4 c108_127 rfl rfl rfl rfl, rf_167_4, T_sipush c108_130, T_dup2 c108_131, T_iald c108_132, T_sipush c108_133, T_iadd c108_134, T_iast c108_135, T_vret c108_136 (by decide +kernel), T_aload_0 c108_68, T_getR 12 4 4 c108_69 rfl rfl rfl rfl, rf_167_4, T_sipush c108_72, T_iald c108_73, T_istore_3 c108_74, T_aload_0 c108_75, T_getR 12 4 4 c108_76 rfl rfl rfl rfl, rf_167_4, T_sipush c108_79, T_iload_3 c108_81, T_iadd c108_82, T_aload_0 c108_83, T_getR 12 4 4 c108_84 rfl rfl rfl rfl, rf_167_4, T_sipush c108_87, T_iald c108_88, T_iast c108_89, T_aload_0 c108_90, T_getR 12 4 4 c108_91 rfl rfl rfl rfl, rf_167_4, T_sipush c108_94, T_iload_3 c108_96, T_iadd c108_97, T_sipush c108_98, T_iast c108_99, T_aload_0 c108_100, T_getR 12 4 4 c108_101 rfl rfl rfl rfl, rf_167_4, T_sipush c108_104, T_iload_3 c108_106, T_iadd c108_107, T_iload_3 c108_108, T_iast c108_109, T_aload_0 c108_110, T_getR 12 4 4 c108_111 rfl rfl rfl rfl, rf_167_4, T_sipush c108_114, T_dup2 c108_115, T_iald c108_116, T_sipush c108_117, T_iadd c108_118, T_iast c108_119, T_iinc_2 c108_120, T_goto 63 c108_123 rfl]
  all_goals try simp only [Int.reduceLE, Int.reduceLT, Int.reduceToNat, and_self, ia0_171, lay_167, ld_171, true_and, Nat.reduceAdd, eq_self_iff_true]
/-! 109: StringHandsModel.is.(I)Z -/
theorem c109_0 : cd 109 0 = some (.aload 0, 1) := by decide +kernel
theorem c109_1 : cd 109 1 = some (.getfield 3116, 3) := by decide +kernel
theorem c109_4 : cd 109 4 = some (.ifCond .ne 19, 3) := by decide +kernel
theorem c109_7 : cd 109 7 = some (.aload 0, 1) := by decide +kernel
theorem c109_8 : cd 109 8 = some (.getfield 3108, 3) := by decide +kernel
theorem c109_11 : cd 109 11 = some (.iload 1, 1) := by decide +kernel
theorem c109_12 : cd 109 12 = some (.if_icmp .ne 19, 3) := by decide +kernel
theorem c109_15 : cd 109 15 = some (.sipush 1, 1) := by decide +kernel
theorem c109_16 : cd 109 16 = some (.goto 20, 3) := by decide +kernel
theorem c109_19 : cd 109 19 = some (.sipush 0, 1) := by decide +kernel
theorem c109_20 : cd 109 20 = some (.ireturn, 1) := by decide +kernel
theorem g109_0 {d : Nat} {a1 : Int} {w : aW} {Q : Option aV → aW → Prop} : T d 109 0 [some (vr 167), some (vi a1)] [] w Q = ((¬ w 167 11 = 0 → T d 109 19 [some (vr 167), some (vi a1)] [] w Q) ∧ (¬ (¬ w 167 11 = 0) → ((¬ w 167 9 = a1 → T d 109 19 [some (vr 167), some (vi a1)] [] w Q) ∧ (¬ (¬ w 167 9 = a1) → T d 109 20 [some (vr 167), some (vi a1)] [vi 1] w Q)))) := by
  rw [T_aload_0 c109_0, T_getI 12 11 11 c109_1 rfl rfl rfl rfl, T_if_ne 19 c109_4 rfl, T_aload_0 c109_7, T_getI 12 9 9 c109_8 rfl rfl rfl rfl, T_iload_1 c109_11, T_icmp_ne 19 c109_12 rfl, T_sipush c109_15, T_goto 20 c109_16 rfl]
  all_goals try simp only [Int.reduceToNat, lay_167, true_and, Nat.reduceAdd, eq_self_iff_true]
theorem g109_19 {d : Nat} {x0 x1 : Option aV} {w : aW} {Q : Option aV → aW → Prop} : T d 109 19 [x0, x1] [] w Q = T d 109 20 [x0, x1] [vi 0] w Q := by
  rw [T_sipush c109_19]
  all_goals try simp only [true_and, Nat.reduceAdd, eq_self_iff_true]
theorem g109_20 {d : Nat} {s0 : Int} {x0 x1 : Option aV} {w : aW} {Q : Option aV → aW → Prop} : T d 109 20 [x0, x1] [vi s0] w Q = ((s0 = 0 ∨ s0 = 1) ∧ Q (some (vi s0)) w) := by
  rw [T_iretz c109_20 (by decide +kernel)]
  all_goals try simp only [true_and, Nat.reduceAdd, eq_self_iff_true]
/-! 110: StringHandsModel.readString.()V -/
theorem c110_0 : cd 110 0 = some (.aload 0, 1) := by decide +kernel
theorem c110_1 : cd 110 1 = some (.getfield 3090, 3) := by decide +kernel
theorem c110_4 : cd 110 4 = some (.sipush 3, 1) := by decide +kernel
theorem c110_5 : cd 110 5 = some (.iaload, 1) := by decide +kernel
theorem c110_6 : cd 110 6 = some (.istore 1, 1) := by decide +kernel
theorem c110_7 : cd 110 7 = some (.iload 1, 1) := by decide +kernel
theorem c110_8 : cd 110 8 = some (.sipush 16, 2) := by decide +kernel
theorem c110_10 : cd 110 10 = some (.if_icmp .ne 18, 3) := by decide +kernel
theorem c110_13 : cd 110 13 = some (.aload 0, 1) := by decide +kernel
theorem c110_14 : cd 110 14 = some (.sipush 4, 1) := by decide +kernel
theorem c110_15 : cd 110 15 = some (.invokevirtual 115, 3) := by decide +kernel
theorem c110_18 : cd 110 18 = some (.aload 0, 1) := by decide +kernel
theorem c110_19 : cd 110 19 = some (.getfield 3116, 3) := by decide +kernel
theorem c110_22 : cd 110 22 = some (.ifCond .eq 26, 3) := by decide +kernel
theorem c110_25 : cd 110 25 = some (.return_, 1) := by decide +kernel
theorem c110_26 : cd 110 26 = some (.aload 0, 1) := by decide +kernel
theorem c110_27 : cd 110 27 = some (.invokevirtual 106, 3) := by decide +kernel
theorem c110_30 : cd 110 30 = some (.aload 0, 1) := by decide +kernel
theorem c110_31 : cd 110 31 = some (.sipush 0, 1) := by decide +kernel
theorem c110_32 : cd 110 32 = some (.aload 0, 1) := by decide +kernel
theorem c110_33 : cd 110 33 = some (.getfield 3090, 3) := by decide +kernel
theorem c110_36 : cd 110 36 = some (.sipush 2, 1) := by decide +kernel
theorem c110_37 : cd 110 37 = some (.iaload, 1) := by decide +kernel
theorem c110_38 : cd 110 38 = some (.sipush 1, 1) := by decide +kernel
theorem c110_39 : cd 110 39 = some (.isub, 1) := by decide +kernel
theorem c110_40 : cd 110 40 = some (.invokevirtual 114, 3) := by decide +kernel
theorem c110_43 : cd 110 43 = some (.istore 2, 1) := by decide +kernel
theorem c110_44 : cd 110 44 = some (.aload 0, 1) := by decide +kernel
theorem c110_45 : cd 110 45 = some (.sipush 2, 1) := by decide +kernel
theorem c110_46 : cd 110 46 = some (.invokevirtual 107, 3) := by decide +kernel
theorem c110_49 : cd 110 49 = some (.ifCond .ne 57, 3) := by decide +kernel
theorem c110_52 : cd 110 52 = some (.aload 0, 1) := by decide +kernel
theorem c110_53 : cd 110 53 = some (.sipush 2, 1) := by decide +kernel
theorem c110_54 : cd 110 54 = some (.invokevirtual 115, 3) := by decide +kernel
theorem c110_57 : cd 110 57 = some (.aload 0, 1) := by decide +kernel
theorem c110_58 : cd 110 58 = some (.sipush 15, 2) := by decide +kernel
theorem c110_60 : cd 110 60 = some (.invokevirtual 109, 3) := by decide +kernel
theorem c110_63 : cd 110 63 = some (.ifCond .eq 79, 3) := by decide +kernel
theorem c110_66 : cd 110 66 = some (.aload 0, 1) := by decide +kernel
theorem c110_67 : cd 110 67 = some (.getfield 3112, 3) := by decide +kernel
theorem c110_70 : cd 110 70 = some (.iload 2, 1) := by decide +kernel
theorem c110_71 : cd 110 71 = some (.if_icmp .ne 79, 3) := by decide +kernel
theorem c110_74 : cd 110 74 = some (.aload 0, 1) := by decide +kernel
theorem c110_75 : cd 110 75 = some (.sipush 3, 1) := by decide +kernel
theorem c110_76 : cd 110 76 = some (.invokevirtual 115, 3) := by decide +kernel
theorem c110_79 : cd 110 79 = some (.aload 0, 1) := by decide +kernel
theorem c110_80 : cd 110 80 = some (.sipush 0, 1) := by decide +kernel
theorem c110_81 : cd 110 81 = some (.aload 0, 1) := by decide +kernel
theorem c110_82 : cd 110 82 = some (.getfield 3090, 3) := by decide +kernel
theorem c110_85 : cd 110 85 = some (.sipush 2, 1) := by decide +kernel
theorem c110_86 : cd 110 86 = some (.iaload, 1) := by decide +kernel
theorem c110_87 : cd 110 87 = some (.sipush 1, 1) := by decide +kernel
theorem c110_88 : cd 110 88 = some (.isub, 1) := by decide +kernel
theorem c110_89 : cd 110 89 = some (.invokevirtual 114, 3) := by decide +kernel
theorem c110_92 : cd 110 92 = some (.istore 3, 1) := by decide +kernel
theorem c110_93 : cd 110 93 = some (.aload 0, 1) := by decide +kernel
theorem c110_94 : cd 110 94 = some (.sipush 3, 1) := by decide +kernel
theorem c110_95 : cd 110 95 = some (.invokevirtual 107, 3) := by decide +kernel
theorem c110_98 : cd 110 98 = some (.ifCond .eq 110, 3) := by decide +kernel
theorem c110_101 : cd 110 101 = some (.aload 0, 1) := by decide +kernel
theorem c110_102 : cd 110 102 = some (.sipush 1, 1) := by decide +kernel
theorem c110_103 : cd 110 103 = some (.sipush 3, 1) := by decide +kernel
theorem c110_104 : cd 110 104 = some (.invokevirtual 114, 3) := by decide +kernel
theorem c110_107 : cd 110 107 = some (.goto 111, 3) := by decide +kernel
theorem c110_110 : cd 110 110 = some (.sipush 1, 1) := by decide +kernel
theorem c110_111 : cd 110 111 = some (.istore 4, 2) := by decide +kernel
theorem c110_113 : cd 110 113 = some (.aload 0, 1) := by decide +kernel
theorem c110_114 : cd 110 114 = some (.sipush 4, 1) := by decide +kernel
theorem c110_115 : cd 110 115 = some (.invokevirtual 107, 3) := by decide +kernel
theorem c110_118 : cd 110 118 = some (.ifCond .eq 125, 3) := by decide +kernel
theorem c110_121 : cd 110 121 = some (.sipush 1, 1) := by decide +kernel
theorem c110_122 : cd 110 122 = some (.goto 126, 3) := by decide +kernel
theorem c110_125 : cd 110 125 = some (.sipush 0, 1) := by decide +kernel
theorem c110_126 : cd 110 126 = some (.istore 5, 2) := by decide +kernel
theorem c110_128 : cd 110 128 = some (.aload 0, 1) := by decide +kernel
theorem c110_129 : cd 110 129 = some (.getfield 3116, 3) := by decide +kernel
theorem c110_132 : cd 110 132 = some (.ifCond .eq 136, 3) := by decide +kernel
theorem c110_135 : cd 110 135 = some (.return_, 1) := by decide +kernel
theorem c110_136 : cd 110 136 = some (.aload 0, 1) := by decide +kernel
theorem c110_137 : cd 110 137 = some (.getfield 3090, 3) := by decide +kernel
theorem c110_140 : cd 110 140 = some (.sipush 6, 2) := by decide +kernel
theorem c110_142 : cd 110 142 = some (.iload 1, 1) := by decide +kernel
theorem c110_143 : cd 110 143 = some (.iadd, 1) := by decide +kernel
theorem c110_144 : cd 110 144 = some (.iload 2, 1) := by decide +kernel
theorem c110_145 : cd 110 145 = some (.iastore, 1) := by decide +kernel
theorem c110_146 : cd 110 146 = some (.aload 0, 1) := by decide +kernel
theorem c110_147 : cd 110 147 = some (.getfield 3090, 3) := by decide +kernel
theorem c110_150 : cd 110 150 = some (.sipush 64, 2) := by decide +kernel
theorem c110_152 : cd 110 152 = some (.iload 1, 1) := by decide +kernel
theorem c110_153 : cd 110 153 = some (.iadd, 1) := by decide +kernel
theorem c110_154 : cd 110 154 = some (.iload 3, 1) := by decide +kernel
theorem c110_155 : cd 110 155 = some (.iastore, 1) := by decide +kernel
theorem c110_156 : cd 110 156 = some (.aload 0, 1) := by decide +kernel
theorem c110_157 : cd 110 157 = some (.getfield 3090, 3) := by decide +kernel
theorem c110_160 : cd 110 160 = some (.sipush 80, 2) := by decide +kernel
theorem c110_162 : cd 110 162 = some (.iload 1, 1) := by decide +kernel
theorem c110_163 : cd 110 163 = some (.iadd, 1) := by decide +kernel
theorem c110_164 : cd 110 164 = some (.iload 4, 2) := by decide +kernel
theorem c110_166 : cd 110 166 = some (.iastore, 1) := by decide +kernel
theorem c110_167 : cd 110 167 = some (.aload 0, 1) := by decide +kernel
theorem c110_168 : cd 110 168 = some (.getfield 3090, 3) := by decide +kernel
theorem c110_171 : cd 110 171 = some (.sipush 96, 2) := by decide +kernel
theorem c110_173 : cd 110 173 = some (.iload 1, 1) := by decide +kernel
theorem c110_174 : cd 110 174 = some (.iadd, 1) := by decide +kernel
theorem c110_175 : cd 110 175 = some (.iload 5, 2) := by decide +kernel
theorem c110_177 : cd 110 177 = some (.iastore, 1) := by decide +kernel
theorem c110_178 : cd 110 178 = some (.aload 0, 1) := by decide +kernel
theorem c110_179 : cd 110 179 = some (.getfield 3090, 3) := by decide +kernel
theorem c110_182 : cd 110 182 = some (.sipush 22, 2) := by decide +kernel
theorem c110_184 : cd 110 184 = some (.iload 1, 1) := by decide +kernel
theorem c110_185 : cd 110 185 = some (.iadd, 1) := by decide +kernel
theorem c110_186 : cd 110 186 = some (.sipush 1, 1) := by decide +kernel
theorem c110_187 : cd 110 187 = some (.iastore, 1) := by decide +kernel
theorem c110_188 : cd 110 188 = some (.aload 0, 1) := by decide +kernel
theorem c110_189 : cd 110 189 = some (.getfield 3090, 3) := by decide +kernel
theorem c110_192 : cd 110 192 = some (.sipush 3, 1) := by decide +kernel
theorem c110_193 : cd 110 193 = some (.dup2, 1) := by decide +kernel
theorem c110_194 : cd 110 194 = some (.iaload, 1) := by decide +kernel
theorem c110_195 : cd 110 195 = some (.sipush 1, 1) := by decide +kernel
theorem c110_196 : cd 110 196 = some (.iadd, 1) := by decide +kernel
theorem c110_197 : cd 110 197 = some (.iastore, 1) := by decide +kernel
theorem c110_198 : cd 110 198 = some (.return_, 1) := by decide +kernel
theorem g110_0 {d : Nat} {x1 x2 x3 x4 x5 : Option aV} {w : aW} {Q : Option aV → aW → Prop} : T (d + 1) 110 0 [some (vr 167), x1, x2, x3, x4, x5] [] w Q = ((¬ w 171 3 = 16 → T (d + 1) 110 18 [some (vr 167), some (vi (w 171 3)), x2, x3, x4, x5] [] w Q) ∧ (¬ (¬ w 171 3 = 16) → T d 115 0 [some (vr 167), some (vi 4)] [] w (fun r w1 => T (d + 1) 110 18 [some (vr 167), some (vi (w 171 3)), x2, x3, x4, x5] (r.toList ++ []) w1 Q))) := by
  rw [T_aload_0 c110_0, T_getR 12 4 4 c110_1 rfl rfl rfl rfl, rf_167_4, T_sipush c110_4, T_iald c110_5, T_istore_1 c110_6, T_iload_1 c110_7, T_sipush c110_8, T_icmp_ne 18 c110_10 rfl, T_aload_0 c110_13, T_sipush c110_14, T_invv (es := [some (vr 167), some (vi 4)]) (st := [vi 4, vr 167]) (ks := [2, 0]) (n := 2) (c := 12) (k := 167) (as := [vi 4]) (rest := []) c110_15 (by decide +kernel) (by decide +kernel) (by decide +kernel) (by decide) rfl rfl (Nat.le_of_ble_eq_true rfl)]
  all_goals try simp only [Int.reduceLE, Int.reduceLT, Int.reduceToNat, and_self, lay_167, ld_171, true_and, Nat.reduceAdd, eq_self_iff_true]
theorem g110_18 {d : Nat} {x1 x2 x3 x4 x5 : Option aV} {w : aW} {Q : Option aV → aW → Prop} : T (d + 1) 110 18 [some (vr 167), x1, x2, x3, x4, x5] [] w Q = ((w 167 11 = 0 → T d 106 0 [some (vr 167), none] [] w (fun r w1 => T (d + 1) 110 30 [some (vr 167), x1, x2, x3, x4, x5] (r.toList ++ []) w1 Q)) ∧ (¬ (w 167 11 = 0) → Q none w)) := by
  rw [T_aload_0 c110_18, T_getI 12 11 11 c110_19 rfl rfl rfl rfl, T_if_eq 26 c110_22 rfl, T_aload_0 c110_26, T_invv (es := [some (vr 167), none]) (st := [vr 167]) (ks := [2]) (n := 2) (c := 12) (k := 167) (as := []) (rest := []) c110_27 (by decide +kernel) (by decide +kernel) (by decide +kernel) (by decide) rfl rfl (Nat.le_of_ble_eq_true rfl), T_vret c110_25 (by decide +kernel)]
  all_goals try simp only [Int.reduceToNat, lay_167, true_and, Nat.reduceAdd, eq_self_iff_true]
theorem g110_30 {d : Nat} {x1 x2 x3 x4 x5 : Option aV} {w : aW} {Q : Option aV → aW → Prop} : T (d + 1) 110 30 [some (vr 167), x1, x2, x3, x4, x5] [] w Q = T d 114 0 [some (vr 167), some (vi 0), some (vi (w32 ((w 171 2) - 1))), none] [] w (fun r w1 => T (d + 1) 110 43 [some (vr 167), x1, x2, x3, x4, x5] (r.toList ++ []) w1 Q) := by
  rw [T_aload_0 c110_30, T_sipush c110_31, T_aload_0 c110_32, T_getR 12 4 4 c110_33 rfl rfl rfl rfl, rf_167_4, T_sipush c110_36, T_iald c110_37, T_sipush c110_38, T_isub c110_39, T_invv (es := [some (vr 167), some (vi 0), some (vi (w32 ((w 171 2) - 1))), none]) (st := [vi (w32 ((w 171 2) - 1)), vi 0, vr 167]) (ks := [2, 0, 0]) (n := 4) (c := 12) (k := 167) (as := [vi 0, vi (w32 ((w 171 2) - 1))]) (rest := []) c110_40 (by decide +kernel) (by decide +kernel) (by decide +kernel) (by decide) rfl rfl (Nat.le_of_ble_eq_true rfl)]
  all_goals try simp only [Int.reduceLE, Int.reduceLT, and_self, lay_167, ld_171, true_and, Nat.reduceAdd, eq_self_iff_true]
theorem g110_43 {d : Nat} {s0 : Int} {x1 x2 x3 x4 x5 : Option aV} {w : aW} {Q : Option aV → aW → Prop} : T (d + 1) 110 43 [some (vr 167), x1, x2, x3, x4, x5] [vi s0] w Q = T d 107 0 [some (vr 167), some (vi 2)] [] w (fun r w1 => T (d + 1) 110 49 [some (vr 167), x1, some (vi s0), x3, x4, x5] (r.toList ++ []) w1 Q) := by
  rw [T_istore_2 c110_43, T_aload_0 c110_44, T_sipush c110_45, T_invv (es := [some (vr 167), some (vi 2)]) (st := [vi 2, vr 167]) (ks := [2, 0]) (n := 2) (c := 12) (k := 167) (as := [vi 2]) (rest := []) c110_46 (by decide +kernel) (by decide +kernel) (by decide +kernel) (by decide) rfl rfl (Nat.le_of_ble_eq_true rfl)]
  all_goals try simp only [lay_167, true_and, Nat.reduceAdd, eq_self_iff_true]
theorem g110_49 {d : Nat} {s0 : Int} {x1 x2 x3 x4 x5 : Option aV} {w : aW} {Q : Option aV → aW → Prop} : T (d + 1) 110 49 [some (vr 167), x1, x2, x3, x4, x5] [vi s0] w Q = ((¬ s0 = 0 → T (d + 1) 110 57 [some (vr 167), x1, x2, x3, x4, x5] [] w Q) ∧ (¬ (¬ s0 = 0) → T d 115 0 [some (vr 167), some (vi 2)] [] w (fun r w1 => T (d + 1) 110 57 [some (vr 167), x1, x2, x3, x4, x5] (r.toList ++ []) w1 Q))) := by
  rw [T_if_ne 57 c110_49 rfl, T_aload_0 c110_52, T_sipush c110_53, T_invv (es := [some (vr 167), some (vi 2)]) (st := [vi 2, vr 167]) (ks := [2, 0]) (n := 2) (c := 12) (k := 167) (as := [vi 2]) (rest := []) c110_54 (by decide +kernel) (by decide +kernel) (by decide +kernel) (by decide) rfl rfl (Nat.le_of_ble_eq_true rfl)]
  all_goals try simp only [Int.reduceToNat, lay_167, true_and, Nat.reduceAdd, eq_self_iff_true]
theorem g110_57 {d : Nat} {x1 x2 x3 x4 x5 : Option aV} {w : aW} {Q : Option aV → aW → Prop} : T (d + 1) 110 57 [some (vr 167), x1, x2, x3, x4, x5] [] w Q = T d 109 0 [some (vr 167), some (vi 15)] [] w (fun r w1 => T (d + 1) 110 63 [some (vr 167), x1, x2, x3, x4, x5] (r.toList ++ []) w1 Q) := by
  rw [T_aload_0 c110_57, T_sipush c110_58, T_invv (es := [some (vr 167), some (vi 15)]) (st := [vi 15, vr 167]) (ks := [2, 0]) (n := 2) (c := 12) (k := 167) (as := [vi 15]) (rest := []) c110_60 (by decide +kernel) (by decide +kernel) (by decide +kernel) (by decide) rfl rfl (Nat.le_of_ble_eq_true rfl)]
  all_goals try simp only [lay_167, true_and, Nat.reduceAdd, eq_self_iff_true]
theorem g110_63 {d : Nat} {a2 s0 : Int} {x1 x3 x4 x5 : Option aV} {w : aW} {Q : Option aV → aW → Prop} : T (d + 1) 110 63 [some (vr 167), x1, some (vi a2), x3, x4, x5] [vi s0] w Q = ((s0 = 0 → T (d + 1) 110 79 [some (vr 167), x1, some (vi a2), x3, x4, x5] [] w Q) ∧ (¬ (s0 = 0) → ((¬ w 167 10 = a2 → T (d + 1) 110 79 [some (vr 167), x1, some (vi a2), x3, x4, x5] [] w Q) ∧ (¬ (¬ w 167 10 = a2) → T d 115 0 [some (vr 167), some (vi 3)] [] w (fun r w1 => T (d + 1) 110 79 [some (vr 167), x1, some (vi a2), x3, x4, x5] (r.toList ++ []) w1 Q))))) := by
  rw [T_if_eq 79 c110_63 rfl, T_aload_0 c110_66, T_getI 12 10 10 c110_67 rfl rfl rfl rfl, T_iload_2 c110_70, T_icmp_ne 79 c110_71 rfl, T_aload_0 c110_74, T_sipush c110_75, T_invv (es := [some (vr 167), some (vi 3)]) (st := [vi 3, vr 167]) (ks := [2, 0]) (n := 2) (c := 12) (k := 167) (as := [vi 3]) (rest := []) c110_76 (by decide +kernel) (by decide +kernel) (by decide +kernel) (by decide) rfl rfl (Nat.le_of_ble_eq_true rfl)]
  all_goals try simp only [Int.reduceToNat, lay_167, true_and, Nat.reduceAdd, eq_self_iff_true]
theorem g110_79 {d : Nat} {x1 x2 x3 x4 x5 : Option aV} {w : aW} {Q : Option aV → aW → Prop} : T (d + 1) 110 79 [some (vr 167), x1, x2, x3, x4, x5] [] w Q = T d 114 0 [some (vr 167), some (vi 0), some (vi (w32 ((w 171 2) - 1))), none] [] w (fun r w1 => T (d + 1) 110 92 [some (vr 167), x1, x2, x3, x4, x5] (r.toList ++ []) w1 Q) := by
  rw [T_aload_0 c110_79, T_sipush c110_80, T_aload_0 c110_81, T_getR 12 4 4 c110_82 rfl rfl rfl rfl, rf_167_4, T_sipush c110_85, T_iald c110_86, T_sipush c110_87, T_isub c110_88, T_invv (es := [some (vr 167), some (vi 0), some (vi (w32 ((w 171 2) - 1))), none]) (st := [vi (w32 ((w 171 2) - 1)), vi 0, vr 167]) (ks := [2, 0, 0]) (n := 4) (c := 12) (k := 167) (as := [vi 0, vi (w32 ((w 171 2) - 1))]) (rest := []) c110_89 (by decide +kernel) (by decide +kernel) (by decide +kernel) (by decide) rfl rfl (Nat.le_of_ble_eq_true rfl)]
  all_goals try simp only [Int.reduceLE, Int.reduceLT, and_self, lay_167, ld_171, true_and, Nat.reduceAdd, eq_self_iff_true]
theorem g110_92 {d : Nat} {s0 : Int} {x1 x2 x3 x4 x5 : Option aV} {w : aW} {Q : Option aV → aW → Prop} : T (d + 1) 110 92 [some (vr 167), x1, x2, x3, x4, x5] [vi s0] w Q = T d 107 0 [some (vr 167), some (vi 3)] [] w (fun r w1 => T (d + 1) 110 98 [some (vr 167), x1, x2, some (vi s0), x4, x5] (r.toList ++ []) w1 Q) := by
  rw [T_istore_3 c110_92, T_aload_0 c110_93, T_sipush c110_94, T_invv (es := [some (vr 167), some (vi 3)]) (st := [vi 3, vr 167]) (ks := [2, 0]) (n := 2) (c := 12) (k := 167) (as := [vi 3]) (rest := []) c110_95 (by decide +kernel) (by decide +kernel) (by decide +kernel) (by decide) rfl rfl (Nat.le_of_ble_eq_true rfl)]
  all_goals try simp only [lay_167, true_and, Nat.reduceAdd, eq_self_iff_true]
theorem g110_98 {d : Nat} {s0 : Int} {x1 x2 x3 x4 x5 : Option aV} {w : aW} {Q : Option aV → aW → Prop} : T (d + 1) 110 98 [some (vr 167), x1, x2, x3, x4, x5] [vi s0] w Q = ((s0 = 0 → T (d + 1) 110 111 [some (vr 167), x1, x2, x3, x4, x5] [vi 1] w Q) ∧ (¬ (s0 = 0) → T d 114 0 [some (vr 167), some (vi 1), some (vi 3), none] [] w (fun r w1 => T (d + 1) 110 107 [some (vr 167), x1, x2, x3, x4, x5] (r.toList ++ []) w1 Q))) := by
  rw [T_if_eq 110 c110_98 rfl, T_sipush c110_110, T_aload_0 c110_101, T_sipush c110_102, T_sipush c110_103, T_invv (es := [some (vr 167), some (vi 1), some (vi 3), none]) (st := [vi 3, vi 1, vr 167]) (ks := [2, 0, 0]) (n := 4) (c := 12) (k := 167) (as := [vi 1, vi 3]) (rest := []) c110_104 (by decide +kernel) (by decide +kernel) (by decide +kernel) (by decide) rfl rfl (Nat.le_of_ble_eq_true rfl)]
  all_goals try simp only [Int.reduceToNat, lay_167, true_and, Nat.reduceAdd, eq_self_iff_true]
theorem g110_107 {d : Nat} {s0 : Int} {x0 x1 x2 x3 x4 x5 : Option aV} {w : aW} {Q : Option aV → aW → Prop} : T d 110 107 [x0, x1, x2, x3, x4, x5] [vi s0] w Q = T d 110 111 [x0, x1, x2, x3, x4, x5] [vi s0] w Q := by
  rw [T_goto 111 c110_107 rfl]
  all_goals try simp only [true_and, Nat.reduceAdd, eq_self_iff_true]
theorem g110_111 {d : Nat} {s0 : Int} {x1 x2 x3 x4 x5 : Option aV} {w : aW} {Q : Option aV → aW → Prop} : T (d + 1) 110 111 [some (vr 167), x1, x2, x3, x4, x5] [vi s0] w Q = T d 107 0 [some (vr 167), some (vi 4)] [] w (fun r w1 => T (d + 1) 110 118 [some (vr 167), x1, x2, x3, some (vi s0), x5] (r.toList ++ []) w1 Q) := by
  rw [T_istore_4 c110_111, T_aload_0 c110_113, T_sipush c110_114, T_invv (es := [some (vr 167), some (vi 4)]) (st := [vi 4, vr 167]) (ks := [2, 0]) (n := 2) (c := 12) (k := 167) (as := [vi 4]) (rest := []) c110_115 (by decide +kernel) (by decide +kernel) (by decide +kernel) (by decide) rfl rfl (Nat.le_of_ble_eq_true rfl)]
  all_goals try simp only [lay_167, true_and, Nat.reduceAdd, eq_self_iff_true]
theorem g110_118 {d : Nat} {s0 : Int} {x0 x1 x2 x3 x4 x5 : Option aV} {w : aW} {Q : Option aV → aW → Prop} : T d 110 118 [x0, x1, x2, x3, x4, x5] [vi s0] w Q = ((s0 = 0 → T d 110 126 [x0, x1, x2, x3, x4, x5] [vi 0] w Q) ∧ (¬ (s0 = 0) → T d 110 126 [x0, x1, x2, x3, x4, x5] [vi 1] w Q)) := by
  rw [T_if_eq 125 c110_118 rfl, T_sipush c110_125, T_sipush c110_121, T_goto 126 c110_122 rfl]
  all_goals try simp only [Int.reduceToNat, true_and, Nat.reduceAdd, eq_self_iff_true]
theorem g110_126 {d : Nat} {a1 a2 a3 a4 s0 : Int} {x5 : Option aV} {w : aW} {Q : Option aV → aW → Prop} : T d 110 126 [some (vr 167), some (vi a1), some (vi a2), some (vi a3), some (vi a4), x5] [vi s0] w Q = ((w 167 11 = 0 → ((0 ≤ w32 (6 + a1) ∧ w32 (6 + a1) < 1644) ∧ ((0 ≤ w32 (64 + a1) ∧ w32 (64 + a1) < 1644) ∧ ((0 ≤ w32 (80 + a1) ∧ w32 (80 + a1) < 1644) ∧ ((0 ≤ w32 (96 + a1) ∧ w32 (96 + a1) < 1644) ∧ ((0 ≤ w32 (22 + a1) ∧ w32 (22 + a1) < 1644) ∧ Q none (iup (iup (iup (iup (iup (iup w 171 (w32 (6 + a1)) a2) 171 (w32 (64 + a1)) a3) 171 (w32 (80 + a1)) a4) 171 (w32 (96 + a1)) s0) 171 (w32 (22 + a1)) 1) 171 3 (w32 (((iup (iup (iup (iup (iup w 171 (w32 (6 + a1)) a2) 171 (w32 (64 + a1)) a3) 171 (w32 (80 + a1)) a4) 171 (w32 (96 + a1)) s0) 171 (w32 (22 + a1)) 1) 171 3) + 1))))))))) ∧ (¬ (w 167 11 = 0) → Q none w)) := by
  rw [T_istore_5 c110_126, T_aload_0 c110_128, T_getI 12 11 11 c110_129 rfl rfl rfl rfl, T_if_eq 136 c110_132 rfl, T_aload_0 c110_136, T_getR 12 4 4 c110_137 rfl rfl rfl rfl, rf_167_4, T_sipush c110_140, T_iload_1 c110_142, T_iadd c110_143, T_iload_2 c110_144, T_iast c110_145, T_aload_0 c110_146, T_getR 12 4 4 c110_147 rfl rfl rfl rfl, rf_167_4, T_sipush c110_150, T_iload_1 c110_152, T_iadd c110_153, T_iload_3 c110_154, T_iast c110_155, T_aload_0 c110_156, T_getR 12 4 4 c110_157 rfl rfl rfl rfl, rf_167_4, T_sipush c110_160, T_iload_1 c110_162, T_iadd c110_163, T_iload_4 c110_164, T_iast c110_166, T_aload_0 c110_167, T_getR 12 4 4 c110_168 rfl rfl rfl rfl, rf_167_4, T_sipush c110_171, T_iload_1 c110_173, T_iadd c110_174, T_iload_5 c110_175, T_iast c110_177, T_aload_0 c110_178, T_getR 12 4 4 c110_179 rfl rfl rfl rfl, rf_167_4, T_sipush c110_182, T_iload_1 c110_184, T_iadd c110_185, T_sipush c110_186, T_iast c110_187, T_aload_0 c110_188, T_getR 12 4 4 c110_189 rfl rfl rfl rfl, rf_167_4, T_sipush c110_192, T_dup2 c110_193, T_iald c110_194, T_sipush c110_195, T_iadd c110_196, T_iast c110_197, T_vret c110_198 (by decide +kernel), T_vret c110_135 (by decide +kernel)]
  all_goals try simp only [Int.reduceLE, Int.reduceLT, Int.reduceToNat, and_self, ia0_171, lay_167, ld_171, true_and, Nat.reduceAdd, eq_self_iff_true]
/-! 111: StringHandsModel.readNeed.()V -/
theorem c111_0 : cd 111 0 = some (.aload 0, 1) := by decide +kernel
theorem c111_1 : cd 111 1 = some (.sipush 0, 1) := by decide +kernel
theorem c111_2 : cd 111 2 = some (.aload 0, 1) := by decide +kernel
theorem c111_3 : cd 111 3 = some (.getfield 3090, 3) := by decide +kernel
theorem c111_6 : cd 111 6 = some (.sipush 2, 1) := by decide +kernel
theorem c111_7 : cd 111 7 = some (.iaload, 1) := by decide +kernel
theorem c111_8 : cd 111 8 = some (.sipush 1, 1) := by decide +kernel
theorem c111_9 : cd 111 9 = some (.isub, 1) := by decide +kernel
theorem c111_10 : cd 111 10 = some (.invokevirtual 114, 3) := by decide +kernel
theorem c111_13 : cd 111 13 = some (.istore 1, 1) := by decide +kernel
theorem c111_14 : cd 111 14 = some (.aload 0, 1) := by decide +kernel
theorem c111_15 : cd 111 15 = some (.sipush 1, 1) := by decide +kernel
theorem c111_16 : cd 111 16 = some (.sipush 9, 2) := by decide +kernel
theorem c111_18 : cd 111 18 = some (.invokevirtual 114, 3) := by decide +kernel
theorem c111_21 : cd 111 21 = some (.istore 2, 1) := by decide +kernel
theorem c111_22 : cd 111 22 = some (.aload 0, 1) := by decide +kernel
theorem c111_23 : cd 111 23 = some (.getfield 3116, 3) := by decide +kernel
theorem c111_26 : cd 111 26 = some (.ifCond .ne 39, 3) := by decide +kernel
theorem c111_29 : cd 111 29 = some (.aload 0, 1) := by decide +kernel
theorem c111_30 : cd 111 30 = some (.getfield 3090, 3) := by decide +kernel
theorem c111_33 : cd 111 33 = some (.sipush 122, 2) := by decide +kernel
theorem c111_35 : cd 111 35 = some (.iload 1, 1) := by decide +kernel
theorem c111_36 : cd 111 36 = some (.iadd, 1) := by decide +kernel
theorem c111_37 : cd 111 37 = some (.iload 2, 1) := by decide +kernel
theorem c111_38 : cd 111 38 = some (.iastore, 1) := by decide +kernel
theorem c111_39 : cd 111 39 = some (.return_, 1) := by decide +kernel
theorem g111_0 {d : Nat} {x1 x2 : Option aV} {w : aW} {Q : Option aV → aW → Prop} : T (d + 1) 111 0 [some (vr 167), x1, x2] [] w Q = T d 114 0 [some (vr 167), some (vi 0), some (vi (w32 ((w 171 2) - 1))), none] [] w (fun r w1 => T (d + 1) 111 13 [some (vr 167), x1, x2] (r.toList ++ []) w1 Q) := by
  rw [T_aload_0 c111_0, T_sipush c111_1, T_aload_0 c111_2, T_getR 12 4 4 c111_3 rfl rfl rfl rfl, rf_167_4, T_sipush c111_6, T_iald c111_7, T_sipush c111_8, T_isub c111_9, T_invv (es := [some (vr 167), some (vi 0), some (vi (w32 ((w 171 2) - 1))), none]) (st := [vi (w32 ((w 171 2) - 1)), vi 0, vr 167]) (ks := [2, 0, 0]) (n := 4) (c := 12) (k := 167) (as := [vi 0, vi (w32 ((w 171 2) - 1))]) (rest := []) c111_10 (by decide +kernel) (by decide +kernel) (by decide +kernel) (by decide) rfl rfl (Nat.le_of_ble_eq_true rfl)]
  all_goals try simp only [Int.reduceLE, Int.reduceLT, and_self, lay_167, ld_171, true_and, Nat.reduceAdd, eq_self_iff_true]
theorem g111_13 {d : Nat} {s0 : Int} {x1 x2 : Option aV} {w : aW} {Q : Option aV → aW → Prop} : T (d + 1) 111 13 [some (vr 167), x1, x2] [vi s0] w Q = T d 114 0 [some (vr 167), some (vi 1), some (vi 9), none] [] w (fun r w1 => T (d + 1) 111 21 [some (vr 167), some (vi s0), x2] (r.toList ++ []) w1 Q) := by
  rw [T_istore_1 c111_13, T_aload_0 c111_14, T_sipush c111_15, T_sipush c111_16, T_invv (es := [some (vr 167), some (vi 1), some (vi 9), none]) (st := [vi 9, vi 1, vr 167]) (ks := [2, 0, 0]) (n := 4) (c := 12) (k := 167) (as := [vi 1, vi 9]) (rest := []) c111_18 (by decide +kernel) (by decide +kernel) (by decide +kernel) (by decide) rfl rfl (Nat.le_of_ble_eq_true rfl)]
  all_goals try simp only [lay_167, true_and, Nat.reduceAdd, eq_self_iff_true]
theorem g111_21 {d : Nat} {a1 s0 : Int} {x2 : Option aV} {w : aW} {Q : Option aV → aW → Prop} : T d 111 21 [some (vr 167), some (vi a1), x2] [vi s0] w Q = ((¬ w 167 11 = 0 → T d 111 39 [some (vr 167), some (vi a1), some (vi s0)] [] w Q) ∧ (¬ (¬ w 167 11 = 0) → ((0 ≤ w32 (122 + a1) ∧ w32 (122 + a1) < 1644) ∧ T d 111 39 [some (vr 167), some (vi a1), some (vi s0)] [] (iup w 171 (w32 (122 + a1)) s0) Q))) := by
  rw [T_istore_2 c111_21, T_aload_0 c111_22, T_getI 12 11 11 c111_23 rfl rfl rfl rfl, T_if_ne 39 c111_26 rfl, T_aload_0 c111_29, T_getR 12 4 4 c111_30 rfl rfl rfl rfl, rf_167_4, T_sipush c111_33, T_iload_1 c111_35, T_iadd c111_36, T_iload_2 c111_37, T_iast c111_38]
  all_goals try simp only [Int.reduceToNat, ia0_171, lay_167, true_and, Nat.reduceAdd, eq_self_iff_true]
theorem g111_39 {d : Nat} {x0 x1 x2 : Option aV} {w : aW} {Q : Option aV → aW → Prop} : T d 111 39 [x0, x1, x2] [] w Q = Q none w := by
  rw [T_vret c111_39 (by decide +kernel)]
  all_goals try simp only [true_and, Nat.reduceAdd, eq_self_iff_true]
/-! 112: StringHandsModel.readRule.()V -/
theorem c112_0 : cd 112 0 = some (.aload 0, 1) := by decide +kernel
theorem c112_1 : cd 112 1 = some (.sipush 0, 1) := by decide +kernel
theorem c112_2 : cd 112 2 = some (.aload 0, 1) := by decide +kernel
theorem c112_3 : cd 112 3 = some (.getfield 3090, 3) := by decide +kernel
theorem c112_6 : cd 112 6 = some (.sipush 2, 1) := by decide +kernel
theorem c112_7 : cd 112 7 = some (.iaload, 1) := by decide +kernel
theorem c112_8 : cd 112 8 = some (.sipush 1, 1) := by decide +kernel
theorem c112_9 : cd 112 9 = some (.isub, 1) := by decide +kernel
theorem c112_10 : cd 112 10 = some (.invokevirtual 114, 3) := by decide +kernel
theorem c112_13 : cd 112 13 = some (.istore 1, 1) := by decide +kernel
theorem c112_14 : cd 112 14 = some (.aload 0, 1) := by decide +kernel
theorem c112_15 : cd 112 15 = some (.sipush 21, 2) := by decide +kernel
theorem c112_17 : cd 112 17 = some (.invokevirtual 107, 3) := by decide +kernel
theorem c112_20 : cd 112 20 = some (.ifCond .ne 28, 3) := by decide +kernel
theorem c112_23 : cd 112 23 = some (.aload 0, 1) := by decide +kernel
theorem c112_24 : cd 112 24 = some (.sipush 2, 1) := by decide +kernel
theorem c112_25 : cd 112 25 = some (.invokevirtual 115, 3) := by decide +kernel
theorem c112_28 : cd 112 28 = some (.aload 0, 1) := by decide +kernel
theorem c112_29 : cd 112 29 = some (.getfield 3090, 3) := by decide +kernel
theorem c112_32 : cd 112 32 = some (.sipush 743, 3) := by decide +kernel
theorem c112_35 : cd 112 35 = some (.iaload, 1) := by decide +kernel
theorem c112_36 : cd 112 36 = some (.istore 2, 1) := by decide +kernel
theorem c112_37 : cd 112 37 = some (.aload 0, 1) := by decide +kernel
theorem c112_38 : cd 112 38 = some (.sipush 0, 1) := by decide +kernel
theorem c112_39 : cd 112 39 = some (.invokevirtual 228, 3) := by decide +kernel
theorem c112_42 : cd 112 42 = some (.aload 0, 1) := by decide +kernel
theorem c112_43 : cd 112 43 = some (.getfield 3116, 3) := by decide +kernel
theorem c112_46 : cd 112 46 = some (.ifCond .eq 50, 3) := by decide +kernel
theorem c112_49 : cd 112 49 = some (.return_, 1) := by decide +kernel
theorem c112_50 : cd 112 50 = some (.aload 0, 1) := by decide +kernel
theorem c112_51 : cd 112 51 = some (.getfield 3090, 3) := by decide +kernel
theorem c112_54 : cd 112 54 = some (.sipush 132, 3) := by decide +kernel
theorem c112_57 : cd 112 57 = some (.iload 1, 1) := by decide +kernel
theorem c112_58 : cd 112 58 = some (.iadd, 1) := by decide +kernel
theorem c112_59 : cd 112 59 = some (.iload 2, 1) := by decide +kernel
theorem c112_60 : cd 112 60 = some (.iastore, 1) := by decide +kernel
theorem c112_61 : cd 112 61 = some (.aload 0, 1) := by decide +kernel
theorem c112_62 : cd 112 62 = some (.getfield 3090, 3) := by decide +kernel
theorem c112_65 : cd 112 65 = some (.sipush 142, 3) := by decide +kernel
theorem c112_68 : cd 112 68 = some (.iload 1, 1) := by decide +kernel
theorem c112_69 : cd 112 69 = some (.iadd, 1) := by decide +kernel
theorem c112_70 : cd 112 70 = some (.aload 0, 1) := by decide +kernel
theorem c112_71 : cd 112 71 = some (.getfield 3090, 3) := by decide +kernel
theorem c112_74 : cd 112 74 = some (.sipush 743, 3) := by decide +kernel
theorem c112_77 : cd 112 77 = some (.iaload, 1) := by decide +kernel
theorem c112_78 : cd 112 78 = some (.iload 2, 1) := by decide +kernel
theorem c112_79 : cd 112 79 = some (.isub, 1) := by decide +kernel
theorem c112_80 : cd 112 80 = some (.iastore, 1) := by decide +kernel
theorem c112_81 : cd 112 81 = some (.return_, 1) := by decide +kernel
theorem g112_0 {d : Nat} {x1 x2 : Option aV} {w : aW} {Q : Option aV → aW → Prop} : T (d + 1) 112 0 [some (vr 167), x1, x2] [] w Q = T d 114 0 [some (vr 167), some (vi 0), some (vi (w32 ((w 171 2) - 1))), none] [] w (fun r w1 => T (d + 1) 112 13 [some (vr 167), x1, x2] (r.toList ++ []) w1 Q) := by
  rw [T_aload_0 c112_0, T_sipush c112_1, T_aload_0 c112_2, T_getR 12 4 4 c112_3 rfl rfl rfl rfl, rf_167_4, T_sipush c112_6, T_iald c112_7, T_sipush c112_8, T_isub c112_9, T_invv (es := [some (vr 167), some (vi 0), some (vi (w32 ((w 171 2) - 1))), none]) (st := [vi (w32 ((w 171 2) - 1)), vi 0, vr 167]) (ks := [2, 0, 0]) (n := 4) (c := 12) (k := 167) (as := [vi 0, vi (w32 ((w 171 2) - 1))]) (rest := []) c112_10 (by decide +kernel) (by decide +kernel) (by decide +kernel) (by decide) rfl rfl (Nat.le_of_ble_eq_true rfl)]
  all_goals try simp only [Int.reduceLE, Int.reduceLT, and_self, lay_167, ld_171, true_and, Nat.reduceAdd, eq_self_iff_true]
theorem g112_13 {d : Nat} {s0 : Int} {x1 x2 : Option aV} {w : aW} {Q : Option aV → aW → Prop} : T (d + 1) 112 13 [some (vr 167), x1, x2] [vi s0] w Q = T d 107 0 [some (vr 167), some (vi 21)] [] w (fun r w1 => T (d + 1) 112 20 [some (vr 167), some (vi s0), x2] (r.toList ++ []) w1 Q) := by
  rw [T_istore_1 c112_13, T_aload_0 c112_14, T_sipush c112_15, T_invv (es := [some (vr 167), some (vi 21)]) (st := [vi 21, vr 167]) (ks := [2, 0]) (n := 2) (c := 12) (k := 167) (as := [vi 21]) (rest := []) c112_17 (by decide +kernel) (by decide +kernel) (by decide +kernel) (by decide) rfl rfl (Nat.le_of_ble_eq_true rfl)]
  all_goals try simp only [lay_167, true_and, Nat.reduceAdd, eq_self_iff_true]
theorem g112_20 {d : Nat} {s0 : Int} {x1 x2 : Option aV} {w : aW} {Q : Option aV → aW → Prop} : T (d + 1) 112 20 [some (vr 167), x1, x2] [vi s0] w Q = ((¬ s0 = 0 → T (d + 1) 112 28 [some (vr 167), x1, x2] [] w Q) ∧ (¬ (¬ s0 = 0) → T d 115 0 [some (vr 167), some (vi 2)] [] w (fun r w1 => T (d + 1) 112 28 [some (vr 167), x1, x2] (r.toList ++ []) w1 Q))) := by
  rw [T_if_ne 28 c112_20 rfl, T_aload_0 c112_23, T_sipush c112_24, T_invv (es := [some (vr 167), some (vi 2)]) (st := [vi 2, vr 167]) (ks := [2, 0]) (n := 2) (c := 12) (k := 167) (as := [vi 2]) (rest := []) c112_25 (by decide +kernel) (by decide +kernel) (by decide +kernel) (by decide) rfl rfl (Nat.le_of_ble_eq_true rfl)]
  all_goals try simp only [Int.reduceToNat, lay_167, true_and, Nat.reduceAdd, eq_self_iff_true]
theorem g112_28 {d : Nat} {x1 x2 : Option aV} {w : aW} {Q : Option aV → aW → Prop} : T (d + 1) 112 28 [some (vr 167), x1, x2] [] w Q = T d 228 0 [some (vr 167), some (vi 0)] [] w (fun r w1 => T (d + 1) 112 42 [some (vr 167), x1, some (vi (w 171 743))] (r.toList ++ []) w1 Q) := by
  rw [T_aload_0 c112_28, T_getR 12 4 4 c112_29 rfl rfl rfl rfl, rf_167_4, T_sipush c112_32, T_iald c112_35, T_istore_2 c112_36, T_aload_0 c112_37, T_sipush c112_38, T_invv (es := [some (vr 167), some (vi 0)]) (st := [vi 0, vr 167]) (ks := [2, 0]) (n := 2) (c := 12) (k := 167) (as := [vi 0]) (rest := []) c112_39 (by decide +kernel) (by decide +kernel) (by decide +kernel) (by decide) rfl rfl (Nat.le_of_ble_eq_true rfl)]
  all_goals try simp only [Int.reduceLE, Int.reduceLT, and_self, lay_167, ld_171, true_and, Nat.reduceAdd, eq_self_iff_true]
theorem g112_42 {d : Nat} {a1 a2 : Int} {w : aW} {Q : Option aV → aW → Prop} : T d 112 42 [some (vr 167), some (vi a1), some (vi a2)] [] w Q = ((w 167 11 = 0 → ((0 ≤ w32 (132 + a1) ∧ w32 (132 + a1) < 1644) ∧ ((0 ≤ w32 (142 + a1) ∧ w32 (142 + a1) < 1644) ∧ Q none (iup (iup w 171 (w32 (132 + a1)) a2) 171 (w32 (142 + a1)) (w32 (((iup w 171 (w32 (132 + a1)) a2) 171 743) - a2)))))) ∧ (¬ (w 167 11 = 0) → Q none w)) := by
  rw [T_aload_0 c112_42, T_getI 12 11 11 c112_43 rfl rfl rfl rfl, T_if_eq 50 c112_46 rfl, T_aload_0 c112_50, T_getR 12 4 4 c112_51 rfl rfl rfl rfl, rf_167_4, T_sipush c112_54, T_iload_1 c112_57, T_iadd c112_58, T_iload_2 c112_59, T_iast c112_60, T_aload_0 c112_61, T_getR 12 4 4 c112_62 rfl rfl rfl rfl, rf_167_4, T_sipush c112_65, T_iload_1 c112_68, T_iadd c112_69, T_aload_0 c112_70, T_getR 12 4 4 c112_71 rfl rfl rfl rfl, rf_167_4, T_sipush c112_74, T_iald c112_77, T_iload_2 c112_78, T_isub c112_79, T_iast c112_80, T_vret c112_81 (by decide +kernel), T_vret c112_49 (by decide +kernel)]
  all_goals try simp only [Int.reduceLE, Int.reduceLT, Int.reduceToNat, and_self, ia0_171, lay_167, ld_171, true_and, Nat.reduceAdd, eq_self_iff_true]
/-! 113: StringHandsModel.readUp.()V -/
theorem c113_0 : cd 113 0 = some (.aload 0, 1) := by decide +kernel
theorem c113_1 : cd 113 1 = some (.sipush 0, 1) := by decide +kernel
theorem c113_2 : cd 113 2 = some (.aload 0, 1) := by decide +kernel
theorem c113_3 : cd 113 3 = some (.getfield 3090, 3) := by decide +kernel
theorem c113_6 : cd 113 6 = some (.sipush 2, 1) := by decide +kernel
theorem c113_7 : cd 113 7 = some (.iaload, 1) := by decide +kernel
theorem c113_8 : cd 113 8 = some (.sipush 1, 1) := by decide +kernel
theorem c113_9 : cd 113 9 = some (.isub, 1) := by decide +kernel
theorem c113_10 : cd 113 10 = some (.invokevirtual 114, 3) := by decide +kernel
theorem c113_13 : cd 113 13 = some (.istore 1, 1) := by decide +kernel
theorem c113_14 : cd 113 14 = some (.aload 0, 1) := by decide +kernel
theorem c113_15 : cd 113 15 = some (.getfield 3116, 3) := by decide +kernel
theorem c113_18 : cd 113 18 = some (.ifCond .ne 33, 3) := by decide +kernel
theorem c113_21 : cd 113 21 = some (.aload 0, 1) := by decide +kernel
theorem c113_22 : cd 113 22 = some (.getfield 3090, 3) := by decide +kernel
theorem c113_25 : cd 113 25 = some (.sipush 5, 1) := by decide +kernel
theorem c113_26 : cd 113 26 = some (.dup2, 1) := by decide +kernel
theorem c113_27 : cd 113 27 = some (.iaload, 1) := by decide +kernel
theorem c113_28 : cd 113 28 = some (.sipush 1, 1) := by decide +kernel
theorem c113_29 : cd 113 29 = some (.iload 1, 1) := by decide +kernel
theorem c113_30 : cd 113 30 = some (.ishl, 1) := by decide +kernel
theorem c113_31 : cd 113 31 = some (.ior, 1) := by decide +kernel
theorem c113_32 : cd 113 32 = some (.iastore, 1) := by decide +kernel
theorem c113_33 : cd 113 33 = some (.return_, 1) := by decide +kernel
theorem g113_0 {d : Nat} {x1 : Option aV} {w : aW} {Q : Option aV → aW → Prop} : T (d + 1) 113 0 [some (vr 167), x1] [] w Q = T d 114 0 [some (vr 167), some (vi 0), some (vi (w32 ((w 171 2) - 1))), none] [] w (fun r w1 => T (d + 1) 113 13 [some (vr 167), x1] (r.toList ++ []) w1 Q) := by
  rw [T_aload_0 c113_0, T_sipush c113_1, T_aload_0 c113_2, T_getR 12 4 4 c113_3 rfl rfl rfl rfl, rf_167_4, T_sipush c113_6, T_iald c113_7, T_sipush c113_8, T_isub c113_9, T_invv (es := [some (vr 167), some (vi 0), some (vi (w32 ((w 171 2) - 1))), none]) (st := [vi (w32 ((w 171 2) - 1)), vi 0, vr 167]) (ks := [2, 0, 0]) (n := 4) (c := 12) (k := 167) (as := [vi 0, vi (w32 ((w 171 2) - 1))]) (rest := []) c113_10 (by decide +kernel) (by decide +kernel) (by decide +kernel) (by decide) rfl rfl (Nat.le_of_ble_eq_true rfl)]
  all_goals try simp only [Int.reduceLE, Int.reduceLT, and_self, lay_167, ld_171, true_and, Nat.reduceAdd, eq_self_iff_true]
theorem g113_13 {d : Nat} {s0 : Int} {x1 : Option aV} {w : aW} {Q : Option aV → aW → Prop} : T d 113 13 [some (vr 167), x1] [vi s0] w Q = ((¬ w 167 11 = 0 → T d 113 33 [some (vr 167), some (vi s0)] [] w Q) ∧ (¬ (¬ w 167 11 = 0) → T d 113 33 [some (vr 167), some (vi s0)] [] (iup w 171 5 (jor (w 171 5) (jshl 1 s0))) Q)) := by
  rw [T_istore_1 c113_13, T_aload_0 c113_14, T_getI 12 11 11 c113_15 rfl rfl rfl rfl, T_if_ne 33 c113_18 rfl, T_aload_0 c113_21, T_getR 12 4 4 c113_22 rfl rfl rfl rfl, rf_167_4, T_sipush c113_25, T_dup2 c113_26, T_iald c113_27, T_sipush c113_28, T_iload_1 c113_29, T_ishl c113_30, T_ior c113_31, T_iast c113_32]
  all_goals try simp only [Int.reduceLE, Int.reduceLT, Int.reduceToNat, and_self, ia0_171, lay_167, ld_171, true_and, Nat.reduceAdd, eq_self_iff_true]
theorem g113_33 {d : Nat} {x0 x1 : Option aV} {w : aW} {Q : Option aV → aW → Prop} : T d 113 33 [x0, x1] [] w Q = Q none w := by
  rw [T_vret c113_33 (by decide +kernel)]
  all_goals try simp only [true_and, Nat.reduceAdd, eq_self_iff_true]
/-! 114: StringHandsModel.takes.(II)I -/
theorem c114_0 : cd 114 0 = some (.aload 0, 1) := by decide +kernel
theorem c114_1 : cd 114 1 = some (.sipush 15, 2) := by decide +kernel
theorem c114_3 : cd 114 3 = some (.invokevirtual 109, 3) := by decide +kernel
theorem c114_6 : cd 114 6 = some (.ifCond .ne 17, 3) := by decide +kernel
theorem c114_9 : cd 114 9 = some (.aload 0, 1) := by decide +kernel
theorem c114_10 : cd 114 10 = some (.sipush 2, 1) := by decide +kernel
theorem c114_11 : cd 114 11 = some (.invokevirtual 115, 3) := by decide +kernel
theorem c114_14 : cd 114 14 = some (.goto 37, 3) := by decide +kernel
theorem c114_17 : cd 114 17 = some (.aload 0, 1) := by decide +kernel
theorem c114_18 : cd 114 18 = some (.getfield 3112, 3) := by decide +kernel
theorem c114_21 : cd 114 21 = some (.i2l, 1) := by decide +kernel
theorem c114_22 : cd 114 22 = some (.iload 1, 1) := by decide +kernel
theorem c114_23 : cd 114 23 = some (.i2l, 1) := by decide +kernel
theorem c114_24 : cd 114 24 = some (.iload 2, 1) := by decide +kernel
theorem c114_25 : cd 114 25 = some (.i2l, 1) := by decide +kernel
theorem c114_26 : cd 114 26 = some (.invokestatic 105, 3) := by decide +kernel
theorem c114_29 : cd 114 29 = some (.ifCond .ne 37, 3) := by decide +kernel
theorem c114_32 : cd 114 32 = some (.aload 0, 1) := by decide +kernel
theorem c114_33 : cd 114 33 = some (.sipush 3, 1) := by decide +kernel
theorem c114_34 : cd 114 34 = some (.invokevirtual 115, 3) := by decide +kernel
theorem c114_37 : cd 114 37 = some (.aload 0, 1) := by decide +kernel
theorem c114_38 : cd 114 38 = some (.getfield 3112, 3) := by decide +kernel
theorem c114_41 : cd 114 41 = some (.istore 3, 1) := by decide +kernel
theorem c114_42 : cd 114 42 = some (.aload 0, 1) := by decide +kernel
theorem c114_43 : cd 114 43 = some (.getfield 3116, 3) := by decide +kernel
theorem c114_46 : cd 114 46 = some (.ifCond .ne 53, 3) := by decide +kernel
theorem c114_49 : cd 114 49 = some (.aload 0, 1) := by decide +kernel
theorem c114_50 : cd 114 50 = some (.invokevirtual 106, 3) := by decide +kernel
theorem c114_53 : cd 114 53 = some (.iload 3, 1) := by decide +kernel
theorem c114_54 : cd 114 54 = some (.ireturn, 1) := by decide +kernel
theorem g114_0 {d : Nat} {x1 x2 x3 : Option aV} {w : aW} {Q : Option aV → aW → Prop} : T (d + 1) 114 0 [some (vr 167), x1, x2, x3] [] w Q = T d 109 0 [some (vr 167), some (vi 15)] [] w (fun r w1 => T (d + 1) 114 6 [some (vr 167), x1, x2, x3] (r.toList ++ []) w1 Q) := by
  rw [T_aload_0 c114_0, T_sipush c114_1, T_invv (es := [some (vr 167), some (vi 15)]) (st := [vi 15, vr 167]) (ks := [2, 0]) (n := 2) (c := 12) (k := 167) (as := [vi 15]) (rest := []) c114_3 (by decide +kernel) (by decide +kernel) (by decide +kernel) (by decide) rfl rfl (Nat.le_of_ble_eq_true rfl)]
  all_goals try simp only [lay_167, true_and, Nat.reduceAdd, eq_self_iff_true]
theorem g114_6 {d : Nat} {a1 a2 s0 : Int} {x3 : Option aV} {w : aW} {Q : Option aV → aW → Prop} : T (d + 1) 114 6 [some (vr 167), some (vi a1), some (vi a2), x3] [vi s0] w Q = ((¬ s0 = 0 → T d 105 0 [some (vl (w 167 10)), none, some (vl a1), none, some (vl a2), none] [] w (fun r w1 => T (d + 1) 114 29 [some (vr 167), some (vi a1), some (vi a2), x3] (r.toList ++ []) w1 Q)) ∧ (¬ (¬ s0 = 0) → T d 115 0 [some (vr 167), some (vi 2)] [] w (fun r w1 => T (d + 1) 114 14 [some (vr 167), some (vi a1), some (vi a2), x3] (r.toList ++ []) w1 Q))) := by
  rw [T_if_ne 17 c114_6 rfl, T_aload_0 c114_17, T_getI 12 10 10 c114_18 rfl rfl rfl rfl, T_i2l c114_21, T_iload_1 c114_22, T_i2l c114_23, T_iload_2 c114_24, T_i2l c114_25, T_inv (es := [some (vl (w 167 10)), none, some (vl a1), none, some (vl a2), none]) (st := [vl a2, vl a1, vl (w 167 10)]) (ks := [1, 1, 1]) (n := 6) (as := [vl (w 167 10), vl a1, vl a2]) (rest := []) c114_26 (by decide +kernel) (by decide +kernel) rfl rfl (Nat.le_of_ble_eq_true rfl), T_aload_0 c114_9, T_sipush c114_10, T_invv (es := [some (vr 167), some (vi 2)]) (st := [vi 2, vr 167]) (ks := [2, 0]) (n := 2) (c := 12) (k := 167) (as := [vi 2]) (rest := []) c114_11 (by decide +kernel) (by decide +kernel) (by decide +kernel) (by decide) rfl rfl (Nat.le_of_ble_eq_true rfl)]
  all_goals try simp only [Int.reduceToNat, lay_167, true_and, Nat.reduceAdd, eq_self_iff_true]
theorem g114_14 {d : Nat} {x0 x1 x2 x3 : Option aV} {w : aW} {Q : Option aV → aW → Prop} : T d 114 14 [x0, x1, x2, x3] [] w Q = T d 114 37 [x0, x1, x2, x3] [] w Q := by
  rw [T_goto 37 c114_14 rfl]
  all_goals try simp only [true_and, Nat.reduceAdd, eq_self_iff_true]
theorem g114_29 {d : Nat} {s0 : Int} {x1 x2 x3 : Option aV} {w : aW} {Q : Option aV → aW → Prop} : T (d + 1) 114 29 [some (vr 167), x1, x2, x3] [vi s0] w Q = ((¬ s0 = 0 → T (d + 1) 114 37 [some (vr 167), x1, x2, x3] [] w Q) ∧ (¬ (¬ s0 = 0) → T d 115 0 [some (vr 167), some (vi 3)] [] w (fun r w1 => T (d + 1) 114 37 [some (vr 167), x1, x2, x3] (r.toList ++ []) w1 Q))) := by
  rw [T_if_ne 37 c114_29 rfl, T_aload_0 c114_32, T_sipush c114_33, T_invv (es := [some (vr 167), some (vi 3)]) (st := [vi 3, vr 167]) (ks := [2, 0]) (n := 2) (c := 12) (k := 167) (as := [vi 3]) (rest := []) c114_34 (by decide +kernel) (by decide +kernel) (by decide +kernel) (by decide) rfl rfl (Nat.le_of_ble_eq_true rfl)]
  all_goals try simp only [Int.reduceToNat, lay_167, true_and, Nat.reduceAdd, eq_self_iff_true]
theorem g114_37 {d : Nat} {x1 x2 x3 : Option aV} {w : aW} {Q : Option aV → aW → Prop} : T (d + 1) 114 37 [some (vr 167), x1, x2, x3] [] w Q = ((¬ w 167 11 = 0 → T (d + 1) 114 53 [some (vr 167), x1, x2, some (vi (w 167 10))] [] w Q) ∧ (¬ (¬ w 167 11 = 0) → T d 106 0 [some (vr 167), none] [] w (fun r w1 => T (d + 1) 114 53 [some (vr 167), x1, x2, some (vi (w 167 10))] (r.toList ++ []) w1 Q))) := by
  rw [T_aload_0 c114_37, T_getI 12 10 10 c114_38 rfl rfl rfl rfl, T_istore_3 c114_41, T_aload_0 c114_42, T_getI 12 11 11 c114_43 rfl rfl rfl rfl, T_if_ne 53 c114_46 rfl, T_aload_0 c114_49, T_invv (es := [some (vr 167), none]) (st := [vr 167]) (ks := [2]) (n := 2) (c := 12) (k := 167) (as := []) (rest := []) c114_50 (by decide +kernel) (by decide +kernel) (by decide +kernel) (by decide) rfl rfl (Nat.le_of_ble_eq_true rfl)]
  all_goals try simp only [Int.reduceToNat, lay_167, true_and, Nat.reduceAdd, eq_self_iff_true]
theorem g114_53 {d : Nat} {a3 : Int} {x0 x1 x2 : Option aV} {w : aW} {Q : Option aV → aW → Prop} : T d 114 53 [x0, x1, x2, some (vi a3)] [] w Q = Q (some (vi a3)) w := by
  rw [T_iload_3 c114_53, T_ireti c114_54 (by decide +kernel)]
  all_goals try simp only [true_and, Nat.reduceAdd, eq_self_iff_true]
/-! 115: StringHandsModel.fails.(I)V -/
theorem c115_0 : cd 115 0 = some (.aload 0, 1) := by decide +kernel
theorem c115_1 : cd 115 1 = some (.getfield 3116, 3) := by decide +kernel
theorem c115_4 : cd 115 4 = some (.ifCond .eq 8, 3) := by decide +kernel
theorem c115_7 : cd 115 7 = some (.return_, 1) := by decide +kernel
theorem c115_8 : cd 115 8 = some (.aload 0, 1) := by decide +kernel
theorem c115_9 : cd 115 9 = some (.aload 0, 1) := by decide +kernel
theorem c115_10 : cd 115 10 = some (.getfield 3108, 3) := by decide +kernel
theorem c115_13 : cd 115 13 = some (.sipush 17, 2) := by decide +kernel
theorem c115_15 : cd 115 15 = some (.if_icmp .ne 22, 3) := by decide +kernel
theorem c115_18 : cd 115 18 = some (.sipush 1, 1) := by decide +kernel
theorem c115_19 : cd 115 19 = some (.goto 23, 3) := by decide +kernel
theorem c115_22 : cd 115 22 = some (.iload 1, 1) := by decide +kernel
theorem c115_23 : cd 115 23 = some (.putfield 3116, 3) := by decide +kernel
theorem c115_26 : cd 115 26 = some (.aload 0, 1) := by decide +kernel
theorem c115_27 : cd 115 27 = some (.aload 0, 1) := by decide +kernel
theorem c115_28 : cd 115 28 = some (.getfield 3096, 3) := by decide +kernel
theorem c115_31 : cd 115 31 = some (.putfield 3120, 3) := by decide +kernel
theorem c115_34 : cd 115 34 = some (.return_, 1) := by decide +kernel
theorem g115_0 {d : Nat} {a1 : Int} {w : aW} {Q : Option aV → aW → Prop} : T d 115 0 [some (vr 167), some (vi a1)] [] w Q = ((w 167 11 = 0 → ((¬ w 167 9 = 17 → T d 115 23 [some (vr 167), some (vi a1)] [vi a1, vr 167] w Q) ∧ (¬ (¬ w 167 9 = 17) → T d 115 23 [some (vr 167), some (vi a1)] [vi 1, vr 167] w Q))) ∧ (¬ (w 167 11 = 0) → Q none w)) := by
  rw [T_aload_0 c115_0, T_getI 12 11 11 c115_1 rfl rfl rfl rfl, T_if_eq 8 c115_4 rfl, T_aload_0 c115_8, T_aload_0 c115_9, T_getI 12 9 9 c115_10 rfl rfl rfl rfl, T_sipush c115_13, T_icmp_ne 22 c115_15 rfl, T_iload_1 c115_22, T_sipush c115_18, T_goto 23 c115_19 rfl, T_vret c115_7 (by decide +kernel)]
  all_goals try simp only [Int.reduceToNat, lay_167, true_and, Nat.reduceAdd, eq_self_iff_true]
theorem g115_23 {d : Nat} {s1 : Int} {s0 : Nat} {x1 : Option aV} {w : aW} {Q : Option aV → aW → Prop} : T d 115 23 [some (vr 167), x1] [vi s1, vr s0] w Q = ((lay s0 = (12, 0)) ∧ Q none (iup (iup w s0 11 s1) 167 12 ((iup w s0 11 s1) 167 6))) := by
  rw [T_putI 12 11 11 c115_23 rfl rfl rfl rfl, T_aload_0 c115_26, T_aload_0 c115_27, T_getI 12 6 6 c115_28 rfl rfl rfl rfl, T_putI 12 12 12 c115_31 rfl rfl rfl rfl, T_vret c115_34 (by decide +kernel)]
  all_goals try simp only [lay_167, true_and, Nat.reduceAdd, eq_self_iff_true]
/-! 116: StringHands.hasLimb.(I)Z -/
theorem c116_0 : cd 116 0 = some (.iload 1, 1) := by decide +kernel
theorem c116_1 : cd 116 1 = some (.ifCond .lt 19, 3) := by decide +kernel
theorem c116_4 : cd 116 4 = some (.iload 1, 1) := by decide +kernel
theorem c116_5 : cd 116 5 = some (.aload 0, 1) := by decide +kernel
theorem c116_6 : cd 116 6 = some (.getfield 2850, 3) := by decide +kernel
theorem c116_9 : cd 116 9 = some (.getfield 2052, 3) := by decide +kernel
theorem c116_12 : cd 116 12 = some (.if_icmp .ge 19, 3) := by decide +kernel
theorem c116_15 : cd 116 15 = some (.sipush 1, 1) := by decide +kernel
theorem c116_16 : cd 116 16 = some (.goto 20, 3) := by decide +kernel
theorem c116_19 : cd 116 19 = some (.sipush 0, 1) := by decide +kernel
theorem c116_20 : cd 116 20 = some (.ireturn, 1) := by decide +kernel
theorem g116_0 {d : Nat} {a1 : Int} {w : aW} {Q : Option aV → aW → Prop} : T d 116 0 [some (vr 0), some (vi a1)] [] w Q = ((a1 < 0 → T d 116 19 [some (vr 0), some (vi a1)] [] w Q) ∧ (¬ (a1 < 0) → ((w 69 1 ≤ a1 → T d 116 19 [some (vr 0), some (vi a1)] [] w Q) ∧ (¬ (w 69 1 ≤ a1) → T d 116 20 [some (vr 0), some (vi a1)] [vi 1] w Q)))) := by
  rw [T_iload_1 c116_0, T_if_lt 19 c116_1 rfl, T_iload_1 c116_4, T_aload_0 c116_5, T_getR 11 8 8 c116_6 rfl rfl rfl rfl, rf_0_8, T_getI 8 1 1 c116_9 rfl rfl rfl rfl, T_icmp_ge 19 c116_12 rfl, T_sipush c116_15, T_goto 20 c116_16 rfl]
  all_goals try simp only [Int.reduceToNat, lay_0, lay_69, true_and, Nat.reduceAdd, eq_self_iff_true]
theorem g116_19 {d : Nat} {x0 x1 : Option aV} {w : aW} {Q : Option aV → aW → Prop} : T d 116 19 [x0, x1] [] w Q = T d 116 20 [x0, x1] [vi 0] w Q := by
  rw [T_sipush c116_19]
  all_goals try simp only [true_and, Nat.reduceAdd, eq_self_iff_true]
theorem g116_20 {d : Nat} {s0 : Int} {x0 x1 : Option aV} {w : aW} {Q : Option aV → aW → Prop} : T d 116 20 [x0, x1] [vi s0] w Q = ((s0 = 0 ∨ s0 = 1) ∧ Q (some (vi s0)) w) := by
  rw [T_iretz c116_20 (by decide +kernel)]
  all_goals try simp only [true_and, Nat.reduceAdd, eq_self_iff_true]
/-! 117: StringHands.bitAt.(II)I -/
theorem c117_0 : cd 117 0 = some (.iload 0, 1) := by decide +kernel
theorem c117_1 : cd 117 1 = some (.iload 1, 1) := by decide +kernel
theorem c117_2 : cd 117 2 = some (.ishr, 1) := by decide +kernel
theorem c117_3 : cd 117 3 = some (.sipush 1, 1) := by decide +kernel
theorem c117_4 : cd 117 4 = some (.iand, 1) := by decide +kernel
theorem c117_5 : cd 117 5 = some (.ireturn, 1) := by decide +kernel
theorem g117_0 {d : Nat} {a0 a1 : Int} {w : aW} {Q : Option aV → aW → Prop} : T d 117 0 [some (vi a0), some (vi a1)] [] w Q = Q (some (vi (jand (jshr a0 a1) 1))) w := by
  rw [T_iload_0 c117_0, T_iload_1 c117_1, T_ishr c117_2, T_sipush c117_3, T_iand c117_4, T_ireti c117_5 (by decide +kernel)]
  all_goals try simp only [true_and, Nat.reduceAdd, eq_self_iff_true]
/-! 118: StringHands.wholeAt.([II)I -/
theorem c118_0 : cd 118 0 = some (.sipush 0, 1) := by decide +kernel
theorem c118_1 : cd 118 1 = some (.istore 3, 1) := by decide +kernel
theorem c118_2 : cd 118 2 = some (.sipush 0, 1) := by decide +kernel
theorem c118_3 : cd 118 3 = some (.istore 4, 2) := by decide +kernel
theorem c118_5 : cd 118 5 = some (.iload 4, 2) := by decide +kernel
theorem c118_7 : cd 118 7 = some (.aload 0, 1) := by decide +kernel
theorem c118_8 : cd 118 8 = some (.getfield 2850, 3) := by decide +kernel
theorem c118_11 : cd 118 11 = some (.getfield 2056, 3) := by decide +kernel
theorem c118_14 : cd 118 14 = some (.if_icmp .ge 50, 3) := by decide +kernel
theorem c118_17 : cd 118 17 = some (.aload 0, 1) := by decide +kernel
theorem c118_18 : cd 118 18 = some (.getfield 2854, 3) := by decide +kernel
theorem c118_21 : cd 118 21 = some (.getfield 1540, 3) := by decide +kernel
theorem c118_24 : cd 118 24 = some (.iload 4, 2) := by decide +kernel
theorem c118_26 : cd 118 26 = some (.invokestatic 117, 3) := by decide +kernel
theorem c118_29 : cd 118 29 = some (.sipush 1, 1) := by decide +kernel
theorem c118_30 : cd 118 30 = some (.if_icmp .ne 44, 3) := by decide +kernel
theorem c118_33 : cd 118 33 = some (.aload 1, 1) := by decide +kernel
theorem c118_34 : cd 118 34 = some (.iload 4, 2) := by decide +kernel
theorem c118_36 : cd 118 36 = some (.iaload, 1) := by decide +kernel
theorem c118_37 : cd 118 37 = some (.iload 2, 1) := by decide +kernel
theorem c118_38 : cd 118 38 = some (.if_icmp .ne 44, 3) := by decide +kernel
theorem c118_41 : cd 118 41 = some (.iinc 3 1, 3) := by decide +kernel
theorem c118_44 : cd 118 44 = some (.iinc 4 1, 3) := by decide +kernel
theorem c118_47 : cd 118 47 = some (.goto 5, 3) := by decide +kernel
theorem c118_50 : cd 118 50 = some (.iload 3, 1) := by decide +kernel
theorem c118_51 : cd 118 51 = some (.ireturn, 1) := by decide +kernel
theorem g118_0 {d : Nat} {x0 x1 x2 x3 x4 : Option aV} {w : aW} {Q : Option aV → aW → Prop} : T d 118 0 [x0, x1, x2, x3, x4] [] w Q = T d 118 5 [x0, x1, x2, some (vi 0), some (vi 0)] [] w Q := by
  rw [T_sipush c118_0, T_istore_3 c118_1, T_sipush c118_2, T_istore_4 c118_3]
  all_goals try simp only [true_and, Nat.reduceAdd, eq_self_iff_true]
theorem g118_5 {d : Nat} {a3 a4 : Int} {x1 x2 : Option aV} {w : aW} {Q : Option aV → aW → Prop} : T (d + 1) 118 5 [some (vr 0), x1, x2, some (vi a3), some (vi a4)] [] w Q = ((w 69 2 ≤ a4 → Q (some (vi a3)) w) ∧ (¬ (w 69 2 ≤ a4) → T d 117 0 [some (vi (w 79 1)), some (vi a4)] [] w (fun r w1 => T (d + 1) 118 29 [some (vr 0), x1, x2, some (vi a3), some (vi a4)] (r.toList ++ []) w1 Q))) := by
  rw [T_iload_4 c118_5, T_aload_0 c118_7, T_getR 11 8 8 c118_8 rfl rfl rfl rfl, rf_0_8, T_getI 8 2 2 c118_11 rfl rfl rfl rfl, T_icmp_ge 50 c118_14 rfl, T_iload_3 c118_50, T_ireti c118_51 (by decide +kernel), T_aload_0 c118_17, T_getR 11 9 9 c118_18 rfl rfl rfl rfl, rf_0_9, T_getI 6 1 1 c118_21 rfl rfl rfl rfl, T_iload_4 c118_24, T_inv (es := [some (vi (w 79 1)), some (vi a4)]) (st := [vi a4, vi (w 79 1)]) (ks := [0, 0]) (n := 2) (as := [vi (w 79 1), vi a4]) (rest := []) c118_26 (by decide +kernel) (by decide +kernel) rfl rfl (Nat.le_of_ble_eq_true rfl)]
  all_goals try simp only [Int.reduceToNat, lay_0, lay_69, lay_79, true_and, Nat.reduceAdd, eq_self_iff_true]
theorem g118_29 {d : Nat} {a2 a3 a4 s0 : Int} {r1 : Nat} {x0 : Option aV} {w : aW} {Q : Option aV → aW → Prop} : T d 118 29 [x0, some (vr r1), some (vi a2), some (vi a3), some (vi a4)] [vi s0] w Q = ((¬ s0 = 1 → T d 118 44 [x0, some (vr r1), some (vi a2), some (vi a3), some (vi a4)] [] w Q) ∧ (¬ (¬ s0 = 1) → (ldok r1 a4 w ∧ ((¬ w r1 a4 = a2 → T d 118 44 [x0, some (vr r1), some (vi a2), some (vi a3), some (vi a4)] [] w Q) ∧ (¬ (¬ w r1 a4 = a2) → T d 118 44 [x0, some (vr r1), some (vi a2), some (vi (w32 (a3 + 1))), some (vi a4)] [] w Q))))) := by
  rw [T_sipush c118_29, T_icmp_ne 44 c118_30 rfl, T_aload_1 c118_33, T_iload_4 c118_34, T_iald c118_36, T_iload_2 c118_37, T_icmp_ne 44 c118_38 rfl, T_iinc_3 c118_41]
  all_goals try simp only [Int.reduceToNat, true_and, Nat.reduceAdd, eq_self_iff_true]
theorem g118_44 {d : Nat} {a4 : Int} {x0 x1 x2 x3 : Option aV} {w : aW} {Q : Option aV → aW → Prop} : T d 118 44 [x0, x1, x2, x3, some (vi a4)] [] w Q = T d 118 5 [x0, x1, x2, x3, some (vi (w32 (a4 + 1)))] [] w Q := by
  rw [T_iinc_4 c118_44, T_goto 5 c118_47 rfl]
  all_goals try simp only [true_and, Nat.reduceAdd, eq_self_iff_true]
/-! 119: StringHands$Mover.pullAll.(LStringHands$Troupe;LStringHands$Stage;I)I -/
theorem c119_0 : cd 119 0 = some (.aload 0, 1) := by decide +kernel
theorem c119_1 : cd 119 1 = some (.getfield 514, 3) := by decide +kernel
theorem c119_4 : cd 119 4 = some (.sipush 0, 1) := by decide +kernel
theorem c119_5 : cd 119 5 = some (.invokestatic 221, 3) := by decide +kernel
theorem c119_8 : cd 119 8 = some (.sipush 0, 1) := by decide +kernel
theorem c119_9 : cd 119 9 = some (.istore 4, 2) := by decide +kernel
theorem c119_11 : cd 119 11 = some (.sipush 0, 1) := by decide +kernel
theorem c119_12 : cd 119 12 = some (.istore 5, 2) := by decide +kernel
theorem c119_14 : cd 119 14 = some (.iload 5, 2) := by decide +kernel
theorem c119_16 : cd 119 16 = some (.aload 1, 1) := by decide +kernel
theorem c119_17 : cd 119 17 = some (.getfield 2056, 3) := by decide +kernel
theorem c119_20 : cd 119 20 = some (.if_icmp .ge 100, 3) := by decide +kernel
theorem c119_23 : cd 119 23 = some (.aload 2, 1) := by decide +kernel
theorem c119_24 : cd 119 24 = some (.getfield 1540, 3) := by decide +kernel
theorem c119_27 : cd 119 27 = some (.iload 5, 2) := by decide +kernel
theorem c119_29 : cd 119 29 = some (.invokestatic 117, 3) := by decide +kernel
theorem c119_32 : cd 119 32 = some (.sipush 1, 1) := by decide +kernel
theorem c119_33 : cd 119 33 = some (.if_icmp .ne 94, 3) := by decide +kernel
theorem c119_36 : cd 119 36 = some (.aload 1, 1) := by decide +kernel
theorem c119_37 : cd 119 37 = some (.getfield 2086, 3) := by decide +kernel
theorem c119_40 : cd 119 40 = some (.iload 5, 2) := by decide +kernel
theorem c119_42 : cd 119 42 = some (.iaload, 1) := by decide +kernel
theorem c119_43 : cd 119 43 = some (.istore 6, 2) := by decide +kernel
theorem c119_45 : cd 119 45 = some (.iload 4, 2) := by decide +kernel
theorem c119_47 : cd 119 47 = some (.sipush 1, 1) := by decide +kernel
theorem c119_48 : cd 119 48 = some (.iload 6, 2) := by decide +kernel
theorem c119_50 : cd 119 50 = some (.ishl, 1) := by decide +kernel
theorem c119_51 : cd 119 51 = some (.ior, 1) := by decide +kernel
theorem c119_52 : cd 119 52 = some (.istore 4, 2) := by decide +kernel
theorem c119_54 : cd 119 54 = some (.iload 3, 1) := by decide +kernel
theorem c119_55 : cd 119 55 = some (.aload 2, 1) := by decide +kernel
theorem c119_56 : cd 119 56 = some (.getfield 1546, 3) := by decide +kernel
theorem c119_59 : cd 119 59 = some (.iload 5, 2) := by decide +kernel
theorem c119_61 : cd 119 61 = some (.iaload, 1) := by decide +kernel
theorem c119_62 : cd 119 62 = some (.invokestatic 117, 3) := by decide +kernel
theorem c119_65 : cd 119 65 = some (.aload 1, 1) := by decide +kernel
theorem c119_66 : cd 119 66 = some (.getfield 2092, 3) := by decide +kernel
theorem c119_69 : cd 119 69 = some (.iload 5, 2) := by decide +kernel
theorem c119_71 : cd 119 71 = some (.invokestatic 117, 3) := by decide +kernel
theorem c119_74 : cd 119 74 = some (.if_icmp .eq 94, 3) := by decide +kernel
theorem c119_77 : cd 119 77 = some (.aload 0, 1) := by decide +kernel
theorem c119_78 : cd 119 78 = some (.getfield 514, 3) := by decide +kernel
theorem c119_81 : cd 119 81 = some (.iload 6, 2) := by decide +kernel
theorem c119_83 : cd 119 83 = some (.dup2, 1) := by decide +kernel
theorem c119_84 : cd 119 84 = some (.iaload, 1) := by decide +kernel
theorem c119_85 : cd 119 85 = some (.aload 1, 1) := by decide +kernel
theorem c119_86 : cd 119 86 = some (.getfield 2090, 3) := by decide +kernel
theorem c119_89 : cd 119 89 = some (.iload 5, 2) := by decide +kernel
theorem c119_91 : cd 119 91 = some (.iaload, 1) := by decide +kernel
theorem c119_92 : cd 119 92 = some (.iadd, 1) := by decide +kernel
theorem c119_93 : cd 119 93 = some (.iastore, 1) := by decide +kernel
theorem c119_94 : cd 119 94 = some (.iinc 5 1, 3) := by decide +kernel
theorem c119_97 : cd 119 97 = some (.goto 14, 3) := by decide +kernel
theorem c119_100 : cd 119 100 = some (.iload 4, 2) := by decide +kernel
theorem c119_102 : cd 119 102 = some (.ireturn, 1) := by decide +kernel
theorem g119_0 {d : Nat} {x1 x2 x3 x4 x5 x6 : Option aV} {w : aW} {Q : Option aV → aW → Prop} : T (d + 1) 119 0 [some (vr 16), x1, x2, x3, x4, x5, x6] [] w Q = T d 221 0 [some (vr 17), some (vi 0), none, none] [] w (fun r w1 => T (d + 1) 119 8 [some (vr 16), x1, x2, x3, x4, x5, x6] (r.toList ++ []) w1 Q) := by
  rw [T_aload_0 c119_0, T_getR 2 0 0 c119_1 rfl rfl rfl rfl, rf_16_0, T_sipush c119_4, T_inv (es := [some (vr 17), some (vi 0), none, none]) (st := [vi 0, vr 17]) (ks := [2, 0]) (n := 4) (as := [vr 17, vi 0]) (rest := []) c119_5 (by decide +kernel) (by decide +kernel) rfl rfl (Nat.le_of_ble_eq_true rfl)]
  all_goals try simp only [lay_16, true_and, Nat.reduceAdd, eq_self_iff_true]
theorem g119_8 {d : Nat} {x0 x1 x2 x3 x4 x5 x6 : Option aV} {w : aW} {Q : Option aV → aW → Prop} : T d 119 8 [x0, x1, x2, x3, x4, x5, x6] [] w Q = T d 119 14 [x0, x1, x2, x3, some (vi 0), some (vi 0), x6] [] w Q := by
  rw [T_sipush c119_8, T_istore_4 c119_9, T_sipush c119_11, T_istore_5 c119_12]
  all_goals try simp only [true_and, Nat.reduceAdd, eq_self_iff_true]
theorem g119_14 {d : Nat} {a4 a5 : Int} {r2 : Nat} {x0 x3 x6 : Option aV} {w : aW} {Q : Option aV → aW → Prop} : T (d + 1) 119 14 [x0, some (vr 69), some (vr r2), x3, some (vi a4), some (vi a5), x6] [] w Q = ((w 69 2 ≤ a5 → Q (some (vi a4)) w) ∧ (¬ (w 69 2 ≤ a5) → (lay r2 = (6, 0) ∧ T d 117 0 [some (vi (w r2 1)), some (vi a5)] [] w (fun r w1 => T (d + 1) 119 32 [x0, some (vr 69), some (vr r2), x3, some (vi a4), some (vi a5), x6] (r.toList ++ []) w1 Q)))) := by
  rw [T_iload_5 c119_14, T_aload_1 c119_16, T_getI 8 2 2 c119_17 rfl rfl rfl rfl, T_icmp_ge 100 c119_20 rfl, T_iload_4 c119_100, T_ireti c119_102 (by decide +kernel), T_aload_2 c119_23, T_getI 6 1 1 c119_24 rfl rfl rfl rfl, T_iload_5 c119_27, T_inv (es := [some (vi (w r2 1)), some (vi a5)]) (st := [vi a5, vi (w r2 1)]) (ks := [0, 0]) (n := 2) (as := [vi (w r2 1), vi a5]) (rest := []) c119_29 (by decide +kernel) (by decide +kernel) rfl rfl (Nat.le_of_ble_eq_true rfl)]
  all_goals try simp only [Int.reduceToNat, lay_69, true_and, Nat.reduceAdd, eq_self_iff_true]
theorem g119_32 {d : Nat} {a3 a4 a5 s0 : Int} {r2 : Nat} {x0 x6 : Option aV} {w : aW} {Q : Option aV → aW → Prop} : T (d + 1) 119 32 [x0, some (vr 69), some (vr r2), some (vi a3), some (vi a4), some (vi a5), x6] [vi s0] w Q = ((¬ s0 = 1 → T (d + 1) 119 94 [x0, some (vr 69), some (vr r2), some (vi a3), some (vi a4), some (vi a5), x6] [] w Q) ∧ (¬ (¬ s0 = 1) → ((0 ≤ a5 ∧ a5 < 16) ∧ (lay r2 = (6, 0) ∧ (ldok (rfA r2 2) a5 w ∧ T d 117 0 [some (vi a3), some (vi (w (rfA r2 2) a5))] [] w (fun r w1 => T (d + 1) 119 65 [x0, some (vr 69), some (vr r2), some (vi a3), some (vi (jor a4 (jshl 1 (w 73 a5)))), some (vi a5), some (vi (w 73 a5))] (r.toList ++ []) w1 Q)))))) := by
  rw [T_sipush c119_32, T_icmp_ne 94 c119_33 rfl, T_aload_1 c119_36, T_getR 8 9 9 c119_37 rfl rfl rfl rfl, rf_69_9, T_iload_5 c119_40, T_iald c119_42, T_istore_6 c119_43, T_iload_4 c119_45, T_sipush c119_47, T_iload_6 c119_48, T_ishl c119_50, T_ior c119_51, T_istore_4 c119_52, T_iload_3 c119_54, T_aload_2 c119_55, T_getR 6 2 2 c119_56 rfl rfl rfl rfl, T_iload_5 c119_59, T_iald c119_61, T_inv (es := [some (vi a3), some (vi (w (rfA r2 2) a5))]) (st := [vi (w (rfA r2 2) a5), vi a3]) (ks := [0, 0]) (n := 2) (as := [vi a3, vi (w (rfA r2 2) a5)]) (rest := []) c119_62 (by decide +kernel) (by decide +kernel) rfl rfl (Nat.le_of_ble_eq_true rfl)]
  all_goals try simp only [Int.reduceToNat, lay_69, ld_73, true_and, Nat.reduceAdd, eq_self_iff_true]
theorem g119_65 {d : Nat} {a5 s0 : Int} {x0 x2 x3 x4 x6 : Option aV} {w : aW} {Q : Option aV → aW → Prop} : T (d + 1) 119 65 [x0, some (vr 69), x2, x3, x4, some (vi a5), x6] [vi s0] w Q = T d 117 0 [some (vi (w 69 11)), some (vi a5)] [] w (fun r w1 => T (d + 1) 119 74 [x0, some (vr 69), x2, x3, x4, some (vi a5), x6] (r.toList ++ [vi s0]) w1 Q) := by
  rw [T_aload_1 c119_65, T_getI 8 11 11 c119_66 rfl rfl rfl rfl, T_iload_5 c119_69, T_inv (es := [some (vi (w 69 11)), some (vi a5)]) (st := [vi a5, vi (w 69 11), vi s0]) (ks := [0, 0]) (n := 2) (as := [vi (w 69 11), vi a5]) (rest := [vi s0]) c119_71 (by decide +kernel) (by decide +kernel) rfl rfl (Nat.le_of_ble_eq_true rfl)]
  all_goals try simp only [lay_69, true_and, Nat.reduceAdd, eq_self_iff_true]
theorem g119_74 {d : Nat} {a5 a6 s0 s1 : Int} {x2 x3 x4 : Option aV} {w : aW} {Q : Option aV → aW → Prop} : T d 119 74 [some (vr 16), some (vr 69), x2, x3, x4, some (vi a5), some (vi a6)] [vi s1, vi s0] w Q = ((s0 = s1 → T d 119 94 [some (vr 16), some (vr 69), x2, x3, x4, some (vi a5), some (vi a6)] [] w Q) ∧ (¬ (s0 = s1) → ((0 ≤ a6 ∧ a6 < 10) ∧ ((0 ≤ a5 ∧ a5 < 16) ∧ ((0 ≤ a6 ∧ a6 < 10) ∧ T d 119 94 [some (vr 16), some (vr 69), x2, x3, x4, some (vi a5), some (vi a6)] [] (iup w 17 a6 (w32 ((w 17 a6) + (w 74 a5)))) Q))))) := by
  rw [T_icmp_eq 94 c119_74 rfl, T_aload_0 c119_77, T_getR 2 0 0 c119_78 rfl rfl rfl rfl, rf_16_0, T_iload_6 c119_81, T_dup2 c119_83, T_iald c119_84, T_aload_1 c119_85, T_getR 8 10 10 c119_86 rfl rfl rfl rfl, rf_69_10, T_iload_5 c119_89, T_iald c119_91, T_iadd c119_92, T_iast c119_93]
  all_goals try simp only [Int.reduceToNat, ia0_17, lay_16, lay_69, ld_17, ld_74, true_and, Nat.reduceAdd, eq_self_iff_true]
theorem g119_94 {d : Nat} {a5 : Int} {x0 x1 x2 x3 x4 x6 : Option aV} {w : aW} {Q : Option aV → aW → Prop} : T d 119 94 [x0, x1, x2, x3, x4, some (vi a5), x6] [] w Q = T d 119 14 [x0, x1, x2, x3, x4, some (vi (w32 (a5 + 1))), x6] [] w Q := by
  rw [T_iinc_5 c119_94, T_goto 14 c119_97 rfl]
  all_goals try simp only [true_and, Nat.reduceAdd, eq_self_iff_true]
/-! 120: StringHands$Mover.behind.(LStringHands$Troupe;LStringHands$Stage;I)I -/
theorem c120_0 : cd 120 0 = some (.aload 0, 1) := by decide +kernel
theorem c120_1 : cd 120 1 = some (.aload 1, 1) := by decide +kernel
theorem c120_2 : cd 120 2 = some (.aload 2, 1) := by decide +kernel
theorem c120_3 : cd 120 3 = some (.iload 3, 1) := by decide +kernel
theorem c120_4 : cd 120 4 = some (.invokevirtual 119, 3) := by decide +kernel
theorem c120_7 : cd 120 7 = some (.istore 4, 2) := by decide +kernel
theorem c120_9 : cd 120 9 = some (.sipush 0, 1) := by decide +kernel
theorem c120_10 : cd 120 10 = some (.istore 5, 2) := by decide +kernel
theorem c120_12 : cd 120 12 = some (.sipush 0, 1) := by decide +kernel
theorem c120_13 : cd 120 13 = some (.istore 6, 2) := by decide +kernel
theorem c120_15 : cd 120 15 = some (.iload 6, 2) := by decide +kernel
theorem c120_17 : cd 120 17 = some (.aload 1, 1) := by decide +kernel
theorem c120_18 : cd 120 18 = some (.getfield 2052, 3) := by decide +kernel
theorem c120_21 : cd 120 21 = some (.if_icmp .ge 73, 3) := by decide +kernel
theorem c120_24 : cd 120 24 = some (.aload 0, 1) := by decide +kernel
theorem c120_25 : cd 120 25 = some (.aload 1, 1) := by decide +kernel
theorem c120_26 : cd 120 26 = some (.iload 6, 2) := by decide +kernel
theorem c120_28 : cd 120 28 = some (.iload 3, 1) := by decide +kernel
theorem c120_29 : cd 120 29 = some (.aload 0, 1) := by decide +kernel
theorem c120_30 : cd 120 30 = some (.getfield 514, 3) := by decide +kernel
theorem c120_33 : cd 120 33 = some (.iload 6, 2) := by decide +kernel
theorem c120_35 : cd 120 35 = some (.iaload, 1) := by decide +kernel
theorem c120_36 : cd 120 36 = some (.iload 4, 2) := by decide +kernel
theorem c120_38 : cd 120 38 = some (.iload 6, 2) := by decide +kernel
theorem c120_40 : cd 120 40 = some (.invokestatic 117, 3) := by decide +kernel
theorem c120_43 : cd 120 43 = some (.sipush 1, 1) := by decide +kernel
theorem c120_44 : cd 120 44 = some (.if_icmp .ne 51, 3) := by decide +kernel
theorem c120_47 : cd 120 47 = some (.sipush 1, 1) := by decide +kernel
theorem c120_48 : cd 120 48 = some (.goto 52, 3) := by decide +kernel
theorem c120_51 : cd 120 51 = some (.sipush 0, 1) := by decide +kernel
theorem c120_52 : cd 120 52 = some (.invokevirtual 229, 3) := by decide +kernel
theorem c120_55 : cd 120 55 = some (.ifCond .eq 67, 3) := by decide +kernel
theorem c120_58 : cd 120 58 = some (.iload 5, 2) := by decide +kernel
theorem c120_60 : cd 120 60 = some (.sipush 1, 1) := by decide +kernel
theorem c120_61 : cd 120 61 = some (.iload 6, 2) := by decide +kernel
theorem c120_63 : cd 120 63 = some (.ishl, 1) := by decide +kernel
theorem c120_64 : cd 120 64 = some (.ior, 1) := by decide +kernel
theorem c120_65 : cd 120 65 = some (.istore 5, 2) := by decide +kernel
theorem c120_67 : cd 120 67 = some (.iinc 6 1, 3) := by decide +kernel
theorem c120_70 : cd 120 70 = some (.goto 15, 3) := by decide +kernel
theorem c120_73 : cd 120 73 = some (.iload 5, 2) := by decide +kernel
theorem c120_75 : cd 120 75 = some (.ireturn, 1) := by decide +kernel
theorem g120_0 {d : Nat} {a3 : Int} {r2 : Nat} {x4 x5 x6 : Option aV} {w : aW} {Q : Option aV → aW → Prop} : T (d + 1) 120 0 [some (vr 16), some (vr 69), some (vr r2), some (vi a3), x4, x5, x6] [] w Q = T d 119 0 [some (vr 16), some (vr 69), some (vr r2), some (vi a3), none, none, none] [] w (fun r w1 => T (d + 1) 120 7 [some (vr 16), some (vr 69), some (vr r2), some (vi a3), x4, x5, x6] (r.toList ++ []) w1 Q) := by
  rw [T_aload_0 c120_0, T_aload_1 c120_1, T_aload_2 c120_2, T_iload_3 c120_3, T_invv (es := [some (vr 16), some (vr 69), some (vr r2), some (vi a3), none, none, none]) (st := [vi a3, vr r2, vr 69, vr 16]) (ks := [2, 2, 2, 0]) (n := 7) (c := 2) (k := 16) (as := [vr 69, vr r2, vi a3]) (rest := []) c120_4 (by decide +kernel) (by decide +kernel) (by decide +kernel) (by decide) rfl rfl (Nat.le_of_ble_eq_true rfl)]
  all_goals try simp only [lay_16, true_and, Nat.reduceAdd, eq_self_iff_true]
theorem g120_7 {d : Nat} {s0 : Int} {x0 x1 x2 x3 x4 x5 x6 : Option aV} {w : aW} {Q : Option aV → aW → Prop} : T d 120 7 [x0, x1, x2, x3, x4, x5, x6] [vi s0] w Q = T d 120 15 [x0, x1, x2, x3, some (vi s0), some (vi 0), some (vi 0)] [] w Q := by
  rw [T_istore_4 c120_7, T_sipush c120_9, T_istore_5 c120_10, T_sipush c120_12, T_istore_6 c120_13]
  all_goals try simp only [true_and, Nat.reduceAdd, eq_self_iff_true]
theorem g120_15 {d : Nat} {a3 a4 a5 a6 : Int} {x2 : Option aV} {w : aW} {Q : Option aV → aW → Prop} : T (d + 1) 120 15 [some (vr 16), some (vr 69), x2, some (vi a3), some (vi a4), some (vi a5), some (vi a6)] [] w Q = ((w 69 1 ≤ a6 → Q (some (vi a5)) w) ∧ (¬ (w 69 1 ≤ a6) → ((0 ≤ a6 ∧ a6 < 10) ∧ T d 117 0 [some (vi a4), some (vi a6)] [] w (fun r w1 => T (d + 1) 120 43 [some (vr 16), some (vr 69), x2, some (vi a3), some (vi a4), some (vi a5), some (vi a6)] (r.toList ++ [vi (w 17 a6), vi a3, vi a6, vr 69, vr 16]) w1 Q)))) := by
  rw [T_iload_6 c120_15, T_aload_1 c120_17, T_getI 8 1 1 c120_18 rfl rfl rfl rfl, T_icmp_ge 73 c120_21 rfl, T_iload_5 c120_73, T_ireti c120_75 (by decide +kernel), T_aload_0 c120_24, T_aload_1 c120_25, T_iload_6 c120_26, T_iload_3 c120_28, T_aload_0 c120_29, T_getR 2 0 0 c120_30 rfl rfl rfl rfl, rf_16_0, T_iload_6 c120_33, T_iald c120_35, T_iload_4 c120_36, T_iload_6 c120_38, T_inv (es := [some (vi a4), some (vi a6)]) (st := [vi a6, vi a4, vi (w 17 a6), vi a3, vi a6, vr 69, vr 16]) (ks := [0, 0]) (n := 2) (as := [vi a4, vi a6]) (rest := [vi (w 17 a6), vi a3, vi a6, vr 69, vr 16]) c120_40 (by decide +kernel) (by decide +kernel) rfl rfl (Nat.le_of_ble_eq_true rfl)]
  all_goals try simp only [Int.reduceToNat, lay_16, lay_69, ld_17, true_and, Nat.reduceAdd, eq_self_iff_true]
theorem g120_43 {d : Nat} {s2 s3 s4 s5 : Int} {s0 s1 : Nat} {x0 x1 x2 x3 x4 x5 x6 : Option aV} {w : aW} {Q : Option aV → aW → Prop} : T d 120 43 [x0, x1, x2, x3, x4, x5, x6] [vi s5, vi s4, vi s3, vi s2, vr s1, vr s0] w Q = ((¬ s5 = 1 → T d 120 52 [x0, x1, x2, x3, x4, x5, x6] [vi 0, vi s4, vi s3, vi s2, vr s1, vr s0] w Q) ∧ (¬ (¬ s5 = 1) → T d 120 52 [x0, x1, x2, x3, x4, x5, x6] [vi 1, vi s4, vi s3, vi s2, vr s1, vr s0] w Q)) := by
  rw [T_sipush c120_43, T_icmp_ne 51 c120_44 rfl, T_sipush c120_51, T_sipush c120_47, T_goto 52 c120_48 rfl]
  all_goals try simp only [Int.reduceToNat, true_and, Nat.reduceAdd, eq_self_iff_true]
theorem g120_52 {d : Nat} {s2 s3 s4 s5 : Int} {s0 s1 : Nat} {x0 x1 x2 x3 x4 x5 x6 : Option aV} {w : aW} {Q : Option aV → aW → Prop} : T (d + 1) 120 52 [x0, x1, x2, x3, x4, x5, x6] [vi s5, vi s4, vi s3, vi s2, vr s1, vr s0] w Q = (lay s0 = (2, 0) ∧ T d 229 0 [some (vr s0), some (vr s1), some (vi s2), some (vi s3), some (vi s4), some (vi s5)] [] w (fun r w1 => T (d + 1) 120 55 [x0, x1, x2, x3, x4, x5, x6] (r.toList ++ []) w1 Q)) := by
  rw [T_invv (es := [some (vr s0), some (vr s1), some (vi s2), some (vi s3), some (vi s4), some (vi s5)]) (st := [vi s5, vi s4, vi s3, vi s2, vr s1, vr s0]) (ks := [2, 2, 0, 0, 0, 0]) (n := 6) (c := 2) (k := s0) (as := [vr s1, vi s2, vi s3, vi s4, vi s5]) (rest := []) c120_52 (by decide +kernel) (by decide +kernel) (by decide +kernel) (by decide) rfl rfl (Nat.le_of_ble_eq_true rfl)]
  all_goals try simp only [true_and, Nat.reduceAdd, eq_self_iff_true]
theorem g120_55 {d : Nat} {a5 a6 s0 : Int} {x0 x1 x2 x3 x4 : Option aV} {w : aW} {Q : Option aV → aW → Prop} : T d 120 55 [x0, x1, x2, x3, x4, some (vi a5), some (vi a6)] [vi s0] w Q = ((s0 = 0 → T d 120 67 [x0, x1, x2, x3, x4, some (vi a5), some (vi a6)] [] w Q) ∧ (¬ (s0 = 0) → T d 120 67 [x0, x1, x2, x3, x4, some (vi (jor a5 (jshl 1 a6))), some (vi a6)] [] w Q)) := by
  rw [T_if_eq 67 c120_55 rfl, T_iload_5 c120_58, T_sipush c120_60, T_iload_6 c120_61, T_ishl c120_63, T_ior c120_64, T_istore_5 c120_65]
  all_goals try simp only [Int.reduceToNat, true_and, Nat.reduceAdd, eq_self_iff_true]
theorem g120_67 {d : Nat} {a6 : Int} {x0 x1 x2 x3 x4 x5 : Option aV} {w : aW} {Q : Option aV → aW → Prop} : T d 120 67 [x0, x1, x2, x3, x4, x5, some (vi a6)] [] w Q = T d 120 15 [x0, x1, x2, x3, x4, x5, some (vi (w32 (a6 + 1)))] [] w Q := by
  rw [T_iinc_6 c120_67, T_goto 15 c120_70 rfl]
  all_goals try simp only [true_and, Nat.reduceAdd, eq_self_iff_true]
/-! 121: StringHandsModel.isLimb.(J)Z -/
theorem c121_0 : cd 121 0 = some (.lload 1, 1) := by decide +kernel
theorem c121_1 : cd 121 1 = some (.bipush 0, 1) := by decide +kernel
theorem c121_2 : cd 121 2 = some (.aload 0, 1) := by decide +kernel
theorem c121_3 : cd 121 3 = some (.getfield 3078, 3) := by decide +kernel
theorem c121_6 : cd 121 6 = some (.sipush 2, 1) := by decide +kernel
theorem c121_7 : cd 121 7 = some (.iaload, 1) := by decide +kernel
theorem c121_8 : cd 121 8 = some (.sipush 1, 1) := by decide +kernel
theorem c121_9 : cd 121 9 = some (.isub, 1) := by decide +kernel
theorem c121_10 : cd 121 10 = some (.i2l, 1) := by decide +kernel
theorem c121_11 : cd 121 11 = some (.invokestatic 105, 3) := by decide +kernel
theorem c121_14 : cd 121 14 = some (.ireturn, 1) := by decide +kernel
theorem g121_0 {d : Nat} {b1 : Int} {w : aW} {Q : Option aV → aW → Prop} : T (d + 1) 121 0 [some (vr 167), some (vl b1), none] [] w Q = T d 105 0 [some (vl b1), none, some (vl 0), none, some (vl (w32 ((w 168 2) - 1))), none] [] w (fun r w1 => T (d + 1) 121 14 [some (vr 167), some (vl b1), none] (r.toList ++ []) w1 Q) := by
  rw [T_lload_1 c121_0, T_bipush c121_1, T_aload_0 c121_2, T_getR 12 1 1 c121_3 rfl rfl rfl rfl, rf_167_1, T_sipush c121_6, T_iald c121_7, T_sipush c121_8, T_isub c121_9, T_i2l c121_10, T_inv (es := [some (vl b1), none, some (vl 0), none, some (vl (w32 ((w 168 2) - 1))), none]) (st := [vl (w32 ((w 168 2) - 1)), vl 0, vl b1]) (ks := [1, 1, 1]) (n := 6) (as := [vl b1, vl 0, vl (w32 ((w 168 2) - 1))]) (rest := []) c121_11 (by decide +kernel) (by decide +kernel) rfl rfl (Nat.le_of_ble_eq_true rfl)]
  all_goals try simp only [Int.reduceLE, Int.reduceLT, and_self, lay_167, ld_168, true_and, Nat.reduceAdd, eq_self_iff_true]
theorem g121_14 {d : Nat} {s0 : Int} {x0 x1 x2 : Option aV} {w : aW} {Q : Option aV → aW → Prop} : T d 121 14 [x0, x1, x2] [vi s0] w Q = ((s0 = 0 ∨ s0 = 1) ∧ Q (some (vi s0)) w) := by
  rw [T_iretz c121_14 (by decide +kernel)]
  all_goals try simp only [true_and, Nat.reduceAdd, eq_self_iff_true]
/-! 122: StringHandsModel.stringsTo.(II)I -/
theorem c122_0 : cd 122 0 = some (.sipush 0, 1) := by decide +kernel
theorem c122_1 : cd 122 1 = some (.istore 3, 1) := by decide +kernel
theorem c122_2 : cd 122 2 = some (.sipush 0, 1) := by decide +kernel
theorem c122_3 : cd 122 3 = some (.istore 4, 2) := by decide +kernel
theorem c122_5 : cd 122 5 = some (.iload 4, 2) := by decide +kernel
theorem c122_7 : cd 122 7 = some (.aload 0, 1) := by decide +kernel
theorem c122_8 : cd 122 8 = some (.getfield 3078, 3) := by decide +kernel
theorem c122_11 : cd 122 11 = some (.sipush 3, 1) := by decide +kernel
theorem c122_12 : cd 122 12 = some (.iaload, 1) := by decide +kernel
theorem c122_13 : cd 122 13 = some (.if_icmp .ge 63, 3) := by decide +kernel
theorem c122_16 : cd 122 16 = some (.iload 3, 1) := by decide +kernel
theorem c122_17 : cd 122 17 = some (.aload 0, 1) := by decide +kernel
theorem c122_18 : cd 122 18 = some (.getfield 3078, 3) := by decide +kernel
theorem c122_21 : cd 122 21 = some (.sipush 64, 2) := by decide +kernel
theorem c122_23 : cd 122 23 = some (.iload 4, 2) := by decide +kernel
theorem c122_25 : cd 122 25 = some (.iadd, 1) := by decide +kernel
theorem c122_26 : cd 122 26 = some (.iaload, 1) := by decide +kernel
theorem c122_27 : cd 122 27 = some (.iload 1, 1) := by decide +kernel
theorem c122_28 : cd 122 28 = some (.if_icmp .ne 54, 3) := by decide +kernel
theorem c122_31 : cd 122 31 = some (.aload 0, 1) := by decide +kernel
theorem c122_32 : cd 122 32 = some (.iload 4, 2) := by decide +kernel
theorem c122_34 : cd 122 34 = some (.invokevirtual 138, 3) := by decide +kernel
theorem c122_37 : cd 122 37 = some (.ifCond .eq 54, 3) := by decide +kernel
theorem c122_40 : cd 122 40 = some (.iload 2, 1) := by decide +kernel
theorem c122_41 : cd 122 41 = some (.i2l, 1) := by decide +kernel
theorem c122_42 : cd 122 42 = some (.iload 4, 2) := by decide +kernel
theorem c122_44 : cd 122 44 = some (.invokestatic 230, 3) := by decide +kernel
theorem c122_47 : cd 122 47 = some (.ifCond .ne 54, 3) := by decide +kernel
theorem c122_50 : cd 122 50 = some (.sipush 1, 1) := by decide +kernel
theorem c122_51 : cd 122 51 = some (.goto 55, 3) := by decide +kernel
theorem c122_54 : cd 122 54 = some (.sipush 0, 1) := by decide +kernel
theorem c122_55 : cd 122 55 = some (.iadd, 1) := by decide +kernel
theorem c122_56 : cd 122 56 = some (.istore 3, 1) := by decide +kernel
theorem c122_57 : cd 122 57 = some (.iinc 4 1, 3) := by decide +kernel
theorem c122_60 : cd 122 60 = some (.goto 5, 3) := by decide +kernel
theorem c122_63 : cd 122 63 = some (.iload 3, 1) := by decide +kernel
theorem c122_64 : cd 122 64 = some (.ireturn, 1) := by decide +kernel
theorem g122_0 {d : Nat} {x0 x1 x2 x3 x4 : Option aV} {w : aW} {Q : Option aV → aW → Prop} : T d 122 0 [x0, x1, x2, x3, x4] [] w Q = T d 122 5 [x0, x1, x2, some (vi 0), some (vi 0)] [] w Q := by
  rw [T_sipush c122_0, T_istore_3 c122_1, T_sipush c122_2, T_istore_4 c122_3]
  all_goals try simp only [true_and, Nat.reduceAdd, eq_self_iff_true]
theorem g122_5 {d : Nat} {a1 a3 a4 : Int} {x2 : Option aV} {w : aW} {Q : Option aV → aW → Prop} : T (d + 1) 122 5 [some (vr 167), some (vi a1), x2, some (vi a3), some (vi a4)] [] w Q = ((w 168 3 ≤ a4 → Q (some (vi a3)) w) ∧ (¬ (w 168 3 ≤ a4) → ((0 ≤ w32 (64 + a4) ∧ w32 (64 + a4) < 4932) ∧ ((¬ w 168 (w32 (64 + a4)) = a1 → T (d + 1) 122 54 [some (vr 167), some (vi a1), x2, some (vi a3), some (vi a4)] [vi a3] w Q) ∧ (¬ (¬ w 168 (w32 (64 + a4)) = a1) → T d 138 0 [some (vr 167), some (vi a4)] [] w (fun r w1 => T (d + 1) 122 37 [some (vr 167), some (vi a1), x2, some (vi a3), some (vi a4)] (r.toList ++ [vi a3]) w1 Q)))))) := by
  rw [T_iload_4 c122_5, T_aload_0 c122_7, T_getR 12 1 1 c122_8 rfl rfl rfl rfl, rf_167_1, T_sipush c122_11, T_iald c122_12, T_icmp_ge 63 c122_13 rfl, T_iload_3 c122_63, T_ireti c122_64 (by decide +kernel), T_iload_3 c122_16, T_aload_0 c122_17, T_getR 12 1 1 c122_18 rfl rfl rfl rfl, rf_167_1, T_sipush c122_21, T_iload_4 c122_23, T_iadd c122_25, T_iald c122_26, T_iload_1 c122_27, T_icmp_ne 54 c122_28 rfl, T_aload_0 c122_31, T_iload_4 c122_32, T_invv (es := [some (vr 167), some (vi a4)]) (st := [vi a4, vr 167, vi a3]) (ks := [2, 0]) (n := 2) (c := 12) (k := 167) (as := [vi a4]) (rest := [vi a3]) c122_34 (by decide +kernel) (by decide +kernel) (by decide +kernel) (by decide) rfl rfl (Nat.le_of_ble_eq_true rfl)]
  all_goals try simp only [Int.reduceLE, Int.reduceLT, Int.reduceToNat, and_self, lay_167, ld_168, true_and, Nat.reduceAdd, eq_self_iff_true]
theorem g122_37 {d : Nat} {a2 a4 s0 s1 : Int} {x0 x1 x3 : Option aV} {w : aW} {Q : Option aV → aW → Prop} : T (d + 1) 122 37 [x0, x1, some (vi a2), x3, some (vi a4)] [vi s1, vi s0] w Q = ((s1 = 0 → T (d + 1) 122 54 [x0, x1, some (vi a2), x3, some (vi a4)] [vi s0] w Q) ∧ (¬ (s1 = 0) → T d 230 0 [some (vl a2), none, some (vi a4)] [] w (fun r w1 => T (d + 1) 122 47 [x0, x1, some (vi a2), x3, some (vi a4)] (r.toList ++ [vi s0]) w1 Q))) := by
  rw [T_if_eq 54 c122_37 rfl, T_iload_2 c122_40, T_i2l c122_41, T_iload_4 c122_42, T_inv (es := [some (vl a2), none, some (vi a4)]) (st := [vi a4, vl a2, vi s0]) (ks := [1, 0]) (n := 3) (as := [vl a2, vi a4]) (rest := [vi s0]) c122_44 (by decide +kernel) (by decide +kernel) rfl rfl (Nat.le_of_ble_eq_true rfl)]
  all_goals try simp only [Int.reduceToNat, true_and, Nat.reduceAdd, eq_self_iff_true]
theorem g122_47 {d : Nat} {s0 s1 : Int} {x0 x1 x2 x3 x4 : Option aV} {w : aW} {Q : Option aV → aW → Prop} : T d 122 47 [x0, x1, x2, x3, x4] [vi s1, vi s0] w Q = ((¬ s1 = 0 → T d 122 54 [x0, x1, x2, x3, x4] [vi s0] w Q) ∧ (¬ (¬ s1 = 0) → T d 122 55 [x0, x1, x2, x3, x4] [vi 1, vi s0] w Q)) := by
  rw [T_if_ne 54 c122_47 rfl, T_sipush c122_50, T_goto 55 c122_51 rfl]
  all_goals try simp only [Int.reduceToNat, true_and, Nat.reduceAdd, eq_self_iff_true]
theorem g122_54 {d : Nat} {s0 : Int} {x0 x1 x2 x3 x4 : Option aV} {w : aW} {Q : Option aV → aW → Prop} : T d 122 54 [x0, x1, x2, x3, x4] [vi s0] w Q = T d 122 55 [x0, x1, x2, x3, x4] [vi 0, vi s0] w Q := by
  rw [T_sipush c122_54]
  all_goals try simp only [true_and, Nat.reduceAdd, eq_self_iff_true]
theorem g122_55 {d : Nat} {a4 s0 s1 : Int} {x0 x1 x2 x3 : Option aV} {w : aW} {Q : Option aV → aW → Prop} : T d 122 55 [x0, x1, x2, x3, some (vi a4)] [vi s1, vi s0] w Q = T d 122 5 [x0, x1, x2, some (vi (w32 (s0 + s1))), some (vi (w32 (a4 + 1)))] [] w Q := by
  rw [T_iadd c122_55, T_istore_3 c122_56, T_iinc_4 c122_57, T_goto 5 c122_60 rfl]
  all_goals try simp only [true_and, Nat.reduceAdd, eq_self_iff_true]
/-! 123: StringHandsModel.stringsFrom.(I)I -/
theorem c123_0 : cd 123 0 = some (.sipush 0, 1) := by decide +kernel
theorem c123_1 : cd 123 1 = some (.istore 2, 1) := by decide +kernel
theorem c123_2 : cd 123 2 = some (.sipush 0, 1) := by decide +kernel
theorem c123_3 : cd 123 3 = some (.istore 3, 1) := by decide +kernel
theorem c123_4 : cd 123 4 = some (.iload 3, 1) := by decide +kernel
theorem c123_5 : cd 123 5 = some (.aload 0, 1) := by decide +kernel
theorem c123_6 : cd 123 6 = some (.getfield 3078, 3) := by decide +kernel
theorem c123_9 : cd 123 9 = some (.sipush 3, 1) := by decide +kernel
theorem c123_10 : cd 123 10 = some (.iaload, 1) := by decide +kernel
theorem c123_11 : cd 123 11 = some (.if_icmp .ge 49, 3) := by decide +kernel
theorem c123_14 : cd 123 14 = some (.iload 2, 1) := by decide +kernel
theorem c123_15 : cd 123 15 = some (.aload 0, 1) := by decide +kernel
theorem c123_16 : cd 123 16 = some (.getfield 3078, 3) := by decide +kernel
theorem c123_19 : cd 123 19 = some (.sipush 6, 2) := by decide +kernel
theorem c123_21 : cd 123 21 = some (.iload 3, 1) := by decide +kernel
theorem c123_22 : cd 123 22 = some (.iadd, 1) := by decide +kernel
theorem c123_23 : cd 123 23 = some (.iaload, 1) := by decide +kernel
theorem c123_24 : cd 123 24 = some (.iload 1, 1) := by decide +kernel
theorem c123_25 : cd 123 25 = some (.if_icmp .ne 40, 3) := by decide +kernel
theorem c123_28 : cd 123 28 = some (.aload 0, 1) := by decide +kernel
theorem c123_29 : cd 123 29 = some (.iload 3, 1) := by decide +kernel
theorem c123_30 : cd 123 30 = some (.invokevirtual 138, 3) := by decide +kernel
theorem c123_33 : cd 123 33 = some (.ifCond .eq 40, 3) := by decide +kernel
theorem c123_36 : cd 123 36 = some (.sipush 1, 1) := by decide +kernel
theorem c123_37 : cd 123 37 = some (.goto 41, 3) := by decide +kernel
theorem c123_40 : cd 123 40 = some (.sipush 0, 1) := by decide +kernel
theorem c123_41 : cd 123 41 = some (.iadd, 1) := by decide +kernel
theorem c123_42 : cd 123 42 = some (.istore 2, 1) := by decide +kernel
theorem c123_43 : cd 123 43 = some (.iinc 3 1, 3) := by decide +kernel
theorem c123_46 : cd 123 46 = some (.goto 4, 3) := by decide +kernel
theorem c123_49 : cd 123 49 = some (.iload 2, 1) := by decide +kernel
theorem c123_50 : cd 123 50 = some (.ireturn, 1) := by decide +kernel
theorem g123_0 {d : Nat} {x0 x1 x2 x3 : Option aV} {w : aW} {Q : Option aV → aW → Prop} : T d 123 0 [x0, x1, x2, x3] [] w Q = T d 123 4 [x0, x1, some (vi 0), some (vi 0)] [] w Q := by
  rw [T_sipush c123_0, T_istore_2 c123_1, T_sipush c123_2, T_istore_3 c123_3]
  all_goals try simp only [true_and, Nat.reduceAdd, eq_self_iff_true]
theorem g123_4 {d : Nat} {a1 a2 a3 : Int} {w : aW} {Q : Option aV → aW → Prop} : T (d + 1) 123 4 [some (vr 167), some (vi a1), some (vi a2), some (vi a3)] [] w Q = ((w 168 3 ≤ a3 → Q (some (vi a2)) w) ∧ (¬ (w 168 3 ≤ a3) → ((0 ≤ w32 (6 + a3) ∧ w32 (6 + a3) < 4932) ∧ ((¬ w 168 (w32 (6 + a3)) = a1 → T (d + 1) 123 40 [some (vr 167), some (vi a1), some (vi a2), some (vi a3)] [vi a2] w Q) ∧ (¬ (¬ w 168 (w32 (6 + a3)) = a1) → T d 138 0 [some (vr 167), some (vi a3)] [] w (fun r w1 => T (d + 1) 123 33 [some (vr 167), some (vi a1), some (vi a2), some (vi a3)] (r.toList ++ [vi a2]) w1 Q)))))) := by
  rw [T_iload_3 c123_4, T_aload_0 c123_5, T_getR 12 1 1 c123_6 rfl rfl rfl rfl, rf_167_1, T_sipush c123_9, T_iald c123_10, T_icmp_ge 49 c123_11 rfl, T_iload_2 c123_49, T_ireti c123_50 (by decide +kernel), T_iload_2 c123_14, T_aload_0 c123_15, T_getR 12 1 1 c123_16 rfl rfl rfl rfl, rf_167_1, T_sipush c123_19, T_iload_3 c123_21, T_iadd c123_22, T_iald c123_23, T_iload_1 c123_24, T_icmp_ne 40 c123_25 rfl, T_aload_0 c123_28, T_iload_3 c123_29, T_invv (es := [some (vr 167), some (vi a3)]) (st := [vi a3, vr 167, vi a2]) (ks := [2, 0]) (n := 2) (c := 12) (k := 167) (as := [vi a3]) (rest := [vi a2]) c123_30 (by decide +kernel) (by decide +kernel) (by decide +kernel) (by decide) rfl rfl (Nat.le_of_ble_eq_true rfl)]
  all_goals try simp only [Int.reduceLE, Int.reduceLT, Int.reduceToNat, and_self, lay_167, ld_168, true_and, Nat.reduceAdd, eq_self_iff_true]
theorem g123_33 {d : Nat} {s0 s1 : Int} {x0 x1 x2 x3 : Option aV} {w : aW} {Q : Option aV → aW → Prop} : T d 123 33 [x0, x1, x2, x3] [vi s1, vi s0] w Q = ((s1 = 0 → T d 123 40 [x0, x1, x2, x3] [vi s0] w Q) ∧ (¬ (s1 = 0) → T d 123 41 [x0, x1, x2, x3] [vi 1, vi s0] w Q)) := by
  rw [T_if_eq 40 c123_33 rfl, T_sipush c123_36, T_goto 41 c123_37 rfl]
  all_goals try simp only [Int.reduceToNat, true_and, Nat.reduceAdd, eq_self_iff_true]
theorem g123_40 {d : Nat} {s0 : Int} {x0 x1 x2 x3 : Option aV} {w : aW} {Q : Option aV → aW → Prop} : T d 123 40 [x0, x1, x2, x3] [vi s0] w Q = T d 123 41 [x0, x1, x2, x3] [vi 0, vi s0] w Q := by
  rw [T_sipush c123_40]
  all_goals try simp only [true_and, Nat.reduceAdd, eq_self_iff_true]
theorem g123_41 {d : Nat} {a3 s0 s1 : Int} {x0 x1 x2 : Option aV} {w : aW} {Q : Option aV → aW → Prop} : T d 123 41 [x0, x1, x2, some (vi a3)] [vi s1, vi s0] w Q = T d 123 4 [x0, x1, some (vi (w32 (s0 + s1))), some (vi (w32 (a3 + 1)))] [] w Q := by
  rw [T_iadd c123_41, T_istore_2 c123_42, T_iinc_3 c123_43, T_goto 4 c123_46 rfl]
  all_goals try simp only [true_and, Nat.reduceAdd, eq_self_iff_true]
/-! 124: StringHandsModel.pulls.(III)I -/
theorem c124_0 : cd 124 0 = some (.sipush 0, 1) := by decide +kernel
theorem c124_1 : cd 124 1 = some (.istore 4, 2) := by decide +kernel
theorem c124_3 : cd 124 3 = some (.sipush 0, 1) := by decide +kernel
theorem c124_4 : cd 124 4 = some (.istore 5, 2) := by decide +kernel
theorem c124_6 : cd 124 6 = some (.iload 5, 2) := by decide +kernel
theorem c124_8 : cd 124 8 = some (.aload 0, 1) := by decide +kernel
theorem c124_9 : cd 124 9 = some (.getfield 3078, 3) := by decide +kernel
theorem c124_12 : cd 124 12 = some (.sipush 3, 1) := by decide +kernel
theorem c124_13 : cd 124 13 = some (.iaload, 1) := by decide +kernel
theorem c124_14 : cd 124 14 = some (.if_icmp .ge 108, 3) := by decide +kernel
theorem c124_17 : cd 124 17 = some (.aload 0, 1) := by decide +kernel
theorem c124_18 : cd 124 18 = some (.getfield 3078, 3) := by decide +kernel
theorem c124_21 : cd 124 21 = some (.sipush 64, 2) := by decide +kernel
theorem c124_23 : cd 124 23 = some (.iload 5, 2) := by decide +kernel
theorem c124_25 : cd 124 25 = some (.iadd, 1) := by decide +kernel
theorem c124_26 : cd 124 26 = some (.iaload, 1) := by decide +kernel
theorem c124_27 : cd 124 27 = some (.iload 1, 1) := by decide +kernel
theorem c124_28 : cd 124 28 = some (.if_icmp .ne 102, 3) := by decide +kernel
theorem c124_31 : cd 124 31 = some (.aload 0, 1) := by decide +kernel
theorem c124_32 : cd 124 32 = some (.iload 5, 2) := by decide +kernel
theorem c124_34 : cd 124 34 = some (.invokevirtual 138, 3) := by decide +kernel
theorem c124_37 : cd 124 37 = some (.ifCond .eq 102, 3) := by decide +kernel
theorem c124_40 : cd 124 40 = some (.iload 3, 1) := by decide +kernel
theorem c124_41 : cd 124 41 = some (.i2l, 1) := by decide +kernel
theorem c124_42 : cd 124 42 = some (.iload 5, 2) := by decide +kernel
theorem c124_44 : cd 124 44 = some (.invokestatic 230, 3) := by decide +kernel
theorem c124_47 : cd 124 47 = some (.ifCond .ne 102, 3) := by decide +kernel
theorem c124_50 : cd 124 50 = some (.iload 2, 1) := by decide +kernel
theorem c124_51 : cd 124 51 = some (.i2l, 1) := by decide +kernel
theorem c124_52 : cd 124 52 = some (.aload 0, 1) := by decide +kernel
theorem c124_53 : cd 124 53 = some (.getfield 3078, 3) := by decide +kernel
theorem c124_56 : cd 124 56 = some (.sipush 6, 2) := by decide +kernel
theorem c124_58 : cd 124 58 = some (.iload 5, 2) := by decide +kernel
theorem c124_60 : cd 124 60 = some (.iadd, 1) := by decide +kernel
theorem c124_61 : cd 124 61 = some (.iaload, 1) := by decide +kernel
theorem c124_62 : cd 124 62 = some (.invokestatic 230, 3) := by decide +kernel
theorem c124_65 : cd 124 65 = some (.aload 0, 1) := by decide +kernel
theorem c124_66 : cd 124 66 = some (.getfield 3078, 3) := by decide +kernel
theorem c124_69 : cd 124 69 = some (.sipush 96, 2) := by decide +kernel
theorem c124_71 : cd 124 71 = some (.iload 5, 2) := by decide +kernel
theorem c124_73 : cd 124 73 = some (.iadd, 1) := by decide +kernel
theorem c124_74 : cd 124 74 = some (.iaload, 1) := by decide +kernel
theorem c124_75 : cd 124 75 = some (.sipush 1, 1) := by decide +kernel
theorem c124_76 : cd 124 76 = some (.if_icmp .ne 83, 3) := by decide +kernel
theorem c124_79 : cd 124 79 = some (.sipush 1, 1) := by decide +kernel
theorem c124_80 : cd 124 80 = some (.goto 84, 3) := by decide +kernel
theorem c124_83 : cd 124 83 = some (.sipush 0, 1) := by decide +kernel
theorem c124_84 : cd 124 84 = some (.if_icmp .eq 102, 3) := by decide +kernel
theorem c124_87 : cd 124 87 = some (.iload 4, 2) := by decide +kernel
theorem c124_89 : cd 124 89 = some (.aload 0, 1) := by decide +kernel
theorem c124_90 : cd 124 90 = some (.getfield 3078, 3) := by decide +kernel
theorem c124_93 : cd 124 93 = some (.sipush 80, 2) := by decide +kernel
theorem c124_95 : cd 124 95 = some (.iload 5, 2) := by decide +kernel
theorem c124_97 : cd 124 97 = some (.iadd, 1) := by decide +kernel
theorem c124_98 : cd 124 98 = some (.iaload, 1) := by decide +kernel
theorem c124_99 : cd 124 99 = some (.iadd, 1) := by decide +kernel
theorem c124_100 : cd 124 100 = some (.istore 4, 2) := by decide +kernel
theorem c124_102 : cd 124 102 = some (.iinc 5 1, 3) := by decide +kernel
theorem c124_105 : cd 124 105 = some (.goto 6, 3) := by decide +kernel
theorem c124_108 : cd 124 108 = some (.iload 4, 2) := by decide +kernel
theorem c124_110 : cd 124 110 = some (.ireturn, 1) := by decide +kernel
theorem g124_0 {d : Nat} {x0 x1 x2 x3 x4 x5 : Option aV} {w : aW} {Q : Option aV → aW → Prop} : T d 124 0 [x0, x1, x2, x3, x4, x5] [] w Q = T d 124 6 [x0, x1, x2, x3, some (vi 0), some (vi 0)] [] w Q := by
  rw [T_sipush c124_0, T_istore_4 c124_1, T_sipush c124_3, T_istore_5 c124_4]
  all_goals try simp only [true_and, Nat.reduceAdd, eq_self_iff_true]
theorem g124_6 {d : Nat} {a1 a4 a5 : Int} {x2 x3 : Option aV} {w : aW} {Q : Option aV → aW → Prop} : T (d + 1) 124 6 [some (vr 167), some (vi a1), x2, x3, some (vi a4), some (vi a5)] [] w Q = ((w 168 3 ≤ a5 → Q (some (vi a4)) w) ∧ (¬ (w 168 3 ≤ a5) → ((0 ≤ w32 (64 + a5) ∧ w32 (64 + a5) < 4932) ∧ ((¬ w 168 (w32 (64 + a5)) = a1 → T (d + 1) 124 102 [some (vr 167), some (vi a1), x2, x3, some (vi a4), some (vi a5)] [] w Q) ∧ (¬ (¬ w 168 (w32 (64 + a5)) = a1) → T d 138 0 [some (vr 167), some (vi a5)] [] w (fun r w1 => T (d + 1) 124 37 [some (vr 167), some (vi a1), x2, x3, some (vi a4), some (vi a5)] (r.toList ++ []) w1 Q)))))) := by
  rw [T_iload_5 c124_6, T_aload_0 c124_8, T_getR 12 1 1 c124_9 rfl rfl rfl rfl, rf_167_1, T_sipush c124_12, T_iald c124_13, T_icmp_ge 108 c124_14 rfl, T_iload_4 c124_108, T_ireti c124_110 (by decide +kernel), T_aload_0 c124_17, T_getR 12 1 1 c124_18 rfl rfl rfl rfl, rf_167_1, T_sipush c124_21, T_iload_5 c124_23, T_iadd c124_25, T_iald c124_26, T_iload_1 c124_27, T_icmp_ne 102 c124_28 rfl, T_aload_0 c124_31, T_iload_5 c124_32, T_invv (es := [some (vr 167), some (vi a5)]) (st := [vi a5, vr 167]) (ks := [2, 0]) (n := 2) (c := 12) (k := 167) (as := [vi a5]) (rest := []) c124_34 (by decide +kernel) (by decide +kernel) (by decide +kernel) (by decide) rfl rfl (Nat.le_of_ble_eq_true rfl)]
  all_goals try simp only [Int.reduceLE, Int.reduceLT, Int.reduceToNat, and_self, lay_167, ld_168, true_and, Nat.reduceAdd, eq_self_iff_true]
theorem g124_37 {d : Nat} {a3 a5 s0 : Int} {x0 x1 x2 x4 : Option aV} {w : aW} {Q : Option aV → aW → Prop} : T (d + 1) 124 37 [x0, x1, x2, some (vi a3), x4, some (vi a5)] [vi s0] w Q = ((s0 = 0 → T (d + 1) 124 102 [x0, x1, x2, some (vi a3), x4, some (vi a5)] [] w Q) ∧ (¬ (s0 = 0) → T d 230 0 [some (vl a3), none, some (vi a5)] [] w (fun r w1 => T (d + 1) 124 47 [x0, x1, x2, some (vi a3), x4, some (vi a5)] (r.toList ++ []) w1 Q))) := by
  rw [T_if_eq 102 c124_37 rfl, T_iload_3 c124_40, T_i2l c124_41, T_iload_5 c124_42, T_inv (es := [some (vl a3), none, some (vi a5)]) (st := [vi a5, vl a3]) (ks := [1, 0]) (n := 3) (as := [vl a3, vi a5]) (rest := []) c124_44 (by decide +kernel) (by decide +kernel) rfl rfl (Nat.le_of_ble_eq_true rfl)]
  all_goals try simp only [Int.reduceToNat, true_and, Nat.reduceAdd, eq_self_iff_true]
theorem g124_47 {d : Nat} {a2 a5 s0 : Int} {x1 x3 x4 : Option aV} {w : aW} {Q : Option aV → aW → Prop} : T (d + 1) 124 47 [some (vr 167), x1, some (vi a2), x3, x4, some (vi a5)] [vi s0] w Q = ((¬ s0 = 0 → T (d + 1) 124 102 [some (vr 167), x1, some (vi a2), x3, x4, some (vi a5)] [] w Q) ∧ (¬ (¬ s0 = 0) → ((0 ≤ w32 (6 + a5) ∧ w32 (6 + a5) < 4932) ∧ T d 230 0 [some (vl a2), none, some (vi (w 168 (w32 (6 + a5))))] [] w (fun r w1 => T (d + 1) 124 65 [some (vr 167), x1, some (vi a2), x3, x4, some (vi a5)] (r.toList ++ []) w1 Q)))) := by
  rw [T_if_ne 102 c124_47 rfl, T_iload_2 c124_50, T_i2l c124_51, T_aload_0 c124_52, T_getR 12 1 1 c124_53 rfl rfl rfl rfl, rf_167_1, T_sipush c124_56, T_iload_5 c124_58, T_iadd c124_60, T_iald c124_61, T_inv (es := [some (vl a2), none, some (vi (w 168 (w32 (6 + a5))))]) (st := [vi (w 168 (w32 (6 + a5))), vl a2]) (ks := [1, 0]) (n := 3) (as := [vl a2, vi (w 168 (w32 (6 + a5)))]) (rest := []) c124_62 (by decide +kernel) (by decide +kernel) rfl rfl (Nat.le_of_ble_eq_true rfl)]
  all_goals try simp only [Int.reduceToNat, lay_167, ld_168, true_and, Nat.reduceAdd, eq_self_iff_true]
theorem g124_65 {d : Nat} {a5 s0 : Int} {x1 x2 x3 x4 : Option aV} {w : aW} {Q : Option aV → aW → Prop} : T d 124 65 [some (vr 167), x1, x2, x3, x4, some (vi a5)] [vi s0] w Q = ((0 ≤ w32 (96 + a5) ∧ w32 (96 + a5) < 4932) ∧ ((¬ w 168 (w32 (96 + a5)) = 1 → T d 124 84 [some (vr 167), x1, x2, x3, x4, some (vi a5)] [vi 0, vi s0] w Q) ∧ (¬ (¬ w 168 (w32 (96 + a5)) = 1) → T d 124 84 [some (vr 167), x1, x2, x3, x4, some (vi a5)] [vi 1, vi s0] w Q))) := by
  rw [T_aload_0 c124_65, T_getR 12 1 1 c124_66 rfl rfl rfl rfl, rf_167_1, T_sipush c124_69, T_iload_5 c124_71, T_iadd c124_73, T_iald c124_74, T_sipush c124_75, T_icmp_ne 83 c124_76 rfl, T_sipush c124_83, T_sipush c124_79, T_goto 84 c124_80 rfl]
  all_goals try simp only [Int.reduceToNat, lay_167, ld_168, true_and, Nat.reduceAdd, eq_self_iff_true]
theorem g124_84 {d : Nat} {a4 a5 s0 s1 : Int} {x1 x2 x3 : Option aV} {w : aW} {Q : Option aV → aW → Prop} : T d 124 84 [some (vr 167), x1, x2, x3, some (vi a4), some (vi a5)] [vi s1, vi s0] w Q = ((s0 = s1 → T d 124 102 [some (vr 167), x1, x2, x3, some (vi a4), some (vi a5)] [] w Q) ∧ (¬ (s0 = s1) → ((0 ≤ w32 (80 + a5) ∧ w32 (80 + a5) < 4932) ∧ T d 124 102 [some (vr 167), x1, x2, x3, some (vi (w32 (a4 + (w 168 (w32 (80 + a5)))))), some (vi a5)] [] w Q))) := by
  rw [T_icmp_eq 102 c124_84 rfl, T_iload_4 c124_87, T_aload_0 c124_89, T_getR 12 1 1 c124_90 rfl rfl rfl rfl, rf_167_1, T_sipush c124_93, T_iload_5 c124_95, T_iadd c124_97, T_iald c124_98, T_iadd c124_99, T_istore_4 c124_100]
  all_goals try simp only [Int.reduceToNat, lay_167, ld_168, true_and, Nat.reduceAdd, eq_self_iff_true]
theorem g124_102 {d : Nat} {a5 : Int} {x0 x1 x2 x3 x4 : Option aV} {w : aW} {Q : Option aV → aW → Prop} : T d 124 102 [x0, x1, x2, x3, x4, some (vi a5)] [] w Q = T d 124 6 [x0, x1, x2, x3, x4, some (vi (w32 (a5 + 1)))] [] w Q := by
  rw [T_iinc_5 c124_102, T_goto 6 c124_105 rfl]
  all_goals try simp only [true_and, Nat.reduceAdd, eq_self_iff_true]
/-! 125: StringHandsModel.isUpThen.(III)Z -/
theorem c125_0 : cd 125 0 = some (.aload 0, 1) := by decide +kernel
theorem c125_1 : cd 125 1 = some (.getfield 3078, 3) := by decide +kernel
theorem c125_4 : cd 125 4 = some (.sipush 142, 3) := by decide +kernel
theorem c125_7 : cd 125 7 = some (.iload 1, 1) := by decide +kernel
theorem c125_8 : cd 125 8 = some (.iadd, 1) := by decide +kernel
theorem c125_9 : cd 125 9 = some (.iaload, 1) := by decide +kernel
theorem c125_10 : cd 125 10 = some (.ifCond .le 21, 3) := by decide +kernel
theorem c125_13 : cd 125 13 = some (.aload 0, 1) := by decide +kernel
theorem c125_14 : cd 125 14 = some (.iload 1, 1) := by decide +kernel
theorem c125_15 : cd 125 15 = some (.iload 2, 1) := by decide +kernel
theorem c125_16 : cd 125 16 = some (.iload 3, 1) := by decide +kernel
theorem c125_17 : cd 125 17 = some (.invokevirtual 231, 3) := by decide +kernel
theorem c125_20 : cd 125 20 = some (.ireturn, 1) := by decide +kernel
theorem c125_21 : cd 125 21 = some (.aload 0, 1) := by decide +kernel
theorem c125_22 : cd 125 22 = some (.iload 1, 1) := by decide +kernel
theorem c125_23 : cd 125 23 = some (.iload 3, 1) := by decide +kernel
theorem c125_24 : cd 125 24 = some (.invokevirtual 122, 3) := by decide +kernel
theorem c125_27 : cd 125 27 = some (.ifCond .le 57, 3) := by decide +kernel
theorem c125_30 : cd 125 30 = some (.aload 0, 1) := by decide +kernel
theorem c125_31 : cd 125 31 = some (.iload 1, 1) := by decide +kernel
theorem c125_32 : cd 125 32 = some (.iload 2, 1) := by decide +kernel
theorem c125_33 : cd 125 33 = some (.iload 3, 1) := by decide +kernel
theorem c125_34 : cd 125 34 = some (.invokevirtual 124, 3) := by decide +kernel
theorem c125_37 : cd 125 37 = some (.aload 0, 1) := by decide +kernel
theorem c125_38 : cd 125 38 = some (.getfield 3078, 3) := by decide +kernel
theorem c125_41 : cd 125 41 = some (.sipush 122, 2) := by decide +kernel
theorem c125_43 : cd 125 43 = some (.iload 1, 1) := by decide +kernel
theorem c125_44 : cd 125 44 = some (.iadd, 1) := by decide +kernel
theorem c125_45 : cd 125 45 = some (.iaload, 1) := by decide +kernel
theorem c125_46 : cd 125 46 = some (.if_icmp .lt 53, 3) := by decide +kernel
theorem c125_49 : cd 125 49 = some (.sipush 1, 1) := by decide +kernel
theorem c125_50 : cd 125 50 = some (.goto 63, 3) := by decide +kernel
theorem c125_53 : cd 125 53 = some (.sipush 0, 1) := by decide +kernel
theorem c125_54 : cd 125 54 = some (.goto 63, 3) := by decide +kernel
theorem c125_57 : cd 125 57 = some (.iload 2, 1) := by decide +kernel
theorem c125_58 : cd 125 58 = some (.i2l, 1) := by decide +kernel
theorem c125_59 : cd 125 59 = some (.iload 1, 1) := by decide +kernel
theorem c125_60 : cd 125 60 = some (.invokestatic 230, 3) := by decide +kernel
theorem c125_63 : cd 125 63 = some (.ireturn, 1) := by decide +kernel
theorem g125_0 {d : Nat} {a1 a2 a3 : Int} {w : aW} {Q : Option aV → aW → Prop} : T (d + 1) 125 0 [some (vr 167), some (vi a1), some (vi a2), some (vi a3)] [] w Q = ((0 ≤ w32 (142 + a1) ∧ w32 (142 + a1) < 4932) ∧ ((w 168 (w32 (142 + a1)) ≤ 0 → T d 122 0 [some (vr 167), some (vi a1), some (vi a3), none, none] [] w (fun r w1 => T (d + 1) 125 27 [some (vr 167), some (vi a1), some (vi a2), some (vi a3)] (r.toList ++ []) w1 Q)) ∧ (¬ (w 168 (w32 (142 + a1)) ≤ 0) → T d 231 0 [some (vr 167), some (vi a1), some (vi a2), some (vi a3), none, none, none] [] w (fun r w1 => T (d + 1) 125 20 [some (vr 167), some (vi a1), some (vi a2), some (vi a3)] (r.toList ++ []) w1 Q)))) := by
  rw [T_aload_0 c125_0, T_getR 12 1 1 c125_1 rfl rfl rfl rfl, rf_167_1, T_sipush c125_4, T_iload_1 c125_7, T_iadd c125_8, T_iald c125_9, T_if_le 21 c125_10 rfl, T_aload_0 c125_21, T_iload_1 c125_22, T_iload_3 c125_23, T_invv (es := [some (vr 167), some (vi a1), some (vi a3), none, none]) (st := [vi a3, vi a1, vr 167]) (ks := [2, 0, 0]) (n := 5) (c := 12) (k := 167) (as := [vi a1, vi a3]) (rest := []) c125_24 (by decide +kernel) (by decide +kernel) (by decide +kernel) (by decide) rfl rfl (Nat.le_of_ble_eq_true rfl), T_aload_0 c125_13, T_iload_1 c125_14, T_iload_2 c125_15, T_iload_3 c125_16, T_invv (es := [some (vr 167), some (vi a1), some (vi a2), some (vi a3), none, none, none]) (st := [vi a3, vi a2, vi a1, vr 167]) (ks := [2, 0, 0, 0]) (n := 7) (c := 12) (k := 167) (as := [vi a1, vi a2, vi a3]) (rest := []) c125_17 (by decide +kernel) (by decide +kernel) (by decide +kernel) (by decide) rfl rfl (Nat.le_of_ble_eq_true rfl)]
  all_goals try simp only [Int.reduceToNat, lay_167, ld_168, true_and, Nat.reduceAdd, eq_self_iff_true]
theorem g125_20 {d : Nat} {s0 : Int} {x0 x1 x2 x3 : Option aV} {w : aW} {Q : Option aV → aW → Prop} : T d 125 20 [x0, x1, x2, x3] [vi s0] w Q = ((s0 = 0 ∨ s0 = 1) ∧ Q (some (vi s0)) w) := by
  rw [T_iretz c125_20 (by decide +kernel)]
  all_goals try simp only [true_and, Nat.reduceAdd, eq_self_iff_true]
theorem g125_27 {d : Nat} {a1 a2 a3 s0 : Int} {w : aW} {Q : Option aV → aW → Prop} : T (d + 1) 125 27 [some (vr 167), some (vi a1), some (vi a2), some (vi a3)] [vi s0] w Q = ((s0 ≤ 0 → T d 230 0 [some (vl a2), none, some (vi a1)] [] w (fun r w1 => T (d + 1) 125 63 [some (vr 167), some (vi a1), some (vi a2), some (vi a3)] (r.toList ++ []) w1 Q)) ∧ (¬ (s0 ≤ 0) → T d 124 0 [some (vr 167), some (vi a1), some (vi a2), some (vi a3), none, none] [] w (fun r w1 => T (d + 1) 125 37 [some (vr 167), some (vi a1), some (vi a2), some (vi a3)] (r.toList ++ []) w1 Q))) := by
  rw [T_if_le 57 c125_27 rfl, T_iload_2 c125_57, T_i2l c125_58, T_iload_1 c125_59, T_inv (es := [some (vl a2), none, some (vi a1)]) (st := [vi a1, vl a2]) (ks := [1, 0]) (n := 3) (as := [vl a2, vi a1]) (rest := []) c125_60 (by decide +kernel) (by decide +kernel) rfl rfl (Nat.le_of_ble_eq_true rfl), T_aload_0 c125_30, T_iload_1 c125_31, T_iload_2 c125_32, T_iload_3 c125_33, T_invv (es := [some (vr 167), some (vi a1), some (vi a2), some (vi a3), none, none]) (st := [vi a3, vi a2, vi a1, vr 167]) (ks := [2, 0, 0, 0]) (n := 6) (c := 12) (k := 167) (as := [vi a1, vi a2, vi a3]) (rest := []) c125_34 (by decide +kernel) (by decide +kernel) (by decide +kernel) (by decide) rfl rfl (Nat.le_of_ble_eq_true rfl)]
  all_goals try simp only [Int.reduceToNat, lay_167, true_and, Nat.reduceAdd, eq_self_iff_true]
theorem g125_37 {d : Nat} {a1 s0 : Int} {x2 x3 : Option aV} {w : aW} {Q : Option aV → aW → Prop} : T d 125 37 [some (vr 167), some (vi a1), x2, x3] [vi s0] w Q = ((0 ≤ w32 (122 + a1) ∧ w32 (122 + a1) < 4932) ∧ ((s0 < w 168 (w32 (122 + a1)) → T d 125 63 [some (vr 167), some (vi a1), x2, x3] [vi 0] w Q) ∧ (¬ (s0 < w 168 (w32 (122 + a1))) → T d 125 63 [some (vr 167), some (vi a1), x2, x3] [vi 1] w Q))) := by
  rw [T_aload_0 c125_37, T_getR 12 1 1 c125_38 rfl rfl rfl rfl, rf_167_1, T_sipush c125_41, T_iload_1 c125_43, T_iadd c125_44, T_iald c125_45, T_icmp_lt 53 c125_46 rfl, T_sipush c125_53, T_goto 63 c125_54 rfl, T_sipush c125_49, T_goto 63 c125_50 rfl]
  all_goals try simp only [Int.reduceToNat, lay_167, ld_168, true_and, Nat.reduceAdd, eq_self_iff_true]
theorem g125_63 {d : Nat} {s0 : Int} {x0 x1 x2 x3 : Option aV} {w : aW} {Q : Option aV → aW → Prop} : T d 125 63 [x0, x1, x2, x3] [vi s0] w Q = ((s0 = 0 ∨ s0 = 1) ∧ Q (some (vi s0)) w) := by
  rw [T_iretz c125_63 (by decide +kernel)]
  all_goals try simp only [true_and, Nat.reduceAdd, eq_self_iff_true]
/-! 126: StringHands.hasString.(I)Z -/
theorem c126_0 : cd 126 0 = some (.iload 1, 1) := by decide +kernel
theorem c126_1 : cd 126 1 = some (.ifCond .lt 19, 3) := by decide +kernel
theorem c126_4 : cd 126 4 = some (.iload 1, 1) := by decide +kernel
theorem c126_5 : cd 126 5 = some (.aload 0, 1) := by decide +kernel
theorem c126_6 : cd 126 6 = some (.getfield 2850, 3) := by decide +kernel
theorem c126_9 : cd 126 9 = some (.getfield 2056, 3) := by decide +kernel
theorem c126_12 : cd 126 12 = some (.if_icmp .ge 19, 3) := by decide +kernel
theorem c126_15 : cd 126 15 = some (.sipush 1, 1) := by decide +kernel
theorem c126_16 : cd 126 16 = some (.goto 20, 3) := by decide +kernel
theorem c126_19 : cd 126 19 = some (.sipush 0, 1) := by decide +kernel
theorem c126_20 : cd 126 20 = some (.ireturn, 1) := by decide +kernel
theorem g126_0 {d : Nat} {a1 : Int} {w : aW} {Q : Option aV → aW → Prop} : T d 126 0 [some (vr 0), some (vi a1)] [] w Q = ((a1 < 0 → T d 126 19 [some (vr 0), some (vi a1)] [] w Q) ∧ (¬ (a1 < 0) → ((w 69 2 ≤ a1 → T d 126 19 [some (vr 0), some (vi a1)] [] w Q) ∧ (¬ (w 69 2 ≤ a1) → T d 126 20 [some (vr 0), some (vi a1)] [vi 1] w Q)))) := by
  rw [T_iload_1 c126_0, T_if_lt 19 c126_1 rfl, T_iload_1 c126_4, T_aload_0 c126_5, T_getR 11 8 8 c126_6 rfl rfl rfl rfl, rf_0_8, T_getI 8 2 2 c126_9 rfl rfl rfl rfl, T_icmp_ge 19 c126_12 rfl, T_sipush c126_15, T_goto 20 c126_16 rfl]
  all_goals try simp only [Int.reduceToNat, lay_0, lay_69, true_and, Nat.reduceAdd, eq_self_iff_true]
theorem g126_19 {d : Nat} {x0 x1 : Option aV} {w : aW} {Q : Option aV → aW → Prop} : T d 126 19 [x0, x1] [] w Q = T d 126 20 [x0, x1] [vi 0] w Q := by
  rw [T_sipush c126_19]
  all_goals try simp only [true_and, Nat.reduceAdd, eq_self_iff_true]
theorem g126_20 {d : Nat} {s0 : Int} {x0 x1 : Option aV} {w : aW} {Q : Option aV → aW → Prop} : T d 126 20 [x0, x1] [vi s0] w Q = ((s0 = 0 ∨ s0 = 1) ∧ Q (some (vi s0)) w) := by
  rw [T_iretz c126_20 (by decide +kernel)]
  all_goals try simp only [true_and, Nat.reduceAdd, eq_self_iff_true]
/-! 127: StringHandsModel.isString.(J)Z -/
theorem c127_0 : cd 127 0 = some (.lload 1, 1) := by decide +kernel
theorem c127_1 : cd 127 1 = some (.bipush 0, 1) := by decide +kernel
theorem c127_2 : cd 127 2 = some (.aload 0, 1) := by decide +kernel
theorem c127_3 : cd 127 3 = some (.getfield 3078, 3) := by decide +kernel
theorem c127_6 : cd 127 6 = some (.sipush 3, 1) := by decide +kernel
theorem c127_7 : cd 127 7 = some (.iaload, 1) := by decide +kernel
theorem c127_8 : cd 127 8 = some (.sipush 1, 1) := by decide +kernel
theorem c127_9 : cd 127 9 = some (.isub, 1) := by decide +kernel
theorem c127_10 : cd 127 10 = some (.i2l, 1) := by decide +kernel
theorem c127_11 : cd 127 11 = some (.invokestatic 105, 3) := by decide +kernel
theorem c127_14 : cd 127 14 = some (.ireturn, 1) := by decide +kernel
theorem g127_0 {d : Nat} {b1 : Int} {w : aW} {Q : Option aV → aW → Prop} : T (d + 1) 127 0 [some (vr 167), some (vl b1), none] [] w Q = T d 105 0 [some (vl b1), none, some (vl 0), none, some (vl (w32 ((w 168 3) - 1))), none] [] w (fun r w1 => T (d + 1) 127 14 [some (vr 167), some (vl b1), none] (r.toList ++ []) w1 Q) := by
  rw [T_lload_1 c127_0, T_bipush c127_1, T_aload_0 c127_2, T_getR 12 1 1 c127_3 rfl rfl rfl rfl, rf_167_1, T_sipush c127_6, T_iald c127_7, T_sipush c127_8, T_isub c127_9, T_i2l c127_10, T_inv (es := [some (vl b1), none, some (vl 0), none, some (vl (w32 ((w 168 3) - 1))), none]) (st := [vl (w32 ((w 168 3) - 1)), vl 0, vl b1]) (ks := [1, 1, 1]) (n := 6) (as := [vl b1, vl 0, vl (w32 ((w 168 3) - 1))]) (rest := []) c127_11 (by decide +kernel) (by decide +kernel) rfl rfl (Nat.le_of_ble_eq_true rfl)]
  all_goals try simp only [Int.reduceLE, Int.reduceLT, and_self, lay_167, ld_168, true_and, Nat.reduceAdd, eq_self_iff_true]
theorem g127_14 {d : Nat} {s0 : Int} {x0 x1 x2 : Option aV} {w : aW} {Q : Option aV → aW → Prop} : T d 127 14 [x0, x1, x2] [vi s0] w Q = ((s0 = 0 ∨ s0 = 1) ∧ Q (some (vi s0)) w) := by
  rw [T_iretz c127_14 (by decide +kernel)]
  all_goals try simp only [true_and, Nat.reduceAdd, eq_self_iff_true]
/-! 128: StringHands.remember.()V -/
theorem c128_0 : cd 128 0 = some (.aload 0, 1) := by decide +kernel
theorem c128_1 : cd 128 1 = some (.getfield 2864, 3) := by decide +kernel
theorem c128_4 : cd 128 4 = some (.sipush 10, 2) := by decide +kernel
theorem c128_6 : cd 128 6 = some (.if_icmp .ne 62, 3) := by decide +kernel
theorem c128_9 : cd 128 9 = some (.aload 0, 1) := by decide +kernel
theorem c128_10 : cd 128 10 = some (.getfield 2862, 3) := by decide +kernel
theorem c128_13 : cd 128 13 = some (.sipush 0, 1) := by decide +kernel
theorem c128_14 : cd 128 14 = some (.aaload, 1) := by decide +kernel
theorem c128_15 : cd 128 15 = some (.astore 1, 1) := by decide +kernel
theorem c128_16 : cd 128 16 = some (.sipush 1, 1) := by decide +kernel
theorem c128_17 : cd 128 17 = some (.istore 2, 1) := by decide +kernel
theorem c128_18 : cd 128 18 = some (.iload 2, 1) := by decide +kernel
theorem c128_19 : cd 128 19 = some (.sipush 10, 2) := by decide +kernel
theorem c128_21 : cd 128 21 = some (.if_icmp .ge 44, 3) := by decide +kernel
theorem c128_24 : cd 128 24 = some (.aload 0, 1) := by decide +kernel
theorem c128_25 : cd 128 25 = some (.getfield 2862, 3) := by decide +kernel
theorem c128_28 : cd 128 28 = some (.iload 2, 1) := by decide +kernel
theorem c128_29 : cd 128 29 = some (.sipush 1, 1) := by decide +kernel
theorem c128_30 : cd 128 30 = some (.isub, 1) := by decide +kernel
theorem c128_31 : cd 128 31 = some (.aload 0, 1) := by decide +kernel
theorem c128_32 : cd 128 32 = some (.getfield 2862, 3) := by decide +kernel
theorem c128_35 : cd 128 35 = some (.iload 2, 1) := by decide +kernel
theorem c128_36 : cd 128 36 = some (.aaload, 1) := by decide +kernel
theorem c128_37 : cd 128 37 = some (.aastore, 1) := by decide +kernel
theorem c128_38 : cd 128 38 = some (.iinc 2 1, 3) := by decide +kernel
theorem c128_41 : cd 128 41 = some (.goto 18, 3) := by decide +kernel
theorem c128_44 : cd 128 44 = some (.aload 0, 1) := by decide +kernel
theorem c128_45 : cd 128 45 = some (.getfield 2862, 3) := by decide +kernel
theorem c128_48 : cd 128 48 = some (.sipush 9, 2) := by decide +kernel
theorem c128_50 : cd 128 50 = some (.aload 1, 1) := by decide +kernel
theorem c128_51 : cd 128 51 = some (.aastore, 1) := by decide +kernel
theorem c128_52 : cd 128 52 = some (.aload 0, 1) := by decide +kernel
theorem c128_53 : cd 128 53 = some (.dup, 1) := by decide +kernel
theorem c128_54 : cd 128 54 = some (.getfield 2864, 3) := by decide +kernel
theorem c128_57 : cd 128 57 = some (.sipush 1, 1) := by decide +kernel
theorem c128_58 : cd 128 58 = some (.isub, 1) := by decide +kernel
theorem c128_59 : cd 128 59 = some (.putfield 2864, 3) := by decide +kernel
theorem c128_62 : cd 128 62 = some (.aload 0, 1) := by decide +kernel
theorem c128_63 : cd 128 63 = some (.getfield 2862, 3) := by decide +kernel
theorem c128_66 : cd 128 66 = some (.aload 0, 1) := by decide +kernel
theorem c128_67 : cd 128 67 = some (.getfield 2864, 3) := by decide +kernel
theorem c128_70 : cd 128 70 = some (.aaload, 1) := by decide +kernel
theorem c128_71 : cd 128 71 = some (.aload 0, 1) := by decide +kernel
theorem c128_72 : cd 128 72 = some (.getfield 2854, 3) := by decide +kernel
theorem c128_75 : cd 128 75 = some (.invokevirtual 146, 3) := by decide +kernel
theorem c128_78 : cd 128 78 = some (.aload 0, 1) := by decide +kernel
theorem c128_79 : cd 128 79 = some (.dup, 1) := by decide +kernel
theorem c128_80 : cd 128 80 = some (.getfield 2864, 3) := by decide +kernel
theorem c128_83 : cd 128 83 = some (.sipush 1, 1) := by decide +kernel
theorem c128_84 : cd 128 84 = some (.iadd, 1) := by decide +kernel
theorem c128_85 : cd 128 85 = some (.putfield 2864, 3) := by decide +kernel
theorem c128_88 : cd 128 88 = some (.return_, 1) := by decide +kernel
theorem g128_0 {d : Nat} {x1 x2 : Option aV} {w : aW} {Q : Option aV → aW → Prop} : T d 128 0 [some (vr 0), x1, x2] [] w Q = ((¬ w 0 12 = 10 → T d 128 62 [some (vr 0), x1, x2] [] w Q) ∧ (¬ (¬ w 0 12 = 10) → ((isRA 87 0 = true ∧ (87 = 87 → (w 87 0).toNat < 191)) ∧ T d 128 18 [some (vr 0), some (vr (rAt w 87 0)), some (vi 1)] [] w Q))) := by
  rw [T_aload_0 c128_0, T_getI 11 12 12 c128_1 rfl rfl rfl rfl, T_sipush c128_4, T_icmp_ne 62 c128_6 rfl, T_aload_0 c128_9, T_getR 11 11 11 c128_10 rfl rfl rfl rfl, rf_0_11, T_sipush c128_13, T_aald c128_14, T_astore_1 c128_15, T_sipush c128_16, T_istore_2 c128_17]
  all_goals try simp only [Int.reduceToNat, lay_0, true_and, Nat.reduceAdd, eq_self_iff_true]
theorem g128_18 {d : Nat} {a2 : Int} {r1 : Nat} {w : aW} {Q : Option aV → aW → Prop} : T d 128 18 [some (vr 0), some (vr r1), some (vi a2)] [] w Q = ((10 ≤ a2 → ((87 = 87 ∧ inA 87 4 9 = true ∧ lay r1 = (6, 0)) ∧ T d 128 62 [some (vr 0), some (vr r1), some (vi a2)] [] (iup (iup w 87 9 (r1 : Nat)) 0 12 (w32 (((iup w 87 9 (r1 : Nat)) 0 12) - 1))) Q)) ∧ (¬ (10 ≤ a2) → ((isRA 87 a2 = true ∧ (87 = 87 → (w 87 a2).toNat < 191)) ∧ ((87 = 87 ∧ inA 87 4 (w32 (a2 - 1)) = true ∧ lay (rAt w 87 a2) = (6, 0)) ∧ T d 128 18 [some (vr 0), some (vr r1), some (vi (w32 (a2 + 1)))] [] (iup w 87 (w32 (a2 - 1)) ((rAt w 87 a2) : Nat)) Q)))) := by
  rw [T_iload_2 c128_18, T_sipush c128_19, T_icmp_ge 44 c128_21 rfl, T_aload_0 c128_44, T_getR 11 11 11 c128_45 rfl rfl rfl rfl, rf_0_11, T_sipush c128_48, T_aload_1 c128_50, T_aast c128_51, T_aload_0 c128_52, T_dup_r c128_53, T_getI 11 12 12 c128_54 rfl rfl rfl rfl, T_sipush c128_57, T_isub c128_58, T_putI 11 12 12 c128_59 rfl rfl rfl rfl, T_aload_0 c128_24, T_getR 11 11 11 c128_25 rfl rfl rfl rfl, rf_0_11, T_iload_2 c128_28, T_sipush c128_29, T_isub c128_30, T_aload_0 c128_31, T_getR 11 11 11 c128_32 rfl rfl rfl rfl, rf_0_11, T_iload_2 c128_35, T_aald c128_36, T_aast c128_37, T_iinc_2 c128_38, T_goto 18 c128_41 rfl]
  all_goals try simp only [Int.reduceToNat, lay_0, true_and, Nat.reduceAdd, eq_self_iff_true]
theorem g128_62 {d : Nat} {x1 x2 : Option aV} {w : aW} {Q : Option aV → aW → Prop} : T (d + 1) 128 62 [some (vr 0), x1, x2] [] w Q = ((isRA 87 (w 0 12) = true ∧ (87 = 87 → (w 87 (w 0 12)).toNat < 191)) ∧ (lay (rAt w 87 (w 0 12)) = (6, 0) ∧ T d 146 0 [some (vr (rAt w 87 (w 0 12))), some (vr 79)] [] w (fun r w1 => T (d + 1) 128 78 [some (vr 0), x1, x2] (r.toList ++ []) w1 Q))) := by
  rw [T_aload_0 c128_62, T_getR 11 11 11 c128_63 rfl rfl rfl rfl, rf_0_11, T_aload_0 c128_66, T_getI 11 12 12 c128_67 rfl rfl rfl rfl, T_aald c128_70, T_aload_0 c128_71, T_getR 11 9 9 c128_72 rfl rfl rfl rfl, rf_0_9, T_invv (es := [some (vr (rAt w 87 (w 0 12))), some (vr 79)]) (st := [vr 79, vr (rAt w 87 (w 0 12))]) (ks := [2, 2]) (n := 2) (c := 6) (k := (rAt w 87 (w 0 12))) (as := [vr 79]) (rest := []) c128_75 (by decide +kernel) (by decide +kernel) (by decide +kernel) (by decide) rfl rfl (Nat.le_of_ble_eq_true rfl)]
  all_goals try simp only [lay_0, true_and, Nat.reduceAdd, eq_self_iff_true]
theorem g128_78 {d : Nat} {x1 x2 : Option aV} {w : aW} {Q : Option aV → aW → Prop} : T d 128 78 [some (vr 0), x1, x2] [] w Q = Q none (iup w 0 12 (w32 ((w 0 12) + 1))) := by
  rw [T_aload_0 c128_78, T_dup_r c128_79, T_getI 11 12 12 c128_80 rfl rfl rfl rfl, T_sipush c128_83, T_iadd c128_84, T_putI 11 12 12 c128_85 rfl rfl rfl rfl, T_vret c128_88 (by decide +kernel)]
  all_goals try simp only [lay_0, true_and, Nat.reduceAdd, eq_self_iff_true]
/-! 129: StringHandsModel.keeps.()V -/
theorem c129_0 : cd 129 0 = some (.sipush 0, 1) := by decide +kernel
theorem c129_1 : cd 129 1 = some (.istore 1, 1) := by decide +kernel
theorem c129_2 : cd 129 2 = some (.iload 1, 1) := by decide +kernel
theorem c129_3 : cd 129 3 = some (.sipush 59, 2) := by decide +kernel
theorem c129_5 : cd 129 5 = some (.if_icmp .ge 28, 3) := by decide +kernel
theorem c129_8 : cd 129 8 = some (.aload 0, 1) := by decide +kernel
theorem c129_9 : cd 129 9 = some (.getfield 3138, 3) := by decide +kernel
theorem c129_12 : cd 129 12 = some (.iload 1, 1) := by decide +kernel
theorem c129_13 : cd 129 13 = some (.aload 0, 1) := by decide +kernel
theorem c129_14 : cd 129 14 = some (.getfield 3078, 3) := by decide +kernel
theorem c129_17 : cd 129 17 = some (.sipush 5, 1) := by decide +kernel
theorem c129_18 : cd 129 18 = some (.iload 1, 1) := by decide +kernel
theorem c129_19 : cd 129 19 = some (.iadd, 1) := by decide +kernel
theorem c129_20 : cd 129 20 = some (.iaload, 1) := by decide +kernel
theorem c129_21 : cd 129 21 = some (.iastore, 1) := by decide +kernel
theorem c129_22 : cd 129 22 = some (.iinc 1 1, 3) := by decide +kernel
theorem c129_25 : cd 129 25 = some (.goto 2, 3) := by decide +kernel
theorem c129_28 : cd 129 28 = some (.return_, 1) := by decide +kernel
theorem g129_0 {d : Nat} {x0 x1 : Option aV} {w : aW} {Q : Option aV → aW → Prop} : T d 129 0 [x0, x1] [] w Q = T d 129 2 [x0, some (vi 0)] [] w Q := by
  rw [T_sipush c129_0, T_istore_1 c129_1]
  all_goals try simp only [true_and, Nat.reduceAdd, eq_self_iff_true]
theorem g129_2 {d : Nat} {a1 : Int} {w : aW} {Q : Option aV → aW → Prop} : T d 129 2 [some (vr 167), some (vi a1)] [] w Q = ((59 ≤ a1 → Q none w) ∧ (¬ (59 ≤ a1) → ((0 ≤ w32 (5 + a1) ∧ w32 (5 + a1) < 4932) ∧ ((0 ≤ a1 ∧ a1 < 59) ∧ T d 129 2 [some (vr 167), some (vi (w32 (a1 + 1)))] [] (iup w 173 a1 (w 168 (w32 (5 + a1)))) Q)))) := by
  rw [T_iload_1 c129_2, T_sipush c129_3, T_icmp_ge 28 c129_5 rfl, T_vret c129_28 (by decide +kernel), T_aload_0 c129_8, T_getR 12 16 16 c129_9 rfl rfl rfl rfl, rf_167_16, T_iload_1 c129_12, T_aload_0 c129_13, T_getR 12 1 1 c129_14 rfl rfl rfl rfl, rf_167_1, T_sipush c129_17, T_iload_1 c129_18, T_iadd c129_19, T_iald c129_20, T_iast c129_21, T_iinc_1 c129_22, T_goto 2 c129_25 rfl]
  all_goals try simp only [Int.reduceToNat, ia0_173, lay_167, ld_168, true_and, Nat.reduceAdd, eq_self_iff_true]
/-! 130: StringHandsModel.notes.()V -/
theorem c130_0 : cd 130 0 = some (.aload 0, 1) := by decide +kernel
theorem c130_1 : cd 130 1 = some (.getfield 3078, 3) := by decide +kernel
theorem c130_4 : cd 130 4 = some (.sipush 152, 3) := by decide +kernel
theorem c130_7 : cd 130 7 = some (.iaload, 1) := by decide +kernel
theorem c130_8 : cd 130 8 = some (.sipush 10, 2) := by decide +kernel
theorem c130_10 : cd 130 10 = some (.if_icmp .ne 60, 3) := by decide +kernel
theorem c130_13 : cd 130 13 = some (.sipush 0, 1) := by decide +kernel
theorem c130_14 : cd 130 14 = some (.istore 1, 1) := by decide +kernel
theorem c130_15 : cd 130 15 = some (.iload 1, 1) := by decide +kernel
theorem c130_16 : cd 130 16 = some (.sipush 531, 3) := by decide +kernel
theorem c130_19 : cd 130 19 = some (.if_icmp .ge 48, 3) := by decide +kernel
theorem c130_22 : cd 130 22 = some (.aload 0, 1) := by decide +kernel
theorem c130_23 : cd 130 23 = some (.getfield 3078, 3) := by decide +kernel
theorem c130_26 : cd 130 26 = some (.sipush 153, 3) := by decide +kernel
theorem c130_29 : cd 130 29 = some (.iload 1, 1) := by decide +kernel
theorem c130_30 : cd 130 30 = some (.iadd, 1) := by decide +kernel
theorem c130_31 : cd 130 31 = some (.aload 0, 1) := by decide +kernel
theorem c130_32 : cd 130 32 = some (.getfield 3078, 3) := by decide +kernel
theorem c130_35 : cd 130 35 = some (.sipush 212, 3) := by decide +kernel
theorem c130_38 : cd 130 38 = some (.iload 1, 1) := by decide +kernel
theorem c130_39 : cd 130 39 = some (.iadd, 1) := by decide +kernel
theorem c130_40 : cd 130 40 = some (.iaload, 1) := by decide +kernel
theorem c130_41 : cd 130 41 = some (.iastore, 1) := by decide +kernel
theorem c130_42 : cd 130 42 = some (.iinc 1 1, 3) := by decide +kernel
theorem c130_45 : cd 130 45 = some (.goto 15, 3) := by decide +kernel
theorem c130_48 : cd 130 48 = some (.aload 0, 1) := by decide +kernel
theorem c130_49 : cd 130 49 = some (.getfield 3078, 3) := by decide +kernel
theorem c130_52 : cd 130 52 = some (.sipush 152, 3) := by decide +kernel
theorem c130_55 : cd 130 55 = some (.dup2, 1) := by decide +kernel
theorem c130_56 : cd 130 56 = some (.iaload, 1) := by decide +kernel
theorem c130_57 : cd 130 57 = some (.sipush 1, 1) := by decide +kernel
theorem c130_58 : cd 130 58 = some (.isub, 1) := by decide +kernel
theorem c130_59 : cd 130 59 = some (.iastore, 1) := by decide +kernel
theorem c130_60 : cd 130 60 = some (.sipush 0, 1) := by decide +kernel
theorem c130_61 : cd 130 61 = some (.istore 1, 1) := by decide +kernel
theorem c130_62 : cd 130 62 = some (.iload 1, 1) := by decide +kernel
theorem c130_63 : cd 130 63 = some (.sipush 59, 2) := by decide +kernel
theorem c130_65 : cd 130 65 = some (.if_icmp .ge 102, 3) := by decide +kernel
theorem c130_68 : cd 130 68 = some (.aload 0, 1) := by decide +kernel
theorem c130_69 : cd 130 69 = some (.getfield 3078, 3) := by decide +kernel
theorem c130_72 : cd 130 72 = some (.sipush 153, 3) := by decide +kernel
theorem c130_75 : cd 130 75 = some (.sipush 59, 2) := by decide +kernel
theorem c130_77 : cd 130 77 = some (.aload 0, 1) := by decide +kernel
theorem c130_78 : cd 130 78 = some (.getfield 3078, 3) := by decide +kernel
theorem c130_81 : cd 130 81 = some (.sipush 152, 3) := by decide +kernel
theorem c130_84 : cd 130 84 = some (.iaload, 1) := by decide +kernel
theorem c130_85 : cd 130 85 = some (.imul, 1) := by decide +kernel
theorem c130_86 : cd 130 86 = some (.iadd, 1) := by decide +kernel
theorem c130_87 : cd 130 87 = some (.iload 1, 1) := by decide +kernel
theorem c130_88 : cd 130 88 = some (.iadd, 1) := by decide +kernel
theorem c130_89 : cd 130 89 = some (.aload 0, 1) := by decide +kernel
theorem c130_90 : cd 130 90 = some (.getfield 3138, 3) := by decide +kernel
theorem c130_93 : cd 130 93 = some (.iload 1, 1) := by decide +kernel
theorem c130_94 : cd 130 94 = some (.iaload, 1) := by decide +kernel
theorem c130_95 : cd 130 95 = some (.iastore, 1) := by decide +kernel
theorem c130_96 : cd 130 96 = some (.iinc 1 1, 3) := by decide +kernel
theorem c130_99 : cd 130 99 = some (.goto 62, 3) := by decide +kernel
theorem c130_102 : cd 130 102 = some (.aload 0, 1) := by decide +kernel
theorem c130_103 : cd 130 103 = some (.getfield 3078, 3) := by decide +kernel
theorem c130_106 : cd 130 106 = some (.sipush 152, 3) := by decide +kernel
theorem c130_109 : cd 130 109 = some (.dup2, 1) := by decide +kernel
theorem c130_110 : cd 130 110 = some (.iaload, 1) := by decide +kernel
theorem c130_111 : cd 130 111 = some (.sipush 1, 1) := by decide +kernel
theorem c130_112 : cd 130 112 = some (.iadd, 1) := by decide +kernel
theorem c130_113 : cd 130 113 = some (.iastore, 1) := by decide +kernel
theorem c130_114 : cd 130 114 = some (.return_, 1) := by decide +kernel
theorem g130_0 {d : Nat} {x1 : Option aV} {w : aW} {Q : Option aV → aW → Prop} : T d 130 0 [some (vr 167), x1] [] w Q = ((¬ w 168 152 = 10 → T d 130 60 [some (vr 167), x1] [] w Q) ∧ (¬ (¬ w 168 152 = 10) → T d 130 15 [some (vr 167), some (vi 0)] [] w Q)) := by
  rw [T_aload_0 c130_0, T_getR 12 1 1 c130_1 rfl rfl rfl rfl, rf_167_1, T_sipush c130_4, T_iald c130_7, T_sipush c130_8, T_icmp_ne 60 c130_10 rfl, T_sipush c130_13, T_istore_1 c130_14]
  all_goals try simp only [Int.reduceLE, Int.reduceLT, Int.reduceToNat, and_self, lay_167, ld_168, true_and, Nat.reduceAdd, eq_self_iff_true]
theorem g130_15 {d : Nat} {a1 : Int} {w : aW} {Q : Option aV → aW → Prop} : T d 130 15 [some (vr 167), some (vi a1)] [] w Q = ((531 ≤ a1 → T d 130 60 [some (vr 167), some (vi a1)] [] (iup w 168 152 (w32 ((w 168 152) - 1))) Q) ∧ (¬ (531 ≤ a1) → ((0 ≤ w32 (212 + a1) ∧ w32 (212 + a1) < 4932) ∧ ((0 ≤ w32 (153 + a1) ∧ w32 (153 + a1) < 4932) ∧ T d 130 15 [some (vr 167), some (vi (w32 (a1 + 1)))] [] (iup w 168 (w32 (153 + a1)) (w 168 (w32 (212 + a1)))) Q)))) := by
  rw [T_iload_1 c130_15, T_sipush c130_16, T_icmp_ge 48 c130_19 rfl, T_aload_0 c130_48, T_getR 12 1 1 c130_49 rfl rfl rfl rfl, rf_167_1, T_sipush c130_52, T_dup2 c130_55, T_iald c130_56, T_sipush c130_57, T_isub c130_58, T_iast c130_59, T_aload_0 c130_22, T_getR 12 1 1 c130_23 rfl rfl rfl rfl, rf_167_1, T_sipush c130_26, T_iload_1 c130_29, T_iadd c130_30, T_aload_0 c130_31, T_getR 12 1 1 c130_32 rfl rfl rfl rfl, rf_167_1, T_sipush c130_35, T_iload_1 c130_38, T_iadd c130_39, T_iald c130_40, T_iast c130_41, T_iinc_1 c130_42, T_goto 15 c130_45 rfl]
  all_goals try simp only [Int.reduceLE, Int.reduceLT, Int.reduceToNat, and_self, ia0_168, lay_167, ld_168, true_and, Nat.reduceAdd, eq_self_iff_true]
theorem g130_60 {d : Nat} {x0 x1 : Option aV} {w : aW} {Q : Option aV → aW → Prop} : T d 130 60 [x0, x1] [] w Q = T d 130 62 [x0, some (vi 0)] [] w Q := by
  rw [T_sipush c130_60, T_istore_1 c130_61]
  all_goals try simp only [true_and, Nat.reduceAdd, eq_self_iff_true]
theorem g130_62 {d : Nat} {a1 : Int} {w : aW} {Q : Option aV → aW → Prop} : T d 130 62 [some (vr 167), some (vi a1)] [] w Q = ((59 ≤ a1 → Q none (iup w 168 152 (w32 ((w 168 152) + 1)))) ∧ (¬ (59 ≤ a1) → ((0 ≤ a1 ∧ a1 < 59) ∧ ((0 ≤ w32 ((w32 (153 + (w32 (59 * (w 168 152))))) + a1) ∧ w32 ((w32 (153 + (w32 (59 * (w 168 152))))) + a1) < 4932) ∧ T d 130 62 [some (vr 167), some (vi (w32 (a1 + 1)))] [] (iup w 168 (w32 ((w32 (153 + (w32 (59 * (w 168 152))))) + a1)) (w 173 a1)) Q)))) := by
  rw [T_iload_1 c130_62, T_sipush c130_63, T_icmp_ge 102 c130_65 rfl, T_aload_0 c130_102, T_getR 12 1 1 c130_103 rfl rfl rfl rfl, rf_167_1, T_sipush c130_106, T_dup2 c130_109, T_iald c130_110, T_sipush c130_111, T_iadd c130_112, T_iast c130_113, T_vret c130_114 (by decide +kernel), T_aload_0 c130_68, T_getR 12 1 1 c130_69 rfl rfl rfl rfl, rf_167_1, T_sipush c130_72, T_sipush c130_75, T_aload_0 c130_77, T_getR 12 1 1 c130_78 rfl rfl rfl rfl, rf_167_1, T_sipush c130_81, T_iald c130_84, T_imul c130_85, T_iadd c130_86, T_iload_1 c130_87, T_iadd c130_88, T_aload_0 c130_89, T_getR 12 16 16 c130_90 rfl rfl rfl rfl, rf_167_16, T_iload_1 c130_93, T_iald c130_94, T_iast c130_95, T_iinc_1 c130_96, T_goto 62 c130_99 rfl]
  all_goals try simp only [Int.reduceLE, Int.reduceLT, Int.reduceToNat, and_self, ia0_168, lay_167, ld_168, ld_173, true_and, Nat.reduceAdd, eq_self_iff_true]
/-! 131: StringHands.hasPose.(I)Z -/
theorem c131_0 : cd 131 0 = some (.iload 1, 1) := by decide +kernel
theorem c131_1 : cd 131 1 = some (.aload 0, 1) := by decide +kernel
theorem c131_2 : cd 131 2 = some (.getfield 2850, 3) := by decide +kernel
theorem c131_5 : cd 131 5 = some (.invokevirtual 190, 3) := by decide +kernel
theorem c131_8 : cd 131 8 = some (.sipush (-1), 1) := by decide +kernel
theorem c131_9 : cd 131 9 = some (.ixor, 1) := by decide +kernel
theorem c131_10 : cd 131 10 = some (.iand, 1) := by decide +kernel
theorem c131_11 : cd 131 11 = some (.ifCond .ne 18, 3) := by decide +kernel
theorem c131_14 : cd 131 14 = some (.sipush 1, 1) := by decide +kernel
theorem c131_15 : cd 131 15 = some (.goto 19, 3) := by decide +kernel
theorem c131_18 : cd 131 18 = some (.sipush 0, 1) := by decide +kernel
theorem c131_19 : cd 131 19 = some (.ireturn, 1) := by decide +kernel
theorem g131_0 {d : Nat} {a1 : Int} {w : aW} {Q : Option aV → aW → Prop} : T (d + 1) 131 0 [some (vr 0), some (vi a1)] [] w Q = T d 190 0 [some (vr 69)] [] w (fun r w1 => T (d + 1) 131 8 [some (vr 0), some (vi a1)] (r.toList ++ [vi a1]) w1 Q) := by
  rw [T_iload_1 c131_0, T_aload_0 c131_1, T_getR 11 8 8 c131_2 rfl rfl rfl rfl, rf_0_8, T_invv (es := [some (vr 69)]) (st := [vr 69, vi a1]) (ks := [2]) (n := 1) (c := 8) (k := 69) (as := []) (rest := [vi a1]) c131_5 (by decide +kernel) (by decide +kernel) (by decide +kernel) (by decide) rfl rfl (Nat.le_of_ble_eq_true rfl)]
  all_goals try simp only [lay_0, lay_69, true_and, Nat.reduceAdd, eq_self_iff_true]
theorem g131_8 {d : Nat} {s0 s1 : Int} {x0 x1 : Option aV} {w : aW} {Q : Option aV → aW → Prop} : T d 131 8 [x0, x1] [vi s1, vi s0] w Q = ((¬ jand s0 (jxor s1 (-1)) = 0 → T d 131 19 [x0, x1] [vi 0] w Q) ∧ (¬ (¬ jand s0 (jxor s1 (-1)) = 0) → T d 131 19 [x0, x1] [vi 1] w Q)) := by
  rw [T_sipush c131_8, T_ixor c131_9, T_iand c131_10, T_if_ne 18 c131_11 rfl, T_sipush c131_18, T_sipush c131_14, T_goto 19 c131_15 rfl]
  all_goals try simp only [Int.reduceToNat, true_and, Nat.reduceAdd, eq_self_iff_true]
theorem g131_19 {d : Nat} {s0 : Int} {x0 x1 : Option aV} {w : aW} {Q : Option aV → aW → Prop} : T d 131 19 [x0, x1] [vi s0] w Q = ((s0 = 0 ∨ s0 = 1) ∧ Q (some (vi s0)) w) := by
  rw [T_iretz c131_19 (by decide +kernel)]
  all_goals try simp only [true_and, Nat.reduceAdd, eq_self_iff_true]
/-! 132: java/lang/Integer.bitCount.(I)I -/
theorem c132_0 : cd 132 0 = some (.iload 0, 1) := by decide +kernel
theorem c132_1 : cd 132 1 = some (.iload 0, 1) := by decide +kernel
theorem c132_2 : cd 132 2 = some (.sipush 1, 1) := by decide +kernel
theorem c132_3 : cd 132 3 = some (.iushr, 1) := by decide +kernel
theorem c132_4 : cd 132 4 = some (.sipush 1431655765, 3) := by decide +kernel
theorem c132_7 : cd 132 7 = some (.iand, 1) := by decide +kernel
theorem c132_8 : cd 132 8 = some (.isub, 1) := by decide +kernel
theorem c132_9 : cd 132 9 = some (.istore 0, 1) := by decide +kernel
theorem c132_10 : cd 132 10 = some (.iload 0, 1) := by decide +kernel
theorem c132_11 : cd 132 11 = some (.sipush 858993459, 3) := by decide +kernel
theorem c132_14 : cd 132 14 = some (.iand, 1) := by decide +kernel
theorem c132_15 : cd 132 15 = some (.iload 0, 1) := by decide +kernel
theorem c132_16 : cd 132 16 = some (.sipush 2, 1) := by decide +kernel
theorem c132_17 : cd 132 17 = some (.iushr, 1) := by decide +kernel
theorem c132_18 : cd 132 18 = some (.sipush 858993459, 3) := by decide +kernel
theorem c132_21 : cd 132 21 = some (.iand, 1) := by decide +kernel
theorem c132_22 : cd 132 22 = some (.iadd, 1) := by decide +kernel
theorem c132_23 : cd 132 23 = some (.istore 0, 1) := by decide +kernel
theorem c132_24 : cd 132 24 = some (.iload 0, 1) := by decide +kernel
theorem c132_25 : cd 132 25 = some (.iload 0, 1) := by decide +kernel
theorem c132_26 : cd 132 26 = some (.sipush 4, 1) := by decide +kernel
theorem c132_27 : cd 132 27 = some (.iushr, 1) := by decide +kernel
theorem c132_28 : cd 132 28 = some (.iadd, 1) := by decide +kernel
theorem c132_29 : cd 132 29 = some (.sipush 252645135, 3) := by decide +kernel
theorem c132_32 : cd 132 32 = some (.iand, 1) := by decide +kernel
theorem c132_33 : cd 132 33 = some (.istore 0, 1) := by decide +kernel
theorem c132_34 : cd 132 34 = some (.iload 0, 1) := by decide +kernel
theorem c132_35 : cd 132 35 = some (.iload 0, 1) := by decide +kernel
theorem c132_36 : cd 132 36 = some (.sipush 8, 2) := by decide +kernel
theorem c132_38 : cd 132 38 = some (.iushr, 1) := by decide +kernel
theorem c132_39 : cd 132 39 = some (.iadd, 1) := by decide +kernel
theorem c132_40 : cd 132 40 = some (.istore 0, 1) := by decide +kernel
theorem c132_41 : cd 132 41 = some (.iload 0, 1) := by decide +kernel
theorem c132_42 : cd 132 42 = some (.iload 0, 1) := by decide +kernel
theorem c132_43 : cd 132 43 = some (.sipush 16, 2) := by decide +kernel
theorem c132_45 : cd 132 45 = some (.iushr, 1) := by decide +kernel
theorem c132_46 : cd 132 46 = some (.iadd, 1) := by decide +kernel
theorem c132_47 : cd 132 47 = some (.istore 0, 1) := by decide +kernel
theorem c132_48 : cd 132 48 = some (.iload 0, 1) := by decide +kernel
theorem c132_49 : cd 132 49 = some (.sipush 63, 2) := by decide +kernel
theorem c132_51 : cd 132 51 = some (.iand, 1) := by decide +kernel
theorem c132_52 : cd 132 52 = some (.ireturn, 1) := by decide +kernel
theorem g132_0 {d : Nat} {a0 : Int} {w : aW} {Q : Option aV → aW → Prop} : T d 132 0 [some (vi a0)] [] w Q = Q (some (vi (jand (w32 ((w32 ((jand (w32 ((w32 ((jand (w32 (a0 - (jand (jushr a0 1) 1431655765))) 858993459) + (jand (jushr (w32 (a0 - (jand (jushr a0 1) 1431655765))) 2) 858993459))) + (jushr (w32 ((jand (w32 (a0 - (jand (jushr a0 1) 1431655765))) 858993459) + (jand (jushr (w32 (a0 - (jand (jushr a0 1) 1431655765))) 2) 858993459))) 4))) 252645135) + (jushr (jand (w32 ((w32 ((jand (w32 (a0 - (jand (jushr a0 1) 1431655765))) 858993459) + (jand (jushr (w32 (a0 - (jand (jushr a0 1) 1431655765))) 2) 858993459))) + (jushr (w32 ((jand (w32 (a0 - (jand (jushr a0 1) 1431655765))) 858993459) + (jand (jushr (w32 (a0 - (jand (jushr a0 1) 1431655765))) 2) 858993459))) 4))) 252645135) 8))) + (jushr (w32 ((jand (w32 ((w32 ((jand (w32 (a0 - (jand (jushr a0 1) 1431655765))) 858993459) + (jand (jushr (w32 (a0 - (jand (jushr a0 1) 1431655765))) 2) 858993459))) + (jushr (w32 ((jand (w32 (a0 - (jand (jushr a0 1) 1431655765))) 858993459) + (jand (jushr (w32 (a0 - (jand (jushr a0 1) 1431655765))) 2) 858993459))) 4))) 252645135) + (jushr (jand (w32 ((w32 ((jand (w32 (a0 - (jand (jushr a0 1) 1431655765))) 858993459) + (jand (jushr (w32 (a0 - (jand (jushr a0 1) 1431655765))) 2) 858993459))) + (jushr (w32 ((jand (w32 (a0 - (jand (jushr a0 1) 1431655765))) 858993459) + (jand (jushr (w32 (a0 - (jand (jushr a0 1) 1431655765))) 2) 858993459))) 4))) 252645135) 8))) 16))) 63))) w := by
  rw [T_iload_0 c132_0, T_iload_0 c132_1, T_sipush c132_2, T_iushr c132_3, T_sipush c132_4, T_iand c132_7, T_isub c132_8, T_istore_0 c132_9, T_iload_0 c132_10, T_sipush c132_11, T_iand c132_14, T_iload_0 c132_15, T_sipush c132_16, T_iushr c132_17, T_sipush c132_18, T_iand c132_21, T_iadd c132_22, T_istore_0 c132_23, T_iload_0 c132_24, T_iload_0 c132_25, T_sipush c132_26, T_iushr c132_27, T_iadd c132_28, T_sipush c132_29, T_iand c132_32, T_istore_0 c132_33, T_iload_0 c132_34, T_iload_0 c132_35, T_sipush c132_36, T_iushr c132_38, T_iadd c132_39, T_istore_0 c132_40, T_iload_0 c132_41, T_iload_0 c132_42, T_sipush c132_43, T_iushr c132_45, T_iadd c132_46, T_istore_0 c132_47, T_iload_0 c132_48, T_sipush c132_49, T_iand c132_51, T_ireti c132_52 (by decide +kernel)]
  all_goals try simp only [true_and, Nat.reduceAdd, eq_self_iff_true]
/-! 133: StringHandsModel.isPose.(J)Z -/
theorem c133_0 : cd 133 0 = some (.lload 1, 1) := by decide +kernel
theorem c133_1 : cd 133 1 = some (.bipush 0, 1) := by decide +kernel
theorem c133_2 : cd 133 2 = some (.bipush 1, 1) := by decide +kernel
theorem c133_3 : cd 133 3 = some (.aload 0, 1) := by decide +kernel
theorem c133_4 : cd 133 4 = some (.getfield 3078, 3) := by decide +kernel
theorem c133_7 : cd 133 7 = some (.sipush 2, 1) := by decide +kernel
theorem c133_8 : cd 133 8 = some (.iaload, 1) := by decide +kernel
theorem c133_9 : cd 133 9 = some (.lshl, 1) := by decide +kernel
theorem c133_10 : cd 133 10 = some (.bipush 1, 1) := by decide +kernel
theorem c133_11 : cd 133 11 = some (.lsub, 1) := by decide +kernel
theorem c133_12 : cd 133 12 = some (.invokestatic 105, 3) := by decide +kernel
theorem c133_15 : cd 133 15 = some (.ireturn, 1) := by decide +kernel
theorem g133_0 {d : Nat} {b1 : Int} {w : aW} {Q : Option aV → aW → Prop} : T (d + 1) 133 0 [some (vr 167), some (vl b1), none] [] w Q = T d 105 0 [some (vl b1), none, some (vl 0), none, some (vl (w64 ((kshl 1 (w 168 2)) - 1))), none] [] w (fun r w1 => T (d + 1) 133 15 [some (vr 167), some (vl b1), none] (r.toList ++ []) w1 Q) := by
  rw [T_lload_1 c133_0, T_bipush c133_1, T_bipush c133_2, T_aload_0 c133_3, T_getR 12 1 1 c133_4 rfl rfl rfl rfl, rf_167_1, T_sipush c133_7, T_iald c133_8, T_lshl c133_9, T_bipush c133_10, T_lsub c133_11, T_inv (es := [some (vl b1), none, some (vl 0), none, some (vl (w64 ((kshl 1 (w 168 2)) - 1))), none]) (st := [vl (w64 ((kshl 1 (w 168 2)) - 1)), vl 0, vl b1]) (ks := [1, 1, 1]) (n := 6) (as := [vl b1, vl 0, vl (w64 ((kshl 1 (w 168 2)) - 1))]) (rest := []) c133_12 (by decide +kernel) (by decide +kernel) rfl rfl (Nat.le_of_ble_eq_true rfl)]
  all_goals try simp only [Int.reduceLE, Int.reduceLT, and_self, lay_167, ld_168, true_and, Nat.reduceAdd, eq_self_iff_true]
theorem g133_15 {d : Nat} {s0 : Int} {x0 x1 x2 : Option aV} {w : aW} {Q : Option aV → aW → Prop} : T d 133 15 [x0, x1, x2] [vi s0] w Q = ((s0 = 0 ∨ s0 = 1) ∧ Q (some (vi s0)) w) := by
  rw [T_iretz c133_15 (by decide +kernel)]
  all_goals try simp only [true_and, Nat.reduceAdd, eq_self_iff_true]
/-! 134: StringHandsModel.bitsOf.(I)I -/
theorem c134_0 : cd 134 0 = some (.sipush 0, 1) := by decide +kernel
theorem c134_1 : cd 134 1 = some (.istore 1, 1) := by decide +kernel
theorem c134_2 : cd 134 2 = some (.sipush 0, 1) := by decide +kernel
theorem c134_3 : cd 134 3 = some (.istore 2, 1) := by decide +kernel
theorem c134_4 : cd 134 4 = some (.iload 2, 1) := by decide +kernel
theorem c134_5 : cd 134 5 = some (.sipush 16, 2) := by decide +kernel
theorem c134_7 : cd 134 7 = some (.if_icmp .ge 24, 3) := by decide +kernel
theorem c134_10 : cd 134 10 = some (.iload 1, 1) := by decide +kernel
theorem c134_11 : cd 134 11 = some (.iload 0, 1) := by decide +kernel
theorem c134_12 : cd 134 12 = some (.iload 2, 1) := by decide +kernel
theorem c134_13 : cd 134 13 = some (.ishr, 1) := by decide +kernel
theorem c134_14 : cd 134 14 = some (.sipush 1, 1) := by decide +kernel
theorem c134_15 : cd 134 15 = some (.iand, 1) := by decide +kernel
theorem c134_16 : cd 134 16 = some (.iadd, 1) := by decide +kernel
theorem c134_17 : cd 134 17 = some (.istore 1, 1) := by decide +kernel
theorem c134_18 : cd 134 18 = some (.iinc 2 1, 3) := by decide +kernel
theorem c134_21 : cd 134 21 = some (.goto 4, 3) := by decide +kernel
theorem c134_24 : cd 134 24 = some (.iload 1, 1) := by decide +kernel
theorem c134_25 : cd 134 25 = some (.ireturn, 1) := by decide +kernel
theorem g134_0 {d : Nat} {x0 x1 x2 : Option aV} {w : aW} {Q : Option aV → aW → Prop} : T d 134 0 [x0, x1, x2] [] w Q = T d 134 4 [x0, some (vi 0), some (vi 0)] [] w Q := by
  rw [T_sipush c134_0, T_istore_1 c134_1, T_sipush c134_2, T_istore_2 c134_3]
  all_goals try simp only [true_and, Nat.reduceAdd, eq_self_iff_true]
theorem g134_4 {d : Nat} {a0 a1 a2 : Int} {w : aW} {Q : Option aV → aW → Prop} : T d 134 4 [some (vi a0), some (vi a1), some (vi a2)] [] w Q = ((16 ≤ a2 → Q (some (vi a1)) w) ∧ (¬ (16 ≤ a2) → T d 134 4 [some (vi a0), some (vi (w32 (a1 + (jand (jshr a0 a2) 1)))), some (vi (w32 (a2 + 1)))] [] w Q)) := by
  rw [T_iload_2 c134_4, T_sipush c134_5, T_icmp_ge 24 c134_7 rfl, T_iload_1 c134_24, T_ireti c134_25 (by decide +kernel), T_iload_1 c134_10, T_iload_0 c134_11, T_iload_2 c134_12, T_ishr c134_13, T_sipush c134_14, T_iand c134_15, T_iadd c134_16, T_istore_1 c134_17, T_iinc_2 c134_18, T_goto 4 c134_21 rfl]
  all_goals try simp only [Int.reduceToNat, true_and, Nat.reduceAdd, eq_self_iff_true]
/-! 135: StringHands$Mover.beatOnce.(LStringHands$Troupe;LStringHands$Stage;)I -/
theorem c135_0 : cd 135 0 = some (.aload 0, 1) := by decide +kernel
theorem c135_1 : cd 135 1 = some (.aload 1, 1) := by decide +kernel
theorem c135_2 : cd 135 2 = some (.aload 2, 1) := by decide +kernel
theorem c135_3 : cd 135 3 = some (.aload 2, 1) := by decide +kernel
theorem c135_4 : cd 135 4 = some (.getfield 1536, 3) := by decide +kernel
theorem c135_7 : cd 135 7 = some (.invokevirtual 120, 3) := by decide +kernel
theorem c135_10 : cd 135 10 = some (.istore 3, 1) := by decide +kernel
theorem c135_11 : cd 135 11 = some (.aload 2, 1) := by decide +kernel
theorem c135_12 : cd 135 12 = some (.getfield 1536, 3) := by decide +kernel
theorem c135_15 : cd 135 15 = some (.iload 3, 1) := by decide +kernel
theorem c135_16 : cd 135 16 = some (.ixor, 1) := by decide +kernel
theorem c135_17 : cd 135 17 = some (.istore 4, 2) := by decide +kernel
theorem c135_19 : cd 135 19 = some (.aload 2, 1) := by decide +kernel
theorem c135_20 : cd 135 20 = some (.iload 3, 1) := by decide +kernel
theorem c135_21 : cd 135 21 = some (.putfield 1536, 3) := by decide +kernel
theorem c135_24 : cd 135 24 = some (.sipush 0, 1) := by decide +kernel
theorem c135_25 : cd 135 25 = some (.istore 5, 2) := by decide +kernel
theorem c135_27 : cd 135 27 = some (.iload 5, 2) := by decide +kernel
theorem c135_29 : cd 135 29 = some (.aload 1, 1) := by decide +kernel
theorem c135_30 : cd 135 30 = some (.getfield 2056, 3) := by decide +kernel
theorem c135_33 : cd 135 33 = some (.if_icmp .ge 104, 3) := by decide +kernel
theorem c135_36 : cd 135 36 = some (.aload 2, 1) := by decide +kernel
theorem c135_37 : cd 135 37 = some (.getfield 1540, 3) := by decide +kernel
theorem c135_40 : cd 135 40 = some (.iload 5, 2) := by decide +kernel
theorem c135_42 : cd 135 42 = some (.invokestatic 117, 3) := by decide +kernel
theorem c135_45 : cd 135 45 = some (.sipush 1, 1) := by decide +kernel
theorem c135_46 : cd 135 46 = some (.if_icmp .ne 98, 3) := by decide +kernel
theorem c135_49 : cd 135 49 = some (.aload 2, 1) := by decide +kernel
theorem c135_50 : cd 135 50 = some (.getfield 1550, 3) := by decide +kernel
theorem c135_53 : cd 135 53 = some (.iload 5, 2) := by decide +kernel
theorem c135_55 : cd 135 55 = some (.dup2, 1) := by decide +kernel
theorem c135_56 : cd 135 56 = some (.iaload, 1) := by decide +kernel
theorem c135_57 : cd 135 57 = some (.iload 4, 2) := by decide +kernel
theorem c135_59 : cd 135 59 = some (.aload 2, 1) := by decide +kernel
theorem c135_60 : cd 135 60 = some (.getfield 1546, 3) := by decide +kernel
theorem c135_63 : cd 135 63 = some (.iload 5, 2) := by decide +kernel
theorem c135_65 : cd 135 65 = some (.iaload, 1) := by decide +kernel
theorem c135_66 : cd 135 66 = some (.invokestatic 117, 3) := by decide +kernel
theorem c135_69 : cd 135 69 = some (.iadd, 1) := by decide +kernel
theorem c135_70 : cd 135 70 = some (.iastore, 1) := by decide +kernel
theorem c135_71 : cd 135 71 = some (.aload 1, 1) := by decide +kernel
theorem c135_72 : cd 135 72 = some (.getfield 2064, 3) := by decide +kernel
theorem c135_75 : cd 135 75 = some (.ifCond .le 98, 3) := by decide +kernel
theorem c135_78 : cd 135 78 = some (.aload 2, 1) := by decide +kernel
theorem c135_79 : cd 135 79 = some (.getfield 1550, 3) := by decide +kernel
theorem c135_82 : cd 135 82 = some (.iload 5, 2) := by decide +kernel
theorem c135_84 : cd 135 84 = some (.iaload, 1) := by decide +kernel
theorem c135_85 : cd 135 85 = some (.aload 1, 1) := by decide +kernel
theorem c135_86 : cd 135 86 = some (.getfield 2064, 3) := by decide +kernel
theorem c135_89 : cd 135 89 = some (.if_icmp .lt 98, 3) := by decide +kernel
theorem c135_92 : cd 135 92 = some (.aload 2, 1) := by decide +kernel
theorem c135_93 : cd 135 93 = some (.iload 5, 2) := by decide +kernel
theorem c135_95 : cd 135 95 = some (.invokevirtual 137, 3) := by decide +kernel
theorem c135_98 : cd 135 98 = some (.iinc 5 1, 3) := by decide +kernel
theorem c135_101 : cd 135 101 = some (.goto 27, 3) := by decide +kernel
theorem c135_104 : cd 135 104 = some (.iload 4, 2) := by decide +kernel
theorem c135_106 : cd 135 106 = some (.ireturn, 1) := by decide +kernel
theorem g135_0 {d : Nat} {r2 : Nat} {x3 x4 x5 : Option aV} {w : aW} {Q : Option aV → aW → Prop} : T (d + 1) 135 0 [some (vr 16), some (vr 69), some (vr r2), x3, x4, x5] [] w Q = (lay r2 = (6, 0) ∧ T d 120 0 [some (vr 16), some (vr 69), some (vr r2), some (vi (w r2 0)), none, none, none] [] w (fun r w1 => T (d + 1) 135 10 [some (vr 16), some (vr 69), some (vr r2), x3, x4, x5] (r.toList ++ []) w1 Q)) := by
  rw [T_aload_0 c135_0, T_aload_1 c135_1, T_aload_2 c135_2, T_aload_2 c135_3, T_getI 6 0 0 c135_4 rfl rfl rfl rfl, T_invv (es := [some (vr 16), some (vr 69), some (vr r2), some (vi (w r2 0)), none, none, none]) (st := [vi (w r2 0), vr r2, vr 69, vr 16]) (ks := [2, 2, 2, 0]) (n := 7) (c := 2) (k := 16) (as := [vr 69, vr r2, vi (w r2 0)]) (rest := []) c135_7 (by decide +kernel) (by decide +kernel) (by decide +kernel) (by decide) rfl rfl (Nat.le_of_ble_eq_true rfl)]
  all_goals try simp only [lay_16, true_and, Nat.reduceAdd, eq_self_iff_true]
theorem g135_10 {d : Nat} {s0 : Int} {r2 : Nat} {x0 x1 x3 x4 x5 : Option aV} {w : aW} {Q : Option aV → aW → Prop} : T d 135 10 [x0, x1, some (vr r2), x3, x4, x5] [vi s0] w Q = (lay r2 = (6, 0) ∧ ((lay r2 = (6, 0)) ∧ T d 135 27 [x0, x1, some (vr r2), some (vi s0), some (vi (jxor (w r2 0) s0)), some (vi 0)] [] (iup w r2 0 s0) Q)) := by
  rw [T_istore_3 c135_10, T_aload_2 c135_11, T_getI 6 0 0 c135_12 rfl rfl rfl rfl, T_iload_3 c135_15, T_ixor c135_16, T_istore_4 c135_17, T_aload_2 c135_19, T_iload_3 c135_20, T_putI 6 0 0 c135_21 rfl rfl rfl rfl, T_sipush c135_24, T_istore_5 c135_25]
  all_goals try simp only [true_and, Nat.reduceAdd, eq_self_iff_true]
theorem g135_27 {d : Nat} {a4 a5 : Int} {r2 : Nat} {x0 x3 : Option aV} {w : aW} {Q : Option aV → aW → Prop} : T (d + 1) 135 27 [x0, some (vr 69), some (vr r2), x3, some (vi a4), some (vi a5)] [] w Q = ((w 69 2 ≤ a5 → Q (some (vi a4)) w) ∧ (¬ (w 69 2 ≤ a5) → (lay r2 = (6, 0) ∧ T d 117 0 [some (vi (w r2 1)), some (vi a5)] [] w (fun r w1 => T (d + 1) 135 45 [x0, some (vr 69), some (vr r2), x3, some (vi a4), some (vi a5)] (r.toList ++ []) w1 Q)))) := by
  rw [T_iload_5 c135_27, T_aload_1 c135_29, T_getI 8 2 2 c135_30 rfl rfl rfl rfl, T_icmp_ge 104 c135_33 rfl, T_iload_4 c135_104, T_ireti c135_106 (by decide +kernel), T_aload_2 c135_36, T_getI 6 1 1 c135_37 rfl rfl rfl rfl, T_iload_5 c135_40, T_inv (es := [some (vi (w r2 1)), some (vi a5)]) (st := [vi a5, vi (w r2 1)]) (ks := [0, 0]) (n := 2) (as := [vi (w r2 1), vi a5]) (rest := []) c135_42 (by decide +kernel) (by decide +kernel) rfl rfl (Nat.le_of_ble_eq_true rfl)]
  all_goals try simp only [Int.reduceToNat, lay_69, true_and, Nat.reduceAdd, eq_self_iff_true]
theorem g135_45 {d : Nat} {a4 a5 s0 : Int} {r2 : Nat} {x0 x1 x3 : Option aV} {w : aW} {Q : Option aV → aW → Prop} : T (d + 1) 135 45 [x0, x1, some (vr r2), x3, some (vi a4), some (vi a5)] [vi s0] w Q = ((¬ s0 = 1 → T (d + 1) 135 98 [x0, x1, some (vr r2), x3, some (vi a4), some (vi a5)] [] w Q) ∧ (¬ (¬ s0 = 1) → (lay r2 = (6, 0) ∧ (ldok (rfA r2 3) a5 w ∧ (lay r2 = (6, 0) ∧ (ldok (rfA r2 2) a5 w ∧ T d 117 0 [some (vi a4), some (vi (w (rfA r2 2) a5))] [] w (fun r w1 => T (d + 1) 135 69 [x0, x1, some (vr r2), x3, some (vi a4), some (vi a5)] (r.toList ++ [vi (w (rfA r2 3) a5), vi a5, vr (rfA r2 3)]) w1 Q))))))) := by
  rw [T_sipush c135_45, T_icmp_ne 98 c135_46 rfl, T_aload_2 c135_49, T_getR 6 3 3 c135_50 rfl rfl rfl rfl, T_iload_5 c135_53, T_dup2 c135_55, T_iald c135_56, T_iload_4 c135_57, T_aload_2 c135_59, T_getR 6 2 2 c135_60 rfl rfl rfl rfl, T_iload_5 c135_63, T_iald c135_65, T_inv (es := [some (vi a4), some (vi (w (rfA r2 2) a5))]) (st := [vi (w (rfA r2 2) a5), vi a4, vi (w (rfA r2 3) a5), vi a5, vr (rfA r2 3)]) (ks := [0, 0]) (n := 2) (as := [vi a4, vi (w (rfA r2 2) a5)]) (rest := [vi (w (rfA r2 3) a5), vi a5, vr (rfA r2 3)]) c135_66 (by decide +kernel) (by decide +kernel) rfl rfl (Nat.le_of_ble_eq_true rfl)]
  all_goals try simp only [Int.reduceToNat, true_and, Nat.reduceAdd, eq_self_iff_true]
theorem g135_69 {d : Nat} {a5 s1 s2 s3 : Int} {r2 s0 : Nat} {x0 x3 x4 : Option aV} {w : aW} {Q : Option aV → aW → Prop} : T (d + 1) 135 69 [x0, some (vr 69), some (vr r2), x3, x4, some (vi a5)] [vi s3, vi s2, vi s1, vr s0] w Q = (inA s0 0 s1 = true ∧ (((iup w s0 s1 (w32 (s2 + s3))) 69 4 ≤ 0 → T (d + 1) 135 98 [x0, some (vr 69), some (vr r2), x3, x4, some (vi a5)] [] (iup w s0 s1 (w32 (s2 + s3))) Q) ∧ (¬ ((iup w s0 s1 (w32 (s2 + s3))) 69 4 ≤ 0) → (lay r2 = (6, 0) ∧ (ldok (rfA r2 3) a5 (iup w s0 s1 (w32 (s2 + s3))) ∧ (((iup w s0 s1 (w32 (s2 + s3))) (rfA r2 3) a5 < (iup w s0 s1 (w32 (s2 + s3))) 69 4 → T (d + 1) 135 98 [x0, some (vr 69), some (vr r2), x3, x4, some (vi a5)] [] (iup w s0 s1 (w32 (s2 + s3))) Q) ∧ (¬ ((iup w s0 s1 (w32 (s2 + s3))) (rfA r2 3) a5 < (iup w s0 s1 (w32 (s2 + s3))) 69 4) → (lay r2 = (6, 0) ∧ T d 137 0 [some (vr r2), some (vi a5)] [] (iup w s0 s1 (w32 (s2 + s3))) (fun r w1 => T (d + 1) 135 98 [x0, some (vr 69), some (vr r2), x3, x4, some (vi a5)] (r.toList ++ []) w1 Q))))))))) := by
  rw [T_iadd c135_69, T_iast c135_70, T_aload_1 c135_71, T_getI 8 4 4 c135_72 rfl rfl rfl rfl, T_if_le 98 c135_75 rfl, T_aload_2 c135_78, T_getR 6 3 3 c135_79 rfl rfl rfl rfl, T_iload_5 c135_82, T_iald c135_84, T_aload_1 c135_85, T_getI 8 4 4 c135_86 rfl rfl rfl rfl, T_icmp_lt 98 c135_89 rfl, T_aload_2 c135_92, T_iload_5 c135_93, T_invv (es := [some (vr r2), some (vi a5)]) (st := [vi a5, vr r2]) (ks := [2, 0]) (n := 2) (c := 6) (k := r2) (as := [vi a5]) (rest := []) c135_95 (by decide +kernel) (by decide +kernel) (by decide +kernel) (by decide) rfl rfl (Nat.le_of_ble_eq_true rfl)]
  all_goals try simp only [Int.reduceToNat, lay_69, true_and, Nat.reduceAdd, eq_self_iff_true]
theorem g135_98 {d : Nat} {a5 : Int} {x0 x1 x2 x3 x4 : Option aV} {w : aW} {Q : Option aV → aW → Prop} : T d 135 98 [x0, x1, x2, x3, x4, some (vi a5)] [] w Q = T d 135 27 [x0, x1, x2, x3, x4, some (vi (w32 (a5 + 1)))] [] w Q := by
  rw [T_iinc_5 c135_98, T_goto 27 c135_101 rfl]
  all_goals try simp only [true_and, Nat.reduceAdd, eq_self_iff_true]
/-! 136: StringHandsModel.beats.()I -/
theorem c136_0 : cd 136 0 = some (.aload 0, 1) := by decide +kernel
theorem c136_1 : cd 136 1 = some (.aload 0, 1) := by decide +kernel
theorem c136_2 : cd 136 2 = some (.getfield 3078, 3) := by decide +kernel
theorem c136_5 : cd 136 5 = some (.sipush 5, 1) := by decide +kernel
theorem c136_6 : cd 136 6 = some (.iaload, 1) := by decide +kernel
theorem c136_7 : cd 136 7 = some (.invokevirtual 154, 3) := by decide +kernel
theorem c136_10 : cd 136 10 = some (.istore 1, 1) := by decide +kernel
theorem c136_11 : cd 136 11 = some (.iload 1, 1) := by decide +kernel
theorem c136_12 : cd 136 12 = some (.aload 0, 1) := by decide +kernel
theorem c136_13 : cd 136 13 = some (.getfield 3078, 3) := by decide +kernel
theorem c136_16 : cd 136 16 = some (.sipush 5, 1) := by decide +kernel
theorem c136_17 : cd 136 17 = some (.iaload, 1) := by decide +kernel
theorem c136_18 : cd 136 18 = some (.ixor, 1) := by decide +kernel
theorem c136_19 : cd 136 19 = some (.istore 2, 1) := by decide +kernel
theorem c136_20 : cd 136 20 = some (.sipush 0, 1) := by decide +kernel
theorem c136_21 : cd 136 21 = some (.istore 3, 1) := by decide +kernel
theorem c136_22 : cd 136 22 = some (.iload 3, 1) := by decide +kernel
theorem c136_23 : cd 136 23 = some (.aload 0, 1) := by decide +kernel
theorem c136_24 : cd 136 24 = some (.getfield 3078, 3) := by decide +kernel
theorem c136_27 : cd 136 27 = some (.sipush 3, 1) := by decide +kernel
theorem c136_28 : cd 136 28 = some (.iaload, 1) := by decide +kernel
theorem c136_29 : cd 136 29 = some (.if_icmp .ge 79, 3) := by decide +kernel
theorem c136_32 : cd 136 32 = some (.aload 0, 1) := by decide +kernel
theorem c136_33 : cd 136 33 = some (.iload 3, 1) := by decide +kernel
theorem c136_34 : cd 136 34 = some (.invokevirtual 138, 3) := by decide +kernel
theorem c136_37 : cd 136 37 = some (.ifCond .eq 73, 3) := by decide +kernel
theorem c136_40 : cd 136 40 = some (.iload 2, 1) := by decide +kernel
theorem c136_41 : cd 136 41 = some (.i2l, 1) := by decide +kernel
theorem c136_42 : cd 136 42 = some (.aload 0, 1) := by decide +kernel
theorem c136_43 : cd 136 43 = some (.getfield 3078, 3) := by decide +kernel
theorem c136_46 : cd 136 46 = some (.sipush 6, 2) := by decide +kernel
theorem c136_48 : cd 136 48 = some (.iload 3, 1) := by decide +kernel
theorem c136_49 : cd 136 49 = some (.iadd, 1) := by decide +kernel
theorem c136_50 : cd 136 50 = some (.iaload, 1) := by decide +kernel
theorem c136_51 : cd 136 51 = some (.invokestatic 230, 3) := by decide +kernel
theorem c136_54 : cd 136 54 = some (.ifCond .ne 60, 3) := by decide +kernel
theorem c136_57 : cd 136 57 = some (.goto 73, 3) := by decide +kernel
theorem c136_60 : cd 136 60 = some (.aload 0, 1) := by decide +kernel
theorem c136_61 : cd 136 61 = some (.getfield 3078, 3) := by decide +kernel
theorem c136_64 : cd 136 64 = some (.sipush 38, 2) := by decide +kernel
theorem c136_66 : cd 136 66 = some (.iload 3, 1) := by decide +kernel
theorem c136_67 : cd 136 67 = some (.iadd, 1) := by decide +kernel
theorem c136_68 : cd 136 68 = some (.dup2, 1) := by decide +kernel
theorem c136_69 : cd 136 69 = some (.iaload, 1) := by decide +kernel
theorem c136_70 : cd 136 70 = some (.sipush 1, 1) := by decide +kernel
theorem c136_71 : cd 136 71 = some (.iadd, 1) := by decide +kernel
theorem c136_72 : cd 136 72 = some (.iastore, 1) := by decide +kernel
theorem c136_73 : cd 136 73 = some (.iinc 3 1, 3) := by decide +kernel
theorem c136_76 : cd 136 76 = some (.goto 22, 3) := by decide +kernel
theorem c136_79 : cd 136 79 = some (.sipush 0, 1) := by decide +kernel
theorem c136_80 : cd 136 80 = some (.istore 3, 1) := by decide +kernel
theorem c136_81 : cd 136 81 = some (.iload 3, 1) := by decide +kernel
theorem c136_82 : cd 136 82 = some (.aload 0, 1) := by decide +kernel
theorem c136_83 : cd 136 83 = some (.getfield 3078, 3) := by decide +kernel
theorem c136_86 : cd 136 86 = some (.sipush 3, 1) := by decide +kernel
theorem c136_87 : cd 136 87 = some (.iaload, 1) := by decide +kernel
theorem c136_88 : cd 136 88 = some (.if_icmp .ge 142, 3) := by decide +kernel
theorem c136_91 : cd 136 91 = some (.aload 0, 1) := by decide +kernel
theorem c136_92 : cd 136 92 = some (.iload 3, 1) := by decide +kernel
theorem c136_93 : cd 136 93 = some (.invokevirtual 138, 3) := by decide +kernel
theorem c136_96 : cd 136 96 = some (.ifCond .eq 136, 3) := by decide +kernel
theorem c136_99 : cd 136 99 = some (.aload 0, 1) := by decide +kernel
theorem c136_100 : cd 136 100 = some (.getfield 3078, 3) := by decide +kernel
theorem c136_103 : cd 136 103 = some (.sipush 4, 1) := by decide +kernel
theorem c136_104 : cd 136 104 = some (.iaload, 1) := by decide +kernel
theorem c136_105 : cd 136 105 = some (.ifCond .le 136, 3) := by decide +kernel
theorem c136_108 : cd 136 108 = some (.aload 0, 1) := by decide +kernel
theorem c136_109 : cd 136 109 = some (.getfield 3078, 3) := by decide +kernel
theorem c136_112 : cd 136 112 = some (.sipush 38, 2) := by decide +kernel
theorem c136_114 : cd 136 114 = some (.iload 3, 1) := by decide +kernel
theorem c136_115 : cd 136 115 = some (.iadd, 1) := by decide +kernel
theorem c136_116 : cd 136 116 = some (.iaload, 1) := by decide +kernel
theorem c136_117 : cd 136 117 = some (.aload 0, 1) := by decide +kernel
theorem c136_118 : cd 136 118 = some (.getfield 3078, 3) := by decide +kernel
theorem c136_121 : cd 136 121 = some (.sipush 4, 1) := by decide +kernel
theorem c136_122 : cd 136 122 = some (.iaload, 1) := by decide +kernel
theorem c136_123 : cd 136 123 = some (.if_icmp .lt 136, 3) := by decide +kernel
theorem c136_126 : cd 136 126 = some (.aload 0, 1) := by decide +kernel
theorem c136_127 : cd 136 127 = some (.getfield 3078, 3) := by decide +kernel
theorem c136_130 : cd 136 130 = some (.sipush 22, 2) := by decide +kernel
theorem c136_132 : cd 136 132 = some (.iload 3, 1) := by decide +kernel
theorem c136_133 : cd 136 133 = some (.iadd, 1) := by decide +kernel
theorem c136_134 : cd 136 134 = some (.sipush 0, 1) := by decide +kernel
theorem c136_135 : cd 136 135 = some (.iastore, 1) := by decide +kernel
theorem c136_136 : cd 136 136 = some (.iinc 3 1, 3) := by decide +kernel
theorem c136_139 : cd 136 139 = some (.goto 81, 3) := by decide +kernel
theorem c136_142 : cd 136 142 = some (.aload 0, 1) := by decide +kernel
theorem c136_143 : cd 136 143 = some (.getfield 3078, 3) := by decide +kernel
theorem c136_146 : cd 136 146 = some (.sipush 5, 1) := by decide +kernel
theorem c136_147 : cd 136 147 = some (.iload 1, 1) := by decide +kernel
theorem c136_148 : cd 136 148 = some (.iastore, 1) := by decide +kernel
theorem c136_149 : cd 136 149 = some (.iload 2, 1) := by decide +kernel
theorem c136_150 : cd 136 150 = some (.invokestatic 134, 3) := by decide +kernel
theorem c136_153 : cd 136 153 = some (.ireturn, 1) := by decide +kernel
theorem g136_0 {d : Nat} {x1 x2 x3 : Option aV} {w : aW} {Q : Option aV → aW → Prop} : T (d + 1) 136 0 [some (vr 167), x1, x2, x3] [] w Q = T d 154 0 [some (vr 167), some (vi (w 168 5)), none, none] [] w (fun r w1 => T (d + 1) 136 10 [some (vr 167), x1, x2, x3] (r.toList ++ []) w1 Q) := by
  rw [T_aload_0 c136_0, T_aload_0 c136_1, T_getR 12 1 1 c136_2 rfl rfl rfl rfl, rf_167_1, T_sipush c136_5, T_iald c136_6, T_invv (es := [some (vr 167), some (vi (w 168 5)), none, none]) (st := [vi (w 168 5), vr 167]) (ks := [2, 0]) (n := 4) (c := 12) (k := 167) (as := [vi (w 168 5)]) (rest := []) c136_7 (by decide +kernel) (by decide +kernel) (by decide +kernel) (by decide) rfl rfl (Nat.le_of_ble_eq_true rfl)]
  all_goals try simp only [Int.reduceLE, Int.reduceLT, and_self, lay_167, ld_168, true_and, Nat.reduceAdd, eq_self_iff_true]
theorem g136_10 {d : Nat} {s0 : Int} {x1 x2 x3 : Option aV} {w : aW} {Q : Option aV → aW → Prop} : T d 136 10 [some (vr 167), x1, x2, x3] [vi s0] w Q = T d 136 22 [some (vr 167), some (vi s0), some (vi (jxor s0 (w 168 5))), some (vi 0)] [] w Q := by
  rw [T_istore_1 c136_10, T_iload_1 c136_11, T_aload_0 c136_12, T_getR 12 1 1 c136_13 rfl rfl rfl rfl, rf_167_1, T_sipush c136_16, T_iald c136_17, T_ixor c136_18, T_istore_2 c136_19, T_sipush c136_20, T_istore_3 c136_21]
  all_goals try simp only [Int.reduceLE, Int.reduceLT, and_self, lay_167, ld_168, true_and, Nat.reduceAdd, eq_self_iff_true]
theorem g136_22 {d : Nat} {a3 : Int} {x1 x2 : Option aV} {w : aW} {Q : Option aV → aW → Prop} : T (d + 1) 136 22 [some (vr 167), x1, x2, some (vi a3)] [] w Q = ((w 168 3 ≤ a3 → T (d + 1) 136 81 [some (vr 167), x1, x2, some (vi 0)] [] w Q) ∧ (¬ (w 168 3 ≤ a3) → T d 138 0 [some (vr 167), some (vi a3)] [] w (fun r w1 => T (d + 1) 136 37 [some (vr 167), x1, x2, some (vi a3)] (r.toList ++ []) w1 Q))) := by
  rw [T_iload_3 c136_22, T_aload_0 c136_23, T_getR 12 1 1 c136_24 rfl rfl rfl rfl, rf_167_1, T_sipush c136_27, T_iald c136_28, T_icmp_ge 79 c136_29 rfl, T_sipush c136_79, T_istore_3 c136_80, T_aload_0 c136_32, T_iload_3 c136_33, T_invv (es := [some (vr 167), some (vi a3)]) (st := [vi a3, vr 167]) (ks := [2, 0]) (n := 2) (c := 12) (k := 167) (as := [vi a3]) (rest := []) c136_34 (by decide +kernel) (by decide +kernel) (by decide +kernel) (by decide) rfl rfl (Nat.le_of_ble_eq_true rfl)]
  all_goals try simp only [Int.reduceLE, Int.reduceLT, Int.reduceToNat, and_self, lay_167, ld_168, true_and, Nat.reduceAdd, eq_self_iff_true]
theorem g136_37 {d : Nat} {a2 a3 s0 : Int} {x1 : Option aV} {w : aW} {Q : Option aV → aW → Prop} : T (d + 1) 136 37 [some (vr 167), x1, some (vi a2), some (vi a3)] [vi s0] w Q = ((s0 = 0 → T (d + 1) 136 73 [some (vr 167), x1, some (vi a2), some (vi a3)] [] w Q) ∧ (¬ (s0 = 0) → ((0 ≤ w32 (6 + a3) ∧ w32 (6 + a3) < 4932) ∧ T d 230 0 [some (vl a2), none, some (vi (w 168 (w32 (6 + a3))))] [] w (fun r w1 => T (d + 1) 136 54 [some (vr 167), x1, some (vi a2), some (vi a3)] (r.toList ++ []) w1 Q)))) := by
  rw [T_if_eq 73 c136_37 rfl, T_iload_2 c136_40, T_i2l c136_41, T_aload_0 c136_42, T_getR 12 1 1 c136_43 rfl rfl rfl rfl, rf_167_1, T_sipush c136_46, T_iload_3 c136_48, T_iadd c136_49, T_iald c136_50, T_inv (es := [some (vl a2), none, some (vi (w 168 (w32 (6 + a3))))]) (st := [vi (w 168 (w32 (6 + a3))), vl a2]) (ks := [1, 0]) (n := 3) (as := [vl a2, vi (w 168 (w32 (6 + a3)))]) (rest := []) c136_51 (by decide +kernel) (by decide +kernel) rfl rfl (Nat.le_of_ble_eq_true rfl)]
  all_goals try simp only [Int.reduceToNat, lay_167, ld_168, true_and, Nat.reduceAdd, eq_self_iff_true]
theorem g136_54 {d : Nat} {a3 s0 : Int} {x1 x2 : Option aV} {w : aW} {Q : Option aV → aW → Prop} : T d 136 54 [some (vr 167), x1, x2, some (vi a3)] [vi s0] w Q = ((¬ s0 = 0 → ((0 ≤ w32 (38 + a3) ∧ w32 (38 + a3) < 4932) ∧ ((0 ≤ w32 (38 + a3) ∧ w32 (38 + a3) < 4932) ∧ T d 136 73 [some (vr 167), x1, x2, some (vi a3)] [] (iup w 168 (w32 (38 + a3)) (w32 ((w 168 (w32 (38 + a3))) + 1))) Q))) ∧ (¬ (¬ s0 = 0) → T d 136 73 [some (vr 167), x1, x2, some (vi a3)] [] w Q)) := by
  rw [T_if_ne 60 c136_54 rfl, T_aload_0 c136_60, T_getR 12 1 1 c136_61 rfl rfl rfl rfl, rf_167_1, T_sipush c136_64, T_iload_3 c136_66, T_iadd c136_67, T_dup2 c136_68, T_iald c136_69, T_sipush c136_70, T_iadd c136_71, T_iast c136_72, T_goto 73 c136_57 rfl]
  all_goals try simp only [Int.reduceToNat, ia0_168, lay_167, ld_168, true_and, Nat.reduceAdd, eq_self_iff_true]
theorem g136_73 {d : Nat} {a3 : Int} {x0 x1 x2 : Option aV} {w : aW} {Q : Option aV → aW → Prop} : T d 136 73 [x0, x1, x2, some (vi a3)] [] w Q = T d 136 22 [x0, x1, x2, some (vi (w32 (a3 + 1)))] [] w Q := by
  rw [T_iinc_3 c136_73, T_goto 22 c136_76 rfl]
  all_goals try simp only [true_and, Nat.reduceAdd, eq_self_iff_true]
theorem g136_81 {d : Nat} {a1 a2 a3 : Int} {w : aW} {Q : Option aV → aW → Prop} : T (d + 1) 136 81 [some (vr 167), some (vi a1), some (vi a2), some (vi a3)] [] w Q = ((w 168 3 ≤ a3 → T d 134 0 [some (vi a2), none, none] [] (iup w 168 5 a1) (fun r w1 => T (d + 1) 136 153 [some (vr 167), some (vi a1), some (vi a2), some (vi a3)] (r.toList ++ []) w1 Q)) ∧ (¬ (w 168 3 ≤ a3) → T d 138 0 [some (vr 167), some (vi a3)] [] w (fun r w1 => T (d + 1) 136 96 [some (vr 167), some (vi a1), some (vi a2), some (vi a3)] (r.toList ++ []) w1 Q))) := by
  rw [T_iload_3 c136_81, T_aload_0 c136_82, T_getR 12 1 1 c136_83 rfl rfl rfl rfl, rf_167_1, T_sipush c136_86, T_iald c136_87, T_icmp_ge 142 c136_88 rfl, T_aload_0 c136_142, T_getR 12 1 1 c136_143 rfl rfl rfl rfl, rf_167_1, T_sipush c136_146, T_iload_1 c136_147, T_iast c136_148, T_iload_2 c136_149, T_inv (es := [some (vi a2), none, none]) (st := [vi a2]) (ks := [0]) (n := 3) (as := [vi a2]) (rest := []) c136_150 (by decide +kernel) (by decide +kernel) rfl rfl (Nat.le_of_ble_eq_true rfl), T_aload_0 c136_91, T_iload_3 c136_92, T_invv (es := [some (vr 167), some (vi a3)]) (st := [vi a3, vr 167]) (ks := [2, 0]) (n := 2) (c := 12) (k := 167) (as := [vi a3]) (rest := []) c136_93 (by decide +kernel) (by decide +kernel) (by decide +kernel) (by decide) rfl rfl (Nat.le_of_ble_eq_true rfl)]
  all_goals try simp only [Int.reduceLE, Int.reduceLT, Int.reduceToNat, and_self, ia0_168, lay_167, ld_168, true_and, Nat.reduceAdd, eq_self_iff_true]
theorem g136_96 {d : Nat} {a3 s0 : Int} {x1 x2 : Option aV} {w : aW} {Q : Option aV → aW → Prop} : T d 136 96 [some (vr 167), x1, x2, some (vi a3)] [vi s0] w Q = ((s0 = 0 → T d 136 136 [some (vr 167), x1, x2, some (vi a3)] [] w Q) ∧ (¬ (s0 = 0) → ((w 168 4 ≤ 0 → T d 136 136 [some (vr 167), x1, x2, some (vi a3)] [] w Q) ∧ (¬ (w 168 4 ≤ 0) → ((0 ≤ w32 (38 + a3) ∧ w32 (38 + a3) < 4932) ∧ ((w 168 (w32 (38 + a3)) < w 168 4 → T d 136 136 [some (vr 167), x1, x2, some (vi a3)] [] w Q) ∧ (¬ (w 168 (w32 (38 + a3)) < w 168 4) → ((0 ≤ w32 (22 + a3) ∧ w32 (22 + a3) < 4932) ∧ T d 136 136 [some (vr 167), x1, x2, some (vi a3)] [] (iup w 168 (w32 (22 + a3)) 0) Q)))))))) := by
  rw [T_if_eq 136 c136_96 rfl, T_aload_0 c136_99, T_getR 12 1 1 c136_100 rfl rfl rfl rfl, rf_167_1, T_sipush c136_103, T_iald c136_104, T_if_le 136 c136_105 rfl, T_aload_0 c136_108, T_getR 12 1 1 c136_109 rfl rfl rfl rfl, rf_167_1, T_sipush c136_112, T_iload_3 c136_114, T_iadd c136_115, T_iald c136_116, T_aload_0 c136_117, T_getR 12 1 1 c136_118 rfl rfl rfl rfl, rf_167_1, T_sipush c136_121, T_iald c136_122, T_icmp_lt 136 c136_123 rfl, T_aload_0 c136_126, T_getR 12 1 1 c136_127 rfl rfl rfl rfl, rf_167_1, T_sipush c136_130, T_iload_3 c136_132, T_iadd c136_133, T_sipush c136_134, T_iast c136_135]
  all_goals try simp only [Int.reduceLE, Int.reduceLT, Int.reduceToNat, and_self, ia0_168, lay_167, ld_168, true_and, Nat.reduceAdd, eq_self_iff_true]
theorem g136_136 {d : Nat} {a3 : Int} {x0 x1 x2 : Option aV} {w : aW} {Q : Option aV → aW → Prop} : T d 136 136 [x0, x1, x2, some (vi a3)] [] w Q = T d 136 81 [x0, x1, x2, some (vi (w32 (a3 + 1)))] [] w Q := by
  rw [T_iinc_3 c136_136, T_goto 81 c136_139 rfl]
  all_goals try simp only [true_and, Nat.reduceAdd, eq_self_iff_true]
theorem g136_153 {d : Nat} {s0 : Int} {x0 x1 x2 x3 : Option aV} {w : aW} {Q : Option aV → aW → Prop} : T d 136 153 [x0, x1, x2, x3] [vi s0] w Q = Q (some (vi s0)) w := by
  rw [T_ireti c136_153 (by decide +kernel)]
  all_goals try simp only [true_and, Nat.reduceAdd, eq_self_iff_true]
/-! 137: StringHands$Stage.cutOne.(I)V -/
theorem c137_0 : cd 137 0 = some (.aload 0, 1) := by decide +kernel
theorem c137_1 : cd 137 1 = some (.dup, 1) := by decide +kernel
theorem c137_2 : cd 137 2 = some (.getfield 1540, 3) := by decide +kernel
theorem c137_5 : cd 137 5 = some (.sipush 1, 1) := by decide +kernel
theorem c137_6 : cd 137 6 = some (.iload 1, 1) := by decide +kernel
theorem c137_7 : cd 137 7 = some (.ishl, 1) := by decide +kernel
theorem c137_8 : cd 137 8 = some (.sipush (-1), 1) := by decide +kernel
theorem c137_9 : cd 137 9 = some (.ixor, 1) := by decide +kernel
theorem c137_10 : cd 137 10 = some (.iand, 1) := by decide +kernel
theorem c137_11 : cd 137 11 = some (.putfield 1540, 3) := by decide +kernel
theorem c137_14 : cd 137 14 = some (.return_, 1) := by decide +kernel
theorem g137_0 {d : Nat} {a1 : Int} {r0 : Nat} {w : aW} {Q : Option aV → aW → Prop} : T d 137 0 [some (vr r0), some (vi a1)] [] w Q = (lay r0 = (6, 0) ∧ ((lay r0 = (6, 0)) ∧ Q none (iup w r0 1 (jand (w r0 1) (jxor (jshl 1 a1) (-1)))))) := by
  rw [T_aload_0 c137_0, T_dup_r c137_1, T_getI 6 1 1 c137_2 rfl rfl rfl rfl, T_sipush c137_5, T_iload_1 c137_6, T_ishl c137_7, T_sipush c137_8, T_ixor c137_9, T_iand c137_10, T_putI 6 1 1 c137_11 rfl rfl rfl rfl, T_vret c137_14 (by decide +kernel)]
  all_goals try simp only [true_and, Nat.reduceAdd, eq_self_iff_true]
/-! 138: StringHandsModel.isWhole.(I)Z -/
theorem c138_0 : cd 138 0 = some (.aload 0, 1) := by decide +kernel
theorem c138_1 : cd 138 1 = some (.getfield 3078, 3) := by decide +kernel
theorem c138_4 : cd 138 4 = some (.sipush 22, 2) := by decide +kernel
theorem c138_6 : cd 138 6 = some (.iload 1, 1) := by decide +kernel
theorem c138_7 : cd 138 7 = some (.iadd, 1) := by decide +kernel
theorem c138_8 : cd 138 8 = some (.iaload, 1) := by decide +kernel
theorem c138_9 : cd 138 9 = some (.sipush 1, 1) := by decide +kernel
theorem c138_10 : cd 138 10 = some (.if_icmp .ne 17, 3) := by decide +kernel
theorem c138_13 : cd 138 13 = some (.sipush 1, 1) := by decide +kernel
theorem c138_14 : cd 138 14 = some (.goto 18, 3) := by decide +kernel
theorem c138_17 : cd 138 17 = some (.sipush 0, 1) := by decide +kernel
theorem c138_18 : cd 138 18 = some (.ireturn, 1) := by decide +kernel
theorem g138_0 {d : Nat} {a1 : Int} {w : aW} {Q : Option aV → aW → Prop} : T d 138 0 [some (vr 167), some (vi a1)] [] w Q = ((0 ≤ w32 (22 + a1) ∧ w32 (22 + a1) < 4932) ∧ ((¬ w 168 (w32 (22 + a1)) = 1 → T d 138 18 [some (vr 167), some (vi a1)] [vi 0] w Q) ∧ (¬ (¬ w 168 (w32 (22 + a1)) = 1) → T d 138 18 [some (vr 167), some (vi a1)] [vi 1] w Q))) := by
  rw [T_aload_0 c138_0, T_getR 12 1 1 c138_1 rfl rfl rfl rfl, rf_167_1, T_sipush c138_4, T_iload_1 c138_6, T_iadd c138_7, T_iald c138_8, T_sipush c138_9, T_icmp_ne 17 c138_10 rfl, T_sipush c138_17, T_sipush c138_13, T_goto 18 c138_14 rfl]
  all_goals try simp only [Int.reduceToNat, lay_167, ld_168, true_and, Nat.reduceAdd, eq_self_iff_true]
theorem g138_18 {d : Nat} {s0 : Int} {x0 x1 : Option aV} {w : aW} {Q : Option aV → aW → Prop} : T d 138 18 [x0, x1] [vi s0] w Q = ((s0 = 0 ∨ s0 = 1) ∧ Q (some (vi s0)) w) := by
  rw [T_iretz c138_18 (by decide +kernel)]
  all_goals try simp only [true_and, Nat.reduceAdd, eq_self_iff_true]
/-! 139: StringHandsModel.wholeMany.()I -/
theorem c139_0 : cd 139 0 = some (.sipush 0, 1) := by decide +kernel
theorem c139_1 : cd 139 1 = some (.istore 1, 1) := by decide +kernel
theorem c139_2 : cd 139 2 = some (.sipush 0, 1) := by decide +kernel
theorem c139_3 : cd 139 3 = some (.istore 2, 1) := by decide +kernel
theorem c139_4 : cd 139 4 = some (.iload 2, 1) := by decide +kernel
theorem c139_5 : cd 139 5 = some (.aload 0, 1) := by decide +kernel
theorem c139_6 : cd 139 6 = some (.getfield 3078, 3) := by decide +kernel
theorem c139_9 : cd 139 9 = some (.sipush 3, 1) := by decide +kernel
theorem c139_10 : cd 139 10 = some (.iaload, 1) := by decide +kernel
theorem c139_11 : cd 139 11 = some (.if_icmp .ge 32, 3) := by decide +kernel
theorem c139_14 : cd 139 14 = some (.iload 1, 1) := by decide +kernel
theorem c139_15 : cd 139 15 = some (.aload 0, 1) := by decide +kernel
theorem c139_16 : cd 139 16 = some (.getfield 3078, 3) := by decide +kernel
theorem c139_19 : cd 139 19 = some (.sipush 22, 2) := by decide +kernel
theorem c139_21 : cd 139 21 = some (.iload 2, 1) := by decide +kernel
theorem c139_22 : cd 139 22 = some (.iadd, 1) := by decide +kernel
theorem c139_23 : cd 139 23 = some (.iaload, 1) := by decide +kernel
theorem c139_24 : cd 139 24 = some (.iadd, 1) := by decide +kernel
theorem c139_25 : cd 139 25 = some (.istore 1, 1) := by decide +kernel
theorem c139_26 : cd 139 26 = some (.iinc 2 1, 3) := by decide +kernel
theorem c139_29 : cd 139 29 = some (.goto 4, 3) := by decide +kernel
theorem c139_32 : cd 139 32 = some (.iload 1, 1) := by decide +kernel
theorem c139_33 : cd 139 33 = some (.ireturn, 1) := by decide +kernel
theorem g139_0 {d : Nat} {x0 x1 x2 : Option aV} {w : aW} {Q : Option aV → aW → Prop} : T d 139 0 [x0, x1, x2] [] w Q = T d 139 4 [x0, some (vi 0), some (vi 0)] [] w Q := by
  rw [T_sipush c139_0, T_istore_1 c139_1, T_sipush c139_2, T_istore_2 c139_3]
  all_goals try simp only [true_and, Nat.reduceAdd, eq_self_iff_true]
theorem g139_4 {d : Nat} {a1 a2 : Int} {w : aW} {Q : Option aV → aW → Prop} : T d 139 4 [some (vr 167), some (vi a1), some (vi a2)] [] w Q = ((w 168 3 ≤ a2 → Q (some (vi a1)) w) ∧ (¬ (w 168 3 ≤ a2) → ((0 ≤ w32 (22 + a2) ∧ w32 (22 + a2) < 4932) ∧ T d 139 4 [some (vr 167), some (vi (w32 (a1 + (w 168 (w32 (22 + a2)))))), some (vi (w32 (a2 + 1)))] [] w Q))) := by
  rw [T_iload_2 c139_4, T_aload_0 c139_5, T_getR 12 1 1 c139_6 rfl rfl rfl rfl, rf_167_1, T_sipush c139_9, T_iald c139_10, T_icmp_ge 32 c139_11 rfl, T_iload_1 c139_32, T_ireti c139_33 (by decide +kernel), T_iload_1 c139_14, T_aload_0 c139_15, T_getR 12 1 1 c139_16 rfl rfl rfl rfl, rf_167_1, T_sipush c139_19, T_iload_2 c139_21, T_iadd c139_22, T_iald c139_23, T_iadd c139_24, T_istore_1 c139_25, T_iinc_2 c139_26, T_goto 4 c139_29 rfl]
  all_goals try simp only [Int.reduceLE, Int.reduceLT, Int.reduceToNat, and_self, lay_167, ld_168, true_and, Nat.reduceAdd, eq_self_iff_true]
/-! 140: StringHands$Stage.tieOne.(I)V -/
theorem c140_0 : cd 140 0 = some (.iload 1, 1) := by decide +kernel
theorem c140_1 : cd 140 1 = some (.ifCond .lt 29, 3) := by decide +kernel
theorem c140_4 : cd 140 4 = some (.iload 1, 1) := by decide +kernel
theorem c140_5 : cd 140 5 = some (.sipush 16, 2) := by decide +kernel
theorem c140_7 : cd 140 7 = some (.if_icmp .ge 29, 3) := by decide +kernel
theorem c140_10 : cd 140 10 = some (.aload 0, 1) := by decide +kernel
theorem c140_11 : cd 140 11 = some (.dup, 1) := by decide +kernel
theorem c140_12 : cd 140 12 = some (.getfield 1540, 3) := by decide +kernel
theorem c140_15 : cd 140 15 = some (.sipush 1, 1) := by decide +kernel
theorem c140_16 : cd 140 16 = some (.iload 1, 1) := by decide +kernel
theorem c140_17 : cd 140 17 = some (.ishl, 1) := by decide +kernel
theorem c140_18 : cd 140 18 = some (.ior, 1) := by decide +kernel
theorem c140_19 : cd 140 19 = some (.putfield 1540, 3) := by decide +kernel
theorem c140_22 : cd 140 22 = some (.aload 0, 1) := by decide +kernel
theorem c140_23 : cd 140 23 = some (.getfield 1550, 3) := by decide +kernel
theorem c140_26 : cd 140 26 = some (.iload 1, 1) := by decide +kernel
theorem c140_27 : cd 140 27 = some (.sipush 0, 1) := by decide +kernel
theorem c140_28 : cd 140 28 = some (.iastore, 1) := by decide +kernel
theorem c140_29 : cd 140 29 = some (.return_, 1) := by decide +kernel
theorem g140_0 {d : Nat} {a1 : Int} {r0 : Nat} {w : aW} {Q : Option aV → aW → Prop} : T d 140 0 [some (vr r0), some (vi a1)] [] w Q = ((a1 < 0 → T d 140 29 [some (vr r0), some (vi a1)] [] w Q) ∧ (¬ (a1 < 0) → ((16 ≤ a1 → T d 140 29 [some (vr r0), some (vi a1)] [] w Q) ∧ (¬ (16 ≤ a1) → (lay r0 = (6, 0) ∧ ((lay r0 = (6, 0)) ∧ (lay r0 = (6, 0) ∧ (inA (rfA r0 3) 0 a1 = true ∧ T d 140 29 [some (vr r0), some (vi a1)] [] (iup (iup w r0 1 (jor (w r0 1) (jshl 1 a1))) (rfA r0 3) a1 0) Q)))))))) := by
  rw [T_iload_1 c140_0, T_if_lt 29 c140_1 rfl, T_iload_1 c140_4, T_sipush c140_5, T_icmp_ge 29 c140_7 rfl, T_aload_0 c140_10, T_dup_r c140_11, T_getI 6 1 1 c140_12 rfl rfl rfl rfl, T_sipush c140_15, T_iload_1 c140_16, T_ishl c140_17, T_ior c140_18, T_putI 6 1 1 c140_19 rfl rfl rfl rfl, T_aload_0 c140_22, T_getR 6 3 3 c140_23 rfl rfl rfl rfl, T_iload_1 c140_26, T_sipush c140_27, T_iast c140_28]
  all_goals try simp only [Int.reduceToNat, true_and, Nat.reduceAdd, eq_self_iff_true]
theorem g140_29 {d : Nat} {x0 x1 : Option aV} {w : aW} {Q : Option aV → aW → Prop} : T d 140 29 [x0, x1] [] w Q = Q none w := by
  rw [T_vret c140_29 (by decide +kernel)]
  all_goals try simp only [true_and, Nat.reduceAdd, eq_self_iff_true]
/-! 141: StringHandsModel.ties.(I)V -/
theorem c141_0 : cd 141 0 = some (.aload 0, 1) := by decide +kernel
theorem c141_1 : cd 141 1 = some (.getfield 3078, 3) := by decide +kernel
theorem c141_4 : cd 141 4 = some (.sipush 22, 2) := by decide +kernel
theorem c141_6 : cd 141 6 = some (.iload 1, 1) := by decide +kernel
theorem c141_7 : cd 141 7 = some (.iadd, 1) := by decide +kernel
theorem c141_8 : cd 141 8 = some (.sipush 1, 1) := by decide +kernel
theorem c141_9 : cd 141 9 = some (.iastore, 1) := by decide +kernel
theorem c141_10 : cd 141 10 = some (.aload 0, 1) := by decide +kernel
theorem c141_11 : cd 141 11 = some (.getfield 3078, 3) := by decide +kernel
theorem c141_14 : cd 141 14 = some (.sipush 38, 2) := by decide +kernel
theorem c141_16 : cd 141 16 = some (.iload 1, 1) := by decide +kernel
theorem c141_17 : cd 141 17 = some (.iadd, 1) := by decide +kernel
theorem c141_18 : cd 141 18 = some (.sipush 0, 1) := by decide +kernel
theorem c141_19 : cd 141 19 = some (.iastore, 1) := by decide +kernel
theorem c141_20 : cd 141 20 = some (.return_, 1) := by decide +kernel
theorem g141_0 {d : Nat} {a1 : Int} {w : aW} {Q : Option aV → aW → Prop} : T d 141 0 [some (vr 167), some (vi a1)] [] w Q = ((0 ≤ w32 (22 + a1) ∧ w32 (22 + a1) < 4932) ∧ ((0 ≤ w32 (38 + a1) ∧ w32 (38 + a1) < 4932) ∧ Q none (iup (iup w 168 (w32 (22 + a1)) 1) 168 (w32 (38 + a1)) 0))) := by
  rw [T_aload_0 c141_0, T_getR 12 1 1 c141_1 rfl rfl rfl rfl, rf_167_1, T_sipush c141_4, T_iload_1 c141_6, T_iadd c141_7, T_sipush c141_8, T_iast c141_9, T_aload_0 c141_10, T_getR 12 1 1 c141_11 rfl rfl rfl rfl, rf_167_1, T_sipush c141_14, T_iload_1 c141_16, T_iadd c141_17, T_sipush c141_18, T_iast c141_19, T_vret c141_20 (by decide +kernel)]
  all_goals try simp only [ia0_168, lay_167, true_and, Nat.reduceAdd, eq_self_iff_true]
/-! 142: StringHands$Stage.swapAt.(II)V -/
theorem c142_0 : cd 142 0 = some (.sipush 0, 1) := by decide +kernel
theorem c142_1 : cd 142 1 = some (.istore 3, 1) := by decide +kernel
theorem c142_2 : cd 142 2 = some (.iload 3, 1) := by decide +kernel
theorem c142_3 : cd 142 3 = some (.iload 2, 1) := by decide +kernel
theorem c142_4 : cd 142 4 = some (.if_icmp .ge 60, 3) := by decide +kernel
theorem c142_7 : cd 142 7 = some (.iload 3, 1) := by decide +kernel
theorem c142_8 : cd 142 8 = some (.sipush 10, 2) := by decide +kernel
theorem c142_10 : cd 142 10 = some (.if_icmp .ge 60, 3) := by decide +kernel
theorem c142_13 : cd 142 13 = some (.aload 0, 1) := by decide +kernel
theorem c142_14 : cd 142 14 = some (.getfield 1554, 3) := by decide +kernel
theorem c142_17 : cd 142 17 = some (.iload 3, 1) := by decide +kernel
theorem c142_18 : cd 142 18 = some (.iaload, 1) := by decide +kernel
theorem c142_19 : cd 142 19 = some (.iload 1, 1) := by decide +kernel
theorem c142_20 : cd 142 20 = some (.if_icmp .ne 35, 3) := by decide +kernel
theorem c142_23 : cd 142 23 = some (.aload 0, 1) := by decide +kernel
theorem c142_24 : cd 142 24 = some (.getfield 1554, 3) := by decide +kernel
theorem c142_27 : cd 142 27 = some (.iload 3, 1) := by decide +kernel
theorem c142_28 : cd 142 28 = some (.iload 1, 1) := by decide +kernel
theorem c142_29 : cd 142 29 = some (.sipush 1, 1) := by decide +kernel
theorem c142_30 : cd 142 30 = some (.iadd, 1) := by decide +kernel
theorem c142_31 : cd 142 31 = some (.iastore, 1) := by decide +kernel
theorem c142_32 : cd 142 32 = some (.goto 54, 3) := by decide +kernel
theorem c142_35 : cd 142 35 = some (.aload 0, 1) := by decide +kernel
theorem c142_36 : cd 142 36 = some (.getfield 1554, 3) := by decide +kernel
theorem c142_39 : cd 142 39 = some (.iload 3, 1) := by decide +kernel
theorem c142_40 : cd 142 40 = some (.iaload, 1) := by decide +kernel
theorem c142_41 : cd 142 41 = some (.iload 1, 1) := by decide +kernel
theorem c142_42 : cd 142 42 = some (.sipush 1, 1) := by decide +kernel
theorem c142_43 : cd 142 43 = some (.iadd, 1) := by decide +kernel
theorem c142_44 : cd 142 44 = some (.if_icmp .ne 54, 3) := by decide +kernel
theorem c142_47 : cd 142 47 = some (.aload 0, 1) := by decide +kernel
theorem c142_48 : cd 142 48 = some (.getfield 1554, 3) := by decide +kernel
theorem c142_51 : cd 142 51 = some (.iload 3, 1) := by decide +kernel
theorem c142_52 : cd 142 52 = some (.iload 1, 1) := by decide +kernel
theorem c142_53 : cd 142 53 = some (.iastore, 1) := by decide +kernel
theorem c142_54 : cd 142 54 = some (.iinc 3 1, 3) := by decide +kernel
theorem c142_57 : cd 142 57 = some (.goto 2, 3) := by decide +kernel
theorem c142_60 : cd 142 60 = some (.return_, 1) := by decide +kernel
theorem g142_0 {d : Nat} {x0 x1 x2 x3 : Option aV} {w : aW} {Q : Option aV → aW → Prop} : T d 142 0 [x0, x1, x2, x3] [] w Q = T d 142 2 [x0, x1, x2, some (vi 0)] [] w Q := by
  rw [T_sipush c142_0, T_istore_3 c142_1]
  all_goals try simp only [true_and, Nat.reduceAdd, eq_self_iff_true]
theorem g142_2 {d : Nat} {a1 a2 a3 : Int} {r0 : Nat} {w : aW} {Q : Option aV → aW → Prop} : T d 142 2 [some (vr r0), some (vi a1), some (vi a2), some (vi a3)] [] w Q = ((a2 ≤ a3 → T d 142 60 [some (vr r0), some (vi a1), some (vi a2), some (vi a3)] [] w Q) ∧ (¬ (a2 ≤ a3) → ((10 ≤ a3 → T d 142 60 [some (vr r0), some (vi a1), some (vi a2), some (vi a3)] [] w Q) ∧ (¬ (10 ≤ a3) → (lay r0 = (6, 0) ∧ (ldok (rfA r0 4) a3 w ∧ ((¬ w (rfA r0 4) a3 = a1 → (lay r0 = (6, 0) ∧ (ldok (rfA r0 4) a3 w ∧ ((¬ w (rfA r0 4) a3 = w32 (a1 + 1) → T d 142 54 [some (vr r0), some (vi a1), some (vi a2), some (vi a3)] [] w Q) ∧ (¬ (¬ w (rfA r0 4) a3 = w32 (a1 + 1)) → (lay r0 = (6, 0) ∧ (inA (rfA r0 4) 0 a3 = true ∧ T d 142 54 [some (vr r0), some (vi a1), some (vi a2), some (vi a3)] [] (iup w (rfA r0 4) a3 a1) Q))))))) ∧ (¬ (¬ w (rfA r0 4) a3 = a1) → (lay r0 = (6, 0) ∧ (inA (rfA r0 4) 0 a3 = true ∧ T d 142 54 [some (vr r0), some (vi a1), some (vi a2), some (vi a3)] [] (iup w (rfA r0 4) a3 (w32 (a1 + 1))) Q)))))))))) := by
  rw [T_iload_3 c142_2, T_iload_2 c142_3, T_icmp_ge 60 c142_4 rfl, T_iload_3 c142_7, T_sipush c142_8, T_icmp_ge 60 c142_10 rfl, T_aload_0 c142_13, T_getR 6 4 4 c142_14 rfl rfl rfl rfl, T_iload_3 c142_17, T_iald c142_18, T_iload_1 c142_19, T_icmp_ne 35 c142_20 rfl, T_aload_0 c142_35, T_getR 6 4 4 c142_36 rfl rfl rfl rfl, T_iload_3 c142_39, T_iald c142_40, T_iload_1 c142_41, T_sipush c142_42, T_iadd c142_43, T_icmp_ne 54 c142_44 rfl, T_aload_0 c142_47, T_getR 6 4 4 c142_48 rfl rfl rfl rfl, T_iload_3 c142_51, T_iload_1 c142_52, T_iast c142_53, T_aload_0 c142_23, T_getR 6 4 4 c142_24 rfl rfl rfl rfl, T_iload_3 c142_27, T_iload_1 c142_28, T_sipush c142_29, T_iadd c142_30, T_iast c142_31, T_goto 54 c142_32 rfl]
  all_goals try simp only [Int.reduceToNat, true_and, Nat.reduceAdd, eq_self_iff_true]
theorem g142_54 {d : Nat} {a3 : Int} {x0 x1 x2 : Option aV} {w : aW} {Q : Option aV → aW → Prop} : T d 142 54 [x0, x1, x2, some (vi a3)] [] w Q = T d 142 2 [x0, x1, x2, some (vi (w32 (a3 + 1)))] [] w Q := by
  rw [T_iinc_3 c142_54, T_goto 2 c142_57 rfl]
  all_goals try simp only [true_and, Nat.reduceAdd, eq_self_iff_true]
theorem g142_60 {d : Nat} {x0 x1 x2 x3 : Option aV} {w : aW} {Q : Option aV → aW → Prop} : T d 142 60 [x0, x1, x2, x3] [] w Q = Q none w := by
  rw [T_vret c142_60 (by decide +kernel)]
  all_goals try simp only [true_and, Nat.reduceAdd, eq_self_iff_true]
/-! 143: StringHands$Tangler.tangled.(LStringHands$Troupe;LStringHands$Stage;)I -/
theorem c143_0 : cd 143 0 = some (.sipush 0, 1) := by decide +kernel
theorem c143_1 : cd 143 1 = some (.istore 3, 1) := by decide +kernel
theorem c143_2 : cd 143 2 = some (.sipush 0, 1) := by decide +kernel
theorem c143_3 : cd 143 3 = some (.istore 4, 2) := by decide +kernel
theorem c143_5 : cd 143 5 = some (.iload 4, 2) := by decide +kernel
theorem c143_7 : cd 143 7 = some (.aload 1, 1) := by decide +kernel
theorem c143_8 : cd 143 8 = some (.getfield 2056, 3) := by decide +kernel
theorem c143_11 : cd 143 11 = some (.if_icmp .ge 79, 3) := by decide +kernel
theorem c143_14 : cd 143 14 = some (.sipush 0, 1) := by decide +kernel
theorem c143_15 : cd 143 15 = some (.istore 5, 2) := by decide +kernel
theorem c143_17 : cd 143 17 = some (.iload 5, 2) := by decide +kernel
theorem c143_19 : cd 143 19 = some (.aload 1, 1) := by decide +kernel
theorem c143_20 : cd 143 20 = some (.getfield 2056, 3) := by decide +kernel
theorem c143_23 : cd 143 23 = some (.if_icmp .ge 73, 3) := by decide +kernel
theorem c143_26 : cd 143 26 = some (.aload 2, 1) := by decide +kernel
theorem c143_27 : cd 143 27 = some (.getfield 1540, 3) := by decide +kernel
theorem c143_30 : cd 143 30 = some (.iload 4, 2) := by decide +kernel
theorem c143_32 : cd 143 32 = some (.invokestatic 117, 3) := by decide +kernel
theorem c143_35 : cd 143 35 = some (.sipush 1, 1) := by decide +kernel
theorem c143_36 : cd 143 36 = some (.if_icmp .ne 67, 3) := by decide +kernel
theorem c143_39 : cd 143 39 = some (.aload 2, 1) := by decide +kernel
theorem c143_40 : cd 143 40 = some (.getfield 1540, 3) := by decide +kernel
theorem c143_43 : cd 143 43 = some (.iload 5, 2) := by decide +kernel
theorem c143_45 : cd 143 45 = some (.invokestatic 117, 3) := by decide +kernel
theorem c143_48 : cd 143 48 = some (.sipush 1, 1) := by decide +kernel
theorem c143_49 : cd 143 49 = some (.if_icmp .ne 67, 3) := by decide +kernel
theorem c143_52 : cd 143 52 = some (.aload 1, 1) := by decide +kernel
theorem c143_53 : cd 143 53 = some (.aload 2, 1) := by decide +kernel
theorem c143_54 : cd 143 54 = some (.iload 4, 2) := by decide +kernel
theorem c143_56 : cd 143 56 = some (.iload 5, 2) := by decide +kernel
theorem c143_58 : cd 143 58 = some (.invokestatic 232, 3) := by decide +kernel
theorem c143_61 : cd 143 61 = some (.ifCond .eq 67, 3) := by decide +kernel
theorem c143_64 : cd 143 64 = some (.iinc 3 1, 3) := by decide +kernel
theorem c143_67 : cd 143 67 = some (.iinc 5 1, 3) := by decide +kernel
theorem c143_70 : cd 143 70 = some (.goto 17, 3) := by decide +kernel
theorem c143_73 : cd 143 73 = some (.iinc 4 1, 3) := by decide +kernel
theorem c143_76 : cd 143 76 = some (.goto 5, 3) := by decide +kernel
theorem c143_79 : cd 143 79 = some (.iload 3, 1) := by decide +kernel
theorem c143_80 : cd 143 80 = some (.ireturn, 1) := by decide +kernel
theorem g143_0 {d : Nat} {x0 x1 x2 x3 x4 x5 : Option aV} {w : aW} {Q : Option aV → aW → Prop} : T d 143 0 [x0, x1, x2, x3, x4, x5] [] w Q = T d 143 5 [x0, x1, x2, some (vi 0), some (vi 0), x5] [] w Q := by
  rw [T_sipush c143_0, T_istore_3 c143_1, T_sipush c143_2, T_istore_4 c143_3]
  all_goals try simp only [true_and, Nat.reduceAdd, eq_self_iff_true]
theorem g143_5 {d : Nat} {a3 a4 : Int} {x0 x2 x5 : Option aV} {w : aW} {Q : Option aV → aW → Prop} : T d 143 5 [x0, some (vr 69), x2, some (vi a3), some (vi a4), x5] [] w Q = ((w 69 2 ≤ a4 → Q (some (vi a3)) w) ∧ (¬ (w 69 2 ≤ a4) → T d 143 17 [x0, some (vr 69), x2, some (vi a3), some (vi a4), some (vi 0)] [] w Q)) := by
  rw [T_iload_4 c143_5, T_aload_1 c143_7, T_getI 8 2 2 c143_8 rfl rfl rfl rfl, T_icmp_ge 79 c143_11 rfl, T_iload_3 c143_79, T_ireti c143_80 (by decide +kernel), T_sipush c143_14, T_istore_5 c143_15]
  all_goals try simp only [Int.reduceToNat, lay_69, true_and, Nat.reduceAdd, eq_self_iff_true]
theorem g143_17 {d : Nat} {a4 a5 : Int} {r2 : Nat} {x0 x3 : Option aV} {w : aW} {Q : Option aV → aW → Prop} : T (d + 1) 143 17 [x0, some (vr 69), some (vr r2), x3, some (vi a4), some (vi a5)] [] w Q = ((w 69 2 ≤ a5 → T (d + 1) 143 5 [x0, some (vr 69), some (vr r2), x3, some (vi (w32 (a4 + 1))), some (vi a5)] [] w Q) ∧ (¬ (w 69 2 ≤ a5) → (lay r2 = (6, 0) ∧ T d 117 0 [some (vi (w r2 1)), some (vi a4)] [] w (fun r w1 => T (d + 1) 143 35 [x0, some (vr 69), some (vr r2), x3, some (vi a4), some (vi a5)] (r.toList ++ []) w1 Q)))) := by
  rw [T_iload_5 c143_17, T_aload_1 c143_19, T_getI 8 2 2 c143_20 rfl rfl rfl rfl, T_icmp_ge 73 c143_23 rfl, T_iinc_4 c143_73, T_goto 5 c143_76 rfl, T_aload_2 c143_26, T_getI 6 1 1 c143_27 rfl rfl rfl rfl, T_iload_4 c143_30, T_inv (es := [some (vi (w r2 1)), some (vi a4)]) (st := [vi a4, vi (w r2 1)]) (ks := [0, 0]) (n := 2) (as := [vi (w r2 1), vi a4]) (rest := []) c143_32 (by decide +kernel) (by decide +kernel) rfl rfl (Nat.le_of_ble_eq_true rfl)]
  all_goals try simp only [Int.reduceToNat, lay_69, true_and, Nat.reduceAdd, eq_self_iff_true]
theorem g143_35 {d : Nat} {a5 s0 : Int} {r2 : Nat} {x0 x1 x3 x4 : Option aV} {w : aW} {Q : Option aV → aW → Prop} : T (d + 1) 143 35 [x0, x1, some (vr r2), x3, x4, some (vi a5)] [vi s0] w Q = ((¬ s0 = 1 → T (d + 1) 143 67 [x0, x1, some (vr r2), x3, x4, some (vi a5)] [] w Q) ∧ (¬ (¬ s0 = 1) → (lay r2 = (6, 0) ∧ T d 117 0 [some (vi (w r2 1)), some (vi a5)] [] w (fun r w1 => T (d + 1) 143 48 [x0, x1, some (vr r2), x3, x4, some (vi a5)] (r.toList ++ []) w1 Q)))) := by
  rw [T_sipush c143_35, T_icmp_ne 67 c143_36 rfl, T_aload_2 c143_39, T_getI 6 1 1 c143_40 rfl rfl rfl rfl, T_iload_5 c143_43, T_inv (es := [some (vi (w r2 1)), some (vi a5)]) (st := [vi a5, vi (w r2 1)]) (ks := [0, 0]) (n := 2) (as := [vi (w r2 1), vi a5]) (rest := []) c143_45 (by decide +kernel) (by decide +kernel) rfl rfl (Nat.le_of_ble_eq_true rfl)]
  all_goals try simp only [Int.reduceToNat, true_and, Nat.reduceAdd, eq_self_iff_true]
theorem g143_48 {d : Nat} {a4 a5 s0 : Int} {r2 : Nat} {x0 x3 : Option aV} {w : aW} {Q : Option aV → aW → Prop} : T (d + 1) 143 48 [x0, some (vr 69), some (vr r2), x3, some (vi a4), some (vi a5)] [vi s0] w Q = ((¬ s0 = 1 → T (d + 1) 143 67 [x0, some (vr 69), some (vr r2), x3, some (vi a4), some (vi a5)] [] w Q) ∧ (¬ (¬ s0 = 1) → T d 232 0 [some (vr 69), some (vr r2), some (vi a4), some (vi a5)] [] w (fun r w1 => T (d + 1) 143 61 [x0, some (vr 69), some (vr r2), x3, some (vi a4), some (vi a5)] (r.toList ++ []) w1 Q))) := by
  rw [T_sipush c143_48, T_icmp_ne 67 c143_49 rfl, T_aload_1 c143_52, T_aload_2 c143_53, T_iload_4 c143_54, T_iload_5 c143_56, T_inv (es := [some (vr 69), some (vr r2), some (vi a4), some (vi a5)]) (st := [vi a5, vi a4, vr r2, vr 69]) (ks := [2, 2, 0, 0]) (n := 4) (as := [vr 69, vr r2, vi a4, vi a5]) (rest := []) c143_58 (by decide +kernel) (by decide +kernel) rfl rfl (Nat.le_of_ble_eq_true rfl)]
  all_goals try simp only [Int.reduceToNat, true_and, Nat.reduceAdd, eq_self_iff_true]
theorem g143_61 {d : Nat} {a3 s0 : Int} {x0 x1 x2 x4 x5 : Option aV} {w : aW} {Q : Option aV → aW → Prop} : T d 143 61 [x0, x1, x2, some (vi a3), x4, x5] [vi s0] w Q = ((s0 = 0 → T d 143 67 [x0, x1, x2, some (vi a3), x4, x5] [] w Q) ∧ (¬ (s0 = 0) → T d 143 67 [x0, x1, x2, some (vi (w32 (a3 + 1))), x4, x5] [] w Q)) := by
  rw [T_if_eq 67 c143_61 rfl, T_iinc_3 c143_64]
  all_goals try simp only [Int.reduceToNat, true_and, Nat.reduceAdd, eq_self_iff_true]
theorem g143_67 {d : Nat} {a5 : Int} {x0 x1 x2 x3 x4 : Option aV} {w : aW} {Q : Option aV → aW → Prop} : T d 143 67 [x0, x1, x2, x3, x4, some (vi a5)] [] w Q = T d 143 17 [x0, x1, x2, x3, x4, some (vi (w32 (a5 + 1)))] [] w Q := by
  rw [T_iinc_5 c143_67, T_goto 17 c143_70 rfl]
  all_goals try simp only [true_and, Nat.reduceAdd, eq_self_iff_true]
/-! 144: StringHandsModel.limbAt.(I)I -/
theorem c144_0 : cd 144 0 = some (.sipush 0, 1) := by decide +kernel
theorem c144_1 : cd 144 1 = some (.istore 2, 1) := by decide +kernel
theorem c144_2 : cd 144 2 = some (.aload 0, 1) := by decide +kernel
theorem c144_3 : cd 144 3 = some (.getfield 3078, 3) := by decide +kernel
theorem c144_6 : cd 144 6 = some (.sipush 54, 2) := by decide +kernel
theorem c144_8 : cd 144 8 = some (.iload 2, 1) := by decide +kernel
theorem c144_9 : cd 144 9 = some (.iadd, 1) := by decide +kernel
theorem c144_10 : cd 144 10 = some (.iaload, 1) := by decide +kernel
theorem c144_11 : cd 144 11 = some (.iload 1, 1) := by decide +kernel
theorem c144_12 : cd 144 12 = some (.if_icmp .eq 21, 3) := by decide +kernel
theorem c144_15 : cd 144 15 = some (.iinc 2 1, 3) := by decide +kernel
theorem c144_18 : cd 144 18 = some (.goto 2, 3) := by decide +kernel
theorem c144_21 : cd 144 21 = some (.iload 2, 1) := by decide +kernel
theorem c144_22 : cd 144 22 = some (.ireturn, 1) := by decide +kernel
theorem g144_0 {d : Nat} {x0 x1 x2 : Option aV} {w : aW} {Q : Option aV → aW → Prop} : T d 144 0 [x0, x1, x2] [] w Q = T d 144 2 [x0, x1, some (vi 0)] [] w Q := by
  rw [T_sipush c144_0, T_istore_2 c144_1]
  all_goals try simp only [true_and, Nat.reduceAdd, eq_self_iff_true]
theorem g144_2 {d : Nat} {a1 a2 : Int} {w : aW} {Q : Option aV → aW → Prop} : T d 144 2 [some (vr 167), some (vi a1), some (vi a2)] [] w Q = ((0 ≤ w32 (54 + a2) ∧ w32 (54 + a2) < 4932) ∧ ((w 168 (w32 (54 + a2)) = a1 → Q (some (vi a2)) w) ∧ (¬ (w 168 (w32 (54 + a2)) = a1) → T d 144 2 [some (vr 167), some (vi a1), some (vi (w32 (a2 + 1)))] [] w Q))) := by
  rw [T_aload_0 c144_2, T_getR 12 1 1 c144_3 rfl rfl rfl rfl, rf_167_1, T_sipush c144_6, T_iload_2 c144_8, T_iadd c144_9, T_iald c144_10, T_iload_1 c144_11, T_icmp_eq 21 c144_12 rfl, T_iload_2 c144_21, T_ireti c144_22 (by decide +kernel), T_iinc_2 c144_15, T_goto 2 c144_18 rfl]
  all_goals try simp only [Int.reduceToNat, lay_167, ld_168, true_and, Nat.reduceAdd, eq_self_iff_true]
/-! 145: StringHandsModel.tanglesOf.()I -/
theorem c145_0 : cd 145 0 = some (.sipush 0, 1) := by decide +kernel
theorem c145_1 : cd 145 1 = some (.istore 1, 1) := by decide +kernel
theorem c145_2 : cd 145 2 = some (.iload 1, 1) := by decide +kernel
theorem c145_3 : cd 145 3 = some (.aload 0, 1) := by decide +kernel
theorem c145_4 : cd 145 4 = some (.getfield 3078, 3) := by decide +kernel
theorem c145_7 : cd 145 7 = some (.sipush 2, 1) := by decide +kernel
theorem c145_8 : cd 145 8 = some (.iaload, 1) := by decide +kernel
theorem c145_9 : cd 145 9 = some (.if_icmp .ge 33, 3) := by decide +kernel
theorem c145_12 : cd 145 12 = some (.aload 0, 1) := by decide +kernel
theorem c145_13 : cd 145 13 = some (.getfield 3190, 3) := by decide +kernel
theorem c145_16 : cd 145 16 = some (.iload 1, 1) := by decide +kernel
theorem c145_17 : cd 145 17 = some (.aload 0, 1) := by decide +kernel
theorem c145_18 : cd 145 18 = some (.getfield 3078, 3) := by decide +kernel
theorem c145_21 : cd 145 21 = some (.sipush 54, 2) := by decide +kernel
theorem c145_23 : cd 145 23 = some (.iload 1, 1) := by decide +kernel
theorem c145_24 : cd 145 24 = some (.iadd, 1) := by decide +kernel
theorem c145_25 : cd 145 25 = some (.iaload, 1) := by decide +kernel
theorem c145_26 : cd 145 26 = some (.iastore, 1) := by decide +kernel
theorem c145_27 : cd 145 27 = some (.iinc 1 1, 3) := by decide +kernel
theorem c145_30 : cd 145 30 = some (.goto 2, 3) := by decide +kernel
theorem c145_33 : cd 145 33 = some (.aload 0, 1) := by decide +kernel
theorem c145_34 : cd 145 34 = some (.invokevirtual 233, 3) := by decide +kernel
theorem c145_37 : cd 145 37 = some (.ireturn, 1) := by decide +kernel
theorem g145_0 {d : Nat} {x0 x1 : Option aV} {w : aW} {Q : Option aV → aW → Prop} : T d 145 0 [x0, x1] [] w Q = T d 145 2 [x0, some (vi 0)] [] w Q := by
  rw [T_sipush c145_0, T_istore_1 c145_1]
  all_goals try simp only [true_and, Nat.reduceAdd, eq_self_iff_true]
theorem g145_2 {d : Nat} {a1 : Int} {w : aW} {Q : Option aV → aW → Prop} : T (d + 1) 145 2 [some (vr 167), some (vi a1)] [] w Q = ((w 168 2 ≤ a1 → T d 233 0 [some (vr 167), none, none, none] [] w (fun r w1 => T (d + 1) 145 37 [some (vr 167), some (vi a1)] (r.toList ++ []) w1 Q)) ∧ (¬ (w 168 2 ≤ a1) → ((0 ≤ w32 (54 + a1) ∧ w32 (54 + a1) < 4932) ∧ ((0 ≤ a1 ∧ a1 < 10) ∧ T (d + 1) 145 2 [some (vr 167), some (vi (w32 (a1 + 1)))] [] (iup w 184 a1 (w 168 (w32 (54 + a1)))) Q)))) := by
  rw [T_iload_1 c145_2, T_aload_0 c145_3, T_getR 12 1 1 c145_4 rfl rfl rfl rfl, rf_167_1, T_sipush c145_7, T_iald c145_8, T_icmp_ge 33 c145_9 rfl, T_aload_0 c145_33, T_invv (es := [some (vr 167), none, none, none]) (st := [vr 167]) (ks := [2]) (n := 4) (c := 12) (k := 167) (as := []) (rest := []) c145_34 (by decide +kernel) (by decide +kernel) (by decide +kernel) (by decide) rfl rfl (Nat.le_of_ble_eq_true rfl), T_aload_0 c145_12, T_getR 12 29 29 c145_13 rfl rfl rfl rfl, rf_167_29, T_iload_1 c145_16, T_aload_0 c145_17, T_getR 12 1 1 c145_18 rfl rfl rfl rfl, rf_167_1, T_sipush c145_21, T_iload_1 c145_23, T_iadd c145_24, T_iald c145_25, T_iast c145_26, T_iinc_1 c145_27, T_goto 2 c145_30 rfl]
  all_goals try simp only [Int.reduceLE, Int.reduceLT, Int.reduceToNat, and_self, ia0_184, lay_167, ld_168, true_and, Nat.reduceAdd, eq_self_iff_true]
theorem g145_37 {d : Nat} {s0 : Int} {x0 x1 : Option aV} {w : aW} {Q : Option aV → aW → Prop} : T d 145 37 [x0, x1] [vi s0] w Q = Q (some (vi s0)) w := by
  rw [T_ireti c145_37 (by decide +kernel)]
  all_goals try simp only [true_and, Nat.reduceAdd, eq_self_iff_true]
/-! 146: StringHands$Stage.takeAll.(LStringHands$Stage;)V -/
theorem c146_0 : cd 146 0 = some (.aload 0, 1) := by decide +kernel
theorem c146_1 : cd 146 1 = some (.aload 1, 1) := by decide +kernel
theorem c146_2 : cd 146 2 = some (.getfield 1536, 3) := by decide +kernel
theorem c146_5 : cd 146 5 = some (.putfield 1536, 3) := by decide +kernel
theorem c146_8 : cd 146 8 = some (.aload 0, 1) := by decide +kernel
theorem c146_9 : cd 146 9 = some (.aload 1, 1) := by decide +kernel
theorem c146_10 : cd 146 10 = some (.getfield 1540, 3) := by decide +kernel
theorem c146_13 : cd 146 13 = some (.putfield 1540, 3) := by decide +kernel
theorem c146_16 : cd 146 16 = some (.aload 1, 1) := by decide +kernel
theorem c146_17 : cd 146 17 = some (.getfield 1546, 3) := by decide +kernel
theorem c146_20 : cd 146 20 = some (.sipush 0, 1) := by decide +kernel
theorem c146_21 : cd 146 21 = some (.aload 0, 1) := by decide +kernel
theorem c146_22 : cd 146 22 = some (.getfield 1546, 3) := by decide +kernel
theorem c146_25 : cd 146 25 = some (.sipush 0, 1) := by decide +kernel
theorem c146_26 : cd 146 26 = some (.sipush 16, 2) := by decide +kernel
theorem c146_28 : cd 146 28 = some (.invokedynamic 0, 3) := by decide +kernel
theorem c146_31 : cd 146 31 = some (.aload 1, 1) := by decide +kernel
theorem c146_32 : cd 146 32 = some (.getfield 1550, 3) := by decide +kernel
theorem c146_35 : cd 146 35 = some (.sipush 0, 1) := by decide +kernel
theorem c146_36 : cd 146 36 = some (.aload 0, 1) := by decide +kernel
theorem c146_37 : cd 146 37 = some (.getfield 1550, 3) := by decide +kernel
theorem c146_40 : cd 146 40 = some (.sipush 0, 1) := by decide +kernel
theorem c146_41 : cd 146 41 = some (.sipush 16, 2) := by decide +kernel
theorem c146_43 : cd 146 43 = some (.invokedynamic 0, 3) := by decide +kernel
theorem c146_46 : cd 146 46 = some (.aload 1, 1) := by decide +kernel
theorem c146_47 : cd 146 47 = some (.getfield 1554, 3) := by decide +kernel
theorem c146_50 : cd 146 50 = some (.sipush 0, 1) := by decide +kernel
theorem c146_51 : cd 146 51 = some (.aload 0, 1) := by decide +kernel
theorem c146_52 : cd 146 52 = some (.getfield 1554, 3) := by decide +kernel
theorem c146_55 : cd 146 55 = some (.sipush 0, 1) := by decide +kernel
theorem c146_56 : cd 146 56 = some (.sipush 10, 2) := by decide +kernel
theorem c146_58 : cd 146 58 = some (.invokedynamic 0, 3) := by decide +kernel
theorem c146_61 : cd 146 61 = some (.return_, 1) := by decide +kernel
theorem g146_0 {d : Nat} {r0 r1 : Nat} {w : aW} {Q : Option aV → aW → Prop} : T d 146 0 [some (vr r0), some (vr r1)] [] w Q = (lay r1 = (6, 0) ∧ ((lay r0 = (6, 0)) ∧ (lay r1 = (6, 0) ∧ ((lay r0 = (6, 0)) ∧ (lay r1 = (6, 0) ∧ (lay r0 = (6, 0) ∧ (((lay (rfA r1 2)).1 = 100 ∧ (lay (rfA r0 2)).1 = 100 ∧ (0 : Int) ≤ 0 ∧ (0 : Int) ≤ 0 ∧ (0 : Int) ≤ 16 ∧ 0 + 16 ≤ ((lay (rfA r1 2)).2 : Int) ∧ 0 + 16 ≤ ((lay (rfA r0 2)).2 : Int)) ∧ (lay r1 = (6, 0) ∧ (lay r0 = (6, 0) ∧ (((lay (rfA r1 3)).1 = 100 ∧ (lay (rfA r0 3)).1 = 100 ∧ (0 : Int) ≤ 0 ∧ (0 : Int) ≤ 0 ∧ (0 : Int) ≤ 16 ∧ 0 + 16 ≤ ((lay (rfA r1 3)).2 : Int) ∧ 0 + 16 ≤ ((lay (rfA r0 3)).2 : Int)) ∧ (lay r1 = (6, 0) ∧ (lay r0 = (6, 0) ∧ (((lay (rfA r1 4)).1 = 100 ∧ (lay (rfA r0 4)).1 = 100 ∧ (0 : Int) ≤ 0 ∧ (0 : Int) ≤ 0 ∧ (0 : Int) ≤ 10 ∧ 0 + 10 ≤ ((lay (rfA r1 4)).2 : Int) ∧ 0 + 10 ≤ ((lay (rfA r0 4)).2 : Int)) ∧ Q none (wcp (wcp (wcp (iup (iup w r0 0 (w r1 0)) r0 1 ((iup w r0 0 (w r1 0)) r1 1)) (rfA r1 2) (rfA r0 2) 0 0 16) (rfA r1 3) (rfA r0 3) 0 0 16) (rfA r1 4) (rfA r0 4) 0 0 10)))))))))))))) := by
  rw [T_aload_0 c146_0, T_aload_1 c146_1, T_getI 6 0 0 c146_2 rfl rfl rfl rfl, T_putI 6 0 0 c146_5 rfl rfl rfl rfl, T_aload_0 c146_8, T_aload_1 c146_9, T_getI 6 1 1 c146_10 rfl rfl rfl rfl, T_putI 6 1 1 c146_13 rfl rfl rfl rfl, T_aload_1 c146_16, T_getR 6 2 2 c146_17 rfl rfl rfl rfl, T_sipush c146_20, T_aload_0 c146_21, T_getR 6 2 2 c146_22 rfl rfl rfl rfl, T_sipush c146_25, T_sipush c146_26, T_copy (st := []) c146_28 (Nat.le_of_ble_eq_true rfl), T_aload_1 c146_31, T_getR 6 3 3 c146_32 rfl rfl rfl rfl, T_sipush c146_35, T_aload_0 c146_36, T_getR 6 3 3 c146_37 rfl rfl rfl rfl, T_sipush c146_40, T_sipush c146_41, T_copy (st := []) c146_43 (Nat.le_of_ble_eq_true rfl), T_aload_1 c146_46, T_getR 6 4 4 c146_47 rfl rfl rfl rfl, T_sipush c146_50, T_aload_0 c146_51, T_getR 6 4 4 c146_52 rfl rfl rfl rfl, T_sipush c146_55, T_sipush c146_56, T_copy (st := []) c146_58 (Nat.le_of_ble_eq_true rfl), T_vret c146_61 (by decide +kernel)]
  all_goals try simp only [true_and, Nat.reduceAdd, eq_self_iff_true]
/-! 147: StringHands.isRow.(I)Z -/
theorem c147_0 : cd 147 0 = some (.iload 0, 1) := by decide +kernel
theorem c147_1 : cd 147 1 = some (.ifCond .lt 13, 3) := by decide +kernel
theorem c147_4 : cd 147 4 = some (.iload 0, 1) := by decide +kernel
theorem c147_5 : cd 147 5 = some (.sipush 4, 1) := by decide +kernel
theorem c147_6 : cd 147 6 = some (.if_icmp .ge 13, 3) := by decide +kernel
theorem c147_9 : cd 147 9 = some (.sipush 1, 1) := by decide +kernel
theorem c147_10 : cd 147 10 = some (.goto 14, 3) := by decide +kernel
theorem c147_13 : cd 147 13 = some (.sipush 0, 1) := by decide +kernel
theorem c147_14 : cd 147 14 = some (.ireturn, 1) := by decide +kernel
theorem g147_0 {d : Nat} {a0 : Int} {w : aW} {Q : Option aV → aW → Prop} : T d 147 0 [some (vi a0)] [] w Q = ((a0 < 0 → T d 147 13 [some (vi a0)] [] w Q) ∧ (¬ (a0 < 0) → ((4 ≤ a0 → T d 147 13 [some (vi a0)] [] w Q) ∧ (¬ (4 ≤ a0) → T d 147 14 [some (vi a0)] [vi 1] w Q)))) := by
  rw [T_iload_0 c147_0, T_if_lt 13 c147_1 rfl, T_iload_0 c147_4, T_sipush c147_5, T_icmp_ge 13 c147_6 rfl, T_sipush c147_9, T_goto 14 c147_10 rfl]
  all_goals try simp only [Int.reduceToNat, true_and, Nat.reduceAdd, eq_self_iff_true]
theorem g147_13 {d : Nat} {x0 : Option aV} {w : aW} {Q : Option aV → aW → Prop} : T d 147 13 [x0] [] w Q = T d 147 14 [x0] [vi 0] w Q := by
  rw [T_sipush c147_13]
  all_goals try simp only [true_and, Nat.reduceAdd, eq_self_iff_true]
theorem g147_14 {d : Nat} {s0 : Int} {x0 : Option aV} {w : aW} {Q : Option aV → aW → Prop} : T d 147 14 [x0] [vi s0] w Q = ((s0 = 0 ∨ s0 = 1) ∧ Q (some (vi s0)) w) := by
  rw [T_iretz c147_14 (by decide +kernel)]
  all_goals try simp only [true_and, Nat.reduceAdd, eq_self_iff_true]
/-! 148: StringHands$NumberRow.isMissing.()Z -/
theorem c148_0 : cd 148 0 = some (.aload 0, 1) := by decide +kernel
theorem c148_1 : cd 148 1 = some (.getfield 768, 3) := by decide +kernel
theorem c148_4 : cd 148 4 = some (.sipush (-1), 1) := by decide +kernel
theorem c148_5 : cd 148 5 = some (.if_icmp .ne 12, 3) := by decide +kernel
theorem c148_8 : cd 148 8 = some (.sipush 1, 1) := by decide +kernel
theorem c148_9 : cd 148 9 = some (.goto 13, 3) := by decide +kernel
theorem c148_12 : cd 148 12 = some (.sipush 0, 1) := by decide +kernel
theorem c148_13 : cd 148 13 = some (.ireturn, 1) := by decide +kernel
theorem g148_0 {d : Nat} {r0 : Nat} {w : aW} {Q : Option aV → aW → Prop} : T d 148 0 [some (vr r0)] [] w Q = (lay r0 = (3, 0) ∧ ((¬ w r0 0 = (-1) → T d 148 13 [some (vr r0)] [vi 0] w Q) ∧ (¬ (¬ w r0 0 = (-1)) → T d 148 13 [some (vr r0)] [vi 1] w Q))) := by
  rw [T_aload_0 c148_0, T_getI 3 0 0 c148_1 rfl rfl rfl rfl, T_sipush c148_4, T_icmp_ne 12 c148_5 rfl, T_sipush c148_12, T_sipush c148_8, T_goto 13 c148_9 rfl]
  all_goals try simp only [Int.reduceToNat, true_and, Nat.reduceAdd, eq_self_iff_true]
theorem g148_13 {d : Nat} {s0 : Int} {x0 : Option aV} {w : aW} {Q : Option aV → aW → Prop} : T d 148 13 [x0] [vi s0] w Q = ((s0 = 0 ∨ s0 = 1) ∧ Q (some (vi s0)) w) := by
  rw [T_iretz c148_13 (by decide +kernel)]
  all_goals try simp only [true_and, Nat.reduceAdd, eq_self_iff_true]
/-! 149: StringHands$Mover.doDeeds.(LStringHands$Troupe;LStringHands$Stage;LStringHands$NumberRow;)I -/
theorem c149_0 : cd 149 0 = some (.aload 0, 1) := by decide +kernel
theorem c149_1 : cd 149 1 = some (.sipush 0, 1) := by decide +kernel
theorem c149_2 : cd 149 2 = some (.putfield 516, 3) := by decide +kernel
theorem c149_5 : cd 149 5 = some (.sipush 0, 1) := by decide +kernel
theorem c149_6 : cd 149 6 = some (.istore 4, 2) := by decide +kernel
theorem c149_8 : cd 149 8 = some (.iload 4, 2) := by decide +kernel
theorem c149_10 : cd 149 10 = some (.aload 3, 1) := by decide +kernel
theorem c149_11 : cd 149 11 = some (.getfield 768, 3) := by decide +kernel
theorem c149_14 : cd 149 14 = some (.if_icmp .ge 57, 3) := by decide +kernel
theorem c149_17 : cd 149 17 = some (.iload 4, 2) := by decide +kernel
theorem c149_19 : cd 149 19 = some (.sipush 40, 2) := by decide +kernel
theorem c149_21 : cd 149 21 = some (.if_icmp .ge 57, 3) := by decide +kernel
theorem c149_24 : cd 149 24 = some (.aload 0, 1) := by decide +kernel
theorem c149_25 : cd 149 25 = some (.aload 0, 1) := by decide +kernel
theorem c149_26 : cd 149 26 = some (.aload 1, 1) := by decide +kernel
theorem c149_27 : cd 149 27 = some (.aload 2, 1) := by decide +kernel
theorem c149_28 : cd 149 28 = some (.aload 3, 1) := by decide +kernel
theorem c149_29 : cd 149 29 = some (.getfield 774, 3) := by decide +kernel
theorem c149_32 : cd 149 32 = some (.iload 4, 2) := by decide +kernel
theorem c149_34 : cd 149 34 = some (.laload, 1) := by decide +kernel
theorem c149_35 : cd 149 35 = some (.invokevirtual 234, 3) := by decide +kernel
theorem c149_38 : cd 149 38 = some (.putfield 516, 3) := by decide +kernel
theorem c149_41 : cd 149 41 = some (.aload 0, 1) := by decide +kernel
theorem c149_42 : cd 149 42 = some (.getfield 516, 3) := by decide +kernel
theorem c149_45 : cd 149 45 = some (.ifCond .eq 51, 3) := by decide +kernel
theorem c149_48 : cd 149 48 = some (.iload 4, 2) := by decide +kernel
theorem c149_50 : cd 149 50 = some (.ireturn, 1) := by decide +kernel
theorem c149_51 : cd 149 51 = some (.iinc 4 1, 3) := by decide +kernel
theorem c149_54 : cd 149 54 = some (.goto 8, 3) := by decide +kernel
theorem c149_57 : cd 149 57 = some (.aload 3, 1) := by decide +kernel
theorem c149_58 : cd 149 58 = some (.getfield 768, 3) := by decide +kernel
theorem c149_61 : cd 149 61 = some (.ireturn, 1) := by decide +kernel
theorem g149_0 {d : Nat} {x1 x2 x3 x4 : Option aV} {w : aW} {Q : Option aV → aW → Prop} : T d 149 0 [some (vr 16), x1, x2, x3, x4] [] w Q = T d 149 8 [some (vr 16), x1, x2, x3, some (vi 0)] [] (iup w 16 1 0) Q := by
  rw [T_aload_0 c149_0, T_sipush c149_1, T_putI 2 1 1 c149_2 rfl rfl rfl rfl, T_sipush c149_5, T_istore_4 c149_6]
  all_goals try simp only [lay_16, true_and, Nat.reduceAdd, eq_self_iff_true]
theorem g149_8 {d : Nat} {a4 : Int} {r2 r3 : Nat} {w : aW} {Q : Option aV → aW → Prop} : T (d + 1) 149 8 [some (vr 16), some (vr 69), some (vr r2), some (vr r3), some (vi a4)] [] w Q = (lay r3 = (3, 0) ∧ ((w r3 0 ≤ a4 → T (d + 1) 149 57 [some (vr 16), some (vr 69), some (vr r2), some (vr r3), some (vi a4)] [] w Q) ∧ (¬ (w r3 0 ≤ a4) → ((40 ≤ a4 → T (d + 1) 149 57 [some (vr 16), some (vr 69), some (vr r2), some (vr r3), some (vi a4)] [] w Q) ∧ (¬ (40 ≤ a4) → (lay r3 = (3, 0) ∧ (inA (rfA r3 1) 1 a4 = true ∧ T d 234 0 [some (vr 16), some (vr 69), some (vr r2), some (vl (w (rfA r3 1) a4)), none, none, none, none] [] w (fun r w1 => T (d + 1) 149 38 [some (vr 16), some (vr 69), some (vr r2), some (vr r3), some (vi a4)] (r.toList ++ [vr 16]) w1 Q)))))))) := by
  rw [T_iload_4 c149_8, T_aload_3 c149_10, T_getI 3 0 0 c149_11 rfl rfl rfl rfl, T_icmp_ge 57 c149_14 rfl, T_iload_4 c149_17, T_sipush c149_19, T_icmp_ge 57 c149_21 rfl, T_aload_0 c149_24, T_aload_0 c149_25, T_aload_1 c149_26, T_aload_2 c149_27, T_aload_3 c149_28, T_getR 3 1 1 c149_29 rfl rfl rfl rfl, T_iload_4 c149_32, T_lald c149_34, T_invv (es := [some (vr 16), some (vr 69), some (vr r2), some (vl (w (rfA r3 1) a4)), none, none, none, none]) (st := [vl (w (rfA r3 1) a4), vr r2, vr 69, vr 16, vr 16]) (ks := [2, 2, 2, 1]) (n := 8) (c := 2) (k := 16) (as := [vr 69, vr r2, vl (w (rfA r3 1) a4)]) (rest := [vr 16]) c149_35 (by decide +kernel) (by decide +kernel) (by decide +kernel) (by decide) rfl rfl (Nat.le_of_ble_eq_true rfl)]
  all_goals try simp only [Int.reduceToNat, lay_16, true_and, Nat.reduceAdd, eq_self_iff_true]
theorem g149_38 {d : Nat} {a4 s1 : Int} {s0 : Nat} {x1 x2 x3 : Option aV} {w : aW} {Q : Option aV → aW → Prop} : T d 149 38 [some (vr 16), x1, x2, x3, some (vi a4)] [vi s1, vr s0] w Q = ((lay s0 = (2, 0)) ∧ (((iup w s0 1 s1) 16 1 = 0 → T d 149 8 [some (vr 16), x1, x2, x3, some (vi (w32 (a4 + 1)))] [] (iup w s0 1 s1) Q) ∧ (¬ ((iup w s0 1 s1) 16 1 = 0) → Q (some (vi a4)) (iup w s0 1 s1)))) := by
  rw [T_putI 2 1 1 c149_38 rfl rfl rfl rfl, T_aload_0 c149_41, T_getI 2 1 1 c149_42 rfl rfl rfl rfl, T_if_eq 51 c149_45 rfl, T_iinc_4 c149_51, T_goto 8 c149_54 rfl, T_iload_4 c149_48, T_ireti c149_50 (by decide +kernel)]
  all_goals try simp only [Int.reduceToNat, lay_16, true_and, Nat.reduceAdd, eq_self_iff_true]
theorem g149_57 {d : Nat} {r3 : Nat} {x0 x1 x2 x4 : Option aV} {w : aW} {Q : Option aV → aW → Prop} : T d 149 57 [x0, x1, x2, some (vr r3), x4] [] w Q = (lay r3 = (3, 0) ∧ Q (some (vi (w r3 0))) w) := by
  rw [T_aload_3 c149_57, T_getI 3 0 0 c149_58 rfl rfl rfl rfl, T_ireti c149_61 (by decide +kernel)]
  all_goals try simp only [true_and, Nat.reduceAdd, eq_self_iff_true]
/-! 150: StringHandsModel.doesAll.(I)I -/
theorem c150_0 : cd 150 0 = some (.aload 0, 1) := by decide +kernel
theorem c150_1 : cd 150 1 = some (.sipush 0, 1) := by decide +kernel
theorem c150_2 : cd 150 2 = some (.putfield 3140, 3) := by decide +kernel
theorem c150_5 : cd 150 5 = some (.sipush 0, 1) := by decide +kernel
theorem c150_6 : cd 150 6 = some (.istore 2, 1) := by decide +kernel
theorem c150_7 : cd 150 7 = some (.iload 2, 1) := by decide +kernel
theorem c150_8 : cd 150 8 = some (.aload 0, 1) := by decide +kernel
theorem c150_9 : cd 150 9 = some (.getfield 3214, 3) := by decide +kernel
theorem c150_12 : cd 150 12 = some (.iload 1, 1) := by decide +kernel
theorem c150_13 : cd 150 13 = some (.iaload, 1) := by decide +kernel
theorem c150_14 : cd 150 14 = some (.if_icmp .ge 128, 3) := by decide +kernel
theorem c150_17 : cd 150 17 = some (.aload 0, 1) := by decide +kernel
theorem c150_18 : cd 150 18 = some (.getfield 3218, 3) := by decide +kernel
theorem c150_21 : cd 150 21 = some (.sipush 40, 2) := by decide +kernel
theorem c150_23 : cd 150 23 = some (.iload 1, 1) := by decide +kernel
theorem c150_24 : cd 150 24 = some (.imul, 1) := by decide +kernel
theorem c150_25 : cd 150 25 = some (.iload 2, 1) := by decide +kernel
theorem c150_26 : cd 150 26 = some (.iadd, 1) := by decide +kernel
theorem c150_27 : cd 150 27 = some (.laload, 1) := by decide +kernel
theorem c150_28 : cd 150 28 = some (.lstore 3, 1) := by decide +kernel
theorem c150_29 : cd 150 29 = some (.aload 0, 1) := by decide +kernel
theorem c150_30 : cd 150 30 = some (.aload 0, 1) := by decide +kernel
theorem c150_31 : cd 150 31 = some (.lload 3, 1) := by decide +kernel
theorem c150_32 : cd 150 32 = some (.invokevirtual 235, 3) := by decide +kernel
theorem c150_35 : cd 150 35 = some (.putfield 3140, 3) := by decide +kernel
theorem c150_38 : cd 150 38 = some (.aload 0, 1) := by decide +kernel
theorem c150_39 : cd 150 39 = some (.getfield 3140, 3) := by decide +kernel
theorem c150_42 : cd 150 42 = some (.ifCond .eq 47, 3) := by decide +kernel
theorem c150_45 : cd 150 45 = some (.iload 2, 1) := by decide +kernel
theorem c150_46 : cd 150 46 = some (.ireturn, 1) := by decide +kernel
theorem c150_47 : cd 150 47 = some (.lload 3, 1) := by decide +kernel
theorem c150_48 : cd 150 48 = some (.bipush (-1), 3) := by decide +kernel
theorem c150_51 : cd 150 51 = some (.lcmp, 1) := by decide +kernel
theorem c150_52 : cd 150 52 = some (.ifCond .ne 63, 3) := by decide +kernel
theorem c150_55 : cd 150 55 = some (.aload 0, 1) := by decide +kernel
theorem c150_56 : cd 150 56 = some (.invokevirtual 136, 3) := by decide +kernel
theorem c150_59 : cd 150 59 = some (.pop, 1) := by decide +kernel
theorem c150_60 : cd 150 60 = some (.goto 122, 3) := by decide +kernel
theorem c150_63 : cd 150 63 = some (.lload 3, 1) := by decide +kernel
theorem c150_64 : cd 150 64 = some (.bipush 100, 3) := by decide +kernel
theorem c150_67 : cd 150 67 = some (.lcmp, 1) := by decide +kernel
theorem c150_68 : cd 150 68 = some (.ifCond .ge 87, 3) := by decide +kernel
theorem c150_71 : cd 150 71 = some (.aload 0, 1) := by decide +kernel
theorem c150_72 : cd 150 72 = some (.getfield 3078, 3) := by decide +kernel
theorem c150_75 : cd 150 75 = some (.sipush 5, 1) := by decide +kernel
theorem c150_76 : cd 150 76 = some (.dup2, 1) := by decide +kernel
theorem c150_77 : cd 150 77 = some (.iaload, 1) := by decide +kernel
theorem c150_78 : cd 150 78 = some (.sipush 1, 1) := by decide +kernel
theorem c150_79 : cd 150 79 = some (.lload 3, 1) := by decide +kernel
theorem c150_80 : cd 150 80 = some (.l2i, 1) := by decide +kernel
theorem c150_81 : cd 150 81 = some (.ishl, 1) := by decide +kernel
theorem c150_82 : cd 150 82 = some (.ixor, 1) := by decide +kernel
theorem c150_83 : cd 150 83 = some (.iastore, 1) := by decide +kernel
theorem c150_84 : cd 150 84 = some (.goto 122, 3) := by decide +kernel
theorem c150_87 : cd 150 87 = some (.lload 3, 1) := by decide +kernel
theorem c150_88 : cd 150 88 = some (.bipush 200, 3) := by decide +kernel
theorem c150_91 : cd 150 91 = some (.lcmp, 1) := by decide +kernel
theorem c150_92 : cd 150 92 = some (.ifCond .ge 112, 3) := by decide +kernel
theorem c150_95 : cd 150 95 = some (.aload 0, 1) := by decide +kernel
theorem c150_96 : cd 150 96 = some (.getfield 3078, 3) := by decide +kernel
theorem c150_99 : cd 150 99 = some (.sipush 22, 2) := by decide +kernel
theorem c150_101 : cd 150 101 = some (.lload 3, 1) := by decide +kernel
theorem c150_102 : cd 150 102 = some (.l2i, 1) := by decide +kernel
theorem c150_103 : cd 150 103 = some (.iadd, 1) := by decide +kernel
theorem c150_104 : cd 150 104 = some (.sipush 100, 2) := by decide +kernel
theorem c150_106 : cd 150 106 = some (.isub, 1) := by decide +kernel
theorem c150_107 : cd 150 107 = some (.sipush 0, 1) := by decide +kernel
theorem c150_108 : cd 150 108 = some (.iastore, 1) := by decide +kernel
theorem c150_109 : cd 150 109 = some (.goto 122, 3) := by decide +kernel
theorem c150_112 : cd 150 112 = some (.aload 0, 1) := by decide +kernel
theorem c150_113 : cd 150 113 = some (.lload 3, 1) := by decide +kernel
theorem c150_114 : cd 150 114 = some (.l2i, 1) := by decide +kernel
theorem c150_115 : cd 150 115 = some (.sipush 200, 3) := by decide +kernel
theorem c150_118 : cd 150 118 = some (.isub, 1) := by decide +kernel
theorem c150_119 : cd 150 119 = some (.invokevirtual 141, 3) := by decide +kernel
theorem c150_122 : cd 150 122 = some (.iinc 2 1, 3) := by decide +kernel
theorem c150_125 : cd 150 125 = some (.goto 7, 3) := by decide +kernel
theorem c150_128 : cd 150 128 = some (.aload 0, 1) := by decide +kernel
theorem c150_129 : cd 150 129 = some (.getfield 3214, 3) := by decide +kernel
theorem c150_132 : cd 150 132 = some (.iload 1, 1) := by decide +kernel
theorem c150_133 : cd 150 133 = some (.iaload, 1) := by decide +kernel
theorem c150_134 : cd 150 134 = some (.ireturn, 1) := by decide +kernel
theorem g150_0 {d : Nat} {x1 x2 x3 x4 : Option aV} {w : aW} {Q : Option aV → aW → Prop} : T d 150 0 [some (vr 167), x1, x2, x3, x4] [] w Q = T d 150 7 [some (vr 167), x1, some (vi 0), x3, x4] [] (iup w 167 17 0) Q := by
  rw [T_aload_0 c150_0, T_sipush c150_1, T_putI 12 17 17 c150_2 rfl rfl rfl rfl, T_sipush c150_5, T_istore_2 c150_6]
  all_goals try simp only [lay_167, true_and, Nat.reduceAdd, eq_self_iff_true]
theorem g150_7 {d : Nat} {a1 a2 : Int} {x3 x4 : Option aV} {w : aW} {Q : Option aV → aW → Prop} : T (d + 1) 150 7 [some (vr 167), some (vi a1), some (vi a2), x3, x4] [] w Q = ((0 ≤ a1 ∧ a1 < 4) ∧ ((w 189 a1 ≤ a2 → ((0 ≤ a1 ∧ a1 < 4) ∧ Q (some (vi (w 189 a1))) w)) ∧ (¬ (w 189 a1 ≤ a2) → ((0 ≤ w32 ((w32 (40 * a1)) + a2) ∧ w32 ((w32 (40 * a1)) + a2) < 160) ∧ T d 235 0 [some (vr 167), some (vl (w 190 (w32 ((w32 (40 * a1)) + a2)))), none, none, none] [] w (fun r w1 => T (d + 1) 150 35 [some (vr 167), some (vi a1), some (vi a2), some (vl (w 190 (w32 ((w32 (40 * a1)) + a2)))), none] (r.toList ++ [vr 167]) w1 Q))))) := by
  rw [T_iload_2 c150_7, T_aload_0 c150_8, T_getR 12 35 35 c150_9 rfl rfl rfl rfl, rf_167_35, T_iload_1 c150_12, T_iald c150_13, T_icmp_ge 128 c150_14 rfl, T_aload_0 c150_128, T_getR 12 35 35 c150_129 rfl rfl rfl rfl, rf_167_35, T_iload_1 c150_132, T_iald c150_133, T_ireti c150_134 (by decide +kernel), T_aload_0 c150_17, T_getR 12 36 36 c150_18 rfl rfl rfl rfl, rf_167_36, T_sipush c150_21, T_iload_1 c150_23, T_imul c150_24, T_iload_2 c150_25, T_iadd c150_26, T_lald c150_27, T_lstore_3 c150_28, T_aload_0 c150_29, T_aload_0 c150_30, T_lload_3 c150_31, T_invv (es := [some (vr 167), some (vl (w 190 (w32 ((w32 (40 * a1)) + a2)))), none, none, none]) (st := [vl (w 190 (w32 ((w32 (40 * a1)) + a2))), vr 167, vr 167]) (ks := [2, 1]) (n := 5) (c := 12) (k := 167) (as := [vl (w 190 (w32 ((w32 (40 * a1)) + a2)))]) (rest := [vr 167]) c150_32 (by decide +kernel) (by decide +kernel) (by decide +kernel) (by decide) rfl rfl (Nat.le_of_ble_eq_true rfl)]
  all_goals try simp only [Int.reduceToNat, ia1_190, lay_167, ld_189, true_and, Nat.reduceAdd, eq_self_iff_true]
theorem g150_35 {d : Nat} {a2 b3 s1 : Int} {s0 : Nat} {x1 : Option aV} {w : aW} {Q : Option aV → aW → Prop} : T (d + 1) 150 35 [some (vr 167), x1, some (vi a2), some (vl b3), none] [vi s1, vr s0] w Q = ((lay s0 = (12, 0)) ∧ (((iup w s0 17 s1) 167 17 = 0 → ((¬ kcmp b3 (-1) = 0 → ((0 ≤ kcmp b3 100 → ((0 ≤ kcmp b3 200 → T d 141 0 [some (vr 167), some (vi (w32 ((w32 b3) - 200)))] [] (iup w s0 17 s1) (fun r w1 => T (d + 1) 150 122 [some (vr 167), x1, some (vi a2), some (vl b3), none] (r.toList ++ []) w1 Q)) ∧ (¬ (0 ≤ kcmp b3 200) → ((0 ≤ w32 ((w32 (22 + (w32 b3))) - 100) ∧ w32 ((w32 (22 + (w32 b3))) - 100) < 4932) ∧ T (d + 1) 150 122 [some (vr 167), x1, some (vi a2), some (vl b3), none] [] (iup (iup w s0 17 s1) 168 (w32 ((w32 (22 + (w32 b3))) - 100)) 0) Q)))) ∧ (¬ (0 ≤ kcmp b3 100) → T (d + 1) 150 122 [some (vr 167), x1, some (vi a2), some (vl b3), none] [] (iup (iup w s0 17 s1) 168 5 (jxor ((iup w s0 17 s1) 168 5) (jshl 1 (w32 b3)))) Q))) ∧ (¬ (¬ kcmp b3 (-1) = 0) → T d 136 0 [some (vr 167), none, none, none] [] (iup w s0 17 s1) (fun r w1 => T (d + 1) 150 59 [some (vr 167), x1, some (vi a2), some (vl b3), none] (r.toList ++ []) w1 Q)))) ∧ (¬ ((iup w s0 17 s1) 167 17 = 0) → Q (some (vi a2)) (iup w s0 17 s1)))) := by
  rw [T_putI 12 17 17 c150_35 rfl rfl rfl rfl, T_aload_0 c150_38, T_getI 12 17 17 c150_39 rfl rfl rfl rfl, T_if_eq 47 c150_42 rfl, T_lload_3 c150_47, T_bipush c150_48, T_lcmp c150_51, T_if_ne 63 c150_52 rfl, T_lload_3 c150_63, T_bipush c150_64, T_lcmp c150_67, T_if_ge 87 c150_68 rfl, T_lload_3 c150_87, T_bipush c150_88, T_lcmp c150_91, T_if_ge 112 c150_92 rfl, T_aload_0 c150_112, T_lload_3 c150_113, T_l2i c150_114, T_sipush c150_115, T_isub c150_118, T_invv (es := [some (vr 167), some (vi (w32 ((w32 b3) - 200)))]) (st := [vi (w32 ((w32 b3) - 200)), vr 167]) (ks := [2, 0]) (n := 2) (c := 12) (k := 167) (as := [vi (w32 ((w32 b3) - 200))]) (rest := []) c150_119 (by decide +kernel) (by decide +kernel) (by decide +kernel) (by decide) rfl rfl (Nat.le_of_ble_eq_true rfl), T_aload_0 c150_95, T_getR 12 1 1 c150_96 rfl rfl rfl rfl, rf_167_1, T_sipush c150_99, T_lload_3 c150_101, T_l2i c150_102, T_iadd c150_103, T_sipush c150_104, T_isub c150_106, T_sipush c150_107, T_iast c150_108, T_goto 122 c150_109 rfl, T_aload_0 c150_71, T_getR 12 1 1 c150_72 rfl rfl rfl rfl, rf_167_1, T_sipush c150_75, T_dup2 c150_76, T_iald c150_77, T_sipush c150_78, T_lload_3 c150_79, T_l2i c150_80, T_ishl c150_81, T_ixor c150_82, T_iast c150_83, T_goto 122 c150_84 rfl, T_aload_0 c150_55, T_invv (es := [some (vr 167), none, none, none]) (st := [vr 167]) (ks := [2]) (n := 4) (c := 12) (k := 167) (as := []) (rest := []) c150_56 (by decide +kernel) (by decide +kernel) (by decide +kernel) (by decide) rfl rfl (Nat.le_of_ble_eq_true rfl), T_iload_2 c150_45, T_ireti c150_46 (by decide +kernel)]
  all_goals try simp only [Int.reduceLE, Int.reduceLT, Int.reduceToNat, and_self, ia0_168, lay_167, ld_168, true_and, Nat.reduceAdd, eq_self_iff_true]
theorem g150_59 {d : Nat} {s0 : Int} {x0 x1 x2 x3 x4 : Option aV} {w : aW} {Q : Option aV → aW → Prop} : T d 150 59 [x0, x1, x2, x3, x4] [vi s0] w Q = T d 150 122 [x0, x1, x2, x3, x4] [] w Q := by
  rw [T_pop_i c150_59, T_goto 122 c150_60 rfl]
  all_goals try simp only [true_and, Nat.reduceAdd, eq_self_iff_true]
theorem g150_122 {d : Nat} {a2 : Int} {x0 x1 x3 x4 : Option aV} {w : aW} {Q : Option aV → aW → Prop} : T d 150 122 [x0, x1, some (vi a2), x3, x4] [] w Q = T d 150 7 [x0, x1, some (vi (w32 (a2 + 1))), x3, x4] [] w Q := by
  rw [T_iinc_2 c150_122, T_goto 7 c150_125 rfl]
  all_goals try simp only [true_and, Nat.reduceAdd, eq_self_iff_true]
