/-! 151: StringHandsModel.isAgain.()V -/
theorem c151_0 : cd 151 0 = some (.sipush 0, 1) := by decide +kernel
theorem c151_1 : cd 151 1 = some (.istore 1, 1) := by decide +kernel
theorem c151_2 : cd 151 2 = some (.iload 1, 1) := by decide +kernel
theorem c151_3 : cd 151 3 = some (.sipush 59, 2) := by decide +kernel
theorem c151_5 : cd 151 5 = some (.if_icmp .ge 28, 3) := by decide +kernel
theorem c151_8 : cd 151 8 = some (.aload 0, 1) := by decide +kernel
theorem c151_9 : cd 151 9 = some (.getfield 3078, 3) := by decide +kernel
theorem c151_12 : cd 151 12 = some (.sipush 5, 1) := by decide +kernel
theorem c151_13 : cd 151 13 = some (.iload 1, 1) := by decide +kernel
theorem c151_14 : cd 151 14 = some (.iadd, 1) := by decide +kernel
theorem c151_15 : cd 151 15 = some (.aload 0, 1) := by decide +kernel
theorem c151_16 : cd 151 16 = some (.getfield 3138, 3) := by decide +kernel
theorem c151_19 : cd 151 19 = some (.iload 1, 1) := by decide +kernel
theorem c151_20 : cd 151 20 = some (.iaload, 1) := by decide +kernel
theorem c151_21 : cd 151 21 = some (.iastore, 1) := by decide +kernel
theorem c151_22 : cd 151 22 = some (.iinc 1 1, 3) := by decide +kernel
theorem c151_25 : cd 151 25 = some (.goto 2, 3) := by decide +kernel
theorem c151_28 : cd 151 28 = some (.return_, 1) := by decide +kernel
theorem g151_0 {d : Nat} {x0 x1 : Option aV} {w : aW} {Q : Option aV → aW → Prop} : T d 151 0 [x0, x1] [] w Q = T d 151 2 [x0, some (vi 0)] [] w Q := by
  rw [T_sipush c151_0, T_istore_1 c151_1]
  all_goals try simp only [true_and, Nat.reduceAdd, eq_self_iff_true]
theorem g151_2 {d : Nat} {a1 : Int} {w : aW} {Q : Option aV → aW → Prop} : T d 151 2 [some (vr 167), some (vi a1)] [] w Q = ((59 ≤ a1 → Q none w) ∧ (¬ (59 ≤ a1) → ((0 ≤ a1 ∧ a1 < 59) ∧ ((0 ≤ w32 (5 + a1) ∧ w32 (5 + a1) < 4932) ∧ T d 151 2 [some (vr 167), some (vi (w32 (a1 + 1)))] [] (iup w 168 (w32 (5 + a1)) (w 173 a1)) Q)))) := by
  rw [T_iload_1 c151_2, T_sipush c151_3, T_icmp_ge 28 c151_5 rfl, T_vret c151_28 (by decide +kernel), T_aload_0 c151_8, T_getR 12 1 1 c151_9 rfl rfl rfl rfl, rf_167_1, T_sipush c151_12, T_iload_1 c151_13, T_iadd c151_14, T_aload_0 c151_15, T_getR 12 16 16 c151_16 rfl rfl rfl rfl, rf_167_16, T_iload_1 c151_19, T_iald c151_20, T_iast c151_21, T_iinc_1 c151_22, T_goto 2 c151_25 rfl]
  all_goals try simp only [Int.reduceToNat, ia0_168, lay_167, ld_173, true_and, Nat.reduceAdd, eq_self_iff_true]
/-! 152: StringHands$Mover.drawDeeds.(LStringHands$Troupe;LStringHands$Stage;II)V -/
theorem c152_0 : cd 152 0 = some (.aload 0, 1) := by decide +kernel
theorem c152_1 : cd 152 1 = some (.iload 3, 1) := by decide +kernel
theorem c152_2 : cd 152 2 = some (.putfield 524, 3) := by decide +kernel
theorem c152_5 : cd 152 5 = some (.sipush 0, 1) := by decide +kernel
theorem c152_6 : cd 152 6 = some (.istore 5, 2) := by decide +kernel
theorem c152_8 : cd 152 8 = some (.iload 5, 2) := by decide +kernel
theorem c152_10 : cd 152 10 = some (.iload 4, 2) := by decide +kernel
theorem c152_12 : cd 152 12 = some (.if_icmp .ge 122, 3) := by decide +kernel
theorem c152_15 : cd 152 15 = some (.aload 0, 1) := by decide +kernel
theorem c152_16 : cd 152 16 = some (.invokevirtual 236, 3) := by decide +kernel
theorem c152_19 : cd 152 19 = some (.sipush 4, 1) := by decide +kernel
theorem c152_20 : cd 152 20 = some (.irem, 1) := by decide +kernel
theorem c152_21 : cd 152 21 = some (.istore 6, 2) := by decide +kernel
theorem c152_23 : cd 152 23 = some (.iload 6, 2) := by decide +kernel
theorem c152_25 : cd 152 25 = some (.ifCond .ne 58, 3) := by decide +kernel
theorem c152_28 : cd 152 28 = some (.aload 1, 1) := by decide +kernel
theorem c152_29 : cd 152 29 = some (.getfield 2052, 3) := by decide +kernel
theorem c152_32 : cd 152 32 = some (.ifCond .le 58, 3) := by decide +kernel
theorem c152_35 : cd 152 35 = some (.aload 2, 1) := by decide +kernel
theorem c152_36 : cd 152 36 = some (.dup, 1) := by decide +kernel
theorem c152_37 : cd 152 37 = some (.getfield 1536, 3) := by decide +kernel
theorem c152_40 : cd 152 40 = some (.sipush 1, 1) := by decide +kernel
theorem c152_41 : cd 152 41 = some (.aload 0, 1) := by decide +kernel
theorem c152_42 : cd 152 42 = some (.invokevirtual 236, 3) := by decide +kernel
theorem c152_45 : cd 152 45 = some (.aload 1, 1) := by decide +kernel
theorem c152_46 : cd 152 46 = some (.getfield 2052, 3) := by decide +kernel
theorem c152_49 : cd 152 49 = some (.irem, 1) := by decide +kernel
theorem c152_50 : cd 152 50 = some (.ishl, 1) := by decide +kernel
theorem c152_51 : cd 152 51 = some (.ixor, 1) := by decide +kernel
theorem c152_52 : cd 152 52 = some (.putfield 1536, 3) := by decide +kernel
theorem c152_55 : cd 152 55 = some (.goto 116, 3) := by decide +kernel
theorem c152_58 : cd 152 58 = some (.iload 6, 2) := by decide +kernel
theorem c152_60 : cd 152 60 = some (.sipush 1, 1) := by decide +kernel
theorem c152_61 : cd 152 61 = some (.if_icmp .ne 109, 3) := by decide +kernel
theorem c152_64 : cd 152 64 = some (.aload 1, 1) := by decide +kernel
theorem c152_65 : cd 152 65 = some (.getfield 2056, 3) := by decide +kernel
theorem c152_68 : cd 152 68 = some (.ifCond .le 109, 3) := by decide +kernel
theorem c152_71 : cd 152 71 = some (.aload 0, 1) := by decide +kernel
theorem c152_72 : cd 152 72 = some (.invokevirtual 236, 3) := by decide +kernel
theorem c152_75 : cd 152 75 = some (.aload 1, 1) := by decide +kernel
theorem c152_76 : cd 152 76 = some (.getfield 2056, 3) := by decide +kernel
theorem c152_79 : cd 152 79 = some (.irem, 1) := by decide +kernel
theorem c152_80 : cd 152 80 = some (.istore 7, 2) := by decide +kernel
theorem c152_82 : cd 152 82 = some (.aload 2, 1) := by decide +kernel
theorem c152_83 : cd 152 83 = some (.iload 7, 2) := by decide +kernel
theorem c152_85 : cd 152 85 = some (.aload 2, 1) := by decide +kernel
theorem c152_86 : cd 152 86 = some (.getfield 1540, 3) := by decide +kernel
theorem c152_89 : cd 152 89 = some (.iload 7, 2) := by decide +kernel
theorem c152_91 : cd 152 91 = some (.invokestatic 117, 3) := by decide +kernel
theorem c152_94 : cd 152 94 = some (.ifCond .ne 101, 3) := by decide +kernel
theorem c152_97 : cd 152 97 = some (.sipush 1, 1) := by decide +kernel
theorem c152_98 : cd 152 98 = some (.goto 102, 3) := by decide +kernel
theorem c152_101 : cd 152 101 = some (.sipush 0, 1) := by decide +kernel
theorem c152_102 : cd 152 102 = some (.invokestatic 237, 3) := by decide +kernel
theorem c152_105 : cd 152 105 = some (.pop, 1) := by decide +kernel
theorem c152_106 : cd 152 106 = some (.goto 116, 3) := by decide +kernel
theorem c152_109 : cd 152 109 = some (.aload 0, 1) := by decide +kernel
theorem c152_110 : cd 152 110 = some (.aload 1, 1) := by decide +kernel
theorem c152_111 : cd 152 111 = some (.aload 2, 1) := by decide +kernel
theorem c152_112 : cd 152 112 = some (.invokevirtual 135, 3) := by decide +kernel
theorem c152_115 : cd 152 115 = some (.pop, 1) := by decide +kernel
theorem c152_116 : cd 152 116 = some (.iinc 5 1, 3) := by decide +kernel
theorem c152_119 : cd 152 119 = some (.goto 8, 3) := by decide +kernel
theorem c152_122 : cd 152 122 = some (.return_, 1) := by decide +kernel
theorem g152_0 {d : Nat} {a3 : Int} {x1 x2 x4 x5 x6 x7 : Option aV} {w : aW} {Q : Option aV → aW → Prop} : T d 152 0 [some (vr 16), x1, x2, some (vi a3), x4, x5, x6, x7] [] w Q = T d 152 8 [some (vr 16), x1, x2, some (vi a3), x4, some (vi 0), x6, x7] [] (iup w 16 3 a3) Q := by
  rw [T_aload_0 c152_0, T_iload_3 c152_1, T_putI 2 3 3 c152_2 rfl rfl rfl rfl, T_sipush c152_5, T_istore_5 c152_6]
  all_goals try simp only [lay_16, true_and, Nat.reduceAdd, eq_self_iff_true]
theorem g152_8 {d : Nat} {a4 a5 : Int} {x1 x2 x3 x6 x7 : Option aV} {w : aW} {Q : Option aV → aW → Prop} : T (d + 1) 152 8 [some (vr 16), x1, x2, x3, some (vi a4), some (vi a5), x6, x7] [] w Q = ((a4 ≤ a5 → Q none w) ∧ (¬ (a4 ≤ a5) → T d 236 0 [some (vr 16)] [] w (fun r w1 => T (d + 1) 152 19 [some (vr 16), x1, x2, x3, some (vi a4), some (vi a5), x6, x7] (r.toList ++ []) w1 Q))) := by
  rw [T_iload_5 c152_8, T_iload_4 c152_10, T_icmp_ge 122 c152_12 rfl, T_vret c152_122 (by decide +kernel), T_aload_0 c152_15, T_invv (es := [some (vr 16)]) (st := [vr 16]) (ks := [2]) (n := 1) (c := 2) (k := 16) (as := []) (rest := []) c152_16 (by decide +kernel) (by decide +kernel) (by decide +kernel) (by decide) rfl rfl (Nat.le_of_ble_eq_true rfl)]
  all_goals try simp only [Int.reduceToNat, lay_16, true_and, Nat.reduceAdd, eq_self_iff_true]
theorem g152_19 {d : Nat} {s0 : Int} {r2 : Nat} {x3 x4 x5 x6 x7 : Option aV} {w : aW} {Q : Option aV → aW → Prop} : T (d + 1) 152 19 [some (vr 16), some (vr 69), some (vr r2), x3, x4, x5, x6, x7] [vi s0] w Q = ((¬ jrem s0 4 = 0 → T (d + 1) 152 58 [some (vr 16), some (vr 69), some (vr r2), x3, x4, x5, some (vi (jrem s0 4)), x7] [] w Q) ∧ (¬ (¬ jrem s0 4 = 0) → ((w 69 1 ≤ 0 → T (d + 1) 152 58 [some (vr 16), some (vr 69), some (vr r2), x3, x4, x5, some (vi (jrem s0 4)), x7] [] w Q) ∧ (¬ (w 69 1 ≤ 0) → (lay r2 = (6, 0) ∧ T d 236 0 [some (vr 16)] [] w (fun r w1 => T (d + 1) 152 45 [some (vr 16), some (vr 69), some (vr r2), x3, x4, x5, some (vi (jrem s0 4)), x7] (r.toList ++ [vi 1, vi (w r2 0), vr r2]) w1 Q)))))) := by
  rw [T_sipush c152_19, T_irem c152_20, T_istore_6 c152_21, T_iload_6 c152_23, T_if_ne 58 c152_25 rfl, T_aload_1 c152_28, T_getI 8 1 1 c152_29 rfl rfl rfl rfl, T_if_le 58 c152_32 rfl, T_aload_2 c152_35, T_dup_r c152_36, T_getI 6 0 0 c152_37 rfl rfl rfl rfl, T_sipush c152_40, T_aload_0 c152_41, T_invv (es := [some (vr 16)]) (st := [vr 16, vi 1, vi (w r2 0), vr r2]) (ks := [2]) (n := 1) (c := 2) (k := 16) (as := []) (rest := [vi 1, vi (w r2 0), vr r2]) c152_42 (by decide +kernel) (by decide +kernel) (by decide +kernel) (by decide) rfl rfl (Nat.le_of_ble_eq_true rfl)]
  all_goals try simp only [Int.reduceEq, Int.reduceToNat, lay_16, lay_69, ne_eq, not_false_eq_true, true_and, Nat.reduceAdd, eq_self_iff_true]
theorem g152_45 {d : Nat} {s1 s2 s3 : Int} {s0 : Nat} {x0 x2 x3 x4 x5 x6 x7 : Option aV} {w : aW} {Q : Option aV → aW → Prop} : T d 152 45 [x0, some (vr 69), x2, x3, x4, x5, x6, x7] [vi s3, vi s2, vi s1, vr s0] w Q = (w 69 1 ≠ 0 ∧ ((lay s0 = (6, 0)) ∧ T d 152 116 [x0, some (vr 69), x2, x3, x4, x5, x6, x7] [] (iup w s0 0 (jxor s1 (jshl s2 (jrem s3 (w 69 1))))) Q)) := by
  rw [T_aload_1 c152_45, T_getI 8 1 1 c152_46 rfl rfl rfl rfl, T_irem c152_49, T_ishl c152_50, T_ixor c152_51, T_putI 6 0 0 c152_52 rfl rfl rfl rfl, T_goto 116 c152_55 rfl]
  all_goals try simp only [lay_69, true_and, Nat.reduceAdd, eq_self_iff_true]
theorem g152_58 {d : Nat} {a6 : Int} {x2 x3 x4 x5 x7 : Option aV} {w : aW} {Q : Option aV → aW → Prop} : T (d + 1) 152 58 [some (vr 16), some (vr 69), x2, x3, x4, x5, some (vi a6), x7] [] w Q = ((¬ a6 = 1 → T (d + 1) 152 109 [some (vr 16), some (vr 69), x2, x3, x4, x5, some (vi a6), x7] [] w Q) ∧ (¬ (¬ a6 = 1) → ((w 69 2 ≤ 0 → T (d + 1) 152 109 [some (vr 16), some (vr 69), x2, x3, x4, x5, some (vi a6), x7] [] w Q) ∧ (¬ (w 69 2 ≤ 0) → T d 236 0 [some (vr 16)] [] w (fun r w1 => T (d + 1) 152 75 [some (vr 16), some (vr 69), x2, x3, x4, x5, some (vi a6), x7] (r.toList ++ []) w1 Q))))) := by
  rw [T_iload_6 c152_58, T_sipush c152_60, T_icmp_ne 109 c152_61 rfl, T_aload_1 c152_64, T_getI 8 2 2 c152_65 rfl rfl rfl rfl, T_if_le 109 c152_68 rfl, T_aload_0 c152_71, T_invv (es := [some (vr 16)]) (st := [vr 16]) (ks := [2]) (n := 1) (c := 2) (k := 16) (as := []) (rest := []) c152_72 (by decide +kernel) (by decide +kernel) (by decide +kernel) (by decide) rfl rfl (Nat.le_of_ble_eq_true rfl)]
  all_goals try simp only [Int.reduceToNat, lay_16, lay_69, true_and, Nat.reduceAdd, eq_self_iff_true]
theorem g152_75 {d : Nat} {s0 : Int} {r2 : Nat} {x0 x3 x4 x5 x6 x7 : Option aV} {w : aW} {Q : Option aV → aW → Prop} : T (d + 1) 152 75 [x0, some (vr 69), some (vr r2), x3, x4, x5, x6, x7] [vi s0] w Q = (w 69 2 ≠ 0 ∧ (lay r2 = (6, 0) ∧ T d 117 0 [some (vi (w r2 1)), some (vi (jrem s0 (w 69 2)))] [] w (fun r w1 => T (d + 1) 152 94 [x0, some (vr 69), some (vr r2), x3, x4, x5, x6, some (vi (jrem s0 (w 69 2)))] (r.toList ++ [vi (jrem s0 (w 69 2)), vr r2]) w1 Q))) := by
  rw [T_aload_1 c152_75, T_getI 8 2 2 c152_76 rfl rfl rfl rfl, T_irem c152_79, T_istore_7 c152_80, T_aload_2 c152_82, T_iload_7 c152_83, T_aload_2 c152_85, T_getI 6 1 1 c152_86 rfl rfl rfl rfl, T_iload_7 c152_89, T_inv (es := [some (vi (w r2 1)), some (vi (jrem s0 (w 69 2)))]) (st := [vi (jrem s0 (w 69 2)), vi (w r2 1), vi (jrem s0 (w 69 2)), vr r2]) (ks := [0, 0]) (n := 2) (as := [vi (w r2 1), vi (jrem s0 (w 69 2))]) (rest := [vi (jrem s0 (w 69 2)), vr r2]) c152_91 (by decide +kernel) (by decide +kernel) rfl rfl (Nat.le_of_ble_eq_true rfl)]
  all_goals try simp only [lay_69, true_and, Nat.reduceAdd, eq_self_iff_true]
theorem g152_94 {d : Nat} {s1 s2 : Int} {s0 : Nat} {x0 x1 x2 x3 x4 x5 x6 x7 : Option aV} {w : aW} {Q : Option aV → aW → Prop} : T d 152 94 [x0, x1, x2, x3, x4, x5, x6, x7] [vi s2, vi s1, vr s0] w Q = ((¬ s2 = 0 → T d 152 102 [x0, x1, x2, x3, x4, x5, x6, x7] [vi 0, vi s1, vr s0] w Q) ∧ (¬ (¬ s2 = 0) → T d 152 102 [x0, x1, x2, x3, x4, x5, x6, x7] [vi 1, vi s1, vr s0] w Q)) := by
  rw [T_if_ne 101 c152_94 rfl, T_sipush c152_101, T_sipush c152_97, T_goto 102 c152_98 rfl]
  all_goals try simp only [Int.reduceToNat, true_and, Nat.reduceAdd, eq_self_iff_true]
theorem g152_102 {d : Nat} {s1 s2 : Int} {s0 : Nat} {x0 x1 x2 x3 x4 x5 x6 x7 : Option aV} {w : aW} {Q : Option aV → aW → Prop} : T (d + 1) 152 102 [x0, x1, x2, x3, x4, x5, x6, x7] [vi s2, vi s1, vr s0] w Q = T d 237 0 [some (vr s0), some (vi s1), some (vi s2), none] [] w (fun r w1 => T (d + 1) 152 105 [x0, x1, x2, x3, x4, x5, x6, x7] (r.toList ++ []) w1 Q) := by
  rw [T_inv (es := [some (vr s0), some (vi s1), some (vi s2), none]) (st := [vi s2, vi s1, vr s0]) (ks := [2, 0, 0]) (n := 4) (as := [vr s0, vi s1, vi s2]) (rest := []) c152_102 (by decide +kernel) (by decide +kernel) rfl rfl (Nat.le_of_ble_eq_true rfl)]
  all_goals try simp only [true_and, Nat.reduceAdd, eq_self_iff_true]
theorem g152_105 {d : Nat} {s0 : Int} {x0 x1 x2 x3 x4 x5 x6 x7 : Option aV} {w : aW} {Q : Option aV → aW → Prop} : T d 152 105 [x0, x1, x2, x3, x4, x5, x6, x7] [vi s0] w Q = T d 152 116 [x0, x1, x2, x3, x4, x5, x6, x7] [] w Q := by
  rw [T_pop_i c152_105, T_goto 116 c152_106 rfl]
  all_goals try simp only [true_and, Nat.reduceAdd, eq_self_iff_true]
theorem g152_109 {d : Nat} {r2 : Nat} {x3 x4 x5 x6 x7 : Option aV} {w : aW} {Q : Option aV → aW → Prop} : T (d + 1) 152 109 [some (vr 16), some (vr 69), some (vr r2), x3, x4, x5, x6, x7] [] w Q = T d 135 0 [some (vr 16), some (vr 69), some (vr r2), none, none, none] [] w (fun r w1 => T (d + 1) 152 115 [some (vr 16), some (vr 69), some (vr r2), x3, x4, x5, x6, x7] (r.toList ++ []) w1 Q) := by
  rw [T_aload_0 c152_109, T_aload_1 c152_110, T_aload_2 c152_111, T_invv (es := [some (vr 16), some (vr 69), some (vr r2), none, none, none]) (st := [vr r2, vr 69, vr 16]) (ks := [2, 2, 2]) (n := 6) (c := 2) (k := 16) (as := [vr 69, vr r2]) (rest := []) c152_112 (by decide +kernel) (by decide +kernel) (by decide +kernel) (by decide) rfl rfl (Nat.le_of_ble_eq_true rfl)]
  all_goals try simp only [lay_16, true_and, Nat.reduceAdd, eq_self_iff_true]
theorem g152_115 {d : Nat} {s0 : Int} {x0 x1 x2 x3 x4 x5 x6 x7 : Option aV} {w : aW} {Q : Option aV → aW → Prop} : T d 152 115 [x0, x1, x2, x3, x4, x5, x6, x7] [vi s0] w Q = T d 152 116 [x0, x1, x2, x3, x4, x5, x6, x7] [] w Q := by
  rw [T_pop_i c152_115]
  all_goals try simp only [true_and, Nat.reduceAdd, eq_self_iff_true]
theorem g152_116 {d : Nat} {a5 : Int} {x0 x1 x2 x3 x4 x6 x7 : Option aV} {w : aW} {Q : Option aV → aW → Prop} : T d 152 116 [x0, x1, x2, x3, x4, some (vi a5), x6, x7] [] w Q = T d 152 8 [x0, x1, x2, x3, x4, some (vi (w32 (a5 + 1))), x6, x7] [] w Q := by
  rw [T_iinc_5 c152_116, T_goto 8 c152_119 rfl]
  all_goals try simp only [true_and, Nat.reduceAdd, eq_self_iff_true]
/-! 153: StringHandsModel.comes.()V -/
theorem c153_0 : cd 153 0 = some (.aload 0, 1) := by decide +kernel
theorem c153_1 : cd 153 1 = some (.sipush 4, 1) := by decide +kernel
theorem c153_2 : cd 153 2 = some (.invokevirtual 238, 3) := by decide +kernel
theorem c153_5 : cd 153 5 = some (.istore 1, 1) := by decide +kernel
theorem c153_6 : cd 153 6 = some (.iload 1, 1) := by decide +kernel
theorem c153_7 : cd 153 7 = some (.ifCond .ne 34, 3) := by decide +kernel
theorem c153_10 : cd 153 10 = some (.aload 0, 1) := by decide +kernel
theorem c153_11 : cd 153 11 = some (.getfield 3078, 3) := by decide +kernel
theorem c153_14 : cd 153 14 = some (.sipush 5, 1) := by decide +kernel
theorem c153_15 : cd 153 15 = some (.dup2, 1) := by decide +kernel
theorem c153_16 : cd 153 16 = some (.iaload, 1) := by decide +kernel
theorem c153_17 : cd 153 17 = some (.sipush 1, 1) := by decide +kernel
theorem c153_18 : cd 153 18 = some (.aload 0, 1) := by decide +kernel
theorem c153_19 : cd 153 19 = some (.aload 0, 1) := by decide +kernel
theorem c153_20 : cd 153 20 = some (.getfield 3078, 3) := by decide +kernel
theorem c153_23 : cd 153 23 = some (.sipush 2, 1) := by decide +kernel
theorem c153_24 : cd 153 24 = some (.iaload, 1) := by decide +kernel
theorem c153_25 : cd 153 25 = some (.invokevirtual 238, 3) := by decide +kernel
theorem c153_28 : cd 153 28 = some (.ishl, 1) := by decide +kernel
theorem c153_29 : cd 153 29 = some (.ixor, 1) := by decide +kernel
theorem c153_30 : cd 153 30 = some (.iastore, 1) := by decide +kernel
theorem c153_31 : cd 153 31 = some (.goto 93, 3) := by decide +kernel
theorem c153_34 : cd 153 34 = some (.iload 1, 1) := by decide +kernel
theorem c153_35 : cd 153 35 = some (.sipush 1, 1) := by decide +kernel
theorem c153_36 : cd 153 36 = some (.if_icmp .ne 88, 3) := by decide +kernel
theorem c153_39 : cd 153 39 = some (.aload 0, 1) := by decide +kernel
theorem c153_40 : cd 153 40 = some (.getfield 3078, 3) := by decide +kernel
theorem c153_43 : cd 153 43 = some (.sipush 3, 1) := by decide +kernel
theorem c153_44 : cd 153 44 = some (.iaload, 1) := by decide +kernel
theorem c153_45 : cd 153 45 = some (.ifCond .le 88, 3) := by decide +kernel
theorem c153_48 : cd 153 48 = some (.aload 0, 1) := by decide +kernel
theorem c153_49 : cd 153 49 = some (.aload 0, 1) := by decide +kernel
theorem c153_50 : cd 153 50 = some (.getfield 3078, 3) := by decide +kernel
theorem c153_53 : cd 153 53 = some (.sipush 3, 1) := by decide +kernel
theorem c153_54 : cd 153 54 = some (.iaload, 1) := by decide +kernel
theorem c153_55 : cd 153 55 = some (.invokevirtual 238, 3) := by decide +kernel
theorem c153_58 : cd 153 58 = some (.istore 2, 1) := by decide +kernel
theorem c153_59 : cd 153 59 = some (.aload 0, 1) := by decide +kernel
theorem c153_60 : cd 153 60 = some (.iload 2, 1) := by decide +kernel
theorem c153_61 : cd 153 61 = some (.invokevirtual 138, 3) := by decide +kernel
theorem c153_64 : cd 153 64 = some (.ifCond .eq 80, 3) := by decide +kernel
theorem c153_67 : cd 153 67 = some (.aload 0, 1) := by decide +kernel
theorem c153_68 : cd 153 68 = some (.getfield 3078, 3) := by decide +kernel
theorem c153_71 : cd 153 71 = some (.sipush 22, 2) := by decide +kernel
theorem c153_73 : cd 153 73 = some (.iload 2, 1) := by decide +kernel
theorem c153_74 : cd 153 74 = some (.iadd, 1) := by decide +kernel
theorem c153_75 : cd 153 75 = some (.sipush 0, 1) := by decide +kernel
theorem c153_76 : cd 153 76 = some (.iastore, 1) := by decide +kernel
theorem c153_77 : cd 153 77 = some (.goto 85, 3) := by decide +kernel
theorem c153_80 : cd 153 80 = some (.aload 0, 1) := by decide +kernel
theorem c153_81 : cd 153 81 = some (.iload 2, 1) := by decide +kernel
theorem c153_82 : cd 153 82 = some (.invokevirtual 141, 3) := by decide +kernel
theorem c153_85 : cd 153 85 = some (.goto 93, 3) := by decide +kernel
theorem c153_88 : cd 153 88 = some (.aload 0, 1) := by decide +kernel
theorem c153_89 : cd 153 89 = some (.invokevirtual 136, 3) := by decide +kernel
theorem c153_92 : cd 153 92 = some (.pop, 1) := by decide +kernel
theorem c153_93 : cd 153 93 = some (.return_, 1) := by decide +kernel
theorem g153_0 {d : Nat} {x1 x2 : Option aV} {w : aW} {Q : Option aV → aW → Prop} : T (d + 1) 153 0 [some (vr 167), x1, x2] [] w Q = T d 238 0 [some (vr 167), some (vi 4)] [] w (fun r w1 => T (d + 1) 153 5 [some (vr 167), x1, x2] (r.toList ++ []) w1 Q) := by
  rw [T_aload_0 c153_0, T_sipush c153_1, T_invv (es := [some (vr 167), some (vi 4)]) (st := [vi 4, vr 167]) (ks := [2, 0]) (n := 2) (c := 12) (k := 167) (as := [vi 4]) (rest := []) c153_2 (by decide +kernel) (by decide +kernel) (by decide +kernel) (by decide) rfl rfl (Nat.le_of_ble_eq_true rfl)]
  all_goals try simp only [lay_167, true_and, Nat.reduceAdd, eq_self_iff_true]
theorem g153_5 {d : Nat} {s0 : Int} {x1 x2 : Option aV} {w : aW} {Q : Option aV → aW → Prop} : T (d + 1) 153 5 [some (vr 167), x1, x2] [vi s0] w Q = ((¬ s0 = 0 → ((¬ s0 = 1 → T (d + 1) 153 88 [some (vr 167), some (vi s0), x2] [] w Q) ∧ (¬ (¬ s0 = 1) → ((w 168 3 ≤ 0 → T (d + 1) 153 88 [some (vr 167), some (vi s0), x2] [] w Q) ∧ (¬ (w 168 3 ≤ 0) → T d 238 0 [some (vr 167), some (vi (w 168 3))] [] w (fun r w1 => T (d + 1) 153 58 [some (vr 167), some (vi s0), x2] (r.toList ++ []) w1 Q)))))) ∧ (¬ (¬ s0 = 0) → T d 238 0 [some (vr 167), some (vi (w 168 2))] [] w (fun r w1 => T (d + 1) 153 28 [some (vr 167), some (vi s0), x2] (r.toList ++ [vi 1, vi (w 168 5), vi 5, vr 168]) w1 Q))) := by
  rw [T_istore_1 c153_5, T_iload_1 c153_6, T_if_ne 34 c153_7 rfl, T_iload_1 c153_34, T_sipush c153_35, T_icmp_ne 88 c153_36 rfl, T_aload_0 c153_39, T_getR 12 1 1 c153_40 rfl rfl rfl rfl, rf_167_1, T_sipush c153_43, T_iald c153_44, T_if_le 88 c153_45 rfl, T_aload_0 c153_48, T_aload_0 c153_49, T_getR 12 1 1 c153_50 rfl rfl rfl rfl, rf_167_1, T_sipush c153_53, T_iald c153_54, T_invv (es := [some (vr 167), some (vi (w 168 3))]) (st := [vi (w 168 3), vr 167]) (ks := [2, 0]) (n := 2) (c := 12) (k := 167) (as := [vi (w 168 3)]) (rest := []) c153_55 (by decide +kernel) (by decide +kernel) (by decide +kernel) (by decide) rfl rfl (Nat.le_of_ble_eq_true rfl), T_aload_0 c153_10, T_getR 12 1 1 c153_11 rfl rfl rfl rfl, rf_167_1, T_sipush c153_14, T_dup2 c153_15, T_iald c153_16, T_sipush c153_17, T_aload_0 c153_18, T_aload_0 c153_19, T_getR 12 1 1 c153_20 rfl rfl rfl rfl, rf_167_1, T_sipush c153_23, T_iald c153_24, T_invv (es := [some (vr 167), some (vi (w 168 2))]) (st := [vi (w 168 2), vr 167, vi 1, vi (w 168 5), vi 5, vr 168]) (ks := [2, 0]) (n := 2) (c := 12) (k := 167) (as := [vi (w 168 2)]) (rest := [vi 1, vi (w 168 5), vi 5, vr 168]) c153_25 (by decide +kernel) (by decide +kernel) (by decide +kernel) (by decide) rfl rfl (Nat.le_of_ble_eq_true rfl)]
  all_goals try simp only [Int.reduceLE, Int.reduceLT, Int.reduceToNat, and_self, lay_167, ld_168, true_and, Nat.reduceAdd, eq_self_iff_true]
theorem g153_28 {d : Nat} {s1 s2 s3 s4 : Int} {s0 : Nat} {x0 x1 x2 : Option aV} {w : aW} {Q : Option aV → aW → Prop} : T d 153 28 [x0, x1, x2] [vi s4, vi s3, vi s2, vi s1, vr s0] w Q = (inA s0 0 s1 = true ∧ T d 153 93 [x0, x1, x2] [] (iup w s0 s1 (jxor s2 (jshl s3 s4))) Q) := by
  rw [T_ishl c153_28, T_ixor c153_29, T_iast c153_30, T_goto 93 c153_31 rfl]
  all_goals try simp only [true_and, Nat.reduceAdd, eq_self_iff_true]
theorem g153_58 {d : Nat} {s0 : Int} {x1 x2 : Option aV} {w : aW} {Q : Option aV → aW → Prop} : T (d + 1) 153 58 [some (vr 167), x1, x2] [vi s0] w Q = T d 138 0 [some (vr 167), some (vi s0)] [] w (fun r w1 => T (d + 1) 153 64 [some (vr 167), x1, some (vi s0)] (r.toList ++ []) w1 Q) := by
  rw [T_istore_2 c153_58, T_aload_0 c153_59, T_iload_2 c153_60, T_invv (es := [some (vr 167), some (vi s0)]) (st := [vi s0, vr 167]) (ks := [2, 0]) (n := 2) (c := 12) (k := 167) (as := [vi s0]) (rest := []) c153_61 (by decide +kernel) (by decide +kernel) (by decide +kernel) (by decide) rfl rfl (Nat.le_of_ble_eq_true rfl)]
  all_goals try simp only [lay_167, true_and, Nat.reduceAdd, eq_self_iff_true]
theorem g153_64 {d : Nat} {a2 s0 : Int} {x1 : Option aV} {w : aW} {Q : Option aV → aW → Prop} : T (d + 1) 153 64 [some (vr 167), x1, some (vi a2)] [vi s0] w Q = ((s0 = 0 → T d 141 0 [some (vr 167), some (vi a2)] [] w (fun r w1 => T (d + 1) 153 85 [some (vr 167), x1, some (vi a2)] (r.toList ++ []) w1 Q)) ∧ (¬ (s0 = 0) → ((0 ≤ w32 (22 + a2) ∧ w32 (22 + a2) < 4932) ∧ T (d + 1) 153 85 [some (vr 167), x1, some (vi a2)] [] (iup w 168 (w32 (22 + a2)) 0) Q))) := by
  rw [T_if_eq 80 c153_64 rfl, T_aload_0 c153_80, T_iload_2 c153_81, T_invv (es := [some (vr 167), some (vi a2)]) (st := [vi a2, vr 167]) (ks := [2, 0]) (n := 2) (c := 12) (k := 167) (as := [vi a2]) (rest := []) c153_82 (by decide +kernel) (by decide +kernel) (by decide +kernel) (by decide) rfl rfl (Nat.le_of_ble_eq_true rfl), T_aload_0 c153_67, T_getR 12 1 1 c153_68 rfl rfl rfl rfl, rf_167_1, T_sipush c153_71, T_iload_2 c153_73, T_iadd c153_74, T_sipush c153_75, T_iast c153_76, T_goto 85 c153_77 rfl]
  all_goals try simp only [Int.reduceToNat, ia0_168, lay_167, true_and, Nat.reduceAdd, eq_self_iff_true]
theorem g153_85 {d : Nat} {x0 x1 x2 : Option aV} {w : aW} {Q : Option aV → aW → Prop} : T d 153 85 [x0, x1, x2] [] w Q = T d 153 93 [x0, x1, x2] [] w Q := by
  rw [T_goto 93 c153_85 rfl]
  all_goals try simp only [true_and, Nat.reduceAdd, eq_self_iff_true]
theorem g153_88 {d : Nat} {x1 x2 : Option aV} {w : aW} {Q : Option aV → aW → Prop} : T (d + 1) 153 88 [some (vr 167), x1, x2] [] w Q = T d 136 0 [some (vr 167), none, none, none] [] w (fun r w1 => T (d + 1) 153 92 [some (vr 167), x1, x2] (r.toList ++ []) w1 Q) := by
  rw [T_aload_0 c153_88, T_invv (es := [some (vr 167), none, none, none]) (st := [vr 167]) (ks := [2]) (n := 4) (c := 12) (k := 167) (as := []) (rest := []) c153_89 (by decide +kernel) (by decide +kernel) (by decide +kernel) (by decide) rfl rfl (Nat.le_of_ble_eq_true rfl)]
  all_goals try simp only [lay_167, true_and, Nat.reduceAdd, eq_self_iff_true]
theorem g153_92 {d : Nat} {s0 : Int} {x0 x1 x2 : Option aV} {w : aW} {Q : Option aV → aW → Prop} : T d 153 92 [x0, x1, x2] [vi s0] w Q = T d 153 93 [x0, x1, x2] [] w Q := by
  rw [T_pop_i c153_92]
  all_goals try simp only [true_and, Nat.reduceAdd, eq_self_iff_true]
theorem g153_93 {d : Nat} {x0 x1 x2 : Option aV} {w : aW} {Q : Option aV → aW → Prop} : T d 153 93 [x0, x1, x2] [] w Q = Q none w := by
  rw [T_vret c153_93 (by decide +kernel)]
  all_goals try simp only [true_and, Nat.reduceAdd, eq_self_iff_true]
/-! 154: StringHandsModel.nextOf.(I)I -/
theorem c154_0 : cd 154 0 = some (.sipush 0, 1) := by decide +kernel
theorem c154_1 : cd 154 1 = some (.istore 2, 1) := by decide +kernel
theorem c154_2 : cd 154 2 = some (.sipush 0, 1) := by decide +kernel
theorem c154_3 : cd 154 3 = some (.istore 3, 1) := by decide +kernel
theorem c154_4 : cd 154 4 = some (.iload 3, 1) := by decide +kernel
theorem c154_5 : cd 154 5 = some (.aload 0, 1) := by decide +kernel
theorem c154_6 : cd 154 6 = some (.getfield 3078, 3) := by decide +kernel
theorem c154_9 : cd 154 9 = some (.sipush 2, 1) := by decide +kernel
theorem c154_10 : cd 154 10 = some (.iaload, 1) := by decide +kernel
theorem c154_11 : cd 154 11 = some (.if_icmp .ge 40, 3) := by decide +kernel
theorem c154_14 : cd 154 14 = some (.iload 2, 1) := by decide +kernel
theorem c154_15 : cd 154 15 = some (.aload 0, 1) := by decide +kernel
theorem c154_16 : cd 154 16 = some (.iload 3, 1) := by decide +kernel
theorem c154_17 : cd 154 17 = some (.iload 1, 1) := by decide +kernel
theorem c154_18 : cd 154 18 = some (.sipush 0, 1) := by decide +kernel
theorem c154_19 : cd 154 19 = some (.invokevirtual 125, 3) := by decide +kernel
theorem c154_22 : cd 154 22 = some (.ifCond .eq 31, 3) := by decide +kernel
theorem c154_25 : cd 154 25 = some (.sipush 1, 1) := by decide +kernel
theorem c154_26 : cd 154 26 = some (.iload 3, 1) := by decide +kernel
theorem c154_27 : cd 154 27 = some (.ishl, 1) := by decide +kernel
theorem c154_28 : cd 154 28 = some (.goto 32, 3) := by decide +kernel
theorem c154_31 : cd 154 31 = some (.sipush 0, 1) := by decide +kernel
theorem c154_32 : cd 154 32 = some (.ior, 1) := by decide +kernel
theorem c154_33 : cd 154 33 = some (.istore 2, 1) := by decide +kernel
theorem c154_34 : cd 154 34 = some (.iinc 3 1, 3) := by decide +kernel
theorem c154_37 : cd 154 37 = some (.goto 4, 3) := by decide +kernel
theorem c154_40 : cd 154 40 = some (.iload 2, 1) := by decide +kernel
theorem c154_41 : cd 154 41 = some (.ireturn, 1) := by decide +kernel
theorem g154_0 {d : Nat} {x0 x1 x2 x3 : Option aV} {w : aW} {Q : Option aV → aW → Prop} : T d 154 0 [x0, x1, x2, x3] [] w Q = T d 154 4 [x0, x1, some (vi 0), some (vi 0)] [] w Q := by
  rw [T_sipush c154_0, T_istore_2 c154_1, T_sipush c154_2, T_istore_3 c154_3]
  all_goals try simp only [true_and, Nat.reduceAdd, eq_self_iff_true]
theorem g154_4 {d : Nat} {a1 a2 a3 : Int} {w : aW} {Q : Option aV → aW → Prop} : T (d + 1) 154 4 [some (vr 167), some (vi a1), some (vi a2), some (vi a3)] [] w Q = ((w 168 2 ≤ a3 → Q (some (vi a2)) w) ∧ (¬ (w 168 2 ≤ a3) → T d 125 0 [some (vr 167), some (vi a3), some (vi a1), some (vi 0)] [] w (fun r w1 => T (d + 1) 154 22 [some (vr 167), some (vi a1), some (vi a2), some (vi a3)] (r.toList ++ [vi a2]) w1 Q))) := by
  rw [T_iload_3 c154_4, T_aload_0 c154_5, T_getR 12 1 1 c154_6 rfl rfl rfl rfl, rf_167_1, T_sipush c154_9, T_iald c154_10, T_icmp_ge 40 c154_11 rfl, T_iload_2 c154_40, T_ireti c154_41 (by decide +kernel), T_iload_2 c154_14, T_aload_0 c154_15, T_iload_3 c154_16, T_iload_1 c154_17, T_sipush c154_18, T_invv (es := [some (vr 167), some (vi a3), some (vi a1), some (vi 0)]) (st := [vi 0, vi a1, vi a3, vr 167, vi a2]) (ks := [2, 0, 0, 0]) (n := 4) (c := 12) (k := 167) (as := [vi a3, vi a1, vi 0]) (rest := [vi a2]) c154_19 (by decide +kernel) (by decide +kernel) (by decide +kernel) (by decide) rfl rfl (Nat.le_of_ble_eq_true rfl)]
  all_goals try simp only [Int.reduceLE, Int.reduceLT, Int.reduceToNat, and_self, lay_167, ld_168, true_and, Nat.reduceAdd, eq_self_iff_true]
theorem g154_22 {d : Nat} {a3 s0 s1 : Int} {x0 x1 x2 : Option aV} {w : aW} {Q : Option aV → aW → Prop} : T d 154 22 [x0, x1, x2, some (vi a3)] [vi s1, vi s0] w Q = ((s1 = 0 → T d 154 32 [x0, x1, x2, some (vi a3)] [vi 0, vi s0] w Q) ∧ (¬ (s1 = 0) → T d 154 32 [x0, x1, x2, some (vi a3)] [vi (jshl 1 a3), vi s0] w Q)) := by
  rw [T_if_eq 31 c154_22 rfl, T_sipush c154_31, T_sipush c154_25, T_iload_3 c154_26, T_ishl c154_27, T_goto 32 c154_28 rfl]
  all_goals try simp only [Int.reduceToNat, true_and, Nat.reduceAdd, eq_self_iff_true]
theorem g154_32 {d : Nat} {a3 s0 s1 : Int} {x0 x1 x2 : Option aV} {w : aW} {Q : Option aV → aW → Prop} : T d 154 32 [x0, x1, x2, some (vi a3)] [vi s1, vi s0] w Q = T d 154 4 [x0, x1, some (vi (jor s0 s1)), some (vi (w32 (a3 + 1)))] [] w Q := by
  rw [T_ior c154_32, T_istore_2 c154_33, T_iinc_3 c154_34, T_goto 4 c154_37 rfl]
  all_goals try simp only [true_and, Nat.reduceAdd, eq_self_iff_true]
/-! 155: StringHands.readyNext.()[I -/
theorem c155_0 : cd 155 0 = some (.aload 0, 1) := by decide +kernel
theorem c155_1 : cd 155 1 = some (.getfield 2826, 3) := by decide +kernel
theorem c155_4 : cd 155 4 = some (.aload 0, 1) := by decide +kernel
theorem c155_5 : cd 155 5 = some (.getfield 2850, 3) := by decide +kernel
theorem c155_8 : cd 155 8 = some (.aload 0, 1) := by decide +kernel
theorem c155_9 : cd 155 9 = some (.getfield 2854, 3) := by decide +kernel
theorem c155_12 : cd 155 12 = some (.aload 0, 1) := by decide +kernel
theorem c155_13 : cd 155 13 = some (.getfield 2822, 3) := by decide +kernel
theorem c155_16 : cd 155 16 = some (.invokevirtual 239, 3) := by decide +kernel
theorem c155_19 : cd 155 19 = some (.aload 0, 1) := by decide +kernel
theorem c155_20 : cd 155 20 = some (.getfield 2826, 3) := by decide +kernel
theorem c155_23 : cd 155 23 = some (.getfield 6, 3) := by decide +kernel
theorem c155_26 : cd 155 26 = some (.areturn, 1) := by decide +kernel
theorem g155_0 {d : Nat} {w : aW} {Q : Option aV → aW → Prop} : T (d + 1) 155 0 [some (vr 0)] [] w Q = T d 239 0 [some (vr 19), some (vr 69), some (vr 79), some (vr 16), none] [] w (fun r w1 => T (d + 1) 155 19 [some (vr 0)] (r.toList ++ []) w1 Q) := by
  rw [T_aload_0 c155_0, T_getR 11 2 2 c155_1 rfl rfl rfl rfl, rf_0_2, T_aload_0 c155_4, T_getR 11 8 8 c155_5 rfl rfl rfl rfl, rf_0_8, T_aload_0 c155_8, T_getR 11 9 9 c155_9 rfl rfl rfl rfl, rf_0_9, T_aload_0 c155_12, T_getR 11 1 1 c155_13 rfl rfl rfl rfl, rf_0_1, T_invv (es := [some (vr 19), some (vr 69), some (vr 79), some (vr 16), none]) (st := [vr 16, vr 79, vr 69, vr 19]) (ks := [2, 2, 2, 2]) (n := 5) (c := 0) (k := 19) (as := [vr 69, vr 79, vr 16]) (rest := []) c155_16 (by decide +kernel) (by decide +kernel) (by decide +kernel) (by decide) rfl rfl (Nat.le_of_ble_eq_true rfl)]
  all_goals try simp only [lay_0, lay_19, true_and, Nat.reduceAdd, eq_self_iff_true]
theorem g155_19 {d : Nat} {w : aW} {Q : Option aV → aW → Prop} : T d 155 19 [some (vr 0)] [] w Q = Q (some (vr 20)) w := by
  rw [T_aload_0 c155_19, T_getR 11 2 2 c155_20 rfl rfl rfl rfl, rf_0_2, T_getR 0 1 1 c155_23 rfl rfl rfl rfl, rf_19_1, T_aret c155_26 (by decide +kernel)]
  all_goals try simp only [lay_0, lay_19, true_and, Nat.reduceAdd, eq_self_iff_true]
/-! 156: StringHandsModel.laysNext.()V -/
theorem c156_0 : cd 156 0 = some (.sipush 0, 1) := by decide +kernel
theorem c156_1 : cd 156 1 = some (.istore 1, 1) := by decide +kernel
theorem c156_2 : cd 156 2 = some (.iload 1, 1) := by decide +kernel
theorem c156_3 : cd 156 3 = some (.aload 0, 1) := by decide +kernel
theorem c156_4 : cd 156 4 = some (.invokevirtual 164, 3) := by decide +kernel
theorem c156_7 : cd 156 7 = some (.if_icmp .ge 27, 3) := by decide +kernel
theorem c156_10 : cd 156 10 = some (.aload 0, 1) := by decide +kernel
theorem c156_11 : cd 156 11 = some (.getfield 3150, 3) := by decide +kernel
theorem c156_14 : cd 156 14 = some (.iload 1, 1) := by decide +kernel
theorem c156_15 : cd 156 15 = some (.aload 0, 1) := by decide +kernel
theorem c156_16 : cd 156 16 = some (.iload 1, 1) := by decide +kernel
theorem c156_17 : cd 156 17 = some (.invokevirtual 154, 3) := by decide +kernel
theorem c156_20 : cd 156 20 = some (.iastore, 1) := by decide +kernel
theorem c156_21 : cd 156 21 = some (.iinc 1 1, 3) := by decide +kernel
theorem c156_24 : cd 156 24 = some (.goto 2, 3) := by decide +kernel
theorem c156_27 : cd 156 27 = some (.return_, 1) := by decide +kernel
theorem g156_0 {d : Nat} {x0 x1 : Option aV} {w : aW} {Q : Option aV → aW → Prop} : T d 156 0 [x0, x1] [] w Q = T d 156 2 [x0, some (vi 0)] [] w Q := by
  rw [T_sipush c156_0, T_istore_1 c156_1]
  all_goals try simp only [true_and, Nat.reduceAdd, eq_self_iff_true]
theorem g156_2 {d : Nat} {a1 : Int} {w : aW} {Q : Option aV → aW → Prop} : T (d + 1) 156 2 [some (vr 167), some (vi a1)] [] w Q = T d 164 0 [some (vr 167)] [] w (fun r w1 => T (d + 1) 156 7 [some (vr 167), some (vi a1)] (r.toList ++ [vi a1]) w1 Q) := by
  rw [T_iload_1 c156_2, T_aload_0 c156_3, T_invv (es := [some (vr 167)]) (st := [vr 167, vi a1]) (ks := [2]) (n := 1) (c := 12) (k := 167) (as := []) (rest := [vi a1]) c156_4 (by decide +kernel) (by decide +kernel) (by decide +kernel) (by decide) rfl rfl (Nat.le_of_ble_eq_true rfl)]
  all_goals try simp only [lay_167, true_and, Nat.reduceAdd, eq_self_iff_true]
theorem g156_7 {d : Nat} {a1 s0 s1 : Int} {w : aW} {Q : Option aV → aW → Prop} : T (d + 1) 156 7 [some (vr 167), some (vi a1)] [vi s1, vi s0] w Q = ((s1 ≤ s0 → Q none w) ∧ (¬ (s1 ≤ s0) → T d 154 0 [some (vr 167), some (vi a1), none, none] [] w (fun r w1 => T (d + 1) 156 20 [some (vr 167), some (vi a1)] (r.toList ++ [vi a1, vr 174]) w1 Q))) := by
  rw [T_icmp_ge 27 c156_7 rfl, T_vret c156_27 (by decide +kernel), T_aload_0 c156_10, T_getR 12 19 19 c156_11 rfl rfl rfl rfl, rf_167_19, T_iload_1 c156_14, T_aload_0 c156_15, T_iload_1 c156_16, T_invv (es := [some (vr 167), some (vi a1), none, none]) (st := [vi a1, vr 167, vi a1, vr 174]) (ks := [2, 0]) (n := 4) (c := 12) (k := 167) (as := [vi a1]) (rest := [vi a1, vr 174]) c156_17 (by decide +kernel) (by decide +kernel) (by decide +kernel) (by decide) rfl rfl (Nat.le_of_ble_eq_true rfl)]
  all_goals try simp only [Int.reduceToNat, lay_167, true_and, Nat.reduceAdd, eq_self_iff_true]
theorem g156_20 {d : Nat} {a1 s1 s2 : Int} {s0 : Nat} {x0 : Option aV} {w : aW} {Q : Option aV → aW → Prop} : T d 156 20 [x0, some (vi a1)] [vi s2, vi s1, vr s0] w Q = (inA s0 0 s1 = true ∧ T d 156 2 [x0, some (vi (w32 (a1 + 1)))] [] (iup w s0 s1 s2) Q) := by
  rw [T_iast c156_20, T_iinc_1 c156_21, T_goto 2 c156_24 rfl]
  all_goals try simp only [true_and, Nat.reduceAdd, eq_self_iff_true]
/-! 157: StringHandsModel.laterOf.(II)I -/
theorem c157_0 : cd 157 0 = some (.iload 1, 1) := by decide +kernel
theorem c157_1 : cd 157 1 = some (.istore 3, 1) := by decide +kernel
theorem c157_2 : cd 157 2 = some (.sipush 0, 1) := by decide +kernel
theorem c157_3 : cd 157 3 = some (.istore 4, 2) := by decide +kernel
theorem c157_5 : cd 157 5 = some (.iload 4, 2) := by decide +kernel
theorem c157_7 : cd 157 7 = some (.iload 2, 1) := by decide +kernel
theorem c157_8 : cd 157 8 = some (.if_icmp .ge 24, 3) := by decide +kernel
theorem c157_11 : cd 157 11 = some (.aload 0, 1) := by decide +kernel
theorem c157_12 : cd 157 12 = some (.getfield 3150, 3) := by decide +kernel
theorem c157_15 : cd 157 15 = some (.iload 3, 1) := by decide +kernel
theorem c157_16 : cd 157 16 = some (.iaload, 1) := by decide +kernel
theorem c157_17 : cd 157 17 = some (.istore 3, 1) := by decide +kernel
theorem c157_18 : cd 157 18 = some (.iinc 4 1, 3) := by decide +kernel
theorem c157_21 : cd 157 21 = some (.goto 5, 3) := by decide +kernel
theorem c157_24 : cd 157 24 = some (.iload 3, 1) := by decide +kernel
theorem c157_25 : cd 157 25 = some (.ireturn, 1) := by decide +kernel
theorem g157_0 {d : Nat} {a1 : Int} {x0 x2 x3 x4 : Option aV} {w : aW} {Q : Option aV → aW → Prop} : T d 157 0 [x0, some (vi a1), x2, x3, x4] [] w Q = T d 157 5 [x0, some (vi a1), x2, some (vi a1), some (vi 0)] [] w Q := by
  rw [T_iload_1 c157_0, T_istore_3 c157_1, T_sipush c157_2, T_istore_4 c157_3]
  all_goals try simp only [true_and, Nat.reduceAdd, eq_self_iff_true]
theorem g157_5 {d : Nat} {a2 a3 a4 : Int} {x1 : Option aV} {w : aW} {Q : Option aV → aW → Prop} : T d 157 5 [some (vr 167), x1, some (vi a2), some (vi a3), some (vi a4)] [] w Q = ((a2 ≤ a4 → Q (some (vi a3)) w) ∧ (¬ (a2 ≤ a4) → ((0 ≤ a3 ∧ a3 < 1024) ∧ T d 157 5 [some (vr 167), x1, some (vi a2), some (vi (w 174 a3)), some (vi (w32 (a4 + 1)))] [] w Q))) := by
  rw [T_iload_4 c157_5, T_iload_2 c157_7, T_icmp_ge 24 c157_8 rfl, T_iload_3 c157_24, T_ireti c157_25 (by decide +kernel), T_aload_0 c157_11, T_getR 12 19 19 c157_12 rfl rfl rfl rfl, rf_167_19, T_iload_3 c157_15, T_iald c157_16, T_istore_3 c157_17, T_iinc_4 c157_18, T_goto 5 c157_21 rfl]
  all_goals try simp only [Int.reduceToNat, lay_167, ld_174, true_and, Nat.reduceAdd, eq_self_iff_true]
/-! 158: StringHands.readyRings.()V -/
theorem c158_0 : cd 158 0 = some (.aload 0, 1) := by decide +kernel
theorem c158_1 : cd 158 1 = some (.getfield 2826, 3) := by decide +kernel
theorem c158_4 : cd 158 4 = some (.aload 0, 1) := by decide +kernel
theorem c158_5 : cd 158 5 = some (.getfield 2850, 3) := by decide +kernel
theorem c158_8 : cd 158 8 = some (.aload 0, 1) := by decide +kernel
theorem c158_9 : cd 158 9 = some (.getfield 2854, 3) := by decide +kernel
theorem c158_12 : cd 158 12 = some (.aload 0, 1) := by decide +kernel
theorem c158_13 : cd 158 13 = some (.getfield 2822, 3) := by decide +kernel
theorem c158_16 : cd 158 16 = some (.invokevirtual 239, 3) := by decide +kernel
theorem c158_19 : cd 158 19 = some (.aload 0, 1) := by decide +kernel
theorem c158_20 : cd 158 20 = some (.getfield 2826, 3) := by decide +kernel
theorem c158_23 : cd 158 23 = some (.invokevirtual 240, 3) := by decide +kernel
theorem c158_26 : cd 158 26 = some (.return_, 1) := by decide +kernel
theorem g158_0 {d : Nat} {w : aW} {Q : Option aV → aW → Prop} : T (d + 1) 158 0 [some (vr 0)] [] w Q = T d 239 0 [some (vr 19), some (vr 69), some (vr 79), some (vr 16), none] [] w (fun r w1 => T (d + 1) 158 19 [some (vr 0)] (r.toList ++ []) w1 Q) := by
  rw [T_aload_0 c158_0, T_getR 11 2 2 c158_1 rfl rfl rfl rfl, rf_0_2, T_aload_0 c158_4, T_getR 11 8 8 c158_5 rfl rfl rfl rfl, rf_0_8, T_aload_0 c158_8, T_getR 11 9 9 c158_9 rfl rfl rfl rfl, rf_0_9, T_aload_0 c158_12, T_getR 11 1 1 c158_13 rfl rfl rfl rfl, rf_0_1, T_invv (es := [some (vr 19), some (vr 69), some (vr 79), some (vr 16), none]) (st := [vr 16, vr 79, vr 69, vr 19]) (ks := [2, 2, 2, 2]) (n := 5) (c := 0) (k := 19) (as := [vr 69, vr 79, vr 16]) (rest := []) c158_16 (by decide +kernel) (by decide +kernel) (by decide +kernel) (by decide) rfl rfl (Nat.le_of_ble_eq_true rfl)]
  all_goals try simp only [lay_0, lay_19, true_and, Nat.reduceAdd, eq_self_iff_true]
theorem g158_19 {d : Nat} {w : aW} {Q : Option aV → aW → Prop} : T (d + 1) 158 19 [some (vr 0)] [] w Q = T d 240 0 [some (vr 19), none] [] w (fun r w1 => T (d + 1) 158 26 [some (vr 0)] (r.toList ++ []) w1 Q) := by
  rw [T_aload_0 c158_19, T_getR 11 2 2 c158_20 rfl rfl rfl rfl, rf_0_2, T_invv (es := [some (vr 19), none]) (st := [vr 19]) (ks := [2]) (n := 2) (c := 0) (k := 19) (as := []) (rest := []) c158_23 (by decide +kernel) (by decide +kernel) (by decide +kernel) (by decide) rfl rfl (Nat.le_of_ble_eq_true rfl)]
  all_goals try simp only [lay_0, lay_19, true_and, Nat.reduceAdd, eq_self_iff_true]
theorem g158_26 {d : Nat} {x0 : Option aV} {w : aW} {Q : Option aV → aW → Prop} : T d 158 26 [x0] [] w Q = Q none w := by
  rw [T_vret c158_26 (by decide +kernel)]
  all_goals try simp only [true_and, Nat.reduceAdd, eq_self_iff_true]
/-! 159: StringHandsModel.laysRings.()V -/
theorem c159_0 : cd 159 0 = some (.aload 0, 1) := by decide +kernel
theorem c159_1 : cd 159 1 = some (.invokevirtual 156, 3) := by decide +kernel
theorem c159_4 : cd 159 4 = some (.sipush 0, 1) := by decide +kernel
theorem c159_5 : cd 159 5 = some (.istore 1, 1) := by decide +kernel
theorem c159_6 : cd 159 6 = some (.iload 1, 1) := by decide +kernel
theorem c159_7 : cd 159 7 = some (.aload 0, 1) := by decide +kernel
theorem c159_8 : cd 159 8 = some (.invokevirtual 164, 3) := by decide +kernel
theorem c159_11 : cd 159 11 = some (.if_icmp .ge 34, 3) := by decide +kernel
theorem c159_14 : cd 159 14 = some (.aload 0, 1) := by decide +kernel
theorem c159_15 : cd 159 15 = some (.getfield 3162, 3) := by decide +kernel
theorem c159_18 : cd 159 18 = some (.iload 1, 1) := by decide +kernel
theorem c159_19 : cd 159 19 = some (.sipush (-1), 1) := by decide +kernel
theorem c159_20 : cd 159 20 = some (.iastore, 1) := by decide +kernel
theorem c159_21 : cd 159 21 = some (.aload 0, 1) := by decide +kernel
theorem c159_22 : cd 159 22 = some (.getfield 3158, 3) := by decide +kernel
theorem c159_25 : cd 159 25 = some (.iload 1, 1) := by decide +kernel
theorem c159_26 : cd 159 26 = some (.sipush (-1), 1) := by decide +kernel
theorem c159_27 : cd 159 27 = some (.iastore, 1) := by decide +kernel
theorem c159_28 : cd 159 28 = some (.iinc 1 1, 3) := by decide +kernel
theorem c159_31 : cd 159 31 = some (.goto 6, 3) := by decide +kernel
theorem c159_34 : cd 159 34 = some (.sipush 0, 1) := by decide +kernel
theorem c159_35 : cd 159 35 = some (.istore 1, 1) := by decide +kernel
theorem c159_36 : cd 159 36 = some (.iload 1, 1) := by decide +kernel
theorem c159_37 : cd 159 37 = some (.aload 0, 1) := by decide +kernel
theorem c159_38 : cd 159 38 = some (.invokevirtual 164, 3) := by decide +kernel
theorem c159_41 : cd 159 41 = some (.if_icmp .ge 177, 3) := by decide +kernel
theorem c159_44 : cd 159 44 = some (.iload 1, 1) := by decide +kernel
theorem c159_45 : cd 159 45 = some (.istore 2, 1) := by decide +kernel
theorem c159_46 : cd 159 46 = some (.aload 0, 1) := by decide +kernel
theorem c159_47 : cd 159 47 = some (.getfield 3162, 3) := by decide +kernel
theorem c159_50 : cd 159 50 = some (.iload 2, 1) := by decide +kernel
theorem c159_51 : cd 159 51 = some (.iaload, 1) := by decide +kernel
theorem c159_52 : cd 159 52 = some (.sipush (-1), 1) := by decide +kernel
theorem c159_53 : cd 159 53 = some (.if_icmp .ne 73, 3) := by decide +kernel
theorem c159_56 : cd 159 56 = some (.aload 0, 1) := by decide +kernel
theorem c159_57 : cd 159 57 = some (.getfield 3162, 3) := by decide +kernel
theorem c159_60 : cd 159 60 = some (.iload 2, 1) := by decide +kernel
theorem c159_61 : cd 159 61 = some (.iload 1, 1) := by decide +kernel
theorem c159_62 : cd 159 62 = some (.iastore, 1) := by decide +kernel
theorem c159_63 : cd 159 63 = some (.aload 0, 1) := by decide +kernel
theorem c159_64 : cd 159 64 = some (.getfield 3150, 3) := by decide +kernel
theorem c159_67 : cd 159 67 = some (.iload 2, 1) := by decide +kernel
theorem c159_68 : cd 159 68 = some (.iaload, 1) := by decide +kernel
theorem c159_69 : cd 159 69 = some (.istore 2, 1) := by decide +kernel
theorem c159_70 : cd 159 70 = some (.goto 46, 3) := by decide +kernel
theorem c159_73 : cd 159 73 = some (.aload 0, 1) := by decide +kernel
theorem c159_74 : cd 159 74 = some (.getfield 3162, 3) := by decide +kernel
theorem c159_77 : cd 159 77 = some (.iload 2, 1) := by decide +kernel
theorem c159_78 : cd 159 78 = some (.iaload, 1) := by decide +kernel
theorem c159_79 : cd 159 79 = some (.iload 1, 1) := by decide +kernel
theorem c159_80 : cd 159 80 = some (.if_icmp .ne 171, 3) := by decide +kernel
theorem c159_83 : cd 159 83 = some (.aload 0, 1) := by decide +kernel
theorem c159_84 : cd 159 84 = some (.getfield 3158, 3) := by decide +kernel
theorem c159_87 : cd 159 87 = some (.iload 2, 1) := by decide +kernel
theorem c159_88 : cd 159 88 = some (.iaload, 1) := by decide +kernel
theorem c159_89 : cd 159 89 = some (.sipush (-1), 1) := by decide +kernel
theorem c159_90 : cd 159 90 = some (.if_icmp .eq 96, 3) := by decide +kernel
theorem c159_93 : cd 159 93 = some (.goto 171, 3) := by decide +kernel
theorem c159_96 : cd 159 96 = some (.iload 2, 1) := by decide +kernel
theorem c159_97 : cd 159 97 = some (.istore 3, 1) := by decide +kernel
theorem c159_98 : cd 159 98 = some (.aload 0, 1) := by decide +kernel
theorem c159_99 : cd 159 99 = some (.getfield 3150, 3) := by decide +kernel
theorem c159_102 : cd 159 102 = some (.iload 2, 1) := by decide +kernel
theorem c159_103 : cd 159 103 = some (.iaload, 1) := by decide +kernel
theorem c159_104 : cd 159 104 = some (.istore 4, 2) := by decide +kernel
theorem c159_106 : cd 159 106 = some (.iload 4, 2) := by decide +kernel
theorem c159_108 : cd 159 108 = some (.iload 2, 1) := by decide +kernel
theorem c159_109 : cd 159 109 = some (.if_icmp .eq 137, 3) := by decide +kernel
theorem c159_112 : cd 159 112 = some (.iload 4, 2) := by decide +kernel
theorem c159_114 : cd 159 114 = some (.iload 3, 1) := by decide +kernel
theorem c159_115 : cd 159 115 = some (.if_icmp .ge 123, 3) := by decide +kernel
theorem c159_118 : cd 159 118 = some (.iload 4, 2) := by decide +kernel
theorem c159_120 : cd 159 120 = some (.goto 124, 3) := by decide +kernel
theorem c159_123 : cd 159 123 = some (.iload 3, 1) := by decide +kernel
theorem c159_124 : cd 159 124 = some (.istore 3, 1) := by decide +kernel
theorem c159_125 : cd 159 125 = some (.aload 0, 1) := by decide +kernel
theorem c159_126 : cd 159 126 = some (.getfield 3150, 3) := by decide +kernel
theorem c159_129 : cd 159 129 = some (.iload 4, 2) := by decide +kernel
theorem c159_131 : cd 159 131 = some (.iaload, 1) := by decide +kernel
theorem c159_132 : cd 159 132 = some (.istore 4, 2) := by decide +kernel
theorem c159_134 : cd 159 134 = some (.goto 106, 3) := by decide +kernel
theorem c159_137 : cd 159 137 = some (.iload 2, 1) := by decide +kernel
theorem c159_138 : cd 159 138 = some (.istore 4, 2) := by decide +kernel
theorem c159_140 : cd 159 140 = some (.aload 0, 1) := by decide +kernel
theorem c159_141 : cd 159 141 = some (.getfield 3158, 3) := by decide +kernel
theorem c159_144 : cd 159 144 = some (.iload 4, 2) := by decide +kernel
theorem c159_146 : cd 159 146 = some (.iload 3, 1) := by decide +kernel
theorem c159_147 : cd 159 147 = some (.iastore, 1) := by decide +kernel
theorem c159_148 : cd 159 148 = some (.aload 0, 1) := by decide +kernel
theorem c159_149 : cd 159 149 = some (.getfield 3154, 3) := by decide +kernel
theorem c159_152 : cd 159 152 = some (.iload 4, 2) := by decide +kernel
theorem c159_154 : cd 159 154 = some (.sipush 0, 1) := by decide +kernel
theorem c159_155 : cd 159 155 = some (.iastore, 1) := by decide +kernel
theorem c159_156 : cd 159 156 = some (.aload 0, 1) := by decide +kernel
theorem c159_157 : cd 159 157 = some (.getfield 3150, 3) := by decide +kernel
theorem c159_160 : cd 159 160 = some (.iload 4, 2) := by decide +kernel
theorem c159_162 : cd 159 162 = some (.iaload, 1) := by decide +kernel
theorem c159_163 : cd 159 163 = some (.istore 4, 2) := by decide +kernel
theorem c159_165 : cd 159 165 = some (.iload 4, 2) := by decide +kernel
theorem c159_167 : cd 159 167 = some (.iload 2, 1) := by decide +kernel
theorem c159_168 : cd 159 168 = some (.if_icmp .ne 140, 3) := by decide +kernel
theorem c159_171 : cd 159 171 = some (.iinc 1 1, 3) := by decide +kernel
theorem c159_174 : cd 159 174 = some (.goto 36, 3) := by decide +kernel
theorem c159_177 : cd 159 177 = some (.sipush 0, 1) := by decide +kernel
theorem c159_178 : cd 159 178 = some (.istore 1, 1) := by decide +kernel
theorem c159_179 : cd 159 179 = some (.iload 1, 1) := by decide +kernel
theorem c159_180 : cd 159 180 = some (.aload 0, 1) := by decide +kernel
theorem c159_181 : cd 159 181 = some (.invokevirtual 164, 3) := by decide +kernel
theorem c159_184 : cd 159 184 = some (.if_icmp .ge 283, 3) := by decide +kernel
theorem c159_187 : cd 159 187 = some (.sipush 0, 1) := by decide +kernel
theorem c159_188 : cd 159 188 = some (.istore 2, 1) := by decide +kernel
theorem c159_189 : cd 159 189 = some (.iload 1, 1) := by decide +kernel
theorem c159_190 : cd 159 190 = some (.istore 3, 1) := by decide +kernel
theorem c159_191 : cd 159 191 = some (.aload 0, 1) := by decide +kernel
theorem c159_192 : cd 159 192 = some (.getfield 3158, 3) := by decide +kernel
theorem c159_195 : cd 159 195 = some (.iload 3, 1) := by decide +kernel
theorem c159_196 : cd 159 196 = some (.iaload, 1) := by decide +kernel
theorem c159_197 : cd 159 197 = some (.sipush (-1), 1) := by decide +kernel
theorem c159_198 : cd 159 198 = some (.if_icmp .ne 214, 3) := by decide +kernel
theorem c159_201 : cd 159 201 = some (.iinc 2 1, 3) := by decide +kernel
theorem c159_204 : cd 159 204 = some (.aload 0, 1) := by decide +kernel
theorem c159_205 : cd 159 205 = some (.getfield 3150, 3) := by decide +kernel
theorem c159_208 : cd 159 208 = some (.iload 3, 1) := by decide +kernel
theorem c159_209 : cd 159 209 = some (.iaload, 1) := by decide +kernel
theorem c159_210 : cd 159 210 = some (.istore 3, 1) := by decide +kernel
theorem c159_211 : cd 159 211 = some (.goto 191, 3) := by decide +kernel
theorem c159_214 : cd 159 214 = some (.aload 0, 1) := by decide +kernel
theorem c159_215 : cd 159 215 = some (.getfield 3158, 3) := by decide +kernel
theorem c159_218 : cd 159 218 = some (.iload 3, 1) := by decide +kernel
theorem c159_219 : cd 159 219 = some (.iaload, 1) := by decide +kernel
theorem c159_220 : cd 159 220 = some (.istore 4, 2) := by decide +kernel
theorem c159_222 : cd 159 222 = some (.iload 2, 1) := by decide +kernel
theorem c159_223 : cd 159 223 = some (.aload 0, 1) := by decide +kernel
theorem c159_224 : cd 159 224 = some (.getfield 3154, 3) := by decide +kernel
theorem c159_227 : cd 159 227 = some (.iload 3, 1) := by decide +kernel
theorem c159_228 : cd 159 228 = some (.iaload, 1) := by decide +kernel
theorem c159_229 : cd 159 229 = some (.iadd, 1) := by decide +kernel
theorem c159_230 : cd 159 230 = some (.istore 2, 1) := by decide +kernel
theorem c159_231 : cd 159 231 = some (.iload 1, 1) := by decide +kernel
theorem c159_232 : cd 159 232 = some (.istore 5, 2) := by decide +kernel
theorem c159_234 : cd 159 234 = some (.aload 0, 1) := by decide +kernel
theorem c159_235 : cd 159 235 = some (.getfield 3158, 3) := by decide +kernel
theorem c159_238 : cd 159 238 = some (.iload 5, 2) := by decide +kernel
theorem c159_240 : cd 159 240 = some (.iaload, 1) := by decide +kernel
theorem c159_241 : cd 159 241 = some (.sipush (-1), 1) := by decide +kernel
theorem c159_242 : cd 159 242 = some (.if_icmp .ne 277, 3) := by decide +kernel
theorem c159_245 : cd 159 245 = some (.aload 0, 1) := by decide +kernel
theorem c159_246 : cd 159 246 = some (.getfield 3158, 3) := by decide +kernel
theorem c159_249 : cd 159 249 = some (.iload 5, 2) := by decide +kernel
theorem c159_251 : cd 159 251 = some (.iload 4, 2) := by decide +kernel
theorem c159_253 : cd 159 253 = some (.iastore, 1) := by decide +kernel
theorem c159_254 : cd 159 254 = some (.aload 0, 1) := by decide +kernel
theorem c159_255 : cd 159 255 = some (.getfield 3154, 3) := by decide +kernel
theorem c159_258 : cd 159 258 = some (.iload 5, 2) := by decide +kernel
theorem c159_260 : cd 159 260 = some (.iload 2, 1) := by decide +kernel
theorem c159_261 : cd 159 261 = some (.iastore, 1) := by decide +kernel
theorem c159_262 : cd 159 262 = some (.iinc 2 (-1), 3) := by decide +kernel
theorem c159_265 : cd 159 265 = some (.aload 0, 1) := by decide +kernel
theorem c159_266 : cd 159 266 = some (.getfield 3150, 3) := by decide +kernel
theorem c159_269 : cd 159 269 = some (.iload 5, 2) := by decide +kernel
theorem c159_271 : cd 159 271 = some (.iaload, 1) := by decide +kernel
theorem c159_272 : cd 159 272 = some (.istore 5, 2) := by decide +kernel
theorem c159_274 : cd 159 274 = some (.goto 234, 3) := by decide +kernel
theorem c159_277 : cd 159 277 = some (.iinc 1 1, 3) := by decide +kernel
theorem c159_280 : cd 159 280 = some (.goto 179, 3) := by decide +kernel
theorem c159_283 : cd 159 283 = some (.return_, 1) := by decide +kernel
theorem g159_0 {d : Nat} {x1 x2 x3 x4 x5 : Option aV} {w : aW} {Q : Option aV → aW → Prop} : T (d + 1) 159 0 [some (vr 167), x1, x2, x3, x4, x5] [] w Q = T d 156 0 [some (vr 167), none] [] w (fun r w1 => T (d + 1) 159 4 [some (vr 167), x1, x2, x3, x4, x5] (r.toList ++ []) w1 Q) := by
  rw [T_aload_0 c159_0, T_invv (es := [some (vr 167), none]) (st := [vr 167]) (ks := [2]) (n := 2) (c := 12) (k := 167) (as := []) (rest := []) c159_1 (by decide +kernel) (by decide +kernel) (by decide +kernel) (by decide) rfl rfl (Nat.le_of_ble_eq_true rfl)]
  all_goals try simp only [lay_167, true_and, Nat.reduceAdd, eq_self_iff_true]
theorem g159_4 {d : Nat} {x0 x1 x2 x3 x4 x5 : Option aV} {w : aW} {Q : Option aV → aW → Prop} : T d 159 4 [x0, x1, x2, x3, x4, x5] [] w Q = T d 159 6 [x0, some (vi 0), x2, x3, x4, x5] [] w Q := by
  rw [T_sipush c159_4, T_istore_1 c159_5]
  all_goals try simp only [true_and, Nat.reduceAdd, eq_self_iff_true]
theorem g159_6 {d : Nat} {a1 : Int} {x2 x3 x4 x5 : Option aV} {w : aW} {Q : Option aV → aW → Prop} : T (d + 1) 159 6 [some (vr 167), some (vi a1), x2, x3, x4, x5] [] w Q = T d 164 0 [some (vr 167)] [] w (fun r w1 => T (d + 1) 159 11 [some (vr 167), some (vi a1), x2, x3, x4, x5] (r.toList ++ [vi a1]) w1 Q) := by
  rw [T_iload_1 c159_6, T_aload_0 c159_7, T_invv (es := [some (vr 167)]) (st := [vr 167, vi a1]) (ks := [2]) (n := 1) (c := 12) (k := 167) (as := []) (rest := [vi a1]) c159_8 (by decide +kernel) (by decide +kernel) (by decide +kernel) (by decide) rfl rfl (Nat.le_of_ble_eq_true rfl)]
  all_goals try simp only [lay_167, true_and, Nat.reduceAdd, eq_self_iff_true]
theorem g159_11 {d : Nat} {a1 s0 s1 : Int} {x2 x3 x4 x5 : Option aV} {w : aW} {Q : Option aV → aW → Prop} : T d 159 11 [some (vr 167), some (vi a1), x2, x3, x4, x5] [vi s1, vi s0] w Q = ((s1 ≤ s0 → T d 159 36 [some (vr 167), some (vi 0), x2, x3, x4, x5] [] w Q) ∧ (¬ (s1 ≤ s0) → ((0 ≤ a1 ∧ a1 < 1024) ∧ ((0 ≤ a1 ∧ a1 < 1024) ∧ T d 159 6 [some (vr 167), some (vi (w32 (a1 + 1))), x2, x3, x4, x5] [] (iup (iup w 177 a1 (-1)) 176 a1 (-1)) Q)))) := by
  rw [T_icmp_ge 34 c159_11 rfl, T_sipush c159_34, T_istore_1 c159_35, T_aload_0 c159_14, T_getR 12 22 22 c159_15 rfl rfl rfl rfl, rf_167_22, T_iload_1 c159_18, T_sipush c159_19, T_iast c159_20, T_aload_0 c159_21, T_getR 12 21 21 c159_22 rfl rfl rfl rfl, rf_167_21, T_iload_1 c159_25, T_sipush c159_26, T_iast c159_27, T_iinc_1 c159_28, T_goto 6 c159_31 rfl]
  all_goals try simp only [Int.reduceToNat, ia0_176, ia0_177, lay_167, true_and, Nat.reduceAdd, eq_self_iff_true]
theorem g159_36 {d : Nat} {a1 : Int} {x2 x3 x4 x5 : Option aV} {w : aW} {Q : Option aV → aW → Prop} : T (d + 1) 159 36 [some (vr 167), some (vi a1), x2, x3, x4, x5] [] w Q = T d 164 0 [some (vr 167)] [] w (fun r w1 => T (d + 1) 159 41 [some (vr 167), some (vi a1), x2, x3, x4, x5] (r.toList ++ [vi a1]) w1 Q) := by
  rw [T_iload_1 c159_36, T_aload_0 c159_37, T_invv (es := [some (vr 167)]) (st := [vr 167, vi a1]) (ks := [2]) (n := 1) (c := 12) (k := 167) (as := []) (rest := [vi a1]) c159_38 (by decide +kernel) (by decide +kernel) (by decide +kernel) (by decide) rfl rfl (Nat.le_of_ble_eq_true rfl)]
  all_goals try simp only [lay_167, true_and, Nat.reduceAdd, eq_self_iff_true]
theorem g159_41 {d : Nat} {a1 s0 s1 : Int} {x0 x2 x3 x4 x5 : Option aV} {w : aW} {Q : Option aV → aW → Prop} : T d 159 41 [x0, some (vi a1), x2, x3, x4, x5] [vi s1, vi s0] w Q = ((s1 ≤ s0 → T d 159 179 [x0, some (vi 0), x2, x3, x4, x5] [] w Q) ∧ (¬ (s1 ≤ s0) → T d 159 46 [x0, some (vi a1), some (vi a1), x3, x4, x5] [] w Q)) := by
  rw [T_icmp_ge 177 c159_41 rfl, T_sipush c159_177, T_istore_1 c159_178, T_iload_1 c159_44, T_istore_2 c159_45]
  all_goals try simp only [Int.reduceToNat, true_and, Nat.reduceAdd, eq_self_iff_true]
theorem g159_46 {d : Nat} {a1 a2 : Int} {x3 x4 x5 : Option aV} {w : aW} {Q : Option aV → aW → Prop} : T d 159 46 [some (vr 167), some (vi a1), some (vi a2), x3, x4, x5] [] w Q = ((0 ≤ a2 ∧ a2 < 1024) ∧ ((¬ w 177 a2 = (-1) → ((0 ≤ a2 ∧ a2 < 1024) ∧ ((¬ w 177 a2 = a1 → T d 159 171 [some (vr 167), some (vi a1), some (vi a2), x3, x4, x5] [] w Q) ∧ (¬ (¬ w 177 a2 = a1) → ((0 ≤ a2 ∧ a2 < 1024) ∧ ((w 176 a2 = (-1) → ((0 ≤ a2 ∧ a2 < 1024) ∧ T d 159 106 [some (vr 167), some (vi a1), some (vi a2), some (vi a2), some (vi (w 174 a2)), x5] [] w Q)) ∧ (¬ (w 176 a2 = (-1)) → T d 159 171 [some (vr 167), some (vi a1), some (vi a2), x3, x4, x5] [] w Q))))))) ∧ (¬ (¬ w 177 a2 = (-1)) → ((0 ≤ a2 ∧ a2 < 1024) ∧ ((0 ≤ a2 ∧ a2 < 1024) ∧ T d 159 46 [some (vr 167), some (vi a1), some (vi ((iup w 177 a2 a1) 174 a2)), x3, x4, x5] [] (iup w 177 a2 a1) Q))))) := by
  rw [T_aload_0 c159_46, T_getR 12 22 22 c159_47 rfl rfl rfl rfl, rf_167_22, T_iload_2 c159_50, T_iald c159_51, T_sipush c159_52, T_icmp_ne 73 c159_53 rfl, T_aload_0 c159_73, T_getR 12 22 22 c159_74 rfl rfl rfl rfl, rf_167_22, T_iload_2 c159_77, T_iald c159_78, T_iload_1 c159_79, T_icmp_ne 171 c159_80 rfl, T_aload_0 c159_83, T_getR 12 21 21 c159_84 rfl rfl rfl rfl, rf_167_21, T_iload_2 c159_87, T_iald c159_88, T_sipush c159_89, T_icmp_eq 96 c159_90 rfl, T_iload_2 c159_96, T_istore_3 c159_97, T_aload_0 c159_98, T_getR 12 19 19 c159_99 rfl rfl rfl rfl, rf_167_19, T_iload_2 c159_102, T_iald c159_103, T_istore_4 c159_104, T_goto 171 c159_93 rfl, T_aload_0 c159_56, T_getR 12 22 22 c159_57 rfl rfl rfl rfl, rf_167_22, T_iload_2 c159_60, T_iload_1 c159_61, T_iast c159_62, T_aload_0 c159_63, T_getR 12 19 19 c159_64 rfl rfl rfl rfl, rf_167_19, T_iload_2 c159_67, T_iald c159_68, T_istore_2 c159_69, T_goto 46 c159_70 rfl]
  all_goals try simp only [Int.reduceToNat, ia0_177, lay_167, ld_174, ld_176, ld_177, true_and, Nat.reduceAdd, eq_self_iff_true]
theorem g159_106 {d : Nat} {a2 a3 a4 : Int} {x0 x1 x5 : Option aV} {w : aW} {Q : Option aV → aW → Prop} : T d 159 106 [x0, x1, some (vi a2), some (vi a3), some (vi a4), x5] [] w Q = ((a4 = a2 → T d 159 140 [x0, x1, some (vi a2), some (vi a3), some (vi a2), x5] [] w Q) ∧ (¬ (a4 = a2) → ((a3 ≤ a4 → T d 159 124 [x0, x1, some (vi a2), some (vi a3), some (vi a4), x5] [vi a3] w Q) ∧ (¬ (a3 ≤ a4) → T d 159 124 [x0, x1, some (vi a2), some (vi a3), some (vi a4), x5] [vi a4] w Q)))) := by
  rw [T_iload_4 c159_106, T_iload_2 c159_108, T_icmp_eq 137 c159_109 rfl, T_iload_2 c159_137, T_istore_4 c159_138, T_iload_4 c159_112, T_iload_3 c159_114, T_icmp_ge 123 c159_115 rfl, T_iload_3 c159_123, T_iload_4 c159_118, T_goto 124 c159_120 rfl]
  all_goals try simp only [Int.reduceToNat, true_and, Nat.reduceAdd, eq_self_iff_true]
theorem g159_124 {d : Nat} {a4 s0 : Int} {x1 x2 x3 x5 : Option aV} {w : aW} {Q : Option aV → aW → Prop} : T d 159 124 [some (vr 167), x1, x2, x3, some (vi a4), x5] [vi s0] w Q = ((0 ≤ a4 ∧ a4 < 1024) ∧ T d 159 106 [some (vr 167), x1, x2, some (vi s0), some (vi (w 174 a4)), x5] [] w Q) := by
  rw [T_istore_3 c159_124, T_aload_0 c159_125, T_getR 12 19 19 c159_126 rfl rfl rfl rfl, rf_167_19, T_iload_4 c159_129, T_iald c159_131, T_istore_4 c159_132, T_goto 106 c159_134 rfl]
  all_goals try simp only [lay_167, ld_174, true_and, Nat.reduceAdd, eq_self_iff_true]
theorem g159_140 {d : Nat} {a2 a3 a4 : Int} {x1 x5 : Option aV} {w : aW} {Q : Option aV → aW → Prop} : T d 159 140 [some (vr 167), x1, some (vi a2), some (vi a3), some (vi a4), x5] [] w Q = ((0 ≤ a4 ∧ a4 < 1024) ∧ ((0 ≤ a4 ∧ a4 < 1024) ∧ ((0 ≤ a4 ∧ a4 < 1024) ∧ ((¬ (iup (iup w 176 a4 a3) 175 a4 0) 174 a4 = a2 → T d 159 140 [some (vr 167), x1, some (vi a2), some (vi a3), some (vi ((iup (iup w 176 a4 a3) 175 a4 0) 174 a4)), x5] [] (iup (iup w 176 a4 a3) 175 a4 0) Q) ∧ (¬ (¬ (iup (iup w 176 a4 a3) 175 a4 0) 174 a4 = a2) → T d 159 171 [some (vr 167), x1, some (vi a2), some (vi a3), some (vi ((iup (iup w 176 a4 a3) 175 a4 0) 174 a4)), x5] [] (iup (iup w 176 a4 a3) 175 a4 0) Q))))) := by
  rw [T_aload_0 c159_140, T_getR 12 21 21 c159_141 rfl rfl rfl rfl, rf_167_21, T_iload_4 c159_144, T_iload_3 c159_146, T_iast c159_147, T_aload_0 c159_148, T_getR 12 20 20 c159_149 rfl rfl rfl rfl, rf_167_20, T_iload_4 c159_152, T_sipush c159_154, T_iast c159_155, T_aload_0 c159_156, T_getR 12 19 19 c159_157 rfl rfl rfl rfl, rf_167_19, T_iload_4 c159_160, T_iald c159_162, T_istore_4 c159_163, T_iload_4 c159_165, T_iload_2 c159_167, T_icmp_ne 140 c159_168 rfl]
  all_goals try simp only [Int.reduceToNat, ia0_175, ia0_176, lay_167, ld_174, true_and, Nat.reduceAdd, eq_self_iff_true]
theorem g159_171 {d : Nat} {a1 : Int} {x0 x2 x3 x4 x5 : Option aV} {w : aW} {Q : Option aV → aW → Prop} : T d 159 171 [x0, some (vi a1), x2, x3, x4, x5] [] w Q = T d 159 36 [x0, some (vi (w32 (a1 + 1))), x2, x3, x4, x5] [] w Q := by
  rw [T_iinc_1 c159_171, T_goto 36 c159_174 rfl]
  all_goals try simp only [true_and, Nat.reduceAdd, eq_self_iff_true]
theorem g159_179 {d : Nat} {a1 : Int} {x2 x3 x4 x5 : Option aV} {w : aW} {Q : Option aV → aW → Prop} : T (d + 1) 159 179 [some (vr 167), some (vi a1), x2, x3, x4, x5] [] w Q = T d 164 0 [some (vr 167)] [] w (fun r w1 => T (d + 1) 159 184 [some (vr 167), some (vi a1), x2, x3, x4, x5] (r.toList ++ [vi a1]) w1 Q) := by
  rw [T_iload_1 c159_179, T_aload_0 c159_180, T_invv (es := [some (vr 167)]) (st := [vr 167, vi a1]) (ks := [2]) (n := 1) (c := 12) (k := 167) (as := []) (rest := [vi a1]) c159_181 (by decide +kernel) (by decide +kernel) (by decide +kernel) (by decide) rfl rfl (Nat.le_of_ble_eq_true rfl)]
  all_goals try simp only [lay_167, true_and, Nat.reduceAdd, eq_self_iff_true]
theorem g159_184 {d : Nat} {a1 s0 s1 : Int} {x0 x2 x3 x4 x5 : Option aV} {w : aW} {Q : Option aV → aW → Prop} : T d 159 184 [x0, some (vi a1), x2, x3, x4, x5] [vi s1, vi s0] w Q = ((s1 ≤ s0 → Q none w) ∧ (¬ (s1 ≤ s0) → T d 159 191 [x0, some (vi a1), some (vi 0), some (vi a1), x4, x5] [] w Q)) := by
  rw [T_icmp_ge 283 c159_184 rfl, T_vret c159_283 (by decide +kernel), T_sipush c159_187, T_istore_2 c159_188, T_iload_1 c159_189, T_istore_3 c159_190]
  all_goals try simp only [Int.reduceToNat, true_and, Nat.reduceAdd, eq_self_iff_true]
theorem g159_191 {d : Nat} {a1 a2 a3 : Int} {x4 x5 : Option aV} {w : aW} {Q : Option aV → aW → Prop} : T d 159 191 [some (vr 167), some (vi a1), some (vi a2), some (vi a3), x4, x5] [] w Q = ((0 ≤ a3 ∧ a3 < 1024) ∧ ((¬ w 176 a3 = (-1) → ((0 ≤ a3 ∧ a3 < 1024) ∧ ((0 ≤ a3 ∧ a3 < 1024) ∧ T d 159 234 [some (vr 167), some (vi a1), some (vi (w32 (a2 + (w 175 a3)))), some (vi a3), some (vi (w 176 a3)), some (vi a1)] [] w Q))) ∧ (¬ (¬ w 176 a3 = (-1)) → ((0 ≤ a3 ∧ a3 < 1024) ∧ T d 159 191 [some (vr 167), some (vi a1), some (vi (w32 (a2 + 1))), some (vi (w 174 a3)), x4, x5] [] w Q)))) := by
  rw [T_aload_0 c159_191, T_getR 12 21 21 c159_192 rfl rfl rfl rfl, rf_167_21, T_iload_3 c159_195, T_iald c159_196, T_sipush c159_197, T_icmp_ne 214 c159_198 rfl, T_aload_0 c159_214, T_getR 12 21 21 c159_215 rfl rfl rfl rfl, rf_167_21, T_iload_3 c159_218, T_iald c159_219, T_istore_4 c159_220, T_iload_2 c159_222, T_aload_0 c159_223, T_getR 12 20 20 c159_224 rfl rfl rfl rfl, rf_167_20, T_iload_3 c159_227, T_iald c159_228, T_iadd c159_229, T_istore_2 c159_230, T_iload_1 c159_231, T_istore_5 c159_232, T_iinc_2 c159_201, T_aload_0 c159_204, T_getR 12 19 19 c159_205 rfl rfl rfl rfl, rf_167_19, T_iload_3 c159_208, T_iald c159_209, T_istore_3 c159_210, T_goto 191 c159_211 rfl]
  all_goals try simp only [Int.reduceToNat, lay_167, ld_174, ld_175, ld_176, true_and, Nat.reduceAdd, eq_self_iff_true]
theorem g159_234 {d : Nat} {a1 a2 a4 a5 : Int} {x3 : Option aV} {w : aW} {Q : Option aV → aW → Prop} : T d 159 234 [some (vr 167), some (vi a1), some (vi a2), x3, some (vi a4), some (vi a5)] [] w Q = ((0 ≤ a5 ∧ a5 < 1024) ∧ ((¬ w 176 a5 = (-1) → T d 159 179 [some (vr 167), some (vi (w32 (a1 + 1))), some (vi a2), x3, some (vi a4), some (vi a5)] [] w Q) ∧ (¬ (¬ w 176 a5 = (-1)) → ((0 ≤ a5 ∧ a5 < 1024) ∧ ((0 ≤ a5 ∧ a5 < 1024) ∧ ((0 ≤ a5 ∧ a5 < 1024) ∧ T d 159 234 [some (vr 167), some (vi a1), some (vi (w32 (a2 + (-1)))), x3, some (vi a4), some (vi ((iup (iup w 176 a5 a4) 175 a5 a2) 174 a5))] [] (iup (iup w 176 a5 a4) 175 a5 a2) Q)))))) := by
  rw [T_aload_0 c159_234, T_getR 12 21 21 c159_235 rfl rfl rfl rfl, rf_167_21, T_iload_5 c159_238, T_iald c159_240, T_sipush c159_241, T_icmp_ne 277 c159_242 rfl, T_iinc_1 c159_277, T_goto 179 c159_280 rfl, T_aload_0 c159_245, T_getR 12 21 21 c159_246 rfl rfl rfl rfl, rf_167_21, T_iload_5 c159_249, T_iload_4 c159_251, T_iast c159_253, T_aload_0 c159_254, T_getR 12 20 20 c159_255 rfl rfl rfl rfl, rf_167_20, T_iload_5 c159_258, T_iload_2 c159_260, T_iast c159_261, T_iinc_2 c159_262, T_aload_0 c159_265, T_getR 12 19 19 c159_266 rfl rfl rfl rfl, rf_167_19, T_iload_5 c159_269, T_iald c159_271, T_istore_5 c159_272, T_goto 234 c159_274 rfl]
  all_goals try simp only [Int.reduceToNat, ia0_175, ia0_176, lay_167, ld_174, ld_176, true_and, Nat.reduceAdd, eq_self_iff_true]
/-! 160: StringHandsModel.lengthOf.(I)I -/
theorem c160_0 : cd 160 0 = some (.sipush 1, 1) := by decide +kernel
theorem c160_1 : cd 160 1 = some (.istore 2, 1) := by decide +kernel
theorem c160_2 : cd 160 2 = some (.aload 0, 1) := by decide +kernel
theorem c160_3 : cd 160 3 = some (.getfield 3150, 3) := by decide +kernel
theorem c160_6 : cd 160 6 = some (.aload 0, 1) := by decide +kernel
theorem c160_7 : cd 160 7 = some (.getfield 3158, 3) := by decide +kernel
theorem c160_10 : cd 160 10 = some (.iload 1, 1) := by decide +kernel
theorem c160_11 : cd 160 11 = some (.iaload, 1) := by decide +kernel
theorem c160_12 : cd 160 12 = some (.iaload, 1) := by decide +kernel
theorem c160_13 : cd 160 13 = some (.istore 3, 1) := by decide +kernel
theorem c160_14 : cd 160 14 = some (.iload 3, 1) := by decide +kernel
theorem c160_15 : cd 160 15 = some (.aload 0, 1) := by decide +kernel
theorem c160_16 : cd 160 16 = some (.getfield 3158, 3) := by decide +kernel
theorem c160_19 : cd 160 19 = some (.iload 1, 1) := by decide +kernel
theorem c160_20 : cd 160 20 = some (.iaload, 1) := by decide +kernel
theorem c160_21 : cd 160 21 = some (.if_icmp .eq 37, 3) := by decide +kernel
theorem c160_24 : cd 160 24 = some (.iinc 2 1, 3) := by decide +kernel
theorem c160_27 : cd 160 27 = some (.aload 0, 1) := by decide +kernel
theorem c160_28 : cd 160 28 = some (.getfield 3150, 3) := by decide +kernel
theorem c160_31 : cd 160 31 = some (.iload 3, 1) := by decide +kernel
theorem c160_32 : cd 160 32 = some (.iaload, 1) := by decide +kernel
theorem c160_33 : cd 160 33 = some (.istore 3, 1) := by decide +kernel
theorem c160_34 : cd 160 34 = some (.goto 14, 3) := by decide +kernel
theorem c160_37 : cd 160 37 = some (.iload 2, 1) := by decide +kernel
theorem c160_38 : cd 160 38 = some (.ireturn, 1) := by decide +kernel
theorem g160_0 {d : Nat} {a1 : Int} {x2 x3 : Option aV} {w : aW} {Q : Option aV → aW → Prop} : T d 160 0 [some (vr 167), some (vi a1), x2, x3] [] w Q = ((0 ≤ a1 ∧ a1 < 1024) ∧ ((0 ≤ w 176 a1 ∧ w 176 a1 < 1024) ∧ T d 160 14 [some (vr 167), some (vi a1), some (vi 1), some (vi (w 174 (w 176 a1)))] [] w Q)) := by
  rw [T_sipush c160_0, T_istore_2 c160_1, T_aload_0 c160_2, T_getR 12 19 19 c160_3 rfl rfl rfl rfl, rf_167_19, T_aload_0 c160_6, T_getR 12 21 21 c160_7 rfl rfl rfl rfl, rf_167_21, T_iload_1 c160_10, T_iald c160_11, T_iald c160_12, T_istore_3 c160_13]
  all_goals try simp only [lay_167, ld_174, ld_176, true_and, Nat.reduceAdd, eq_self_iff_true]
theorem g160_14 {d : Nat} {a1 a2 a3 : Int} {w : aW} {Q : Option aV → aW → Prop} : T d 160 14 [some (vr 167), some (vi a1), some (vi a2), some (vi a3)] [] w Q = ((0 ≤ a1 ∧ a1 < 1024) ∧ ((a3 = w 176 a1 → Q (some (vi a2)) w) ∧ (¬ (a3 = w 176 a1) → ((0 ≤ a3 ∧ a3 < 1024) ∧ T d 160 14 [some (vr 167), some (vi a1), some (vi (w32 (a2 + 1))), some (vi (w 174 a3))] [] w Q)))) := by
  rw [T_iload_3 c160_14, T_aload_0 c160_15, T_getR 12 21 21 c160_16 rfl rfl rfl rfl, rf_167_21, T_iload_1 c160_19, T_iald c160_20, T_icmp_eq 37 c160_21 rfl, T_iload_2 c160_37, T_ireti c160_38 (by decide +kernel), T_iinc_2 c160_24, T_aload_0 c160_27, T_getR 12 19 19 c160_28 rfl rfl rfl rfl, rf_167_19, T_iload_3 c160_31, T_iald c160_32, T_istore_3 c160_33, T_goto 14 c160_34 rfl]
  all_goals try simp only [Int.reduceToNat, lay_167, ld_174, ld_176, true_and, Nat.reduceAdd, eq_self_iff_true]
/-! 161: StringHands$Follow.clearPicked.()V -/
theorem c161_0 : cd 161 0 = some (.aload 0, 1) := by decide +kernel
theorem c161_1 : cd 161 1 = some (.sipush 0, 1) := by decide +kernel
theorem c161_2 : cd 161 2 = some (.putfield 28, 3) := by decide +kernel
theorem c161_5 : cd 161 5 = some (.return_, 1) := by decide +kernel
theorem g161_0 {d : Nat} {w : aW} {Q : Option aV → aW → Prop} : T d 161 0 [some (vr 19)] [] w Q = Q none (iup w 19 7 0) := by
  rw [T_aload_0 c161_0, T_sipush c161_1, T_putI 0 7 7 c161_2 rfl rfl rfl rfl, T_vret c161_5 (by decide +kernel)]
  all_goals try simp only [lay_19, true_and, Nat.reduceAdd, eq_self_iff_true]
/-! 162: StringHands$Follow.pick.(I)V -/
theorem c162_0 : cd 162 0 = some (.aload 0, 1) := by decide +kernel
theorem c162_1 : cd 162 1 = some (.getfield 28, 3) := by decide +kernel
theorem c162_4 : cd 162 4 = some (.sipush 1024, 3) := by decide +kernel
theorem c162_7 : cd 162 7 = some (.if_icmp .ge 30, 3) := by decide +kernel
theorem c162_10 : cd 162 10 = some (.aload 0, 1) := by decide +kernel
theorem c162_11 : cd 162 11 = some (.getfield 22, 3) := by decide +kernel
theorem c162_14 : cd 162 14 = some (.aload 0, 1) := by decide +kernel
theorem c162_15 : cd 162 15 = some (.getfield 28, 3) := by decide +kernel
theorem c162_18 : cd 162 18 = some (.iload 1, 1) := by decide +kernel
theorem c162_19 : cd 162 19 = some (.iastore, 1) := by decide +kernel
theorem c162_20 : cd 162 20 = some (.aload 0, 1) := by decide +kernel
theorem c162_21 : cd 162 21 = some (.dup, 1) := by decide +kernel
theorem c162_22 : cd 162 22 = some (.getfield 28, 3) := by decide +kernel
theorem c162_25 : cd 162 25 = some (.sipush 1, 1) := by decide +kernel
theorem c162_26 : cd 162 26 = some (.iadd, 1) := by decide +kernel
theorem c162_27 : cd 162 27 = some (.putfield 28, 3) := by decide +kernel
theorem c162_30 : cd 162 30 = some (.return_, 1) := by decide +kernel
theorem g162_0 {d : Nat} {a1 : Int} {w : aW} {Q : Option aV → aW → Prop} : T d 162 0 [some (vr 19), some (vi a1)] [] w Q = ((1024 ≤ w 19 7 → T d 162 30 [some (vr 19), some (vi a1)] [] w Q) ∧ (¬ (1024 ≤ w 19 7) → ((0 ≤ w 19 7 ∧ w 19 7 < 1024) ∧ T d 162 30 [some (vr 19), some (vi a1)] [] (iup (iup w 24 (w 19 7) a1) 19 7 (w32 (((iup w 24 (w 19 7) a1) 19 7) + 1))) Q))) := by
  rw [T_aload_0 c162_0, T_getI 0 7 7 c162_1 rfl rfl rfl rfl, T_sipush c162_4, T_icmp_ge 30 c162_7 rfl, T_aload_0 c162_10, T_getR 0 5 5 c162_11 rfl rfl rfl rfl, rf_19_5, T_aload_0 c162_14, T_getI 0 7 7 c162_15 rfl rfl rfl rfl, T_iload_1 c162_18, T_iast c162_19, T_aload_0 c162_20, T_dup_r c162_21, T_getI 0 7 7 c162_22 rfl rfl rfl rfl, T_sipush c162_25, T_iadd c162_26, T_putI 0 7 7 c162_27 rfl rfl rfl rfl]
  all_goals try simp only [Int.reduceToNat, ia0_24, lay_19, true_and, Nat.reduceAdd, eq_self_iff_true]
theorem g162_30 {d : Nat} {x0 x1 : Option aV} {w : aW} {Q : Option aV → aW → Prop} : T d 162 30 [x0, x1] [] w Q = Q none w := by
  rw [T_vret c162_30 (by decide +kernel)]
  all_goals try simp only [true_and, Nat.reduceAdd, eq_self_iff_true]
/-! 163: StringHands$Follow.pickedAt.(I)I -/
theorem c163_0 : cd 163 0 = some (.iload 1, 1) := by decide +kernel
theorem c163_1 : cd 163 1 = some (.sipush (-1), 1) := by decide +kernel
theorem c163_2 : cd 163 2 = some (.if_icmp .ne 10, 3) := by decide +kernel
theorem c163_5 : cd 163 5 = some (.aload 0, 1) := by decide +kernel
theorem c163_6 : cd 163 6 = some (.getfield 28, 3) := by decide +kernel
theorem c163_9 : cd 163 9 = some (.ireturn, 1) := by decide +kernel
theorem c163_10 : cd 163 10 = some (.iload 1, 1) := by decide +kernel
theorem c163_11 : cd 163 11 = some (.ifCond .lt 31, 3) := by decide +kernel
theorem c163_14 : cd 163 14 = some (.iload 1, 1) := by decide +kernel
theorem c163_15 : cd 163 15 = some (.aload 0, 1) := by decide +kernel
theorem c163_16 : cd 163 16 = some (.getfield 28, 3) := by decide +kernel
theorem c163_19 : cd 163 19 = some (.if_icmp .ge 31, 3) := by decide +kernel
theorem c163_22 : cd 163 22 = some (.aload 0, 1) := by decide +kernel
theorem c163_23 : cd 163 23 = some (.getfield 22, 3) := by decide +kernel
theorem c163_26 : cd 163 26 = some (.iload 1, 1) := by decide +kernel
theorem c163_27 : cd 163 27 = some (.iaload, 1) := by decide +kernel
theorem c163_28 : cd 163 28 = some (.goto 32, 3) := by decide +kernel
theorem c163_31 : cd 163 31 = some (.sipush (-1), 1) := by decide +kernel
theorem c163_32 : cd 163 32 = some (.ireturn, 1) := by decide +kernel
theorem g163_0 {d : Nat} {a1 : Int} {w : aW} {Q : Option aV → aW → Prop} : T d 163 0 [some (vr 19), some (vi a1)] [] w Q = ((¬ a1 = (-1) → ((a1 < 0 → T d 163 31 [some (vr 19), some (vi a1)] [] w Q) ∧ (¬ (a1 < 0) → ((w 19 7 ≤ a1 → T d 163 31 [some (vr 19), some (vi a1)] [] w Q) ∧ (¬ (w 19 7 ≤ a1) → ((0 ≤ a1 ∧ a1 < 1024) ∧ T d 163 32 [some (vr 19), some (vi a1)] [vi (w 24 a1)] w Q)))))) ∧ (¬ (¬ a1 = (-1)) → Q (some (vi (w 19 7))) w)) := by
  rw [T_iload_1 c163_0, T_sipush c163_1, T_icmp_ne 10 c163_2 rfl, T_iload_1 c163_10, T_if_lt 31 c163_11 rfl, T_iload_1 c163_14, T_aload_0 c163_15, T_getI 0 7 7 c163_16 rfl rfl rfl rfl, T_icmp_ge 31 c163_19 rfl, T_aload_0 c163_22, T_getR 0 5 5 c163_23 rfl rfl rfl rfl, rf_19_5, T_iload_1 c163_26, T_iald c163_27, T_goto 32 c163_28 rfl, T_aload_0 c163_5, T_getI 0 7 7 c163_6 rfl rfl rfl rfl, T_ireti c163_9 (by decide +kernel)]
  all_goals try simp only [Int.reduceToNat, lay_19, ld_24, true_and, Nat.reduceAdd, eq_self_iff_true]
theorem g163_31 {d : Nat} {x0 x1 : Option aV} {w : aW} {Q : Option aV → aW → Prop} : T d 163 31 [x0, x1] [] w Q = T d 163 32 [x0, x1] [vi (-1)] w Q := by
  rw [T_sipush c163_31]
  all_goals try simp only [true_and, Nat.reduceAdd, eq_self_iff_true]
theorem g163_32 {d : Nat} {s0 : Int} {x0 x1 : Option aV} {w : aW} {Q : Option aV → aW → Prop} : T d 163 32 [x0, x1] [vi s0] w Q = Q (some (vi s0)) w := by
  rw [T_ireti c163_32 (by decide +kernel)]
  all_goals try simp only [true_and, Nat.reduceAdd, eq_self_iff_true]
/-! 164: StringHandsModel.poses.()I -/
theorem c164_0 : cd 164 0 = some (.sipush 1, 1) := by decide +kernel
theorem c164_1 : cd 164 1 = some (.aload 0, 1) := by decide +kernel
theorem c164_2 : cd 164 2 = some (.getfield 3078, 3) := by decide +kernel
theorem c164_5 : cd 164 5 = some (.sipush 2, 1) := by decide +kernel
theorem c164_6 : cd 164 6 = some (.iaload, 1) := by decide +kernel
theorem c164_7 : cd 164 7 = some (.ishl, 1) := by decide +kernel
theorem c164_8 : cd 164 8 = some (.ireturn, 1) := by decide +kernel
theorem g164_0 {d : Nat} {w : aW} {Q : Option aV → aW → Prop} : T d 164 0 [some (vr 167)] [] w Q = Q (some (vi (jshl 1 (w 168 2)))) w := by
  rw [T_sipush c164_0, T_aload_0 c164_1, T_getR 12 1 1 c164_2 rfl rfl rfl rfl, rf_167_1, T_sipush c164_5, T_iald c164_6, T_ishl c164_7, T_ireti c164_8 (by decide +kernel)]
  all_goals try simp only [Int.reduceLE, Int.reduceLT, and_self, lay_167, ld_168, true_and, Nat.reduceAdd, eq_self_iff_true]
/-! 165: StringHands$Follow.fromNone.()I -/
theorem c165_0 : cd 165 0 = some (.aload 0, 1) := by decide +kernel
theorem c165_1 : cd 165 1 = some (.getfield 22, 3) := by decide +kernel
theorem c165_4 : cd 165 4 = some (.sipush 0, 1) := by decide +kernel
theorem c165_5 : cd 165 5 = some (.invokestatic 221, 3) := by decide +kernel
theorem c165_8 : cd 165 8 = some (.sipush 0, 1) := by decide +kernel
theorem c165_9 : cd 165 9 = some (.istore 1, 1) := by decide +kernel
theorem c165_10 : cd 165 10 = some (.iload 1, 1) := by decide +kernel
theorem c165_11 : cd 165 11 = some (.aload 0, 1) := by decide +kernel
theorem c165_12 : cd 165 12 = some (.getfield 0, 3) := by decide +kernel
theorem c165_15 : cd 165 15 = some (.if_icmp .ge 36, 3) := by decide +kernel
theorem c165_18 : cd 165 18 = some (.aload 0, 1) := by decide +kernel
theorem c165_19 : cd 165 19 = some (.getfield 22, 3) := by decide +kernel
theorem c165_22 : cd 165 22 = some (.aload 0, 1) := by decide +kernel
theorem c165_23 : cd 165 23 = some (.getfield 6, 3) := by decide +kernel
theorem c165_26 : cd 165 26 = some (.iload 1, 1) := by decide +kernel
theorem c165_27 : cd 165 27 = some (.iaload, 1) := by decide +kernel
theorem c165_28 : cd 165 28 = some (.sipush 1, 1) := by decide +kernel
theorem c165_29 : cd 165 29 = some (.iastore, 1) := by decide +kernel
theorem c165_30 : cd 165 30 = some (.iinc 1 1, 3) := by decide +kernel
theorem c165_33 : cd 165 33 = some (.goto 10, 3) := by decide +kernel
theorem c165_36 : cd 165 36 = some (.sipush 0, 1) := by decide +kernel
theorem c165_37 : cd 165 37 = some (.istore 1, 1) := by decide +kernel
theorem c165_38 : cd 165 38 = some (.sipush 0, 1) := by decide +kernel
theorem c165_39 : cd 165 39 = some (.istore 2, 1) := by decide +kernel
theorem c165_40 : cd 165 40 = some (.iload 2, 1) := by decide +kernel
theorem c165_41 : cd 165 41 = some (.aload 0, 1) := by decide +kernel
theorem c165_42 : cd 165 42 = some (.getfield 0, 3) := by decide +kernel
theorem c165_45 : cd 165 45 = some (.if_icmp .ge 65, 3) := by decide +kernel
theorem c165_48 : cd 165 48 = some (.iload 1, 1) := by decide +kernel
theorem c165_49 : cd 165 49 = some (.sipush 1, 1) := by decide +kernel
theorem c165_50 : cd 165 50 = some (.aload 0, 1) := by decide +kernel
theorem c165_51 : cd 165 51 = some (.getfield 22, 3) := by decide +kernel
theorem c165_54 : cd 165 54 = some (.iload 2, 1) := by decide +kernel
theorem c165_55 : cd 165 55 = some (.iaload, 1) := by decide +kernel
theorem c165_56 : cd 165 56 = some (.isub, 1) := by decide +kernel
theorem c165_57 : cd 165 57 = some (.iadd, 1) := by decide +kernel
theorem c165_58 : cd 165 58 = some (.istore 1, 1) := by decide +kernel
theorem c165_59 : cd 165 59 = some (.iinc 2 1, 3) := by decide +kernel
theorem c165_62 : cd 165 62 = some (.goto 40, 3) := by decide +kernel
theorem c165_65 : cd 165 65 = some (.iload 1, 1) := by decide +kernel
theorem c165_66 : cd 165 66 = some (.ireturn, 1) := by decide +kernel
theorem g165_0 {d : Nat} {x1 x2 : Option aV} {w : aW} {Q : Option aV → aW → Prop} : T (d + 1) 165 0 [some (vr 19), x1, x2] [] w Q = T d 221 0 [some (vr 24), some (vi 0), none, none] [] w (fun r w1 => T (d + 1) 165 8 [some (vr 19), x1, x2] (r.toList ++ []) w1 Q) := by
  rw [T_aload_0 c165_0, T_getR 0 5 5 c165_1 rfl rfl rfl rfl, rf_19_5, T_sipush c165_4, T_inv (es := [some (vr 24), some (vi 0), none, none]) (st := [vi 0, vr 24]) (ks := [2, 0]) (n := 4) (as := [vr 24, vi 0]) (rest := []) c165_5 (by decide +kernel) (by decide +kernel) rfl rfl (Nat.le_of_ble_eq_true rfl)]
  all_goals try simp only [lay_19, true_and, Nat.reduceAdd, eq_self_iff_true]
theorem g165_8 {d : Nat} {x0 x1 x2 : Option aV} {w : aW} {Q : Option aV → aW → Prop} : T d 165 8 [x0, x1, x2] [] w Q = T d 165 10 [x0, some (vi 0), x2] [] w Q := by
  rw [T_sipush c165_8, T_istore_1 c165_9]
  all_goals try simp only [true_and, Nat.reduceAdd, eq_self_iff_true]
theorem g165_10 {d : Nat} {a1 : Int} {x2 : Option aV} {w : aW} {Q : Option aV → aW → Prop} : T d 165 10 [some (vr 19), some (vi a1), x2] [] w Q = ((w 19 0 ≤ a1 → T d 165 40 [some (vr 19), some (vi 0), some (vi 0)] [] w Q) ∧ (¬ (w 19 0 ≤ a1) → ((0 ≤ a1 ∧ a1 < 1024) ∧ ((0 ≤ w 20 a1 ∧ w 20 a1 < 1024) ∧ T d 165 10 [some (vr 19), some (vi (w32 (a1 + 1))), x2] [] (iup w 24 (w 20 a1) 1) Q)))) := by
  rw [T_iload_1 c165_10, T_aload_0 c165_11, T_getI 0 0 0 c165_12 rfl rfl rfl rfl, T_icmp_ge 36 c165_15 rfl, T_sipush c165_36, T_istore_1 c165_37, T_sipush c165_38, T_istore_2 c165_39, T_aload_0 c165_18, T_getR 0 5 5 c165_19 rfl rfl rfl rfl, rf_19_5, T_aload_0 c165_22, T_getR 0 1 1 c165_23 rfl rfl rfl rfl, rf_19_1, T_iload_1 c165_26, T_iald c165_27, T_sipush c165_28, T_iast c165_29, T_iinc_1 c165_30, T_goto 10 c165_33 rfl]
  all_goals try simp only [Int.reduceToNat, ia0_24, lay_19, ld_20, true_and, Nat.reduceAdd, eq_self_iff_true]
theorem g165_40 {d : Nat} {a1 a2 : Int} {w : aW} {Q : Option aV → aW → Prop} : T d 165 40 [some (vr 19), some (vi a1), some (vi a2)] [] w Q = ((w 19 0 ≤ a2 → Q (some (vi a1)) w) ∧ (¬ (w 19 0 ≤ a2) → ((0 ≤ a2 ∧ a2 < 1024) ∧ T d 165 40 [some (vr 19), some (vi (w32 (a1 + (w32 (1 - (w 24 a2)))))), some (vi (w32 (a2 + 1)))] [] w Q))) := by
  rw [T_iload_2 c165_40, T_aload_0 c165_41, T_getI 0 0 0 c165_42 rfl rfl rfl rfl, T_icmp_ge 65 c165_45 rfl, T_iload_1 c165_65, T_ireti c165_66 (by decide +kernel), T_iload_1 c165_48, T_sipush c165_49, T_aload_0 c165_50, T_getR 0 5 5 c165_51 rfl rfl rfl rfl, rf_19_5, T_iload_2 c165_54, T_iald c165_55, T_isub c165_56, T_iadd c165_57, T_istore_1 c165_58, T_iinc_2 c165_59, T_goto 40 c165_62 rfl]
  all_goals try simp only [Int.reduceToNat, lay_19, ld_24, true_and, Nat.reduceAdd, eq_self_iff_true]
/-! 166: StringHands$Wishes.findWay.([IIII)Z -/
theorem c166_0 : cd 166 0 = some (.aload 0, 1) := by decide +kernel
theorem c166_1 : cd 166 1 = some (.aload 1, 1) := by decide +kernel
theorem c166_2 : cd 166 2 = some (.iload 2, 1) := by decide +kernel
theorem c166_3 : cd 166 3 = some (.iload 3, 1) := by decide +kernel
theorem c166_4 : cd 166 4 = some (.invokevirtual 241, 3) := by decide +kernel
theorem c166_7 : cd 166 7 = some (.istore 5, 2) := by decide +kernel
theorem c166_9 : cd 166 9 = some (.aload 0, 1) := by decide +kernel
theorem c166_10 : cd 166 10 = some (.getfield 2574, 3) := by decide +kernel
theorem c166_13 : cd 166 13 = some (.iload 4, 2) := by decide +kernel
theorem c166_15 : cd 166 15 = some (.iaload, 1) := by decide +kernel
theorem c166_16 : cd 166 16 = some (.sipush (-1), 1) := by decide +kernel
theorem c166_17 : cd 166 17 = some (.if_icmp .ne 22, 3) := by decide +kernel
theorem c166_20 : cd 166 20 = some (.sipush 0, 1) := by decide +kernel
theorem c166_21 : cd 166 21 = some (.ireturn, 1) := by decide +kernel
theorem c166_22 : cd 166 22 = some (.aload 0, 1) := by decide +kernel
theorem c166_23 : cd 166 23 = some (.aload 0, 1) := by decide +kernel
theorem c166_24 : cd 166 24 = some (.getfield 2574, 3) := by decide +kernel
theorem c166_27 : cd 166 27 = some (.iload 4, 2) := by decide +kernel
theorem c166_29 : cd 166 29 = some (.iaload, 1) := by decide +kernel
theorem c166_30 : cd 166 30 = some (.putfield 2560, 3) := by decide +kernel
theorem c166_33 : cd 166 33 = some (.aload 0, 1) := by decide +kernel
theorem c166_34 : cd 166 34 = some (.aload 1, 1) := by decide +kernel
theorem c166_35 : cd 166 35 = some (.iload 2, 1) := by decide +kernel
theorem c166_36 : cd 166 36 = some (.iload 4, 2) := by decide +kernel
theorem c166_38 : cd 166 38 = some (.iload 5, 2) := by decide +kernel
theorem c166_40 : cd 166 40 = some (.invokevirtual 242, 3) := by decide +kernel
theorem c166_43 : cd 166 43 = some (.aload 0, 1) := by decide +kernel
theorem c166_44 : cd 166 44 = some (.aload 0, 1) := by decide +kernel
theorem c166_45 : cd 166 45 = some (.getfield 2582, 3) := by decide +kernel
theorem c166_48 : cd 166 48 = some (.iload 3, 1) := by decide +kernel
theorem c166_49 : cd 166 49 = some (.iaload, 1) := by decide +kernel
theorem c166_50 : cd 166 50 = some (.putfield 2564, 3) := by decide +kernel
theorem c166_53 : cd 166 53 = some (.aload 0, 1) := by decide +kernel
theorem c166_54 : cd 166 54 = some (.aload 1, 1) := by decide +kernel
theorem c166_55 : cd 166 55 = some (.iload 2, 1) := by decide +kernel
theorem c166_56 : cd 166 56 = some (.iload 3, 1) := by decide +kernel
theorem c166_57 : cd 166 57 = some (.invokevirtual 243, 3) := by decide +kernel
theorem c166_60 : cd 166 60 = some (.sipush 1, 1) := by decide +kernel
theorem c166_61 : cd 166 61 = some (.ireturn, 1) := by decide +kernel
theorem g166_0 {d : Nat} {a2 a3 : Int} {x4 x5 : Option aV} {w : aW} {Q : Option aV → aW → Prop} : T (d + 1) 166 0 [some (vr 27), some (vr 20), some (vi a2), some (vi a3), x4, x5] [] w Q = T d 241 0 [some (vr 27), some (vr 20), some (vi a2), some (vi a3), none, none, none, none, none] [] w (fun r w1 => T (d + 1) 166 7 [some (vr 27), some (vr 20), some (vi a2), some (vi a3), x4, x5] (r.toList ++ []) w1 Q) := by
  rw [T_aload_0 c166_0, T_aload_1 c166_1, T_iload_2 c166_2, T_iload_3 c166_3, T_invv (es := [some (vr 27), some (vr 20), some (vi a2), some (vi a3), none, none, none, none, none]) (st := [vi a3, vi a2, vr 20, vr 27]) (ks := [2, 2, 0, 0]) (n := 9) (c := 10) (k := 27) (as := [vr 20, vi a2, vi a3]) (rest := []) c166_4 (by decide +kernel) (by decide +kernel) (by decide +kernel) (by decide) rfl rfl (Nat.le_of_ble_eq_true rfl)]
  all_goals try simp only [lay_27, true_and, Nat.reduceAdd, eq_self_iff_true]
theorem g166_7 {d : Nat} {a2 a4 s0 : Int} {x3 x5 : Option aV} {w : aW} {Q : Option aV → aW → Prop} : T (d + 1) 166 7 [some (vr 27), some (vr 20), some (vi a2), x3, some (vi a4), x5] [vi s0] w Q = ((0 ≤ a4 ∧ a4 < 1024) ∧ ((¬ w 29 a4 = (-1) → ((0 ≤ a4 ∧ a4 < 1024) ∧ T d 242 0 [some (vr 27), some (vr 20), some (vi a2), some (vi a4), some (vi s0), none, none, none, none, none, none] [] (iup w 27 0 (w 29 a4)) (fun r w1 => T (d + 1) 166 43 [some (vr 27), some (vr 20), some (vi a2), x3, some (vi a4), some (vi s0)] (r.toList ++ []) w1 Q))) ∧ (¬ (¬ w 29 a4 = (-1)) → Q (some (vi 0)) w))) := by
  rw [T_istore_5 c166_7, T_aload_0 c166_9, T_getR 10 3 3 c166_10 rfl rfl rfl rfl, rf_27_3, T_iload_4 c166_13, T_iald c166_15, T_sipush c166_16, T_icmp_ne 22 c166_17 rfl, T_aload_0 c166_22, T_aload_0 c166_23, T_getR 10 3 3 c166_24 rfl rfl rfl rfl, rf_27_3, T_iload_4 c166_27, T_iald c166_29, T_putI 10 0 0 c166_30 rfl rfl rfl rfl, T_aload_0 c166_33, T_aload_1 c166_34, T_iload_2 c166_35, T_iload_4 c166_36, T_iload_5 c166_38, T_invv (es := [some (vr 27), some (vr 20), some (vi a2), some (vi a4), some (vi s0), none, none, none, none, none, none]) (st := [vi s0, vi a4, vi a2, vr 20, vr 27]) (ks := [2, 2, 0, 0, 0]) (n := 11) (c := 10) (k := 27) (as := [vr 20, vi a2, vi a4, vi s0]) (rest := []) c166_40 (by decide +kernel) (by decide +kernel) (by decide +kernel) (by decide) rfl rfl (Nat.le_of_ble_eq_true rfl), T_sipush c166_20, T_iretz c166_21 (by decide +kernel)]
  all_goals try simp only [Int.reduceToNat, lay_27, ld_29, true_and, Nat.reduceAdd, eq_self_iff_true, zero_eq_1, one_eq_0, true_or, or_true]
theorem g166_43 {d : Nat} {a2 a3 : Int} {x4 x5 : Option aV} {w : aW} {Q : Option aV → aW → Prop} : T (d + 1) 166 43 [some (vr 27), some (vr 20), some (vi a2), some (vi a3), x4, x5] [] w Q = ((0 ≤ a3 ∧ a3 < 1024) ∧ T d 243 0 [some (vr 27), some (vr 20), some (vi a2), some (vi a3), none, none] [] (iup w 27 1 (w 31 a3)) (fun r w1 => T (d + 1) 166 60 [some (vr 27), some (vr 20), some (vi a2), some (vi a3), x4, x5] (r.toList ++ []) w1 Q)) := by
  rw [T_aload_0 c166_43, T_aload_0 c166_44, T_getR 10 5 5 c166_45 rfl rfl rfl rfl, rf_27_5, T_iload_3 c166_48, T_iald c166_49, T_putI 10 1 1 c166_50 rfl rfl rfl rfl, T_aload_0 c166_53, T_aload_1 c166_54, T_iload_2 c166_55, T_iload_3 c166_56, T_invv (es := [some (vr 27), some (vr 20), some (vi a2), some (vi a3), none, none]) (st := [vi a3, vi a2, vr 20, vr 27]) (ks := [2, 2, 0, 0]) (n := 6) (c := 10) (k := 27) (as := [vr 20, vi a2, vi a3]) (rest := []) c166_57 (by decide +kernel) (by decide +kernel) (by decide +kernel) (by decide) rfl rfl (Nat.le_of_ble_eq_true rfl)]
  all_goals try simp only [lay_27, ld_31, true_and, Nat.reduceAdd, eq_self_iff_true]
theorem g166_60 {d : Nat} {x0 x1 x2 x3 x4 x5 : Option aV} {w : aW} {Q : Option aV → aW → Prop} : T d 166 60 [x0, x1, x2, x3, x4, x5] [] w Q = Q (some (vi 1)) w := by
  rw [T_sipush c166_60, T_iretz c166_61 (by decide +kernel)]
  all_goals try simp only [true_and, Nat.reduceAdd, eq_self_iff_true, zero_eq_1, one_eq_0, true_or, or_true]
/-! 167: StringHandsModel.laysNudges.(I)I -/
theorem c167_0 : cd 167 0 = some (.aload 0, 1) := by decide +kernel
theorem c167_1 : cd 167 1 = some (.invokevirtual 156, 3) := by decide +kernel
theorem c167_4 : cd 167 4 = some (.sipush 0, 1) := by decide +kernel
theorem c167_5 : cd 167 5 = some (.istore 2, 1) := by decide +kernel
theorem c167_6 : cd 167 6 = some (.iload 2, 1) := by decide +kernel
theorem c167_7 : cd 167 7 = some (.aload 0, 1) := by decide +kernel
theorem c167_8 : cd 167 8 = some (.invokevirtual 164, 3) := by decide +kernel
theorem c167_11 : cd 167 11 = some (.if_icmp .ge 38, 3) := by decide +kernel
theorem c167_14 : cd 167 14 = some (.aload 0, 1) := by decide +kernel
theorem c167_15 : cd 167 15 = some (.getfield 3166, 3) := by decide +kernel
theorem c167_18 : cd 167 18 = some (.iload 2, 1) := by decide +kernel
theorem c167_19 : cd 167 19 = some (.iload 2, 1) := by decide +kernel
theorem c167_20 : cd 167 20 = some (.iload 1, 1) := by decide +kernel
theorem c167_21 : cd 167 21 = some (.if_icmp .ne 28, 3) := by decide +kernel
theorem c167_24 : cd 167 24 = some (.sipush 0, 1) := by decide +kernel
theorem c167_25 : cd 167 25 = some (.goto 31, 3) := by decide +kernel
theorem c167_28 : cd 167 28 = some (.sipush 9999, 3) := by decide +kernel
theorem c167_31 : cd 167 31 = some (.iastore, 1) := by decide +kernel
theorem c167_32 : cd 167 32 = some (.iinc 2 1, 3) := by decide +kernel
theorem c167_35 : cd 167 35 = some (.goto 6, 3) := by decide +kernel
theorem c167_38 : cd 167 38 = some (.sipush 0, 1) := by decide +kernel
theorem c167_39 : cd 167 39 = some (.istore 2, 1) := by decide +kernel
theorem c167_40 : cd 167 40 = some (.iload 2, 1) := by decide +kernel
theorem c167_41 : cd 167 41 = some (.sipush 40, 2) := by decide +kernel
theorem c167_43 : cd 167 43 = some (.if_icmp .gt 213, 3) := by decide +kernel
theorem c167_46 : cd 167 46 = some (.aload 0, 1) := by decide +kernel
theorem c167_47 : cd 167 47 = some (.getfield 3166, 3) := by decide +kernel
theorem c167_50 : cd 167 50 = some (.sipush 1024, 3) := by decide +kernel
theorem c167_53 : cd 167 53 = some (.iload 2, 1) := by decide +kernel
theorem c167_54 : cd 167 54 = some (.imul, 1) := by decide +kernel
theorem c167_55 : cd 167 55 = some (.aload 0, 1) := by decide +kernel
theorem c167_56 : cd 167 56 = some (.getfield 3078, 3) := by decide +kernel
theorem c167_59 : cd 167 59 = some (.sipush 5, 1) := by decide +kernel
theorem c167_60 : cd 167 60 = some (.iaload, 1) := by decide +kernel
theorem c167_61 : cd 167 61 = some (.iadd, 1) := by decide +kernel
theorem c167_62 : cd 167 62 = some (.iaload, 1) := by decide +kernel
theorem c167_63 : cd 167 63 = some (.sipush 9999, 3) := by decide +kernel
theorem c167_66 : cd 167 66 = some (.if_icmp .ge 71, 3) := by decide +kernel
theorem c167_69 : cd 167 69 = some (.iload 2, 1) := by decide +kernel
theorem c167_70 : cd 167 70 = some (.ireturn, 1) := by decide +kernel
theorem c167_71 : cd 167 71 = some (.iload 2, 1) := by decide +kernel
theorem c167_72 : cd 167 72 = some (.sipush 40, 2) := by decide +kernel
theorem c167_74 : cd 167 74 = some (.if_icmp .ne 80, 3) := by decide +kernel
theorem c167_77 : cd 167 77 = some (.goto 213, 3) := by decide +kernel
theorem c167_80 : cd 167 80 = some (.sipush 0, 1) := by decide +kernel
theorem c167_81 : cd 167 81 = some (.istore 3, 1) := by decide +kernel
theorem c167_82 : cd 167 82 = some (.iload 3, 1) := by decide +kernel
theorem c167_83 : cd 167 83 = some (.aload 0, 1) := by decide +kernel
theorem c167_84 : cd 167 84 = some (.invokevirtual 164, 3) := by decide +kernel
theorem c167_87 : cd 167 87 = some (.if_icmp .ge 207, 3) := by decide +kernel
theorem c167_90 : cd 167 90 = some (.aload 0, 1) := by decide +kernel
theorem c167_91 : cd 167 91 = some (.getfield 3166, 3) := by decide +kernel
theorem c167_94 : cd 167 94 = some (.sipush 1024, 3) := by decide +kernel
theorem c167_97 : cd 167 97 = some (.iload 2, 1) := by decide +kernel
theorem c167_98 : cd 167 98 = some (.imul, 1) := by decide +kernel
theorem c167_99 : cd 167 99 = some (.aload 0, 1) := by decide +kernel
theorem c167_100 : cd 167 100 = some (.getfield 3150, 3) := by decide +kernel
theorem c167_103 : cd 167 103 = some (.iload 3, 1) := by decide +kernel
theorem c167_104 : cd 167 104 = some (.iaload, 1) := by decide +kernel
theorem c167_105 : cd 167 105 = some (.iadd, 1) := by decide +kernel
theorem c167_106 : cd 167 106 = some (.iaload, 1) := by decide +kernel
theorem c167_107 : cd 167 107 = some (.istore 4, 2) := by decide +kernel
theorem c167_109 : cd 167 109 = some (.sipush 0, 1) := by decide +kernel
theorem c167_110 : cd 167 110 = some (.istore 5, 2) := by decide +kernel
theorem c167_112 : cd 167 112 = some (.iload 5, 2) := by decide +kernel
theorem c167_114 : cd 167 114 = some (.aload 0, 1) := by decide +kernel
theorem c167_115 : cd 167 115 = some (.getfield 3078, 3) := by decide +kernel
theorem c167_118 : cd 167 118 = some (.sipush 2, 1) := by decide +kernel
theorem c167_119 : cd 167 119 = some (.iaload, 1) := by decide +kernel
theorem c167_120 : cd 167 120 = some (.if_icmp .ge 171, 3) := by decide +kernel
theorem c167_123 : cd 167 123 = some (.aload 0, 1) := by decide +kernel
theorem c167_124 : cd 167 124 = some (.getfield 3166, 3) := by decide +kernel
theorem c167_127 : cd 167 127 = some (.sipush 1024, 3) := by decide +kernel
theorem c167_130 : cd 167 130 = some (.iload 2, 1) := by decide +kernel
theorem c167_131 : cd 167 131 = some (.imul, 1) := by decide +kernel
theorem c167_132 : cd 167 132 = some (.aload 0, 1) := by decide +kernel
theorem c167_133 : cd 167 133 = some (.getfield 3150, 3) := by decide +kernel
theorem c167_136 : cd 167 136 = some (.iload 3, 1) := by decide +kernel
theorem c167_137 : cd 167 137 = some (.sipush 1, 1) := by decide +kernel
theorem c167_138 : cd 167 138 = some (.iload 5, 2) := by decide +kernel
theorem c167_140 : cd 167 140 = some (.ishl, 1) := by decide +kernel
theorem c167_141 : cd 167 141 = some (.ixor, 1) := by decide +kernel
theorem c167_142 : cd 167 142 = some (.iaload, 1) := by decide +kernel
theorem c167_143 : cd 167 143 = some (.iadd, 1) := by decide +kernel
theorem c167_144 : cd 167 144 = some (.iaload, 1) := by decide +kernel
theorem c167_145 : cd 167 145 = some (.sipush 1, 1) := by decide +kernel
theorem c167_146 : cd 167 146 = some (.iadd, 1) := by decide +kernel
theorem c167_147 : cd 167 147 = some (.istore 6, 2) := by decide +kernel
theorem c167_149 : cd 167 149 = some (.iload 6, 2) := by decide +kernel
theorem c167_151 : cd 167 151 = some (.iload 4, 2) := by decide +kernel
theorem c167_153 : cd 167 153 = some (.if_icmp .ge 161, 3) := by decide +kernel
theorem c167_156 : cd 167 156 = some (.iload 6, 2) := by decide +kernel
theorem c167_158 : cd 167 158 = some (.goto 163, 3) := by decide +kernel
theorem c167_161 : cd 167 161 = some (.iload 4, 2) := by decide +kernel
theorem c167_163 : cd 167 163 = some (.istore 4, 2) := by decide +kernel
theorem c167_165 : cd 167 165 = some (.iinc 5 1, 3) := by decide +kernel
theorem c167_168 : cd 167 168 = some (.goto 112, 3) := by decide +kernel
theorem c167_171 : cd 167 171 = some (.aload 0, 1) := by decide +kernel
theorem c167_172 : cd 167 172 = some (.getfield 3166, 3) := by decide +kernel
theorem c167_175 : cd 167 175 = some (.sipush 1024, 3) := by decide +kernel
theorem c167_178 : cd 167 178 = some (.iload 2, 1) := by decide +kernel
theorem c167_179 : cd 167 179 = some (.sipush 1, 1) := by decide +kernel
theorem c167_180 : cd 167 180 = some (.iadd, 1) := by decide +kernel
theorem c167_181 : cd 167 181 = some (.imul, 1) := by decide +kernel
theorem c167_182 : cd 167 182 = some (.iload 3, 1) := by decide +kernel
theorem c167_183 : cd 167 183 = some (.iadd, 1) := by decide +kernel
theorem c167_184 : cd 167 184 = some (.iload 4, 2) := by decide +kernel
theorem c167_186 : cd 167 186 = some (.sipush 9999, 3) := by decide +kernel
theorem c167_189 : cd 167 189 = some (.if_icmp .le 198, 3) := by decide +kernel
theorem c167_192 : cd 167 192 = some (.sipush 9999, 3) := by decide +kernel
theorem c167_195 : cd 167 195 = some (.goto 200, 3) := by decide +kernel
theorem c167_198 : cd 167 198 = some (.iload 4, 2) := by decide +kernel
theorem c167_200 : cd 167 200 = some (.iastore, 1) := by decide +kernel
theorem c167_201 : cd 167 201 = some (.iinc 3 1, 3) := by decide +kernel
theorem c167_204 : cd 167 204 = some (.goto 82, 3) := by decide +kernel
theorem c167_207 : cd 167 207 = some (.iinc 2 1, 3) := by decide +kernel
theorem c167_210 : cd 167 210 = some (.goto 40, 3) := by decide +kernel
theorem c167_213 : cd 167 213 = some (.sipush (-1), 1) := by decide +kernel
theorem c167_214 : cd 167 214 = some (.ireturn, 1) := by decide +kernel
theorem g167_0 {d : Nat} {x1 x2 x3 x4 x5 x6 : Option aV} {w : aW} {Q : Option aV → aW → Prop} : T (d + 1) 167 0 [some (vr 167), x1, x2, x3, x4, x5, x6] [] w Q = T d 156 0 [some (vr 167), none] [] w (fun r w1 => T (d + 1) 167 4 [some (vr 167), x1, x2, x3, x4, x5, x6] (r.toList ++ []) w1 Q) := by
  rw [T_aload_0 c167_0, T_invv (es := [some (vr 167), none]) (st := [vr 167]) (ks := [2]) (n := 2) (c := 12) (k := 167) (as := []) (rest := []) c167_1 (by decide +kernel) (by decide +kernel) (by decide +kernel) (by decide) rfl rfl (Nat.le_of_ble_eq_true rfl)]
  all_goals try simp only [lay_167, true_and, Nat.reduceAdd, eq_self_iff_true]
theorem g167_4 {d : Nat} {x0 x1 x2 x3 x4 x5 x6 : Option aV} {w : aW} {Q : Option aV → aW → Prop} : T d 167 4 [x0, x1, x2, x3, x4, x5, x6] [] w Q = T d 167 6 [x0, x1, some (vi 0), x3, x4, x5, x6] [] w Q := by
  rw [T_sipush c167_4, T_istore_2 c167_5]
  all_goals try simp only [true_and, Nat.reduceAdd, eq_self_iff_true]
theorem g167_6 {d : Nat} {a2 : Int} {x1 x3 x4 x5 x6 : Option aV} {w : aW} {Q : Option aV → aW → Prop} : T (d + 1) 167 6 [some (vr 167), x1, some (vi a2), x3, x4, x5, x6] [] w Q = T d 164 0 [some (vr 167)] [] w (fun r w1 => T (d + 1) 167 11 [some (vr 167), x1, some (vi a2), x3, x4, x5, x6] (r.toList ++ [vi a2]) w1 Q) := by
  rw [T_iload_2 c167_6, T_aload_0 c167_7, T_invv (es := [some (vr 167)]) (st := [vr 167, vi a2]) (ks := [2]) (n := 1) (c := 12) (k := 167) (as := []) (rest := [vi a2]) c167_8 (by decide +kernel) (by decide +kernel) (by decide +kernel) (by decide) rfl rfl (Nat.le_of_ble_eq_true rfl)]
  all_goals try simp only [lay_167, true_and, Nat.reduceAdd, eq_self_iff_true]
theorem g167_11 {d : Nat} {a1 a2 s0 s1 : Int} {x3 x4 x5 x6 : Option aV} {w : aW} {Q : Option aV → aW → Prop} : T d 167 11 [some (vr 167), some (vi a1), some (vi a2), x3, x4, x5, x6] [vi s1, vi s0] w Q = ((s1 ≤ s0 → T d 167 40 [some (vr 167), some (vi a1), some (vi 0), x3, x4, x5, x6] [] w Q) ∧ (¬ (s1 ≤ s0) → ((¬ a2 = a1 → T d 167 31 [some (vr 167), some (vi a1), some (vi a2), x3, x4, x5, x6] [vi 9999, vi a2, vr 178] w Q) ∧ (¬ (¬ a2 = a1) → T d 167 31 [some (vr 167), some (vi a1), some (vi a2), x3, x4, x5, x6] [vi 0, vi a2, vr 178] w Q)))) := by
  rw [T_icmp_ge 38 c167_11 rfl, T_sipush c167_38, T_istore_2 c167_39, T_aload_0 c167_14, T_getR 12 23 23 c167_15 rfl rfl rfl rfl, rf_167_23, T_iload_2 c167_18, T_iload_2 c167_19, T_iload_1 c167_20, T_icmp_ne 28 c167_21 rfl, T_sipush c167_28, T_sipush c167_24, T_goto 31 c167_25 rfl]
  all_goals try simp only [Int.reduceToNat, lay_167, true_and, Nat.reduceAdd, eq_self_iff_true]
theorem g167_31 {d : Nat} {a2 s1 s2 : Int} {s0 : Nat} {x0 x1 x3 x4 x5 x6 : Option aV} {w : aW} {Q : Option aV → aW → Prop} : T d 167 31 [x0, x1, some (vi a2), x3, x4, x5, x6] [vi s2, vi s1, vr s0] w Q = (inA s0 0 s1 = true ∧ T d 167 6 [x0, x1, some (vi (w32 (a2 + 1))), x3, x4, x5, x6] [] (iup w s0 s1 s2) Q) := by
  rw [T_iast c167_31, T_iinc_2 c167_32, T_goto 6 c167_35 rfl]
  all_goals try simp only [true_and, Nat.reduceAdd, eq_self_iff_true]
theorem g167_40 {d : Nat} {a2 : Int} {x1 x3 x4 x5 x6 : Option aV} {w : aW} {Q : Option aV → aW → Prop} : T d 167 40 [some (vr 167), x1, some (vi a2), x3, x4, x5, x6] [] w Q = ((40 < a2 → T d 167 213 [some (vr 167), x1, some (vi a2), x3, x4, x5, x6] [] w Q) ∧ (¬ (40 < a2) → ((0 ≤ w32 ((w32 (1024 * a2)) + (w 168 5)) ∧ w32 ((w32 (1024 * a2)) + (w 168 5)) < 41984) ∧ ((9999 ≤ w 178 (w32 ((w32 (1024 * a2)) + (w 168 5))) → ((¬ a2 = 40 → T d 167 82 [some (vr 167), x1, some (vi a2), some (vi 0), x4, x5, x6] [] w Q) ∧ (¬ (¬ a2 = 40) → T d 167 213 [some (vr 167), x1, some (vi a2), x3, x4, x5, x6] [] w Q))) ∧ (¬ (9999 ≤ w 178 (w32 ((w32 (1024 * a2)) + (w 168 5)))) → Q (some (vi a2)) w))))) := by
  rw [T_iload_2 c167_40, T_sipush c167_41, T_icmp_gt 213 c167_43 rfl, T_aload_0 c167_46, T_getR 12 23 23 c167_47 rfl rfl rfl rfl, rf_167_23, T_sipush c167_50, T_iload_2 c167_53, T_imul c167_54, T_aload_0 c167_55, T_getR 12 1 1 c167_56 rfl rfl rfl rfl, rf_167_1, T_sipush c167_59, T_iald c167_60, T_iadd c167_61, T_iald c167_62, T_sipush c167_63, T_icmp_ge 71 c167_66 rfl, T_iload_2 c167_71, T_sipush c167_72, T_icmp_ne 80 c167_74 rfl, T_sipush c167_80, T_istore_3 c167_81, T_goto 213 c167_77 rfl, T_iload_2 c167_69, T_ireti c167_70 (by decide +kernel)]
  all_goals try simp only [Int.reduceLE, Int.reduceLT, Int.reduceToNat, and_self, lay_167, ld_168, ld_178, true_and, Nat.reduceAdd, eq_self_iff_true]
theorem g167_82 {d : Nat} {a3 : Int} {x1 x2 x4 x5 x6 : Option aV} {w : aW} {Q : Option aV → aW → Prop} : T (d + 1) 167 82 [some (vr 167), x1, x2, some (vi a3), x4, x5, x6] [] w Q = T d 164 0 [some (vr 167)] [] w (fun r w1 => T (d + 1) 167 87 [some (vr 167), x1, x2, some (vi a3), x4, x5, x6] (r.toList ++ [vi a3]) w1 Q) := by
  rw [T_iload_3 c167_82, T_aload_0 c167_83, T_invv (es := [some (vr 167)]) (st := [vr 167, vi a3]) (ks := [2]) (n := 1) (c := 12) (k := 167) (as := []) (rest := [vi a3]) c167_84 (by decide +kernel) (by decide +kernel) (by decide +kernel) (by decide) rfl rfl (Nat.le_of_ble_eq_true rfl)]
  all_goals try simp only [lay_167, true_and, Nat.reduceAdd, eq_self_iff_true]
theorem g167_87 {d : Nat} {a2 a3 s0 s1 : Int} {x1 x4 x5 x6 : Option aV} {w : aW} {Q : Option aV → aW → Prop} : T d 167 87 [some (vr 167), x1, some (vi a2), some (vi a3), x4, x5, x6] [vi s1, vi s0] w Q = ((s1 ≤ s0 → T d 167 40 [some (vr 167), x1, some (vi (w32 (a2 + 1))), some (vi a3), x4, x5, x6] [] w Q) ∧ (¬ (s1 ≤ s0) → ((0 ≤ a3 ∧ a3 < 1024) ∧ ((0 ≤ w32 ((w32 (1024 * a2)) + (w 174 a3)) ∧ w32 ((w32 (1024 * a2)) + (w 174 a3)) < 41984) ∧ T d 167 112 [some (vr 167), x1, some (vi a2), some (vi a3), some (vi (w 178 (w32 ((w32 (1024 * a2)) + (w 174 a3))))), some (vi 0), x6] [] w Q)))) := by
  rw [T_icmp_ge 207 c167_87 rfl, T_iinc_2 c167_207, T_goto 40 c167_210 rfl, T_aload_0 c167_90, T_getR 12 23 23 c167_91 rfl rfl rfl rfl, rf_167_23, T_sipush c167_94, T_iload_2 c167_97, T_imul c167_98, T_aload_0 c167_99, T_getR 12 19 19 c167_100 rfl rfl rfl rfl, rf_167_19, T_iload_3 c167_103, T_iald c167_104, T_iadd c167_105, T_iald c167_106, T_istore_4 c167_107, T_sipush c167_109, T_istore_5 c167_110]
  all_goals try simp only [Int.reduceToNat, lay_167, ld_174, ld_178, true_and, Nat.reduceAdd, eq_self_iff_true]
theorem g167_112 {d : Nat} {a2 a3 a4 a5 : Int} {x1 x6 : Option aV} {w : aW} {Q : Option aV → aW → Prop} : T d 167 112 [some (vr 167), x1, some (vi a2), some (vi a3), some (vi a4), some (vi a5), x6] [] w Q = ((w 168 2 ≤ a5 → ((a4 ≤ 9999 → T d 167 200 [some (vr 167), x1, some (vi a2), some (vi a3), some (vi a4), some (vi a5), x6] [vi a4, vi (w32 ((w32 (1024 * (w32 (a2 + 1)))) + a3)), vr 178] w Q) ∧ (¬ (a4 ≤ 9999) → T d 167 200 [some (vr 167), x1, some (vi a2), some (vi a3), some (vi a4), some (vi a5), x6] [vi 9999, vi (w32 ((w32 (1024 * (w32 (a2 + 1)))) + a3)), vr 178] w Q))) ∧ (¬ (w 168 2 ≤ a5) → ((0 ≤ jxor a3 (jshl 1 a5) ∧ jxor a3 (jshl 1 a5) < 1024) ∧ ((0 ≤ w32 ((w32 (1024 * a2)) + (w 174 (jxor a3 (jshl 1 a5)))) ∧ w32 ((w32 (1024 * a2)) + (w 174 (jxor a3 (jshl 1 a5)))) < 41984) ∧ ((a4 ≤ w32 ((w 178 (w32 ((w32 (1024 * a2)) + (w 174 (jxor a3 (jshl 1 a5)))))) + 1) → T d 167 163 [some (vr 167), x1, some (vi a2), some (vi a3), some (vi a4), some (vi a5), some (vi (w32 ((w 178 (w32 ((w32 (1024 * a2)) + (w 174 (jxor a3 (jshl 1 a5)))))) + 1)))] [vi a4] w Q) ∧ (¬ (a4 ≤ w32 ((w 178 (w32 ((w32 (1024 * a2)) + (w 174 (jxor a3 (jshl 1 a5)))))) + 1)) → T d 167 163 [some (vr 167), x1, some (vi a2), some (vi a3), some (vi a4), some (vi a5), some (vi (w32 ((w 178 (w32 ((w32 (1024 * a2)) + (w 174 (jxor a3 (jshl 1 a5)))))) + 1)))] [vi (w32 ((w 178 (w32 ((w32 (1024 * a2)) + (w 174 (jxor a3 (jshl 1 a5)))))) + 1))] w Q)))))) := by
  rw [T_iload_5 c167_112, T_aload_0 c167_114, T_getR 12 1 1 c167_115 rfl rfl rfl rfl, rf_167_1, T_sipush c167_118, T_iald c167_119, T_icmp_ge 171 c167_120 rfl, T_aload_0 c167_171, T_getR 12 23 23 c167_172 rfl rfl rfl rfl, rf_167_23, T_sipush c167_175, T_iload_2 c167_178, T_sipush c167_179, T_iadd c167_180, T_imul c167_181, T_iload_3 c167_182, T_iadd c167_183, T_iload_4 c167_184, T_sipush c167_186, T_icmp_le 198 c167_189 rfl, T_iload_4 c167_198, T_sipush c167_192, T_goto 200 c167_195 rfl, T_aload_0 c167_123, T_getR 12 23 23 c167_124 rfl rfl rfl rfl, rf_167_23, T_sipush c167_127, T_iload_2 c167_130, T_imul c167_131, T_aload_0 c167_132, T_getR 12 19 19 c167_133 rfl rfl rfl rfl, rf_167_19, T_iload_3 c167_136, T_sipush c167_137, T_iload_5 c167_138, T_ishl c167_140, T_ixor c167_141, T_iald c167_142, T_iadd c167_143, T_iald c167_144, T_sipush c167_145, T_iadd c167_146, T_istore_6 c167_147, T_iload_6 c167_149, T_iload_4 c167_151, T_icmp_ge 161 c167_153 rfl, T_iload_4 c167_161, T_iload_6 c167_156, T_goto 163 c167_158 rfl]
  all_goals try simp only [Int.reduceLE, Int.reduceLT, Int.reduceToNat, and_self, lay_167, ld_168, ld_174, ld_178, true_and, Nat.reduceAdd, eq_self_iff_true]
theorem g167_163 {d : Nat} {a5 s0 : Int} {x0 x1 x2 x3 x4 x6 : Option aV} {w : aW} {Q : Option aV → aW → Prop} : T d 167 163 [x0, x1, x2, x3, x4, some (vi a5), x6] [vi s0] w Q = T d 167 112 [x0, x1, x2, x3, some (vi s0), some (vi (w32 (a5 + 1))), x6] [] w Q := by
  rw [T_istore_4 c167_163, T_iinc_5 c167_165, T_goto 112 c167_168 rfl]
  all_goals try simp only [true_and, Nat.reduceAdd, eq_self_iff_true]
theorem g167_200 {d : Nat} {a3 s1 s2 : Int} {s0 : Nat} {x0 x1 x2 x4 x5 x6 : Option aV} {w : aW} {Q : Option aV → aW → Prop} : T d 167 200 [x0, x1, x2, some (vi a3), x4, x5, x6] [vi s2, vi s1, vr s0] w Q = (inA s0 0 s1 = true ∧ T d 167 82 [x0, x1, x2, some (vi (w32 (a3 + 1))), x4, x5, x6] [] (iup w s0 s1 s2) Q) := by
  rw [T_iast c167_200, T_iinc_3 c167_201, T_goto 82 c167_204 rfl]
  all_goals try simp only [true_and, Nat.reduceAdd, eq_self_iff_true]
theorem g167_213 {d : Nat} {x0 x1 x2 x3 x4 x5 x6 : Option aV} {w : aW} {Q : Option aV → aW → Prop} : T d 167 213 [x0, x1, x2, x3, x4, x5, x6] [] w Q = Q (some (vi (-1))) w := by
  rw [T_sipush c167_213, T_ireti c167_214 (by decide +kernel)]
  all_goals try simp only [true_and, Nat.reduceAdd, eq_self_iff_true]
/-! 168: StringHands$Wishes.comes.([III)Z -/
theorem c168_0 : cd 168 0 = some (.iload 2, 1) := by decide +kernel
theorem c168_1 : cd 168 1 = some (.istore 4, 2) := by decide +kernel
theorem c168_3 : cd 168 3 = some (.sipush 0, 1) := by decide +kernel
theorem c168_4 : cd 168 4 = some (.istore 5, 2) := by decide +kernel
theorem c168_6 : cd 168 6 = some (.iload 5, 2) := by decide +kernel
theorem c168_8 : cd 168 8 = some (.sipush 60, 2) := by decide +kernel
theorem c168_10 : cd 168 10 = some (.if_icmp .ge 33, 3) := by decide +kernel
theorem c168_13 : cd 168 13 = some (.aload 1, 1) := by decide +kernel
theorem c168_14 : cd 168 14 = some (.iload 4, 2) := by decide +kernel
theorem c168_16 : cd 168 16 = some (.iaload, 1) := by decide +kernel
theorem c168_17 : cd 168 17 = some (.istore 4, 2) := by decide +kernel
theorem c168_19 : cd 168 19 = some (.iload 4, 2) := by decide +kernel
theorem c168_21 : cd 168 21 = some (.iload 3, 1) := by decide +kernel
theorem c168_22 : cd 168 22 = some (.if_icmp .ne 27, 3) := by decide +kernel
theorem c168_25 : cd 168 25 = some (.sipush 1, 1) := by decide +kernel
theorem c168_26 : cd 168 26 = some (.ireturn, 1) := by decide +kernel
theorem c168_27 : cd 168 27 = some (.iinc 5 1, 3) := by decide +kernel
theorem c168_30 : cd 168 30 = some (.goto 6, 3) := by decide +kernel
theorem c168_33 : cd 168 33 = some (.sipush 0, 1) := by decide +kernel
theorem c168_34 : cd 168 34 = some (.ireturn, 1) := by decide +kernel
theorem g168_0 {d : Nat} {a2 : Int} {x0 x1 x3 x4 x5 : Option aV} {w : aW} {Q : Option aV → aW → Prop} : T d 168 0 [x0, x1, some (vi a2), x3, x4, x5] [] w Q = T d 168 6 [x0, x1, some (vi a2), x3, some (vi a2), some (vi 0)] [] w Q := by
  rw [T_iload_2 c168_0, T_istore_4 c168_1, T_sipush c168_3, T_istore_5 c168_4]
  all_goals try simp only [true_and, Nat.reduceAdd, eq_self_iff_true]
theorem g168_6 {d : Nat} {a3 a4 a5 : Int} {x0 x2 : Option aV} {w : aW} {Q : Option aV → aW → Prop} : T d 168 6 [x0, some (vr 20), x2, some (vi a3), some (vi a4), some (vi a5)] [] w Q = ((60 ≤ a5 → Q (some (vi 0)) w) ∧ (¬ (60 ≤ a5) → ((0 ≤ a4 ∧ a4 < 1024) ∧ ((¬ w 20 a4 = a3 → T d 168 6 [x0, some (vr 20), x2, some (vi a3), some (vi (w 20 a4)), some (vi (w32 (a5 + 1)))] [] w Q) ∧ (¬ (¬ w 20 a4 = a3) → Q (some (vi 1)) w))))) := by
  rw [T_iload_5 c168_6, T_sipush c168_8, T_icmp_ge 33 c168_10 rfl, T_sipush c168_33, T_iretz c168_34 (by decide +kernel), T_aload_1 c168_13, T_iload_4 c168_14, T_iald c168_16, T_istore_4 c168_17, T_iload_4 c168_19, T_iload_3 c168_21, T_icmp_ne 27 c168_22 rfl, T_iinc_5 c168_27, T_goto 6 c168_30 rfl, T_sipush c168_25, T_iretz c168_26 (by decide +kernel)]
  all_goals try simp only [Int.reduceToNat, ld_20, true_and, Nat.reduceAdd, eq_self_iff_true, zero_eq_1, one_eq_0, true_or, or_true]
/-! 169: StringHandsModel.comesTo.(II)Z -/
theorem c169_0 : cd 169 0 = some (.iload 1, 1) := by decide +kernel
theorem c169_1 : cd 169 1 = some (.istore 3, 1) := by decide +kernel
theorem c169_2 : cd 169 2 = some (.sipush 0, 1) := by decide +kernel
theorem c169_3 : cd 169 3 = some (.istore 4, 2) := by decide +kernel
theorem c169_5 : cd 169 5 = some (.iload 4, 2) := by decide +kernel
theorem c169_7 : cd 169 7 = some (.sipush 60, 2) := by decide +kernel
theorem c169_9 : cd 169 9 = some (.if_icmp .ge 32, 3) := by decide +kernel
theorem c169_12 : cd 169 12 = some (.aload 0, 1) := by decide +kernel
theorem c169_13 : cd 169 13 = some (.getfield 3150, 3) := by decide +kernel
theorem c169_16 : cd 169 16 = some (.iload 3, 1) := by decide +kernel
theorem c169_17 : cd 169 17 = some (.iaload, 1) := by decide +kernel
theorem c169_18 : cd 169 18 = some (.istore 3, 1) := by decide +kernel
theorem c169_19 : cd 169 19 = some (.iload 3, 1) := by decide +kernel
theorem c169_20 : cd 169 20 = some (.iload 2, 1) := by decide +kernel
theorem c169_21 : cd 169 21 = some (.if_icmp .ne 26, 3) := by decide +kernel
theorem c169_24 : cd 169 24 = some (.sipush 1, 1) := by decide +kernel
theorem c169_25 : cd 169 25 = some (.ireturn, 1) := by decide +kernel
theorem c169_26 : cd 169 26 = some (.iinc 4 1, 3) := by decide +kernel
theorem c169_29 : cd 169 29 = some (.goto 5, 3) := by decide +kernel
theorem c169_32 : cd 169 32 = some (.sipush 0, 1) := by decide +kernel
theorem c169_33 : cd 169 33 = some (.ireturn, 1) := by decide +kernel
theorem g169_0 {d : Nat} {a1 : Int} {x0 x2 x3 x4 : Option aV} {w : aW} {Q : Option aV → aW → Prop} : T d 169 0 [x0, some (vi a1), x2, x3, x4] [] w Q = T d 169 5 [x0, some (vi a1), x2, some (vi a1), some (vi 0)] [] w Q := by
  rw [T_iload_1 c169_0, T_istore_3 c169_1, T_sipush c169_2, T_istore_4 c169_3]
  all_goals try simp only [true_and, Nat.reduceAdd, eq_self_iff_true]
theorem g169_5 {d : Nat} {a2 a3 a4 : Int} {x1 : Option aV} {w : aW} {Q : Option aV → aW → Prop} : T d 169 5 [some (vr 167), x1, some (vi a2), some (vi a3), some (vi a4)] [] w Q = ((60 ≤ a4 → Q (some (vi 0)) w) ∧ (¬ (60 ≤ a4) → ((0 ≤ a3 ∧ a3 < 1024) ∧ ((¬ w 174 a3 = a2 → T d 169 5 [some (vr 167), x1, some (vi a2), some (vi (w 174 a3)), some (vi (w32 (a4 + 1)))] [] w Q) ∧ (¬ (¬ w 174 a3 = a2) → Q (some (vi 1)) w))))) := by
  rw [T_iload_4 c169_5, T_sipush c169_7, T_icmp_ge 32 c169_9 rfl, T_sipush c169_32, T_iretz c169_33 (by decide +kernel), T_aload_0 c169_12, T_getR 12 19 19 c169_13 rfl rfl rfl rfl, rf_167_19, T_iload_3 c169_16, T_iald c169_17, T_istore_3 c169_18, T_iload_3 c169_19, T_iload_2 c169_20, T_icmp_ne 26 c169_21 rfl, T_iinc_4 c169_26, T_goto 5 c169_29 rfl, T_sipush c169_24, T_iretz c169_25 (by decide +kernel)]
  all_goals try simp only [Int.reduceToNat, lay_167, ld_174, true_and, Nat.reduceAdd, eq_self_iff_true, zero_eq_1, one_eq_0, true_or, or_true]
/-! 170: StringHands$Wishes.fewestToRest.(LStringHands$Troupe;LStringHands$Stage;LStringHands$Mover;I)I -/
theorem c170_0 : cd 170 0 = some (.sipush 0, 1) := by decide +kernel
theorem c170_1 : cd 170 1 = some (.istore 5, 2) := by decide +kernel
theorem c170_3 : cd 170 3 = some (.sipush 0, 1) := by decide +kernel
theorem c170_4 : cd 170 4 = some (.istore 6, 2) := by decide +kernel
theorem c170_6 : cd 170 6 = some (.iload 6, 2) := by decide +kernel
theorem c170_8 : cd 170 8 = some (.aload 1, 1) := by decide +kernel
theorem c170_9 : cd 170 9 = some (.getfield 2052, 3) := by decide +kernel
theorem c170_12 : cd 170 12 = some (.if_icmp .ge 49, 3) := by decide +kernel
theorem c170_15 : cd 170 15 = some (.aload 0, 1) := by decide +kernel
theorem c170_16 : cd 170 16 = some (.aload 1, 1) := by decide +kernel
theorem c170_17 : cd 170 17 = some (.aload 2, 1) := by decide +kernel
theorem c170_18 : cd 170 18 = some (.aload 3, 1) := by decide +kernel
theorem c170_19 : cd 170 19 = some (.iload 4, 2) := by decide +kernel
theorem c170_21 : cd 170 21 = some (.iload 6, 2) := by decide +kernel
theorem c170_23 : cd 170 23 = some (.invokevirtual 244, 3) := by decide +kernel
theorem c170_26 : cd 170 26 = some (.istore 7, 2) := by decide +kernel
theorem c170_28 : cd 170 28 = some (.iload 7, 2) := by decide +kernel
theorem c170_30 : cd 170 30 = some (.sipush (-1), 1) := by decide +kernel
theorem c170_31 : cd 170 31 = some (.if_icmp .ne 36, 3) := by decide +kernel
theorem c170_34 : cd 170 34 = some (.sipush (-1), 1) := by decide +kernel
theorem c170_35 : cd 170 35 = some (.ireturn, 1) := by decide +kernel
theorem c170_36 : cd 170 36 = some (.iload 5, 2) := by decide +kernel
theorem c170_38 : cd 170 38 = some (.iload 7, 2) := by decide +kernel
theorem c170_40 : cd 170 40 = some (.ior, 1) := by decide +kernel
theorem c170_41 : cd 170 41 = some (.istore 5, 2) := by decide +kernel
theorem c170_43 : cd 170 43 = some (.iinc 6 1, 3) := by decide +kernel
theorem c170_46 : cd 170 46 = some (.goto 6, 3) := by decide +kernel
theorem c170_49 : cd 170 49 = some (.iload 5, 2) := by decide +kernel
theorem c170_51 : cd 170 51 = some (.ireturn, 1) := by decide +kernel
theorem g170_0 {d : Nat} {x0 x1 x2 x3 x4 x5 x6 x7 : Option aV} {w : aW} {Q : Option aV → aW → Prop} : T d 170 0 [x0, x1, x2, x3, x4, x5, x6, x7] [] w Q = T d 170 6 [x0, x1, x2, x3, x4, some (vi 0), some (vi 0), x7] [] w Q := by
  rw [T_sipush c170_0, T_istore_5 c170_1, T_sipush c170_3, T_istore_6 c170_4]
  all_goals try simp only [true_and, Nat.reduceAdd, eq_self_iff_true]
theorem g170_6 {d : Nat} {a4 a5 a6 : Int} {r2 : Nat} {x7 : Option aV} {w : aW} {Q : Option aV → aW → Prop} : T (d + 1) 170 6 [some (vr 27), some (vr 69), some (vr r2), some (vr 16), some (vi a4), some (vi a5), some (vi a6), x7] [] w Q = ((w 69 1 ≤ a6 → Q (some (vi a5)) w) ∧ (¬ (w 69 1 ≤ a6) → T d 244 0 [some (vr 27), some (vr 69), some (vr r2), some (vr 16), some (vi a4), some (vi a6), none, none, none, none, none, none, none] [] w (fun r w1 => T (d + 1) 170 26 [some (vr 27), some (vr 69), some (vr r2), some (vr 16), some (vi a4), some (vi a5), some (vi a6), x7] (r.toList ++ []) w1 Q))) := by
  rw [T_iload_6 c170_6, T_aload_1 c170_8, T_getI 8 1 1 c170_9 rfl rfl rfl rfl, T_icmp_ge 49 c170_12 rfl, T_iload_5 c170_49, T_ireti c170_51 (by decide +kernel), T_aload_0 c170_15, T_aload_1 c170_16, T_aload_2 c170_17, T_aload_3 c170_18, T_iload_4 c170_19, T_iload_6 c170_21, T_invv (es := [some (vr 27), some (vr 69), some (vr r2), some (vr 16), some (vi a4), some (vi a6), none, none, none, none, none, none, none]) (st := [vi a6, vi a4, vr 16, vr r2, vr 69, vr 27]) (ks := [2, 2, 2, 2, 0, 0]) (n := 13) (c := 10) (k := 27) (as := [vr 69, vr r2, vr 16, vi a4, vi a6]) (rest := []) c170_23 (by decide +kernel) (by decide +kernel) (by decide +kernel) (by decide) rfl rfl (Nat.le_of_ble_eq_true rfl)]
  all_goals try simp only [Int.reduceToNat, lay_27, lay_69, true_and, Nat.reduceAdd, eq_self_iff_true]
theorem g170_26 {d : Nat} {a5 a6 s0 : Int} {x0 x1 x2 x3 x4 x7 : Option aV} {w : aW} {Q : Option aV → aW → Prop} : T d 170 26 [x0, x1, x2, x3, x4, some (vi a5), some (vi a6), x7] [vi s0] w Q = ((¬ s0 = (-1) → T d 170 6 [x0, x1, x2, x3, x4, some (vi (jor a5 s0)), some (vi (w32 (a6 + 1))), some (vi s0)] [] w Q) ∧ (¬ (¬ s0 = (-1)) → Q (some (vi (-1))) w)) := by
  rw [T_istore_7 c170_26, T_iload_7 c170_28, T_sipush c170_30, T_icmp_ne 36 c170_31 rfl, T_iload_5 c170_36, T_iload_7 c170_38, T_ior c170_40, T_istore_5 c170_41, T_iinc_6 c170_43, T_goto 6 c170_46 rfl, T_sipush c170_34, T_ireti c170_35 (by decide +kernel)]
  all_goals try simp only [Int.reduceToNat, true_and, Nat.reduceAdd, eq_self_iff_true]
/-! 171: StringHandsModel.cureOf.(II)I -/
theorem c171_0 : cd 171 0 = some (.sipush 0, 1) := by decide +kernel
theorem c171_1 : cd 171 1 = some (.istore 3, 1) := by decide +kernel
theorem c171_2 : cd 171 2 = some (.sipush 0, 1) := by decide +kernel
theorem c171_3 : cd 171 3 = some (.istore 4, 2) := by decide +kernel
theorem c171_5 : cd 171 5 = some (.iload 4, 2) := by decide +kernel
theorem c171_7 : cd 171 7 = some (.aload 0, 1) := by decide +kernel
theorem c171_8 : cd 171 8 = some (.getfield 3078, 3) := by decide +kernel
theorem c171_11 : cd 171 11 = some (.sipush 3, 1) := by decide +kernel
theorem c171_12 : cd 171 12 = some (.iaload, 1) := by decide +kernel
theorem c171_13 : cd 171 13 = some (.if_icmp .ge 56, 3) := by decide +kernel
theorem c171_16 : cd 171 16 = some (.iload 3, 1) := by decide +kernel
theorem c171_17 : cd 171 17 = some (.aload 0, 1) := by decide +kernel
theorem c171_18 : cd 171 18 = some (.getfield 3078, 3) := by decide +kernel
theorem c171_21 : cd 171 21 = some (.sipush 64, 2) := by decide +kernel
theorem c171_23 : cd 171 23 = some (.iload 4, 2) := by decide +kernel
theorem c171_25 : cd 171 25 = some (.iadd, 1) := by decide +kernel
theorem c171_26 : cd 171 26 = some (.iaload, 1) := by decide +kernel
theorem c171_27 : cd 171 27 = some (.iload 1, 1) := by decide +kernel
theorem c171_28 : cd 171 28 = some (.if_icmp .ne 47, 3) := by decide +kernel
theorem c171_31 : cd 171 31 = some (.aload 0, 1) := by decide +kernel
theorem c171_32 : cd 171 32 = some (.iload 4, 2) := by decide +kernel
theorem c171_34 : cd 171 34 = some (.invokevirtual 138, 3) := by decide +kernel
theorem c171_37 : cd 171 37 = some (.ifCond .eq 47, 3) := by decide +kernel
theorem c171_40 : cd 171 40 = some (.sipush 1, 1) := by decide +kernel
theorem c171_41 : cd 171 41 = some (.iload 4, 2) := by decide +kernel
theorem c171_43 : cd 171 43 = some (.ishl, 1) := by decide +kernel
theorem c171_44 : cd 171 44 = some (.goto 48, 3) := by decide +kernel
theorem c171_47 : cd 171 47 = some (.sipush 0, 1) := by decide +kernel
theorem c171_48 : cd 171 48 = some (.ior, 1) := by decide +kernel
theorem c171_49 : cd 171 49 = some (.istore 3, 1) := by decide +kernel
theorem c171_50 : cd 171 50 = some (.iinc 4 1, 3) := by decide +kernel
theorem c171_53 : cd 171 53 = some (.goto 5, 3) := by decide +kernel
theorem c171_56 : cd 171 56 = some (.sipush (-1), 1) := by decide +kernel
theorem c171_57 : cd 171 57 = some (.istore 4, 2) := by decide +kernel
theorem c171_59 : cd 171 59 = some (.iload 3, 1) := by decide +kernel
theorem c171_60 : cd 171 60 = some (.istore 5, 2) := by decide +kernel
theorem c171_62 : cd 171 62 = some (.aload 0, 1) := by decide +kernel
theorem c171_63 : cd 171 63 = some (.iload 1, 1) := by decide +kernel
theorem c171_64 : cd 171 64 = some (.iload 2, 1) := by decide +kernel
theorem c171_65 : cd 171 65 = some (.iload 5, 2) := by decide +kernel
theorem c171_67 : cd 171 67 = some (.invokevirtual 125, 3) := by decide +kernel
theorem c171_70 : cd 171 70 = some (.iload 2, 1) := by decide +kernel
theorem c171_71 : cd 171 71 = some (.i2l, 1) := by decide +kernel
theorem c171_72 : cd 171 72 = some (.iload 1, 1) := by decide +kernel
theorem c171_73 : cd 171 73 = some (.invokestatic 230, 3) := by decide +kernel
theorem c171_76 : cd 171 76 = some (.if_icmp .ne 122, 3) := by decide +kernel
theorem c171_79 : cd 171 79 = some (.iload 4, 2) := by decide +kernel
theorem c171_81 : cd 171 81 = some (.sipush (-1), 1) := by decide +kernel
theorem c171_82 : cd 171 82 = some (.if_icmp .eq 118, 3) := by decide +kernel
theorem c171_85 : cd 171 85 = some (.iload 5, 2) := by decide +kernel
theorem c171_87 : cd 171 87 = some (.invokestatic 134, 3) := by decide +kernel
theorem c171_90 : cd 171 90 = some (.iload 4, 2) := by decide +kernel
theorem c171_92 : cd 171 92 = some (.invokestatic 134, 3) := by decide +kernel
theorem c171_95 : cd 171 95 = some (.if_icmp .lt 118, 3) := by decide +kernel
theorem c171_98 : cd 171 98 = some (.iload 5, 2) := by decide +kernel
theorem c171_100 : cd 171 100 = some (.invokestatic 134, 3) := by decide +kernel
theorem c171_103 : cd 171 103 = some (.iload 4, 2) := by decide +kernel
theorem c171_105 : cd 171 105 = some (.invokestatic 134, 3) := by decide +kernel
theorem c171_108 : cd 171 108 = some (.if_icmp .ne 122, 3) := by decide +kernel
theorem c171_111 : cd 171 111 = some (.iload 5, 2) := by decide +kernel
theorem c171_113 : cd 171 113 = some (.iload 4, 2) := by decide +kernel
theorem c171_115 : cd 171 115 = some (.if_icmp .ge 122, 3) := by decide +kernel
theorem c171_118 : cd 171 118 = some (.iload 5, 2) := by decide +kernel
theorem c171_120 : cd 171 120 = some (.istore 4, 2) := by decide +kernel
theorem c171_122 : cd 171 122 = some (.iload 5, 2) := by decide +kernel
theorem c171_124 : cd 171 124 = some (.ifCond .ne 130, 3) := by decide +kernel
theorem c171_127 : cd 171 127 = some (.iload 4, 2) := by decide +kernel
theorem c171_129 : cd 171 129 = some (.ireturn, 1) := by decide +kernel
theorem c171_130 : cd 171 130 = some (.iload 5, 2) := by decide +kernel
theorem c171_132 : cd 171 132 = some (.sipush 1, 1) := by decide +kernel
theorem c171_133 : cd 171 133 = some (.isub, 1) := by decide +kernel
theorem c171_134 : cd 171 134 = some (.iload 3, 1) := by decide +kernel
theorem c171_135 : cd 171 135 = some (.iand, 1) := by decide +kernel
theorem c171_136 : cd 171 136 = some (.istore 5, 2) := by decide +kernel
theorem c171_138 : cd 171 138 = some (.goto 62, 3) := by decide +kernel
theorem g171_0 {d : Nat} {x0 x1 x2 x3 x4 x5 : Option aV} {w : aW} {Q : Option aV → aW → Prop} : T d 171 0 [x0, x1, x2, x3, x4, x5] [] w Q = T d 171 5 [x0, x1, x2, some (vi 0), some (vi 0), x5] [] w Q := by
  rw [T_sipush c171_0, T_istore_3 c171_1, T_sipush c171_2, T_istore_4 c171_3]
  all_goals try simp only [true_and, Nat.reduceAdd, eq_self_iff_true]
theorem g171_5 {d : Nat} {a1 a3 a4 : Int} {x2 x5 : Option aV} {w : aW} {Q : Option aV → aW → Prop} : T (d + 1) 171 5 [some (vr 167), some (vi a1), x2, some (vi a3), some (vi a4), x5] [] w Q = ((w 168 3 ≤ a4 → T (d + 1) 171 62 [some (vr 167), some (vi a1), x2, some (vi a3), some (vi (-1)), some (vi a3)] [] w Q) ∧ (¬ (w 168 3 ≤ a4) → ((0 ≤ w32 (64 + a4) ∧ w32 (64 + a4) < 4932) ∧ ((¬ w 168 (w32 (64 + a4)) = a1 → T (d + 1) 171 47 [some (vr 167), some (vi a1), x2, some (vi a3), some (vi a4), x5] [vi a3] w Q) ∧ (¬ (¬ w 168 (w32 (64 + a4)) = a1) → T d 138 0 [some (vr 167), some (vi a4)] [] w (fun r w1 => T (d + 1) 171 37 [some (vr 167), some (vi a1), x2, some (vi a3), some (vi a4), x5] (r.toList ++ [vi a3]) w1 Q)))))) := by
  rw [T_iload_4 c171_5, T_aload_0 c171_7, T_getR 12 1 1 c171_8 rfl rfl rfl rfl, rf_167_1, T_sipush c171_11, T_iald c171_12, T_icmp_ge 56 c171_13 rfl, T_sipush c171_56, T_istore_4 c171_57, T_iload_3 c171_59, T_istore_5 c171_60, T_iload_3 c171_16, T_aload_0 c171_17, T_getR 12 1 1 c171_18 rfl rfl rfl rfl, rf_167_1, T_sipush c171_21, T_iload_4 c171_23, T_iadd c171_25, T_iald c171_26, T_iload_1 c171_27, T_icmp_ne 47 c171_28 rfl, T_aload_0 c171_31, T_iload_4 c171_32, T_invv (es := [some (vr 167), some (vi a4)]) (st := [vi a4, vr 167, vi a3]) (ks := [2, 0]) (n := 2) (c := 12) (k := 167) (as := [vi a4]) (rest := [vi a3]) c171_34 (by decide +kernel) (by decide +kernel) (by decide +kernel) (by decide) rfl rfl (Nat.le_of_ble_eq_true rfl)]
  all_goals try simp only [Int.reduceLE, Int.reduceLT, Int.reduceToNat, and_self, lay_167, ld_168, true_and, Nat.reduceAdd, eq_self_iff_true]
theorem g171_37 {d : Nat} {a4 s0 s1 : Int} {x0 x1 x2 x3 x5 : Option aV} {w : aW} {Q : Option aV → aW → Prop} : T d 171 37 [x0, x1, x2, x3, some (vi a4), x5] [vi s1, vi s0] w Q = ((s1 = 0 → T d 171 47 [x0, x1, x2, x3, some (vi a4), x5] [vi s0] w Q) ∧ (¬ (s1 = 0) → T d 171 48 [x0, x1, x2, x3, some (vi a4), x5] [vi (jshl 1 a4), vi s0] w Q)) := by
  rw [T_if_eq 47 c171_37 rfl, T_sipush c171_40, T_iload_4 c171_41, T_ishl c171_43, T_goto 48 c171_44 rfl]
  all_goals try simp only [Int.reduceToNat, true_and, Nat.reduceAdd, eq_self_iff_true]
theorem g171_47 {d : Nat} {s0 : Int} {x0 x1 x2 x3 x4 x5 : Option aV} {w : aW} {Q : Option aV → aW → Prop} : T d 171 47 [x0, x1, x2, x3, x4, x5] [vi s0] w Q = T d 171 48 [x0, x1, x2, x3, x4, x5] [vi 0, vi s0] w Q := by
  rw [T_sipush c171_47]
  all_goals try simp only [true_and, Nat.reduceAdd, eq_self_iff_true]
theorem g171_48 {d : Nat} {a4 s0 s1 : Int} {x0 x1 x2 x3 x5 : Option aV} {w : aW} {Q : Option aV → aW → Prop} : T d 171 48 [x0, x1, x2, x3, some (vi a4), x5] [vi s1, vi s0] w Q = T d 171 5 [x0, x1, x2, some (vi (jor s0 s1)), some (vi (w32 (a4 + 1))), x5] [] w Q := by
  rw [T_ior c171_48, T_istore_3 c171_49, T_iinc_4 c171_50, T_goto 5 c171_53 rfl]
  all_goals try simp only [true_and, Nat.reduceAdd, eq_self_iff_true]
theorem g171_62 {d : Nat} {a1 a2 a5 : Int} {x3 x4 : Option aV} {w : aW} {Q : Option aV → aW → Prop} : T (d + 1) 171 62 [some (vr 167), some (vi a1), some (vi a2), x3, x4, some (vi a5)] [] w Q = T d 125 0 [some (vr 167), some (vi a1), some (vi a2), some (vi a5)] [] w (fun r w1 => T (d + 1) 171 70 [some (vr 167), some (vi a1), some (vi a2), x3, x4, some (vi a5)] (r.toList ++ []) w1 Q) := by
  rw [T_aload_0 c171_62, T_iload_1 c171_63, T_iload_2 c171_64, T_iload_5 c171_65, T_invv (es := [some (vr 167), some (vi a1), some (vi a2), some (vi a5)]) (st := [vi a5, vi a2, vi a1, vr 167]) (ks := [2, 0, 0, 0]) (n := 4) (c := 12) (k := 167) (as := [vi a1, vi a2, vi a5]) (rest := []) c171_67 (by decide +kernel) (by decide +kernel) (by decide +kernel) (by decide) rfl rfl (Nat.le_of_ble_eq_true rfl)]
  all_goals try simp only [lay_167, true_and, Nat.reduceAdd, eq_self_iff_true]
theorem g171_70 {d : Nat} {a1 a2 s0 : Int} {x0 x3 x4 x5 : Option aV} {w : aW} {Q : Option aV → aW → Prop} : T (d + 1) 171 70 [x0, some (vi a1), some (vi a2), x3, x4, x5] [vi s0] w Q = T d 230 0 [some (vl a2), none, some (vi a1)] [] w (fun r w1 => T (d + 1) 171 76 [x0, some (vi a1), some (vi a2), x3, x4, x5] (r.toList ++ [vi s0]) w1 Q) := by
  rw [T_iload_2 c171_70, T_i2l c171_71, T_iload_1 c171_72, T_inv (es := [some (vl a2), none, some (vi a1)]) (st := [vi a1, vl a2, vi s0]) (ks := [1, 0]) (n := 3) (as := [vl a2, vi a1]) (rest := [vi s0]) c171_73 (by decide +kernel) (by decide +kernel) rfl rfl (Nat.le_of_ble_eq_true rfl)]
  all_goals try simp only [true_and, Nat.reduceAdd, eq_self_iff_true]
theorem g171_76 {d : Nat} {a4 a5 s0 s1 : Int} {x0 x1 x2 x3 : Option aV} {w : aW} {Q : Option aV → aW → Prop} : T (d + 1) 171 76 [x0, x1, x2, x3, some (vi a4), some (vi a5)] [vi s1, vi s0] w Q = ((¬ s0 = s1 → T (d + 1) 171 122 [x0, x1, x2, x3, some (vi a4), some (vi a5)] [] w Q) ∧ (¬ (¬ s0 = s1) → ((a4 = (-1) → T (d + 1) 171 118 [x0, x1, x2, x3, some (vi a4), some (vi a5)] [] w Q) ∧ (¬ (a4 = (-1)) → T d 134 0 [some (vi a5), none, none] [] w (fun r w1 => T (d + 1) 171 90 [x0, x1, x2, x3, some (vi a4), some (vi a5)] (r.toList ++ []) w1 Q))))) := by
  rw [T_icmp_ne 122 c171_76 rfl, T_iload_4 c171_79, T_sipush c171_81, T_icmp_eq 118 c171_82 rfl, T_iload_5 c171_85, T_inv (es := [some (vi a5), none, none]) (st := [vi a5]) (ks := [0]) (n := 3) (as := [vi a5]) (rest := []) c171_87 (by decide +kernel) (by decide +kernel) rfl rfl (Nat.le_of_ble_eq_true rfl)]
  all_goals try simp only [Int.reduceToNat, true_and, Nat.reduceAdd, eq_self_iff_true]
theorem g171_90 {d : Nat} {a4 s0 : Int} {x0 x1 x2 x3 x5 : Option aV} {w : aW} {Q : Option aV → aW → Prop} : T (d + 1) 171 90 [x0, x1, x2, x3, some (vi a4), x5] [vi s0] w Q = T d 134 0 [some (vi a4), none, none] [] w (fun r w1 => T (d + 1) 171 95 [x0, x1, x2, x3, some (vi a4), x5] (r.toList ++ [vi s0]) w1 Q) := by
  rw [T_iload_4 c171_90, T_inv (es := [some (vi a4), none, none]) (st := [vi a4, vi s0]) (ks := [0]) (n := 3) (as := [vi a4]) (rest := [vi s0]) c171_92 (by decide +kernel) (by decide +kernel) rfl rfl (Nat.le_of_ble_eq_true rfl)]
  all_goals try simp only [true_and, Nat.reduceAdd, eq_self_iff_true]
theorem g171_95 {d : Nat} {a5 s0 s1 : Int} {x0 x1 x2 x3 x4 : Option aV} {w : aW} {Q : Option aV → aW → Prop} : T (d + 1) 171 95 [x0, x1, x2, x3, x4, some (vi a5)] [vi s1, vi s0] w Q = ((s0 < s1 → T (d + 1) 171 118 [x0, x1, x2, x3, x4, some (vi a5)] [] w Q) ∧ (¬ (s0 < s1) → T d 134 0 [some (vi a5), none, none] [] w (fun r w1 => T (d + 1) 171 103 [x0, x1, x2, x3, x4, some (vi a5)] (r.toList ++ []) w1 Q))) := by
  rw [T_icmp_lt 118 c171_95 rfl, T_iload_5 c171_98, T_inv (es := [some (vi a5), none, none]) (st := [vi a5]) (ks := [0]) (n := 3) (as := [vi a5]) (rest := []) c171_100 (by decide +kernel) (by decide +kernel) rfl rfl (Nat.le_of_ble_eq_true rfl)]
  all_goals try simp only [Int.reduceToNat, true_and, Nat.reduceAdd, eq_self_iff_true]
theorem g171_103 {d : Nat} {a4 s0 : Int} {x0 x1 x2 x3 x5 : Option aV} {w : aW} {Q : Option aV → aW → Prop} : T (d + 1) 171 103 [x0, x1, x2, x3, some (vi a4), x5] [vi s0] w Q = T d 134 0 [some (vi a4), none, none] [] w (fun r w1 => T (d + 1) 171 108 [x0, x1, x2, x3, some (vi a4), x5] (r.toList ++ [vi s0]) w1 Q) := by
  rw [T_iload_4 c171_103, T_inv (es := [some (vi a4), none, none]) (st := [vi a4, vi s0]) (ks := [0]) (n := 3) (as := [vi a4]) (rest := [vi s0]) c171_105 (by decide +kernel) (by decide +kernel) rfl rfl (Nat.le_of_ble_eq_true rfl)]
  all_goals try simp only [true_and, Nat.reduceAdd, eq_self_iff_true]
theorem g171_108 {d : Nat} {a4 a5 s0 s1 : Int} {x0 x1 x2 x3 : Option aV} {w : aW} {Q : Option aV → aW → Prop} : T d 171 108 [x0, x1, x2, x3, some (vi a4), some (vi a5)] [vi s1, vi s0] w Q = ((¬ s0 = s1 → T d 171 122 [x0, x1, x2, x3, some (vi a4), some (vi a5)] [] w Q) ∧ (¬ (¬ s0 = s1) → ((a4 ≤ a5 → T d 171 122 [x0, x1, x2, x3, some (vi a4), some (vi a5)] [] w Q) ∧ (¬ (a4 ≤ a5) → T d 171 118 [x0, x1, x2, x3, some (vi a4), some (vi a5)] [] w Q)))) := by
  rw [T_icmp_ne 122 c171_108 rfl, T_iload_5 c171_111, T_iload_4 c171_113, T_icmp_ge 122 c171_115 rfl]
  all_goals try simp only [Int.reduceToNat, true_and, Nat.reduceAdd, eq_self_iff_true]
theorem g171_118 {d : Nat} {a5 : Int} {x0 x1 x2 x3 x4 : Option aV} {w : aW} {Q : Option aV → aW → Prop} : T d 171 118 [x0, x1, x2, x3, x4, some (vi a5)] [] w Q = T d 171 122 [x0, x1, x2, x3, some (vi a5), some (vi a5)] [] w Q := by
  rw [T_iload_5 c171_118, T_istore_4 c171_120]
  all_goals try simp only [true_and, Nat.reduceAdd, eq_self_iff_true]
theorem g171_122 {d : Nat} {a3 a4 a5 : Int} {x0 x1 x2 : Option aV} {w : aW} {Q : Option aV → aW → Prop} : T d 171 122 [x0, x1, x2, some (vi a3), some (vi a4), some (vi a5)] [] w Q = ((¬ a5 = 0 → T d 171 62 [x0, x1, x2, some (vi a3), some (vi a4), some (vi (jand (w32 (a5 - 1)) a3))] [] w Q) ∧ (¬ (¬ a5 = 0) → Q (some (vi a4)) w)) := by
  rw [T_iload_5 c171_122, T_if_ne 130 c171_124 rfl, T_iload_5 c171_130, T_sipush c171_132, T_isub c171_133, T_iload_3 c171_134, T_iand c171_135, T_istore_5 c171_136, T_goto 62 c171_138 rfl, T_iload_4 c171_127, T_ireti c171_129 (by decide +kernel)]
  all_goals try simp only [Int.reduceToNat, true_and, Nat.reduceAdd, eq_self_iff_true]
/-! 172: StringHands$Web.reachAll.(LStringHands$Troupe;LStringHands$Stage;I)V -/
theorem c172_0 : cd 172 0 = some (.aload 0, 1) := by decide +kernel
theorem c172_1 : cd 172 1 = some (.getfield 2306, 3) := by decide +kernel
theorem c172_4 : cd 172 4 = some (.sipush 0, 1) := by decide +kernel
theorem c172_5 : cd 172 5 = some (.invokestatic 221, 3) := by decide +kernel
theorem c172_8 : cd 172 8 = some (.sipush 0, 1) := by decide +kernel
theorem c172_9 : cd 172 9 = some (.istore 4, 2) := by decide +kernel
theorem c172_11 : cd 172 11 = some (.iload 4, 2) := by decide +kernel
theorem c172_13 : cd 172 13 = some (.aload 1, 1) := by decide +kernel
theorem c172_14 : cd 172 14 = some (.getfield 2056, 3) := by decide +kernel
theorem c172_17 : cd 172 17 = some (.if_icmp .ge 69, 3) := by decide +kernel
theorem c172_20 : cd 172 20 = some (.iload 3, 1) := by decide +kernel
theorem c172_21 : cd 172 21 = some (.iload 4, 2) := by decide +kernel
theorem c172_23 : cd 172 23 = some (.invokestatic 117, 3) := by decide +kernel
theorem c172_26 : cd 172 26 = some (.sipush 1, 1) := by decide +kernel
theorem c172_27 : cd 172 27 = some (.if_icmp .ne 63, 3) := by decide +kernel
theorem c172_30 : cd 172 30 = some (.aload 1, 1) := by decide +kernel
theorem c172_31 : cd 172 31 = some (.iload 4, 2) := by decide +kernel
theorem c172_33 : cd 172 33 = some (.invokestatic 245, 3) := by decide +kernel
theorem c172_36 : cd 172 36 = some (.ifCond .eq 63, 3) := by decide +kernel
theorem c172_39 : cd 172 39 = some (.aload 0, 1) := by decide +kernel
theorem c172_40 : cd 172 40 = some (.getfield 2306, 3) := by decide +kernel
theorem c172_43 : cd 172 43 = some (.aload 2, 1) := by decide +kernel
theorem c172_44 : cd 172 44 = some (.getfield 1546, 3) := by decide +kernel
theorem c172_47 : cd 172 47 = some (.iload 4, 2) := by decide +kernel
theorem c172_49 : cd 172 49 = some (.iaload, 1) := by decide +kernel
theorem c172_50 : cd 172 50 = some (.dup2, 1) := by decide +kernel
theorem c172_51 : cd 172 51 = some (.iaload, 1) := by decide +kernel
theorem c172_52 : cd 172 52 = some (.sipush 1, 1) := by decide +kernel
theorem c172_53 : cd 172 53 = some (.aload 1, 1) := by decide +kernel
theorem c172_54 : cd 172 54 = some (.getfield 2086, 3) := by decide +kernel
theorem c172_57 : cd 172 57 = some (.iload 4, 2) := by decide +kernel
theorem c172_59 : cd 172 59 = some (.iaload, 1) := by decide +kernel
theorem c172_60 : cd 172 60 = some (.ishl, 1) := by decide +kernel
theorem c172_61 : cd 172 61 = some (.ior, 1) := by decide +kernel
theorem c172_62 : cd 172 62 = some (.iastore, 1) := by decide +kernel
theorem c172_63 : cd 172 63 = some (.iinc 4 1, 3) := by decide +kernel
theorem c172_66 : cd 172 66 = some (.goto 11, 3) := by decide +kernel
theorem c172_69 : cd 172 69 = some (.sipush 0, 1) := by decide +kernel
theorem c172_70 : cd 172 70 = some (.istore 4, 2) := by decide +kernel
theorem c172_72 : cd 172 72 = some (.iload 4, 2) := by decide +kernel
theorem c172_74 : cd 172 74 = some (.aload 1, 1) := by decide +kernel
theorem c172_75 : cd 172 75 = some (.getfield 2052, 3) := by decide +kernel
theorem c172_78 : cd 172 78 = some (.if_icmp .ge 94, 3) := by decide +kernel
theorem c172_81 : cd 172 81 = some (.aload 0, 1) := by decide +kernel
theorem c172_82 : cd 172 82 = some (.aload 1, 1) := by decide +kernel
theorem c172_83 : cd 172 83 = some (.iload 4, 2) := by decide +kernel
theorem c172_85 : cd 172 85 = some (.invokevirtual 246, 3) := by decide +kernel
theorem c172_88 : cd 172 88 = some (.iinc 4 1, 3) := by decide +kernel
theorem c172_91 : cd 172 91 = some (.goto 72, 3) := by decide +kernel
theorem c172_94 : cd 172 94 = some (.sipush 0, 1) := by decide +kernel
theorem c172_95 : cd 172 95 = some (.istore 4, 2) := by decide +kernel
theorem c172_97 : cd 172 97 = some (.iload 4, 2) := by decide +kernel
theorem c172_99 : cd 172 99 = some (.aload 1, 1) := by decide +kernel
theorem c172_100 : cd 172 100 = some (.getfield 2052, 3) := by decide +kernel
theorem c172_103 : cd 172 103 = some (.if_icmp .ge 163, 3) := by decide +kernel
theorem c172_106 : cd 172 106 = some (.sipush 0, 1) := by decide +kernel
theorem c172_107 : cd 172 107 = some (.istore 5, 2) := by decide +kernel
theorem c172_109 : cd 172 109 = some (.iload 5, 2) := by decide +kernel
theorem c172_111 : cd 172 111 = some (.aload 1, 1) := by decide +kernel
theorem c172_112 : cd 172 112 = some (.getfield 2052, 3) := by decide +kernel
theorem c172_115 : cd 172 115 = some (.if_icmp .ge 157, 3) := by decide +kernel
theorem c172_118 : cd 172 118 = some (.aload 0, 1) := by decide +kernel
theorem c172_119 : cd 172 119 = some (.getfield 2306, 3) := by decide +kernel
theorem c172_122 : cd 172 122 = some (.iload 5, 2) := by decide +kernel
theorem c172_124 : cd 172 124 = some (.iaload, 1) := by decide +kernel
theorem c172_125 : cd 172 125 = some (.iload 4, 2) := by decide +kernel
theorem c172_127 : cd 172 127 = some (.invokestatic 117, 3) := by decide +kernel
theorem c172_130 : cd 172 130 = some (.sipush 1, 1) := by decide +kernel
theorem c172_131 : cd 172 131 = some (.if_icmp .ne 151, 3) := by decide +kernel
theorem c172_134 : cd 172 134 = some (.aload 0, 1) := by decide +kernel
theorem c172_135 : cd 172 135 = some (.getfield 2306, 3) := by decide +kernel
theorem c172_138 : cd 172 138 = some (.iload 5, 2) := by decide +kernel
theorem c172_140 : cd 172 140 = some (.dup2, 1) := by decide +kernel
theorem c172_141 : cd 172 141 = some (.iaload, 1) := by decide +kernel
theorem c172_142 : cd 172 142 = some (.aload 0, 1) := by decide +kernel
theorem c172_143 : cd 172 143 = some (.getfield 2306, 3) := by decide +kernel
theorem c172_146 : cd 172 146 = some (.iload 4, 2) := by decide +kernel
theorem c172_148 : cd 172 148 = some (.iaload, 1) := by decide +kernel
theorem c172_149 : cd 172 149 = some (.ior, 1) := by decide +kernel
theorem c172_150 : cd 172 150 = some (.iastore, 1) := by decide +kernel
theorem c172_151 : cd 172 151 = some (.iinc 5 1, 3) := by decide +kernel
theorem c172_154 : cd 172 154 = some (.goto 109, 3) := by decide +kernel
theorem c172_157 : cd 172 157 = some (.iinc 4 1, 3) := by decide +kernel
theorem c172_160 : cd 172 160 = some (.goto 97, 3) := by decide +kernel
theorem c172_163 : cd 172 163 = some (.return_, 1) := by decide +kernel
theorem g172_0 {d : Nat} {x1 x2 x3 x4 x5 : Option aV} {w : aW} {Q : Option aV → aW → Prop} : T (d + 1) 172 0 [some (vr 50), x1, x2, x3, x4, x5] [] w Q = T d 221 0 [some (vr 51), some (vi 0), none, none] [] w (fun r w1 => T (d + 1) 172 8 [some (vr 50), x1, x2, x3, x4, x5] (r.toList ++ []) w1 Q) := by
  rw [T_aload_0 c172_0, T_getR 9 0 0 c172_1 rfl rfl rfl rfl, rf_50_0, T_sipush c172_4, T_inv (es := [some (vr 51), some (vi 0), none, none]) (st := [vi 0, vr 51]) (ks := [2, 0]) (n := 4) (as := [vr 51, vi 0]) (rest := []) c172_5 (by decide +kernel) (by decide +kernel) rfl rfl (Nat.le_of_ble_eq_true rfl)]
  all_goals try simp only [lay_50, true_and, Nat.reduceAdd, eq_self_iff_true]
theorem g172_8 {d : Nat} {x0 x1 x2 x3 x4 x5 : Option aV} {w : aW} {Q : Option aV → aW → Prop} : T d 172 8 [x0, x1, x2, x3, x4, x5] [] w Q = T d 172 11 [x0, x1, x2, x3, some (vi 0), x5] [] w Q := by
  rw [T_sipush c172_8, T_istore_4 c172_9]
  all_goals try simp only [true_and, Nat.reduceAdd, eq_self_iff_true]
theorem g172_11 {d : Nat} {a3 a4 : Int} {x0 x2 x5 : Option aV} {w : aW} {Q : Option aV → aW → Prop} : T (d + 1) 172 11 [x0, some (vr 69), x2, some (vi a3), some (vi a4), x5] [] w Q = ((w 69 2 ≤ a4 → T (d + 1) 172 72 [x0, some (vr 69), x2, some (vi a3), some (vi 0), x5] [] w Q) ∧ (¬ (w 69 2 ≤ a4) → T d 117 0 [some (vi a3), some (vi a4)] [] w (fun r w1 => T (d + 1) 172 26 [x0, some (vr 69), x2, some (vi a3), some (vi a4), x5] (r.toList ++ []) w1 Q))) := by
  rw [T_iload_4 c172_11, T_aload_1 c172_13, T_getI 8 2 2 c172_14 rfl rfl rfl rfl, T_icmp_ge 69 c172_17 rfl, T_sipush c172_69, T_istore_4 c172_70, T_iload_3 c172_20, T_iload_4 c172_21, T_inv (es := [some (vi a3), some (vi a4)]) (st := [vi a4, vi a3]) (ks := [0, 0]) (n := 2) (as := [vi a3, vi a4]) (rest := []) c172_23 (by decide +kernel) (by decide +kernel) rfl rfl (Nat.le_of_ble_eq_true rfl)]
  all_goals try simp only [Int.reduceToNat, lay_69, true_and, Nat.reduceAdd, eq_self_iff_true]
theorem g172_26 {d : Nat} {a4 s0 : Int} {x0 x2 x3 x5 : Option aV} {w : aW} {Q : Option aV → aW → Prop} : T (d + 1) 172 26 [x0, some (vr 69), x2, x3, some (vi a4), x5] [vi s0] w Q = ((¬ s0 = 1 → T (d + 1) 172 63 [x0, some (vr 69), x2, x3, some (vi a4), x5] [] w Q) ∧ (¬ (¬ s0 = 1) → T d 245 0 [some (vr 69), some (vi a4), none] [] w (fun r w1 => T (d + 1) 172 36 [x0, some (vr 69), x2, x3, some (vi a4), x5] (r.toList ++ []) w1 Q))) := by
  rw [T_sipush c172_26, T_icmp_ne 63 c172_27 rfl, T_aload_1 c172_30, T_iload_4 c172_31, T_inv (es := [some (vr 69), some (vi a4), none]) (st := [vi a4, vr 69]) (ks := [2, 0]) (n := 3) (as := [vr 69, vi a4]) (rest := []) c172_33 (by decide +kernel) (by decide +kernel) rfl rfl (Nat.le_of_ble_eq_true rfl)]
  all_goals try simp only [Int.reduceToNat, true_and, Nat.reduceAdd, eq_self_iff_true]
theorem g172_36 {d : Nat} {a4 s0 : Int} {r2 : Nat} {x3 x5 : Option aV} {w : aW} {Q : Option aV → aW → Prop} : T d 172 36 [some (vr 50), some (vr 69), some (vr r2), x3, some (vi a4), x5] [vi s0] w Q = ((s0 = 0 → T d 172 63 [some (vr 50), some (vr 69), some (vr r2), x3, some (vi a4), x5] [] w Q) ∧ (¬ (s0 = 0) → (lay r2 = (6, 0) ∧ (ldok (rfA r2 2) a4 w ∧ ((0 ≤ w (rfA r2 2) a4 ∧ w (rfA r2 2) a4 < 10) ∧ ((0 ≤ a4 ∧ a4 < 16) ∧ ((0 ≤ w (rfA r2 2) a4 ∧ w (rfA r2 2) a4 < 10) ∧ T d 172 63 [some (vr 50), some (vr 69), some (vr r2), x3, some (vi a4), x5] [] (iup w 51 (w (rfA r2 2) a4) (jor (w 51 (w (rfA r2 2) a4)) (jshl 1 (w 73 a4)))) Q))))))) := by
  rw [T_if_eq 63 c172_36 rfl, T_aload_0 c172_39, T_getR 9 0 0 c172_40 rfl rfl rfl rfl, rf_50_0, T_aload_2 c172_43, T_getR 6 2 2 c172_44 rfl rfl rfl rfl, T_iload_4 c172_47, T_iald c172_49, T_dup2 c172_50, T_iald c172_51, T_sipush c172_52, T_aload_1 c172_53, T_getR 8 9 9 c172_54 rfl rfl rfl rfl, rf_69_9, T_iload_4 c172_57, T_iald c172_59, T_ishl c172_60, T_ior c172_61, T_iast c172_62]
  all_goals try simp only [Int.reduceToNat, ia0_51, lay_50, lay_69, ld_51, ld_73, true_and, Nat.reduceAdd, eq_self_iff_true]
theorem g172_63 {d : Nat} {a4 : Int} {x0 x1 x2 x3 x5 : Option aV} {w : aW} {Q : Option aV → aW → Prop} : T d 172 63 [x0, x1, x2, x3, some (vi a4), x5] [] w Q = T d 172 11 [x0, x1, x2, x3, some (vi (w32 (a4 + 1))), x5] [] w Q := by
  rw [T_iinc_4 c172_63, T_goto 11 c172_66 rfl]
  all_goals try simp only [true_and, Nat.reduceAdd, eq_self_iff_true]
theorem g172_72 {d : Nat} {a4 : Int} {x2 x3 x5 : Option aV} {w : aW} {Q : Option aV → aW → Prop} : T (d + 1) 172 72 [some (vr 50), some (vr 69), x2, x3, some (vi a4), x5] [] w Q = ((w 69 1 ≤ a4 → T (d + 1) 172 97 [some (vr 50), some (vr 69), x2, x3, some (vi 0), x5] [] w Q) ∧ (¬ (w 69 1 ≤ a4) → T d 246 0 [some (vr 50), some (vr 69), some (vi a4), none] [] w (fun r w1 => T (d + 1) 172 88 [some (vr 50), some (vr 69), x2, x3, some (vi a4), x5] (r.toList ++ []) w1 Q))) := by
  rw [T_iload_4 c172_72, T_aload_1 c172_74, T_getI 8 1 1 c172_75 rfl rfl rfl rfl, T_icmp_ge 94 c172_78 rfl, T_sipush c172_94, T_istore_4 c172_95, T_aload_0 c172_81, T_aload_1 c172_82, T_iload_4 c172_83, T_invv (es := [some (vr 50), some (vr 69), some (vi a4), none]) (st := [vi a4, vr 69, vr 50]) (ks := [2, 2, 0]) (n := 4) (c := 9) (k := 50) (as := [vr 69, vi a4]) (rest := []) c172_85 (by decide +kernel) (by decide +kernel) (by decide +kernel) (by decide) rfl rfl (Nat.le_of_ble_eq_true rfl)]
  all_goals try simp only [Int.reduceToNat, lay_50, lay_69, true_and, Nat.reduceAdd, eq_self_iff_true]
theorem g172_88 {d : Nat} {a4 : Int} {x0 x1 x2 x3 x5 : Option aV} {w : aW} {Q : Option aV → aW → Prop} : T d 172 88 [x0, x1, x2, x3, some (vi a4), x5] [] w Q = T d 172 72 [x0, x1, x2, x3, some (vi (w32 (a4 + 1))), x5] [] w Q := by
  rw [T_iinc_4 c172_88, T_goto 72 c172_91 rfl]
  all_goals try simp only [true_and, Nat.reduceAdd, eq_self_iff_true]
theorem g172_97 {d : Nat} {a4 : Int} {x0 x2 x3 x5 : Option aV} {w : aW} {Q : Option aV → aW → Prop} : T d 172 97 [x0, some (vr 69), x2, x3, some (vi a4), x5] [] w Q = ((w 69 1 ≤ a4 → Q none w) ∧ (¬ (w 69 1 ≤ a4) → T d 172 109 [x0, some (vr 69), x2, x3, some (vi a4), some (vi 0)] [] w Q)) := by
  rw [T_iload_4 c172_97, T_aload_1 c172_99, T_getI 8 1 1 c172_100 rfl rfl rfl rfl, T_icmp_ge 163 c172_103 rfl, T_vret c172_163 (by decide +kernel), T_sipush c172_106, T_istore_5 c172_107]
  all_goals try simp only [Int.reduceToNat, lay_69, true_and, Nat.reduceAdd, eq_self_iff_true]
theorem g172_109 {d : Nat} {a4 a5 : Int} {x2 x3 : Option aV} {w : aW} {Q : Option aV → aW → Prop} : T (d + 1) 172 109 [some (vr 50), some (vr 69), x2, x3, some (vi a4), some (vi a5)] [] w Q = ((w 69 1 ≤ a5 → T (d + 1) 172 97 [some (vr 50), some (vr 69), x2, x3, some (vi (w32 (a4 + 1))), some (vi a5)] [] w Q) ∧ (¬ (w 69 1 ≤ a5) → ((0 ≤ a5 ∧ a5 < 10) ∧ T d 117 0 [some (vi (w 51 a5)), some (vi a4)] [] w (fun r w1 => T (d + 1) 172 130 [some (vr 50), some (vr 69), x2, x3, some (vi a4), some (vi a5)] (r.toList ++ []) w1 Q)))) := by
  rw [T_iload_5 c172_109, T_aload_1 c172_111, T_getI 8 1 1 c172_112 rfl rfl rfl rfl, T_icmp_ge 157 c172_115 rfl, T_iinc_4 c172_157, T_goto 97 c172_160 rfl, T_aload_0 c172_118, T_getR 9 0 0 c172_119 rfl rfl rfl rfl, rf_50_0, T_iload_5 c172_122, T_iald c172_124, T_iload_4 c172_125, T_inv (es := [some (vi (w 51 a5)), some (vi a4)]) (st := [vi a4, vi (w 51 a5)]) (ks := [0, 0]) (n := 2) (as := [vi (w 51 a5), vi a4]) (rest := []) c172_127 (by decide +kernel) (by decide +kernel) rfl rfl (Nat.le_of_ble_eq_true rfl)]
  all_goals try simp only [Int.reduceToNat, lay_50, lay_69, ld_51, true_and, Nat.reduceAdd, eq_self_iff_true]
theorem g172_130 {d : Nat} {a4 a5 s0 : Int} {x1 x2 x3 : Option aV} {w : aW} {Q : Option aV → aW → Prop} : T d 172 130 [some (vr 50), x1, x2, x3, some (vi a4), some (vi a5)] [vi s0] w Q = ((¬ s0 = 1 → T d 172 151 [some (vr 50), x1, x2, x3, some (vi a4), some (vi a5)] [] w Q) ∧ (¬ (¬ s0 = 1) → ((0 ≤ a5 ∧ a5 < 10) ∧ ((0 ≤ a4 ∧ a4 < 10) ∧ ((0 ≤ a5 ∧ a5 < 10) ∧ T d 172 151 [some (vr 50), x1, x2, x3, some (vi a4), some (vi a5)] [] (iup w 51 a5 (jor (w 51 a5) (w 51 a4))) Q))))) := by
  rw [T_sipush c172_130, T_icmp_ne 151 c172_131 rfl, T_aload_0 c172_134, T_getR 9 0 0 c172_135 rfl rfl rfl rfl, rf_50_0, T_iload_5 c172_138, T_dup2 c172_140, T_iald c172_141, T_aload_0 c172_142, T_getR 9 0 0 c172_143 rfl rfl rfl rfl, rf_50_0, T_iload_4 c172_146, T_iald c172_148, T_ior c172_149, T_iast c172_150]
  all_goals try simp only [Int.reduceToNat, ia0_51, lay_50, ld_51, true_and, Nat.reduceAdd, eq_self_iff_true]
theorem g172_151 {d : Nat} {a5 : Int} {x0 x1 x2 x3 x4 : Option aV} {w : aW} {Q : Option aV → aW → Prop} : T d 172 151 [x0, x1, x2, x3, x4, some (vi a5)] [] w Q = T d 172 109 [x0, x1, x2, x3, x4, some (vi (w32 (a5 + 1)))] [] w Q := by
  rw [T_iinc_5 c172_151, T_goto 109 c172_154 rfl]
  all_goals try simp only [true_and, Nat.reduceAdd, eq_self_iff_true]
/-! 173: StringHandsModel.laysWorked.(I)V -/
theorem c173_0 : cd 173 0 = some (.sipush 0, 1) := by decide +kernel
theorem c173_1 : cd 173 1 = some (.istore 2, 1) := by decide +kernel
theorem c173_2 : cd 173 2 = some (.iload 2, 1) := by decide +kernel
theorem c173_3 : cd 173 3 = some (.aload 0, 1) := by decide +kernel
theorem c173_4 : cd 173 4 = some (.getfield 3078, 3) := by decide +kernel
theorem c173_7 : cd 173 7 = some (.sipush 2, 1) := by decide +kernel
theorem c173_8 : cd 173 8 = some (.iaload, 1) := by decide +kernel
theorem c173_9 : cd 173 9 = some (.if_icmp .ge 77, 3) := by decide +kernel
theorem c173_12 : cd 173 12 = some (.aload 0, 1) := by decide +kernel
theorem c173_13 : cd 173 13 = some (.getfield 3170, 3) := by decide +kernel
theorem c173_16 : cd 173 16 = some (.iload 2, 1) := by decide +kernel
theorem c173_17 : cd 173 17 = some (.sipush 0, 1) := by decide +kernel
theorem c173_18 : cd 173 18 = some (.iastore, 1) := by decide +kernel
theorem c173_19 : cd 173 19 = some (.sipush 0, 1) := by decide +kernel
theorem c173_20 : cd 173 20 = some (.istore 3, 1) := by decide +kernel
theorem c173_21 : cd 173 21 = some (.iload 3, 1) := by decide +kernel
theorem c173_22 : cd 173 22 = some (.aload 0, 1) := by decide +kernel
theorem c173_23 : cd 173 23 = some (.getfield 3078, 3) := by decide +kernel
theorem c173_26 : cd 173 26 = some (.sipush 2, 1) := by decide +kernel
theorem c173_27 : cd 173 27 = some (.iaload, 1) := by decide +kernel
theorem c173_28 : cd 173 28 = some (.if_icmp .ge 71, 3) := by decide +kernel
theorem c173_31 : cd 173 31 = some (.aload 0, 1) := by decide +kernel
theorem c173_32 : cd 173 32 = some (.getfield 3170, 3) := by decide +kernel
theorem c173_35 : cd 173 35 = some (.iload 2, 1) := by decide +kernel
theorem c173_36 : cd 173 36 = some (.dup2, 1) := by decide +kernel
theorem c173_37 : cd 173 37 = some (.iaload, 1) := by decide +kernel
theorem c173_38 : cd 173 38 = some (.iload 3, 1) := by decide +kernel
theorem c173_39 : cd 173 39 = some (.iload 2, 1) := by decide +kernel
theorem c173_40 : cd 173 40 = some (.if_icmp .eq 62, 3) := by decide +kernel
theorem c173_43 : cd 173 43 = some (.aload 0, 1) := by decide +kernel
theorem c173_44 : cd 173 44 = some (.iload 3, 1) := by decide +kernel
theorem c173_45 : cd 173 45 = some (.sipush 1000, 3) := by decide +kernel
theorem c173_48 : cd 173 48 = some (.iload 2, 1) := by decide +kernel
theorem c173_49 : cd 173 49 = some (.iadd, 1) := by decide +kernel
theorem c173_50 : cd 173 50 = some (.invokevirtual 178, 3) := by decide +kernel
theorem c173_53 : cd 173 53 = some (.ifCond .eq 62, 3) := by decide +kernel
theorem c173_56 : cd 173 56 = some (.sipush 1, 1) := by decide +kernel
theorem c173_57 : cd 173 57 = some (.iload 3, 1) := by decide +kernel
theorem c173_58 : cd 173 58 = some (.ishl, 1) := by decide +kernel
theorem c173_59 : cd 173 59 = some (.goto 63, 3) := by decide +kernel
theorem c173_62 : cd 173 62 = some (.sipush 0, 1) := by decide +kernel
theorem c173_63 : cd 173 63 = some (.ior, 1) := by decide +kernel
theorem c173_64 : cd 173 64 = some (.iastore, 1) := by decide +kernel
theorem c173_65 : cd 173 65 = some (.iinc 3 1, 3) := by decide +kernel
theorem c173_68 : cd 173 68 = some (.goto 21, 3) := by decide +kernel
theorem c173_71 : cd 173 71 = some (.iinc 2 1, 3) := by decide +kernel
theorem c173_74 : cd 173 74 = some (.goto 2, 3) := by decide +kernel
theorem c173_77 : cd 173 77 = some (.sipush 0, 1) := by decide +kernel
theorem c173_78 : cd 173 78 = some (.istore 2, 1) := by decide +kernel
theorem c173_79 : cd 173 79 = some (.iload 2, 1) := by decide +kernel
theorem c173_80 : cd 173 80 = some (.aload 0, 1) := by decide +kernel
theorem c173_81 : cd 173 81 = some (.getfield 3078, 3) := by decide +kernel
theorem c173_84 : cd 173 84 = some (.sipush 3, 1) := by decide +kernel
theorem c173_85 : cd 173 85 = some (.iaload, 1) := by decide +kernel
theorem c173_86 : cd 173 86 = some (.if_icmp .ge 152, 3) := by decide +kernel
theorem c173_89 : cd 173 89 = some (.aload 0, 1) := by decide +kernel
theorem c173_90 : cd 173 90 = some (.iload 2, 1) := by decide +kernel
theorem c173_91 : cd 173 91 = some (.invokevirtual 138, 3) := by decide +kernel
theorem c173_94 : cd 173 94 = some (.ifCond .eq 146, 3) := by decide +kernel
theorem c173_97 : cd 173 97 = some (.iload 2, 1) := by decide +kernel
theorem c173_98 : cd 173 98 = some (.iload 1, 1) := by decide +kernel
theorem c173_99 : cd 173 99 = some (.if_icmp .eq 146, 3) := by decide +kernel
theorem c173_102 : cd 173 102 = some (.aload 0, 1) := by decide +kernel
theorem c173_103 : cd 173 103 = some (.aload 0, 1) := by decide +kernel
theorem c173_104 : cd 173 104 = some (.getfield 3078, 3) := by decide +kernel
theorem c173_107 : cd 173 107 = some (.sipush 64, 2) := by decide +kernel
theorem c173_109 : cd 173 109 = some (.iload 2, 1) := by decide +kernel
theorem c173_110 : cd 173 110 = some (.iadd, 1) := by decide +kernel
theorem c173_111 : cd 173 111 = some (.iaload, 1) := by decide +kernel
theorem c173_112 : cd 173 112 = some (.invokevirtual 179, 3) := by decide +kernel
theorem c173_115 : cd 173 115 = some (.ifCond .eq 146, 3) := by decide +kernel
theorem c173_118 : cd 173 118 = some (.aload 0, 1) := by decide +kernel
theorem c173_119 : cd 173 119 = some (.getfield 3170, 3) := by decide +kernel
theorem c173_122 : cd 173 122 = some (.aload 0, 1) := by decide +kernel
theorem c173_123 : cd 173 123 = some (.getfield 3078, 3) := by decide +kernel
theorem c173_126 : cd 173 126 = some (.sipush 6, 2) := by decide +kernel
theorem c173_128 : cd 173 128 = some (.iload 2, 1) := by decide +kernel
theorem c173_129 : cd 173 129 = some (.iadd, 1) := by decide +kernel
theorem c173_130 : cd 173 130 = some (.iaload, 1) := by decide +kernel
theorem c173_131 : cd 173 131 = some (.dup2, 1) := by decide +kernel
theorem c173_132 : cd 173 132 = some (.iaload, 1) := by decide +kernel
theorem c173_133 : cd 173 133 = some (.sipush 1, 1) := by decide +kernel
theorem c173_134 : cd 173 134 = some (.aload 0, 1) := by decide +kernel
theorem c173_135 : cd 173 135 = some (.getfield 3078, 3) := by decide +kernel
theorem c173_138 : cd 173 138 = some (.sipush 64, 2) := by decide +kernel
theorem c173_140 : cd 173 140 = some (.iload 2, 1) := by decide +kernel
theorem c173_141 : cd 173 141 = some (.iadd, 1) := by decide +kernel
theorem c173_142 : cd 173 142 = some (.iaload, 1) := by decide +kernel
theorem c173_143 : cd 173 143 = some (.ishl, 1) := by decide +kernel
theorem c173_144 : cd 173 144 = some (.ior, 1) := by decide +kernel
theorem c173_145 : cd 173 145 = some (.iastore, 1) := by decide +kernel
theorem c173_146 : cd 173 146 = some (.iinc 2 1, 3) := by decide +kernel
theorem c173_149 : cd 173 149 = some (.goto 79, 3) := by decide +kernel
theorem c173_152 : cd 173 152 = some (.sipush 0, 1) := by decide +kernel
theorem c173_153 : cd 173 153 = some (.istore 2, 1) := by decide +kernel
theorem c173_154 : cd 173 154 = some (.iload 2, 1) := by decide +kernel
theorem c173_155 : cd 173 155 = some (.aload 0, 1) := by decide +kernel
theorem c173_156 : cd 173 156 = some (.getfield 3078, 3) := by decide +kernel
theorem c173_159 : cd 173 159 = some (.sipush 2, 1) := by decide +kernel
theorem c173_160 : cd 173 160 = some (.iaload, 1) := by decide +kernel
theorem c173_161 : cd 173 161 = some (.if_icmp .ge 217, 3) := by decide +kernel
theorem c173_164 : cd 173 164 = some (.sipush 0, 1) := by decide +kernel
theorem c173_165 : cd 173 165 = some (.istore 3, 1) := by decide +kernel
theorem c173_166 : cd 173 166 = some (.iload 3, 1) := by decide +kernel
theorem c173_167 : cd 173 167 = some (.aload 0, 1) := by decide +kernel
theorem c173_168 : cd 173 168 = some (.getfield 3078, 3) := by decide +kernel
theorem c173_171 : cd 173 171 = some (.sipush 2, 1) := by decide +kernel
theorem c173_172 : cd 173 172 = some (.iaload, 1) := by decide +kernel
theorem c173_173 : cd 173 173 = some (.if_icmp .ge 211, 3) := by decide +kernel
theorem c173_176 : cd 173 176 = some (.aload 0, 1) := by decide +kernel
theorem c173_177 : cd 173 177 = some (.getfield 3170, 3) := by decide +kernel
theorem c173_180 : cd 173 180 = some (.iload 3, 1) := by decide +kernel
theorem c173_181 : cd 173 181 = some (.iaload, 1) := by decide +kernel
theorem c173_182 : cd 173 182 = some (.i2l, 1) := by decide +kernel
theorem c173_183 : cd 173 183 = some (.iload 2, 1) := by decide +kernel
theorem c173_184 : cd 173 184 = some (.invokestatic 230, 3) := by decide +kernel
theorem c173_187 : cd 173 187 = some (.ifCond .eq 205, 3) := by decide +kernel
theorem c173_190 : cd 173 190 = some (.aload 0, 1) := by decide +kernel
theorem c173_191 : cd 173 191 = some (.getfield 3170, 3) := by decide +kernel
theorem c173_194 : cd 173 194 = some (.iload 3, 1) := by decide +kernel
theorem c173_195 : cd 173 195 = some (.dup2, 1) := by decide +kernel
theorem c173_196 : cd 173 196 = some (.iaload, 1) := by decide +kernel
theorem c173_197 : cd 173 197 = some (.aload 0, 1) := by decide +kernel
theorem c173_198 : cd 173 198 = some (.getfield 3170, 3) := by decide +kernel
theorem c173_201 : cd 173 201 = some (.iload 2, 1) := by decide +kernel
theorem c173_202 : cd 173 202 = some (.iaload, 1) := by decide +kernel
theorem c173_203 : cd 173 203 = some (.ior, 1) := by decide +kernel
theorem c173_204 : cd 173 204 = some (.iastore, 1) := by decide +kernel
theorem c173_205 : cd 173 205 = some (.iinc 3 1, 3) := by decide +kernel
theorem c173_208 : cd 173 208 = some (.goto 166, 3) := by decide +kernel
theorem c173_211 : cd 173 211 = some (.iinc 2 1, 3) := by decide +kernel
theorem c173_214 : cd 173 214 = some (.goto 154, 3) := by decide +kernel
theorem c173_217 : cd 173 217 = some (.return_, 1) := by decide +kernel
theorem g173_0 {d : Nat} {x0 x1 x2 x3 : Option aV} {w : aW} {Q : Option aV → aW → Prop} : T d 173 0 [x0, x1, x2, x3] [] w Q = T d 173 2 [x0, x1, some (vi 0), x3] [] w Q := by
  rw [T_sipush c173_0, T_istore_2 c173_1]
  all_goals try simp only [true_and, Nat.reduceAdd, eq_self_iff_true]
theorem g173_2 {d : Nat} {a2 : Int} {x1 x3 : Option aV} {w : aW} {Q : Option aV → aW → Prop} : T d 173 2 [some (vr 167), x1, some (vi a2), x3] [] w Q = ((w 168 2 ≤ a2 → T d 173 79 [some (vr 167), x1, some (vi 0), x3] [] w Q) ∧ (¬ (w 168 2 ≤ a2) → ((0 ≤ a2 ∧ a2 < 10) ∧ T d 173 21 [some (vr 167), x1, some (vi a2), some (vi 0)] [] (iup w 179 a2 0) Q))) := by
  rw [T_iload_2 c173_2, T_aload_0 c173_3, T_getR 12 1 1 c173_4 rfl rfl rfl rfl, rf_167_1, T_sipush c173_7, T_iald c173_8, T_icmp_ge 77 c173_9 rfl, T_sipush c173_77, T_istore_2 c173_78, T_aload_0 c173_12, T_getR 12 24 24 c173_13 rfl rfl rfl rfl, rf_167_24, T_iload_2 c173_16, T_sipush c173_17, T_iast c173_18, T_sipush c173_19, T_istore_3 c173_20]
  all_goals try simp only [Int.reduceLE, Int.reduceLT, Int.reduceToNat, and_self, ia0_179, lay_167, ld_168, true_and, Nat.reduceAdd, eq_self_iff_true]
theorem g173_21 {d : Nat} {a2 a3 : Int} {x1 : Option aV} {w : aW} {Q : Option aV → aW → Prop} : T (d + 1) 173 21 [some (vr 167), x1, some (vi a2), some (vi a3)] [] w Q = ((w 168 2 ≤ a3 → T (d + 1) 173 2 [some (vr 167), x1, some (vi (w32 (a2 + 1))), some (vi a3)] [] w Q) ∧ (¬ (w 168 2 ≤ a3) → ((0 ≤ a2 ∧ a2 < 10) ∧ ((a3 = a2 → T (d + 1) 173 62 [some (vr 167), x1, some (vi a2), some (vi a3)] [vi (w 179 a2), vi a2, vr 179] w Q) ∧ (¬ (a3 = a2) → T d 178 0 [some (vr 167), some (vi a3), some (vi (w32 (1000 + a2))), none] [] w (fun r w1 => T (d + 1) 173 53 [some (vr 167), x1, some (vi a2), some (vi a3)] (r.toList ++ [vi (w 179 a2), vi a2, vr 179]) w1 Q)))))) := by
  rw [T_iload_3 c173_21, T_aload_0 c173_22, T_getR 12 1 1 c173_23 rfl rfl rfl rfl, rf_167_1, T_sipush c173_26, T_iald c173_27, T_icmp_ge 71 c173_28 rfl, T_iinc_2 c173_71, T_goto 2 c173_74 rfl, T_aload_0 c173_31, T_getR 12 24 24 c173_32 rfl rfl rfl rfl, rf_167_24, T_iload_2 c173_35, T_dup2 c173_36, T_iald c173_37, T_iload_3 c173_38, T_iload_2 c173_39, T_icmp_eq 62 c173_40 rfl, T_aload_0 c173_43, T_iload_3 c173_44, T_sipush c173_45, T_iload_2 c173_48, T_iadd c173_49, T_invv (es := [some (vr 167), some (vi a3), some (vi (w32 (1000 + a2))), none]) (st := [vi (w32 (1000 + a2)), vi a3, vr 167, vi (w 179 a2), vi a2, vr 179]) (ks := [2, 0, 0]) (n := 4) (c := 12) (k := 167) (as := [vi a3, vi (w32 (1000 + a2))]) (rest := [vi (w 179 a2), vi a2, vr 179]) c173_50 (by decide +kernel) (by decide +kernel) (by decide +kernel) (by decide) rfl rfl (Nat.le_of_ble_eq_true rfl)]
  all_goals try simp only [Int.reduceLE, Int.reduceLT, Int.reduceToNat, and_self, lay_167, ld_168, ld_179, true_and, Nat.reduceAdd, eq_self_iff_true]
theorem g173_53 {d : Nat} {a3 s1 s2 s3 : Int} {s0 : Nat} {x0 x1 x2 : Option aV} {w : aW} {Q : Option aV → aW → Prop} : T d 173 53 [x0, x1, x2, some (vi a3)] [vi s3, vi s2, vi s1, vr s0] w Q = ((s3 = 0 → T d 173 62 [x0, x1, x2, some (vi a3)] [vi s2, vi s1, vr s0] w Q) ∧ (¬ (s3 = 0) → T d 173 63 [x0, x1, x2, some (vi a3)] [vi (jshl 1 a3), vi s2, vi s1, vr s0] w Q)) := by
  rw [T_if_eq 62 c173_53 rfl, T_sipush c173_56, T_iload_3 c173_57, T_ishl c173_58, T_goto 63 c173_59 rfl]
  all_goals try simp only [Int.reduceToNat, true_and, Nat.reduceAdd, eq_self_iff_true]
theorem g173_62 {d : Nat} {s1 s2 : Int} {s0 : Nat} {x0 x1 x2 x3 : Option aV} {w : aW} {Q : Option aV → aW → Prop} : T d 173 62 [x0, x1, x2, x3] [vi s2, vi s1, vr s0] w Q = T d 173 63 [x0, x1, x2, x3] [vi 0, vi s2, vi s1, vr s0] w Q := by
  rw [T_sipush c173_62]
  all_goals try simp only [true_and, Nat.reduceAdd, eq_self_iff_true]
theorem g173_63 {d : Nat} {a3 s1 s2 s3 : Int} {s0 : Nat} {x0 x1 x2 : Option aV} {w : aW} {Q : Option aV → aW → Prop} : T d 173 63 [x0, x1, x2, some (vi a3)] [vi s3, vi s2, vi s1, vr s0] w Q = (inA s0 0 s1 = true ∧ T d 173 21 [x0, x1, x2, some (vi (w32 (a3 + 1)))] [] (iup w s0 s1 (jor s2 s3)) Q) := by
  rw [T_ior c173_63, T_iast c173_64, T_iinc_3 c173_65, T_goto 21 c173_68 rfl]
  all_goals try simp only [true_and, Nat.reduceAdd, eq_self_iff_true]
theorem g173_79 {d : Nat} {a2 : Int} {x1 x3 : Option aV} {w : aW} {Q : Option aV → aW → Prop} : T (d + 1) 173 79 [some (vr 167), x1, some (vi a2), x3] [] w Q = ((w 168 3 ≤ a2 → T (d + 1) 173 154 [some (vr 167), x1, some (vi 0), x3] [] w Q) ∧ (¬ (w 168 3 ≤ a2) → T d 138 0 [some (vr 167), some (vi a2)] [] w (fun r w1 => T (d + 1) 173 94 [some (vr 167), x1, some (vi a2), x3] (r.toList ++ []) w1 Q))) := by
  rw [T_iload_2 c173_79, T_aload_0 c173_80, T_getR 12 1 1 c173_81 rfl rfl rfl rfl, rf_167_1, T_sipush c173_84, T_iald c173_85, T_icmp_ge 152 c173_86 rfl, T_sipush c173_152, T_istore_2 c173_153, T_aload_0 c173_89, T_iload_2 c173_90, T_invv (es := [some (vr 167), some (vi a2)]) (st := [vi a2, vr 167]) (ks := [2, 0]) (n := 2) (c := 12) (k := 167) (as := [vi a2]) (rest := []) c173_91 (by decide +kernel) (by decide +kernel) (by decide +kernel) (by decide) rfl rfl (Nat.le_of_ble_eq_true rfl)]
  all_goals try simp only [Int.reduceLE, Int.reduceLT, Int.reduceToNat, and_self, lay_167, ld_168, true_and, Nat.reduceAdd, eq_self_iff_true]
theorem g173_94 {d : Nat} {a1 a2 s0 : Int} {x3 : Option aV} {w : aW} {Q : Option aV → aW → Prop} : T (d + 1) 173 94 [some (vr 167), some (vi a1), some (vi a2), x3] [vi s0] w Q = ((s0 = 0 → T (d + 1) 173 146 [some (vr 167), some (vi a1), some (vi a2), x3] [] w Q) ∧ (¬ (s0 = 0) → ((a2 = a1 → T (d + 1) 173 146 [some (vr 167), some (vi a1), some (vi a2), x3] [] w Q) ∧ (¬ (a2 = a1) → ((0 ≤ w32 (64 + a2) ∧ w32 (64 + a2) < 4932) ∧ T d 179 0 [some (vr 167), some (vi (w 168 (w32 (64 + a2))))] [] w (fun r w1 => T (d + 1) 173 115 [some (vr 167), some (vi a1), some (vi a2), x3] (r.toList ++ []) w1 Q)))))) := by
  rw [T_if_eq 146 c173_94 rfl, T_iload_2 c173_97, T_iload_1 c173_98, T_icmp_eq 146 c173_99 rfl, T_aload_0 c173_102, T_aload_0 c173_103, T_getR 12 1 1 c173_104 rfl rfl rfl rfl, rf_167_1, T_sipush c173_107, T_iload_2 c173_109, T_iadd c173_110, T_iald c173_111, T_invv (es := [some (vr 167), some (vi (w 168 (w32 (64 + a2))))]) (st := [vi (w 168 (w32 (64 + a2))), vr 167]) (ks := [2, 0]) (n := 2) (c := 12) (k := 167) (as := [vi (w 168 (w32 (64 + a2)))]) (rest := []) c173_112 (by decide +kernel) (by decide +kernel) (by decide +kernel) (by decide) rfl rfl (Nat.le_of_ble_eq_true rfl)]
  all_goals try simp only [Int.reduceToNat, lay_167, ld_168, true_and, Nat.reduceAdd, eq_self_iff_true]
theorem g173_115 {d : Nat} {a2 s0 : Int} {x1 x3 : Option aV} {w : aW} {Q : Option aV → aW → Prop} : T d 173 115 [some (vr 167), x1, some (vi a2), x3] [vi s0] w Q = ((s0 = 0 → T d 173 146 [some (vr 167), x1, some (vi a2), x3] [] w Q) ∧ (¬ (s0 = 0) → ((0 ≤ w32 (6 + a2) ∧ w32 (6 + a2) < 4932) ∧ ((0 ≤ w 168 (w32 (6 + a2)) ∧ w 168 (w32 (6 + a2)) < 10) ∧ ((0 ≤ w32 (64 + a2) ∧ w32 (64 + a2) < 4932) ∧ ((0 ≤ w 168 (w32 (6 + a2)) ∧ w 168 (w32 (6 + a2)) < 10) ∧ T d 173 146 [some (vr 167), x1, some (vi a2), x3] [] (iup w 179 (w 168 (w32 (6 + a2))) (jor (w 179 (w 168 (w32 (6 + a2)))) (jshl 1 (w 168 (w32 (64 + a2)))))) Q)))))) := by
  rw [T_if_eq 146 c173_115 rfl, T_aload_0 c173_118, T_getR 12 24 24 c173_119 rfl rfl rfl rfl, rf_167_24, T_aload_0 c173_122, T_getR 12 1 1 c173_123 rfl rfl rfl rfl, rf_167_1, T_sipush c173_126, T_iload_2 c173_128, T_iadd c173_129, T_iald c173_130, T_dup2 c173_131, T_iald c173_132, T_sipush c173_133, T_aload_0 c173_134, T_getR 12 1 1 c173_135 rfl rfl rfl rfl, rf_167_1, T_sipush c173_138, T_iload_2 c173_140, T_iadd c173_141, T_iald c173_142, T_ishl c173_143, T_ior c173_144, T_iast c173_145]
  all_goals try simp only [Int.reduceToNat, ia0_179, lay_167, ld_168, ld_179, true_and, Nat.reduceAdd, eq_self_iff_true]
theorem g173_146 {d : Nat} {a2 : Int} {x0 x1 x3 : Option aV} {w : aW} {Q : Option aV → aW → Prop} : T d 173 146 [x0, x1, some (vi a2), x3] [] w Q = T d 173 79 [x0, x1, some (vi (w32 (a2 + 1))), x3] [] w Q := by
  rw [T_iinc_2 c173_146, T_goto 79 c173_149 rfl]
  all_goals try simp only [true_and, Nat.reduceAdd, eq_self_iff_true]
theorem g173_154 {d : Nat} {a2 : Int} {x1 x3 : Option aV} {w : aW} {Q : Option aV → aW → Prop} : T d 173 154 [some (vr 167), x1, some (vi a2), x3] [] w Q = ((w 168 2 ≤ a2 → Q none w) ∧ (¬ (w 168 2 ≤ a2) → T d 173 166 [some (vr 167), x1, some (vi a2), some (vi 0)] [] w Q)) := by
  rw [T_iload_2 c173_154, T_aload_0 c173_155, T_getR 12 1 1 c173_156 rfl rfl rfl rfl, rf_167_1, T_sipush c173_159, T_iald c173_160, T_icmp_ge 217 c173_161 rfl, T_vret c173_217 (by decide +kernel), T_sipush c173_164, T_istore_3 c173_165]
  all_goals try simp only [Int.reduceLE, Int.reduceLT, Int.reduceToNat, and_self, lay_167, ld_168, true_and, Nat.reduceAdd, eq_self_iff_true]
theorem g173_166 {d : Nat} {a2 a3 : Int} {x1 : Option aV} {w : aW} {Q : Option aV → aW → Prop} : T (d + 1) 173 166 [some (vr 167), x1, some (vi a2), some (vi a3)] [] w Q = ((w 168 2 ≤ a3 → T (d + 1) 173 154 [some (vr 167), x1, some (vi (w32 (a2 + 1))), some (vi a3)] [] w Q) ∧ (¬ (w 168 2 ≤ a3) → ((0 ≤ a3 ∧ a3 < 10) ∧ T d 230 0 [some (vl (w 179 a3)), none, some (vi a2)] [] w (fun r w1 => T (d + 1) 173 187 [some (vr 167), x1, some (vi a2), some (vi a3)] (r.toList ++ []) w1 Q)))) := by
  rw [T_iload_3 c173_166, T_aload_0 c173_167, T_getR 12 1 1 c173_168 rfl rfl rfl rfl, rf_167_1, T_sipush c173_171, T_iald c173_172, T_icmp_ge 211 c173_173 rfl, T_iinc_2 c173_211, T_goto 154 c173_214 rfl, T_aload_0 c173_176, T_getR 12 24 24 c173_177 rfl rfl rfl rfl, rf_167_24, T_iload_3 c173_180, T_iald c173_181, T_i2l c173_182, T_iload_2 c173_183, T_inv (es := [some (vl (w 179 a3)), none, some (vi a2)]) (st := [vi a2, vl (w 179 a3)]) (ks := [1, 0]) (n := 3) (as := [vl (w 179 a3), vi a2]) (rest := []) c173_184 (by decide +kernel) (by decide +kernel) rfl rfl (Nat.le_of_ble_eq_true rfl)]
  all_goals try simp only [Int.reduceLE, Int.reduceLT, Int.reduceToNat, and_self, lay_167, ld_168, ld_179, true_and, Nat.reduceAdd, eq_self_iff_true]
theorem g173_187 {d : Nat} {a2 a3 s0 : Int} {x1 : Option aV} {w : aW} {Q : Option aV → aW → Prop} : T d 173 187 [some (vr 167), x1, some (vi a2), some (vi a3)] [vi s0] w Q = ((s0 = 0 → T d 173 205 [some (vr 167), x1, some (vi a2), some (vi a3)] [] w Q) ∧ (¬ (s0 = 0) → ((0 ≤ a3 ∧ a3 < 10) ∧ ((0 ≤ a2 ∧ a2 < 10) ∧ ((0 ≤ a3 ∧ a3 < 10) ∧ T d 173 205 [some (vr 167), x1, some (vi a2), some (vi a3)] [] (iup w 179 a3 (jor (w 179 a3) (w 179 a2))) Q))))) := by
  rw [T_if_eq 205 c173_187 rfl, T_aload_0 c173_190, T_getR 12 24 24 c173_191 rfl rfl rfl rfl, rf_167_24, T_iload_3 c173_194, T_dup2 c173_195, T_iald c173_196, T_aload_0 c173_197, T_getR 12 24 24 c173_198 rfl rfl rfl rfl, rf_167_24, T_iload_2 c173_201, T_iald c173_202, T_ior c173_203, T_iast c173_204]
  all_goals try simp only [Int.reduceToNat, ia0_179, lay_167, ld_179, true_and, Nat.reduceAdd, eq_self_iff_true]
theorem g173_205 {d : Nat} {a3 : Int} {x0 x1 x2 : Option aV} {w : aW} {Q : Option aV → aW → Prop} : T d 173 205 [x0, x1, x2, some (vi a3)] [] w Q = T d 173 166 [x0, x1, x2, some (vi (w32 (a3 + 1)))] [] w Q := by
  rw [T_iinc_3 c173_205, T_goto 166 c173_208 rfl]
  all_goals try simp only [true_and, Nat.reduceAdd, eq_self_iff_true]
/-! 174: StringHands$Web.mutual.(II)I -/
theorem c174_0 : cd 174 0 = some (.sipush 1, 1) := by decide +kernel
theorem c174_1 : cd 174 1 = some (.iload 1, 1) := by decide +kernel
theorem c174_2 : cd 174 2 = some (.ishl, 1) := by decide +kernel
theorem c174_3 : cd 174 3 = some (.istore 3, 1) := by decide +kernel
theorem c174_4 : cd 174 4 = some (.sipush 0, 1) := by decide +kernel
theorem c174_5 : cd 174 5 = some (.istore 4, 2) := by decide +kernel
theorem c174_7 : cd 174 7 = some (.iload 4, 2) := by decide +kernel
theorem c174_9 : cd 174 9 = some (.iload 2, 1) := by decide +kernel
theorem c174_10 : cd 174 10 = some (.if_icmp .ge 56, 3) := by decide +kernel
theorem c174_13 : cd 174 13 = some (.aload 0, 1) := by decide +kernel
theorem c174_14 : cd 174 14 = some (.getfield 2306, 3) := by decide +kernel
theorem c174_17 : cd 174 17 = some (.iload 1, 1) := by decide +kernel
theorem c174_18 : cd 174 18 = some (.iaload, 1) := by decide +kernel
theorem c174_19 : cd 174 19 = some (.iload 4, 2) := by decide +kernel
theorem c174_21 : cd 174 21 = some (.invokestatic 117, 3) := by decide +kernel
theorem c174_24 : cd 174 24 = some (.sipush 1, 1) := by decide +kernel
theorem c174_25 : cd 174 25 = some (.if_icmp .ne 50, 3) := by decide +kernel
theorem c174_28 : cd 174 28 = some (.aload 0, 1) := by decide +kernel
theorem c174_29 : cd 174 29 = some (.getfield 2306, 3) := by decide +kernel
theorem c174_32 : cd 174 32 = some (.iload 4, 2) := by decide +kernel
theorem c174_34 : cd 174 34 = some (.iaload, 1) := by decide +kernel
theorem c174_35 : cd 174 35 = some (.iload 1, 1) := by decide +kernel
theorem c174_36 : cd 174 36 = some (.invokestatic 117, 3) := by decide +kernel
theorem c174_39 : cd 174 39 = some (.sipush 1, 1) := by decide +kernel
theorem c174_40 : cd 174 40 = some (.if_icmp .ne 50, 3) := by decide +kernel
theorem c174_43 : cd 174 43 = some (.iload 3, 1) := by decide +kernel
theorem c174_44 : cd 174 44 = some (.sipush 1, 1) := by decide +kernel
theorem c174_45 : cd 174 45 = some (.iload 4, 2) := by decide +kernel
theorem c174_47 : cd 174 47 = some (.ishl, 1) := by decide +kernel
theorem c174_48 : cd 174 48 = some (.ior, 1) := by decide +kernel
theorem c174_49 : cd 174 49 = some (.istore 3, 1) := by decide +kernel
theorem c174_50 : cd 174 50 = some (.iinc 4 1, 3) := by decide +kernel
theorem c174_53 : cd 174 53 = some (.goto 7, 3) := by decide +kernel
theorem c174_56 : cd 174 56 = some (.iload 3, 1) := by decide +kernel
theorem c174_57 : cd 174 57 = some (.ireturn, 1) := by decide +kernel
theorem g174_0 {d : Nat} {a1 : Int} {x0 x2 x3 x4 : Option aV} {w : aW} {Q : Option aV → aW → Prop} : T d 174 0 [x0, some (vi a1), x2, x3, x4] [] w Q = T d 174 7 [x0, some (vi a1), x2, some (vi (jshl 1 a1)), some (vi 0)] [] w Q := by
  rw [T_sipush c174_0, T_iload_1 c174_1, T_ishl c174_2, T_istore_3 c174_3, T_sipush c174_4, T_istore_4 c174_5]
  all_goals try simp only [true_and, Nat.reduceAdd, eq_self_iff_true]
theorem g174_7 {d : Nat} {a1 a2 a3 a4 : Int} {w : aW} {Q : Option aV → aW → Prop} : T (d + 1) 174 7 [some (vr 50), some (vi a1), some (vi a2), some (vi a3), some (vi a4)] [] w Q = ((a2 ≤ a4 → Q (some (vi a3)) w) ∧ (¬ (a2 ≤ a4) → ((0 ≤ a1 ∧ a1 < 10) ∧ T d 117 0 [some (vi (w 51 a1)), some (vi a4)] [] w (fun r w1 => T (d + 1) 174 24 [some (vr 50), some (vi a1), some (vi a2), some (vi a3), some (vi a4)] (r.toList ++ []) w1 Q)))) := by
  rw [T_iload_4 c174_7, T_iload_2 c174_9, T_icmp_ge 56 c174_10 rfl, T_iload_3 c174_56, T_ireti c174_57 (by decide +kernel), T_aload_0 c174_13, T_getR 9 0 0 c174_14 rfl rfl rfl rfl, rf_50_0, T_iload_1 c174_17, T_iald c174_18, T_iload_4 c174_19, T_inv (es := [some (vi (w 51 a1)), some (vi a4)]) (st := [vi a4, vi (w 51 a1)]) (ks := [0, 0]) (n := 2) (as := [vi (w 51 a1), vi a4]) (rest := []) c174_21 (by decide +kernel) (by decide +kernel) rfl rfl (Nat.le_of_ble_eq_true rfl)]
  all_goals try simp only [Int.reduceToNat, lay_50, ld_51, true_and, Nat.reduceAdd, eq_self_iff_true]
theorem g174_24 {d : Nat} {a1 a4 s0 : Int} {x2 x3 : Option aV} {w : aW} {Q : Option aV → aW → Prop} : T (d + 1) 174 24 [some (vr 50), some (vi a1), x2, x3, some (vi a4)] [vi s0] w Q = ((¬ s0 = 1 → T (d + 1) 174 50 [some (vr 50), some (vi a1), x2, x3, some (vi a4)] [] w Q) ∧ (¬ (¬ s0 = 1) → ((0 ≤ a4 ∧ a4 < 10) ∧ T d 117 0 [some (vi (w 51 a4)), some (vi a1)] [] w (fun r w1 => T (d + 1) 174 39 [some (vr 50), some (vi a1), x2, x3, some (vi a4)] (r.toList ++ []) w1 Q)))) := by
  rw [T_sipush c174_24, T_icmp_ne 50 c174_25 rfl, T_aload_0 c174_28, T_getR 9 0 0 c174_29 rfl rfl rfl rfl, rf_50_0, T_iload_4 c174_32, T_iald c174_34, T_iload_1 c174_35, T_inv (es := [some (vi (w 51 a4)), some (vi a1)]) (st := [vi a1, vi (w 51 a4)]) (ks := [0, 0]) (n := 2) (as := [vi (w 51 a4), vi a1]) (rest := []) c174_36 (by decide +kernel) (by decide +kernel) rfl rfl (Nat.le_of_ble_eq_true rfl)]
  all_goals try simp only [Int.reduceToNat, lay_50, ld_51, true_and, Nat.reduceAdd, eq_self_iff_true]
theorem g174_39 {d : Nat} {a3 a4 s0 : Int} {x0 x1 x2 : Option aV} {w : aW} {Q : Option aV → aW → Prop} : T d 174 39 [x0, x1, x2, some (vi a3), some (vi a4)] [vi s0] w Q = ((¬ s0 = 1 → T d 174 50 [x0, x1, x2, some (vi a3), some (vi a4)] [] w Q) ∧ (¬ (¬ s0 = 1) → T d 174 50 [x0, x1, x2, some (vi (jor a3 (jshl 1 a4))), some (vi a4)] [] w Q)) := by
  rw [T_sipush c174_39, T_icmp_ne 50 c174_40 rfl, T_iload_3 c174_43, T_sipush c174_44, T_iload_4 c174_45, T_ishl c174_47, T_ior c174_48, T_istore_3 c174_49]
  all_goals try simp only [Int.reduceToNat, true_and, Nat.reduceAdd, eq_self_iff_true]
theorem g174_50 {d : Nat} {a4 : Int} {x0 x1 x2 x3 : Option aV} {w : aW} {Q : Option aV → aW → Prop} : T d 174 50 [x0, x1, x2, x3, some (vi a4)] [] w Q = T d 174 7 [x0, x1, x2, x3, some (vi (w32 (a4 + 1)))] [] w Q := by
  rw [T_iinc_4 c174_50, T_goto 7 c174_53 rfl]
  all_goals try simp only [true_and, Nat.reduceAdd, eq_self_iff_true]
/-! 175: StringHandsModel.partOf.(I)I -/
theorem c175_0 : cd 175 0 = some (.sipush 1, 1) := by decide +kernel
theorem c175_1 : cd 175 1 = some (.iload 1, 1) := by decide +kernel
theorem c175_2 : cd 175 2 = some (.ishl, 1) := by decide +kernel
theorem c175_3 : cd 175 3 = some (.istore 2, 1) := by decide +kernel
theorem c175_4 : cd 175 4 = some (.sipush 0, 1) := by decide +kernel
theorem c175_5 : cd 175 5 = some (.istore 3, 1) := by decide +kernel
theorem c175_6 : cd 175 6 = some (.iload 3, 1) := by decide +kernel
theorem c175_7 : cd 175 7 = some (.aload 0, 1) := by decide +kernel
theorem c175_8 : cd 175 8 = some (.getfield 3078, 3) := by decide +kernel
theorem c175_11 : cd 175 11 = some (.sipush 2, 1) := by decide +kernel
theorem c175_12 : cd 175 12 = some (.iaload, 1) := by decide +kernel
theorem c175_13 : cd 175 13 = some (.if_icmp .ge 60, 3) := by decide +kernel
theorem c175_16 : cd 175 16 = some (.iload 2, 1) := by decide +kernel
theorem c175_17 : cd 175 17 = some (.aload 0, 1) := by decide +kernel
theorem c175_18 : cd 175 18 = some (.getfield 3170, 3) := by decide +kernel
theorem c175_21 : cd 175 21 = some (.iload 1, 1) := by decide +kernel
theorem c175_22 : cd 175 22 = some (.iaload, 1) := by decide +kernel
theorem c175_23 : cd 175 23 = some (.i2l, 1) := by decide +kernel
theorem c175_24 : cd 175 24 = some (.iload 3, 1) := by decide +kernel
theorem c175_25 : cd 175 25 = some (.invokestatic 230, 3) := by decide +kernel
theorem c175_28 : cd 175 28 = some (.ifCond .eq 51, 3) := by decide +kernel
theorem c175_31 : cd 175 31 = some (.aload 0, 1) := by decide +kernel
theorem c175_32 : cd 175 32 = some (.getfield 3170, 3) := by decide +kernel
theorem c175_35 : cd 175 35 = some (.iload 3, 1) := by decide +kernel
theorem c175_36 : cd 175 36 = some (.iaload, 1) := by decide +kernel
theorem c175_37 : cd 175 37 = some (.i2l, 1) := by decide +kernel
theorem c175_38 : cd 175 38 = some (.iload 1, 1) := by decide +kernel
theorem c175_39 : cd 175 39 = some (.invokestatic 230, 3) := by decide +kernel
theorem c175_42 : cd 175 42 = some (.ifCond .eq 51, 3) := by decide +kernel
theorem c175_45 : cd 175 45 = some (.sipush 1, 1) := by decide +kernel
theorem c175_46 : cd 175 46 = some (.iload 3, 1) := by decide +kernel
theorem c175_47 : cd 175 47 = some (.ishl, 1) := by decide +kernel
theorem c175_48 : cd 175 48 = some (.goto 52, 3) := by decide +kernel
theorem c175_51 : cd 175 51 = some (.sipush 0, 1) := by decide +kernel
theorem c175_52 : cd 175 52 = some (.ior, 1) := by decide +kernel
theorem c175_53 : cd 175 53 = some (.istore 2, 1) := by decide +kernel
theorem c175_54 : cd 175 54 = some (.iinc 3 1, 3) := by decide +kernel
theorem c175_57 : cd 175 57 = some (.goto 6, 3) := by decide +kernel
theorem c175_60 : cd 175 60 = some (.iload 2, 1) := by decide +kernel
theorem c175_61 : cd 175 61 = some (.ireturn, 1) := by decide +kernel
theorem g175_0 {d : Nat} {a1 : Int} {x0 x2 x3 : Option aV} {w : aW} {Q : Option aV → aW → Prop} : T d 175 0 [x0, some (vi a1), x2, x3] [] w Q = T d 175 6 [x0, some (vi a1), some (vi (jshl 1 a1)), some (vi 0)] [] w Q := by
  rw [T_sipush c175_0, T_iload_1 c175_1, T_ishl c175_2, T_istore_2 c175_3, T_sipush c175_4, T_istore_3 c175_5]
  all_goals try simp only [true_and, Nat.reduceAdd, eq_self_iff_true]
theorem g175_6 {d : Nat} {a1 a2 a3 : Int} {w : aW} {Q : Option aV → aW → Prop} : T (d + 1) 175 6 [some (vr 167), some (vi a1), some (vi a2), some (vi a3)] [] w Q = ((w 168 2 ≤ a3 → Q (some (vi a2)) w) ∧ (¬ (w 168 2 ≤ a3) → ((0 ≤ a1 ∧ a1 < 10) ∧ T d 230 0 [some (vl (w 179 a1)), none, some (vi a3)] [] w (fun r w1 => T (d + 1) 175 28 [some (vr 167), some (vi a1), some (vi a2), some (vi a3)] (r.toList ++ [vi a2]) w1 Q)))) := by
  rw [T_iload_3 c175_6, T_aload_0 c175_7, T_getR 12 1 1 c175_8 rfl rfl rfl rfl, rf_167_1, T_sipush c175_11, T_iald c175_12, T_icmp_ge 60 c175_13 rfl, T_iload_2 c175_60, T_ireti c175_61 (by decide +kernel), T_iload_2 c175_16, T_aload_0 c175_17, T_getR 12 24 24 c175_18 rfl rfl rfl rfl, rf_167_24, T_iload_1 c175_21, T_iald c175_22, T_i2l c175_23, T_iload_3 c175_24, T_inv (es := [some (vl (w 179 a1)), none, some (vi a3)]) (st := [vi a3, vl (w 179 a1), vi a2]) (ks := [1, 0]) (n := 3) (as := [vl (w 179 a1), vi a3]) (rest := [vi a2]) c175_25 (by decide +kernel) (by decide +kernel) rfl rfl (Nat.le_of_ble_eq_true rfl)]
  all_goals try simp only [Int.reduceLE, Int.reduceLT, Int.reduceToNat, and_self, lay_167, ld_168, ld_179, true_and, Nat.reduceAdd, eq_self_iff_true]
theorem g175_28 {d : Nat} {a1 a3 s0 s1 : Int} {x2 : Option aV} {w : aW} {Q : Option aV → aW → Prop} : T (d + 1) 175 28 [some (vr 167), some (vi a1), x2, some (vi a3)] [vi s1, vi s0] w Q = ((s1 = 0 → T (d + 1) 175 51 [some (vr 167), some (vi a1), x2, some (vi a3)] [vi s0] w Q) ∧ (¬ (s1 = 0) → ((0 ≤ a3 ∧ a3 < 10) ∧ T d 230 0 [some (vl (w 179 a3)), none, some (vi a1)] [] w (fun r w1 => T (d + 1) 175 42 [some (vr 167), some (vi a1), x2, some (vi a3)] (r.toList ++ [vi s0]) w1 Q)))) := by
  rw [T_if_eq 51 c175_28 rfl, T_aload_0 c175_31, T_getR 12 24 24 c175_32 rfl rfl rfl rfl, rf_167_24, T_iload_3 c175_35, T_iald c175_36, T_i2l c175_37, T_iload_1 c175_38, T_inv (es := [some (vl (w 179 a3)), none, some (vi a1)]) (st := [vi a1, vl (w 179 a3), vi s0]) (ks := [1, 0]) (n := 3) (as := [vl (w 179 a3), vi a1]) (rest := [vi s0]) c175_39 (by decide +kernel) (by decide +kernel) rfl rfl (Nat.le_of_ble_eq_true rfl)]
  all_goals try simp only [Int.reduceToNat, lay_167, ld_179, true_and, Nat.reduceAdd, eq_self_iff_true]
theorem g175_42 {d : Nat} {a3 s0 s1 : Int} {x0 x1 x2 : Option aV} {w : aW} {Q : Option aV → aW → Prop} : T d 175 42 [x0, x1, x2, some (vi a3)] [vi s1, vi s0] w Q = ((s1 = 0 → T d 175 51 [x0, x1, x2, some (vi a3)] [vi s0] w Q) ∧ (¬ (s1 = 0) → T d 175 52 [x0, x1, x2, some (vi a3)] [vi (jshl 1 a3), vi s0] w Q)) := by
  rw [T_if_eq 51 c175_42 rfl, T_sipush c175_45, T_iload_3 c175_46, T_ishl c175_47, T_goto 52 c175_48 rfl]
  all_goals try simp only [Int.reduceToNat, true_and, Nat.reduceAdd, eq_self_iff_true]
theorem g175_51 {d : Nat} {s0 : Int} {x0 x1 x2 x3 : Option aV} {w : aW} {Q : Option aV → aW → Prop} : T d 175 51 [x0, x1, x2, x3] [vi s0] w Q = T d 175 52 [x0, x1, x2, x3] [vi 0, vi s0] w Q := by
  rw [T_sipush c175_51]
  all_goals try simp only [true_and, Nat.reduceAdd, eq_self_iff_true]
theorem g175_52 {d : Nat} {a3 s0 s1 : Int} {x0 x1 x2 : Option aV} {w : aW} {Q : Option aV → aW → Prop} : T d 175 52 [x0, x1, x2, some (vi a3)] [vi s1, vi s0] w Q = T d 175 6 [x0, x1, some (vi (jor s0 s1)), some (vi (w32 (a3 + 1)))] [] w Q := by
  rw [T_ior c175_52, T_istore_2 c175_53, T_iinc_3 c175_54, T_goto 6 c175_57 rfl]
  all_goals try simp only [true_and, Nat.reduceAdd, eq_self_iff_true]
/-! 176: java/lang/Integer.numberOfTrailingZeros.(I)I -/
theorem c176_0 : cd 176 0 = some (.iload 0, 1) := by decide +kernel
theorem c176_1 : cd 176 1 = some (.sipush (-1), 1) := by decide +kernel
theorem c176_2 : cd 176 2 = some (.ixor, 1) := by decide +kernel
theorem c176_3 : cd 176 3 = some (.iload 0, 1) := by decide +kernel
theorem c176_4 : cd 176 4 = some (.sipush 1, 1) := by decide +kernel
theorem c176_5 : cd 176 5 = some (.isub, 1) := by decide +kernel
theorem c176_6 : cd 176 6 = some (.iand, 1) := by decide +kernel
theorem c176_7 : cd 176 7 = some (.istore 0, 1) := by decide +kernel
theorem c176_8 : cd 176 8 = some (.iload 0, 1) := by decide +kernel
theorem c176_9 : cd 176 9 = some (.ifCond .gt 17, 3) := by decide +kernel
theorem c176_12 : cd 176 12 = some (.iload 0, 1) := by decide +kernel
theorem c176_13 : cd 176 13 = some (.sipush 32, 2) := by decide +kernel
theorem c176_15 : cd 176 15 = some (.iand, 1) := by decide +kernel
theorem c176_16 : cd 176 16 = some (.ireturn, 1) := by decide +kernel
theorem c176_17 : cd 176 17 = some (.sipush 1, 1) := by decide +kernel
theorem c176_18 : cd 176 18 = some (.istore 1, 1) := by decide +kernel
theorem c176_19 : cd 176 19 = some (.iload 0, 1) := by decide +kernel
theorem c176_20 : cd 176 20 = some (.sipush 65536, 3) := by decide +kernel
theorem c176_23 : cd 176 23 = some (.if_icmp .le 34, 3) := by decide +kernel
theorem c176_26 : cd 176 26 = some (.iinc 1 16, 3) := by decide +kernel
theorem c176_29 : cd 176 29 = some (.iload 0, 1) := by decide +kernel
theorem c176_30 : cd 176 30 = some (.sipush 16, 2) := by decide +kernel
theorem c176_32 : cd 176 32 = some (.iushr, 1) := by decide +kernel
theorem c176_33 : cd 176 33 = some (.istore 0, 1) := by decide +kernel
theorem c176_34 : cd 176 34 = some (.iload 0, 1) := by decide +kernel
theorem c176_35 : cd 176 35 = some (.sipush 256, 3) := by decide +kernel
theorem c176_38 : cd 176 38 = some (.if_icmp .le 49, 3) := by decide +kernel
theorem c176_41 : cd 176 41 = some (.iinc 1 8, 3) := by decide +kernel
theorem c176_44 : cd 176 44 = some (.iload 0, 1) := by decide +kernel
theorem c176_45 : cd 176 45 = some (.sipush 8, 2) := by decide +kernel
theorem c176_47 : cd 176 47 = some (.iushr, 1) := by decide +kernel
theorem c176_48 : cd 176 48 = some (.istore 0, 1) := by decide +kernel
theorem c176_49 : cd 176 49 = some (.iload 0, 1) := by decide +kernel
theorem c176_50 : cd 176 50 = some (.sipush 16, 2) := by decide +kernel
theorem c176_52 : cd 176 52 = some (.if_icmp .le 62, 3) := by decide +kernel
theorem c176_55 : cd 176 55 = some (.iinc 1 4, 3) := by decide +kernel
theorem c176_58 : cd 176 58 = some (.iload 0, 1) := by decide +kernel
theorem c176_59 : cd 176 59 = some (.sipush 4, 1) := by decide +kernel
theorem c176_60 : cd 176 60 = some (.iushr, 1) := by decide +kernel
theorem c176_61 : cd 176 61 = some (.istore 0, 1) := by decide +kernel
theorem c176_62 : cd 176 62 = some (.iload 0, 1) := by decide +kernel
theorem c176_63 : cd 176 63 = some (.sipush 4, 1) := by decide +kernel
theorem c176_64 : cd 176 64 = some (.if_icmp .le 74, 3) := by decide +kernel
theorem c176_67 : cd 176 67 = some (.iinc 1 2, 3) := by decide +kernel
theorem c176_70 : cd 176 70 = some (.iload 0, 1) := by decide +kernel
theorem c176_71 : cd 176 71 = some (.sipush 2, 1) := by decide +kernel
theorem c176_72 : cd 176 72 = some (.iushr, 1) := by decide +kernel
theorem c176_73 : cd 176 73 = some (.istore 0, 1) := by decide +kernel
theorem c176_74 : cd 176 74 = some (.iload 1, 1) := by decide +kernel
theorem c176_75 : cd 176 75 = some (.iload 0, 1) := by decide +kernel
theorem c176_76 : cd 176 76 = some (.sipush 1, 1) := by decide +kernel
theorem c176_77 : cd 176 77 = some (.iushr, 1) := by decide +kernel
theorem c176_78 : cd 176 78 = some (.iadd, 1) := by decide +kernel
theorem c176_79 : cd 176 79 = some (.ireturn, 1) := by decide +kernel
theorem g176_0 {d : Nat} {a0 : Int} {x1 : Option aV} {w : aW} {Q : Option aV → aW → Prop} : T d 176 0 [some (vi a0), x1] [] w Q = ((0 < jand (jxor a0 (-1)) (w32 (a0 - 1)) → ((jand (jxor a0 (-1)) (w32 (a0 - 1)) ≤ 65536 → T d 176 34 [some (vi (jand (jxor a0 (-1)) (w32 (a0 - 1)))), some (vi 1)] [] w Q) ∧ (¬ (jand (jxor a0 (-1)) (w32 (a0 - 1)) ≤ 65536) → T d 176 34 [some (vi (jushr (jand (jxor a0 (-1)) (w32 (a0 - 1))) 16)), some (vi (w32 (1 + 16)))] [] w Q))) ∧ (¬ (0 < jand (jxor a0 (-1)) (w32 (a0 - 1))) → Q (some (vi (jand (jand (jxor a0 (-1)) (w32 (a0 - 1))) 32))) w)) := by
  rw [T_iload_0 c176_0, T_sipush c176_1, T_ixor c176_2, T_iload_0 c176_3, T_sipush c176_4, T_isub c176_5, T_iand c176_6, T_istore_0 c176_7, T_iload_0 c176_8, T_if_gt 17 c176_9 rfl, T_sipush c176_17, T_istore_1 c176_18, T_iload_0 c176_19, T_sipush c176_20, T_icmp_le 34 c176_23 rfl, T_iinc_1 c176_26, T_iload_0 c176_29, T_sipush c176_30, T_iushr c176_32, T_istore_0 c176_33, T_iload_0 c176_12, T_sipush c176_13, T_iand c176_15, T_ireti c176_16 (by decide +kernel)]
  all_goals try simp only [Int.reduceToNat, true_and, Nat.reduceAdd, eq_self_iff_true]
theorem g176_34 {d : Nat} {a0 a1 : Int} {w : aW} {Q : Option aV → aW → Prop} : T d 176 34 [some (vi a0), some (vi a1)] [] w Q = ((a0 ≤ 256 → T d 176 49 [some (vi a0), some (vi a1)] [] w Q) ∧ (¬ (a0 ≤ 256) → T d 176 49 [some (vi (jushr a0 8)), some (vi (w32 (a1 + 8)))] [] w Q)) := by
  rw [T_iload_0 c176_34, T_sipush c176_35, T_icmp_le 49 c176_38 rfl, T_iinc_1 c176_41, T_iload_0 c176_44, T_sipush c176_45, T_iushr c176_47, T_istore_0 c176_48]
  all_goals try simp only [Int.reduceToNat, true_and, Nat.reduceAdd, eq_self_iff_true]
theorem g176_49 {d : Nat} {a0 a1 : Int} {w : aW} {Q : Option aV → aW → Prop} : T d 176 49 [some (vi a0), some (vi a1)] [] w Q = ((a0 ≤ 16 → T d 176 62 [some (vi a0), some (vi a1)] [] w Q) ∧ (¬ (a0 ≤ 16) → T d 176 62 [some (vi (jushr a0 4)), some (vi (w32 (a1 + 4)))] [] w Q)) := by
  rw [T_iload_0 c176_49, T_sipush c176_50, T_icmp_le 62 c176_52 rfl, T_iinc_1 c176_55, T_iload_0 c176_58, T_sipush c176_59, T_iushr c176_60, T_istore_0 c176_61]
  all_goals try simp only [Int.reduceToNat, true_and, Nat.reduceAdd, eq_self_iff_true]
theorem g176_62 {d : Nat} {a0 a1 : Int} {w : aW} {Q : Option aV → aW → Prop} : T d 176 62 [some (vi a0), some (vi a1)] [] w Q = ((a0 ≤ 4 → T d 176 74 [some (vi a0), some (vi a1)] [] w Q) ∧ (¬ (a0 ≤ 4) → T d 176 74 [some (vi (jushr a0 2)), some (vi (w32 (a1 + 2)))] [] w Q)) := by
  rw [T_iload_0 c176_62, T_sipush c176_63, T_icmp_le 74 c176_64 rfl, T_iinc_1 c176_67, T_iload_0 c176_70, T_sipush c176_71, T_iushr c176_72, T_istore_0 c176_73]
  all_goals try simp only [Int.reduceToNat, true_and, Nat.reduceAdd, eq_self_iff_true]
theorem g176_74 {d : Nat} {a0 a1 : Int} {w : aW} {Q : Option aV → aW → Prop} : T d 176 74 [some (vi a0), some (vi a1)] [] w Q = Q (some (vi (w32 (a1 + (jushr a0 1))))) w := by
  rw [T_iload_1 c176_74, T_iload_0 c176_75, T_sipush c176_76, T_iushr c176_77, T_iadd c176_78, T_ireti c176_79 (by decide +kernel)]
  all_goals try simp only [true_and, Nat.reduceAdd, eq_self_iff_true]
/-! 177: StringHands$Web.fewestCuts.(LStringHands$Troupe;LStringHands$Stage;II)I -/
theorem c177_0 : cd 177 0 = some (.sipush (-1), 1) := by decide +kernel
theorem c177_1 : cd 177 1 = some (.istore 5, 2) := by decide +kernel
theorem c177_3 : cd 177 3 = some (.sipush 0, 1) := by decide +kernel
theorem c177_4 : cd 177 4 = some (.istore 6, 2) := by decide +kernel
theorem c177_6 : cd 177 6 = some (.iload 6, 2) := by decide +kernel
theorem c177_8 : cd 177 8 = some (.aload 1, 1) := by decide +kernel
theorem c177_9 : cd 177 9 = some (.invokevirtual 190, 3) := by decide +kernel
theorem c177_12 : cd 177 12 = some (.if_icmp .gt 79, 3) := by decide +kernel
theorem c177_15 : cd 177 15 = some (.iload 6, 2) := by decide +kernel
theorem c177_17 : cd 177 17 = some (.iload 3, 1) := by decide +kernel
theorem c177_18 : cd 177 18 = some (.invokestatic 117, 3) := by decide +kernel
theorem c177_21 : cd 177 21 = some (.sipush 1, 1) := by decide +kernel
theorem c177_22 : cd 177 22 = some (.if_icmp .ne 73, 3) := by decide +kernel
theorem c177_25 : cd 177 25 = some (.iload 6, 2) := by decide +kernel
theorem c177_27 : cd 177 27 = some (.iload 4, 2) := by decide +kernel
theorem c177_29 : cd 177 29 = some (.invokestatic 117, 3) := by decide +kernel
theorem c177_32 : cd 177 32 = some (.ifCond .ne 73, 3) := by decide +kernel
theorem c177_35 : cd 177 35 = some (.aload 1, 1) := by decide +kernel
theorem c177_36 : cd 177 36 = some (.iload 6, 2) := by decide +kernel
theorem c177_38 : cd 177 38 = some (.invokestatic 247, 3) := by decide +kernel
theorem c177_41 : cd 177 41 = some (.ifCond .ne 73, 3) := by decide +kernel
theorem c177_44 : cd 177 44 = some (.aload 1, 1) := by decide +kernel
theorem c177_45 : cd 177 45 = some (.aload 2, 1) := by decide +kernel
theorem c177_46 : cd 177 46 = some (.iload 6, 2) := by decide +kernel
theorem c177_48 : cd 177 48 = some (.invokestatic 248, 3) := by decide +kernel
theorem c177_51 : cd 177 51 = some (.istore 7, 2) := by decide +kernel
theorem c177_53 : cd 177 53 = some (.iload 5, 2) := by decide +kernel
theorem c177_55 : cd 177 55 = some (.sipush (-1), 1) := by decide +kernel
theorem c177_56 : cd 177 56 = some (.if_icmp .ne 64, 3) := by decide +kernel
theorem c177_59 : cd 177 59 = some (.iload 7, 2) := by decide +kernel
theorem c177_61 : cd 177 61 = some (.goto 71, 3) := by decide +kernel
theorem c177_64 : cd 177 64 = some (.iload 5, 2) := by decide +kernel
theorem c177_66 : cd 177 66 = some (.iload 7, 2) := by decide +kernel
theorem c177_68 : cd 177 68 = some (.invokedynamic 1, 3) := by decide +kernel
theorem c177_71 : cd 177 71 = some (.istore 5, 2) := by decide +kernel
theorem c177_73 : cd 177 73 = some (.iinc 6 1, 3) := by decide +kernel
theorem c177_76 : cd 177 76 = some (.goto 6, 3) := by decide +kernel
theorem c177_79 : cd 177 79 = some (.iload 5, 2) := by decide +kernel
theorem c177_81 : cd 177 81 = some (.ireturn, 1) := by decide +kernel
theorem g177_0 {d : Nat} {x0 x1 x2 x3 x4 x5 x6 x7 : Option aV} {w : aW} {Q : Option aV → aW → Prop} : T d 177 0 [x0, x1, x2, x3, x4, x5, x6, x7] [] w Q = T d 177 6 [x0, x1, x2, x3, x4, some (vi (-1)), some (vi 0), x7] [] w Q := by
  rw [T_sipush c177_0, T_istore_5 c177_1, T_sipush c177_3, T_istore_6 c177_4]
  all_goals try simp only [true_and, Nat.reduceAdd, eq_self_iff_true]
theorem g177_6 {d : Nat} {a6 : Int} {x0 x2 x3 x4 x5 x7 : Option aV} {w : aW} {Q : Option aV → aW → Prop} : T (d + 1) 177 6 [x0, some (vr 69), x2, x3, x4, x5, some (vi a6), x7] [] w Q = T d 190 0 [some (vr 69)] [] w (fun r w1 => T (d + 1) 177 12 [x0, some (vr 69), x2, x3, x4, x5, some (vi a6), x7] (r.toList ++ [vi a6]) w1 Q) := by
  rw [T_iload_6 c177_6, T_aload_1 c177_8, T_invv (es := [some (vr 69)]) (st := [vr 69, vi a6]) (ks := [2]) (n := 1) (c := 8) (k := 69) (as := []) (rest := [vi a6]) c177_9 (by decide +kernel) (by decide +kernel) (by decide +kernel) (by decide) rfl rfl (Nat.le_of_ble_eq_true rfl)]
  all_goals try simp only [lay_69, true_and, Nat.reduceAdd, eq_self_iff_true]
theorem g177_12 {d : Nat} {a3 a5 a6 s0 s1 : Int} {x0 x1 x2 x4 x7 : Option aV} {w : aW} {Q : Option aV → aW → Prop} : T (d + 1) 177 12 [x0, x1, x2, some (vi a3), x4, some (vi a5), some (vi a6), x7] [vi s1, vi s0] w Q = ((s1 < s0 → Q (some (vi a5)) w) ∧ (¬ (s1 < s0) → T d 117 0 [some (vi a6), some (vi a3)] [] w (fun r w1 => T (d + 1) 177 21 [x0, x1, x2, some (vi a3), x4, some (vi a5), some (vi a6), x7] (r.toList ++ []) w1 Q))) := by
  rw [T_icmp_gt 79 c177_12 rfl, T_iload_5 c177_79, T_ireti c177_81 (by decide +kernel), T_iload_6 c177_15, T_iload_3 c177_17, T_inv (es := [some (vi a6), some (vi a3)]) (st := [vi a3, vi a6]) (ks := [0, 0]) (n := 2) (as := [vi a6, vi a3]) (rest := []) c177_18 (by decide +kernel) (by decide +kernel) rfl rfl (Nat.le_of_ble_eq_true rfl)]
  all_goals try simp only [Int.reduceToNat, true_and, Nat.reduceAdd, eq_self_iff_true]
theorem g177_21 {d : Nat} {a4 a6 s0 : Int} {x0 x1 x2 x3 x5 x7 : Option aV} {w : aW} {Q : Option aV → aW → Prop} : T (d + 1) 177 21 [x0, x1, x2, x3, some (vi a4), x5, some (vi a6), x7] [vi s0] w Q = ((¬ s0 = 1 → T (d + 1) 177 73 [x0, x1, x2, x3, some (vi a4), x5, some (vi a6), x7] [] w Q) ∧ (¬ (¬ s0 = 1) → T d 117 0 [some (vi a6), some (vi a4)] [] w (fun r w1 => T (d + 1) 177 32 [x0, x1, x2, x3, some (vi a4), x5, some (vi a6), x7] (r.toList ++ []) w1 Q))) := by
  rw [T_sipush c177_21, T_icmp_ne 73 c177_22 rfl, T_iload_6 c177_25, T_iload_4 c177_27, T_inv (es := [some (vi a6), some (vi a4)]) (st := [vi a4, vi a6]) (ks := [0, 0]) (n := 2) (as := [vi a6, vi a4]) (rest := []) c177_29 (by decide +kernel) (by decide +kernel) rfl rfl (Nat.le_of_ble_eq_true rfl)]
  all_goals try simp only [Int.reduceToNat, true_and, Nat.reduceAdd, eq_self_iff_true]
theorem g177_32 {d : Nat} {a6 s0 : Int} {x0 x2 x3 x4 x5 x7 : Option aV} {w : aW} {Q : Option aV → aW → Prop} : T (d + 1) 177 32 [x0, some (vr 69), x2, x3, x4, x5, some (vi a6), x7] [vi s0] w Q = ((¬ s0 = 0 → T (d + 1) 177 73 [x0, some (vr 69), x2, x3, x4, x5, some (vi a6), x7] [] w Q) ∧ (¬ (¬ s0 = 0) → T d 247 0 [some (vr 69), some (vi a6), none] [] w (fun r w1 => T (d + 1) 177 41 [x0, some (vr 69), x2, x3, x4, x5, some (vi a6), x7] (r.toList ++ []) w1 Q))) := by
  rw [T_if_ne 73 c177_32 rfl, T_aload_1 c177_35, T_iload_6 c177_36, T_inv (es := [some (vr 69), some (vi a6), none]) (st := [vi a6, vr 69]) (ks := [2, 0]) (n := 3) (as := [vr 69, vi a6]) (rest := []) c177_38 (by decide +kernel) (by decide +kernel) rfl rfl (Nat.le_of_ble_eq_true rfl)]
  all_goals try simp only [Int.reduceToNat, true_and, Nat.reduceAdd, eq_self_iff_true]
theorem g177_41 {d : Nat} {a6 s0 : Int} {r2 : Nat} {x0 x3 x4 x5 x7 : Option aV} {w : aW} {Q : Option aV → aW → Prop} : T (d + 1) 177 41 [x0, some (vr 69), some (vr r2), x3, x4, x5, some (vi a6), x7] [vi s0] w Q = ((¬ s0 = 0 → T (d + 1) 177 73 [x0, some (vr 69), some (vr r2), x3, x4, x5, some (vi a6), x7] [] w Q) ∧ (¬ (¬ s0 = 0) → T d 248 0 [some (vr 69), some (vr r2), some (vi a6), none, none, none] [] w (fun r w1 => T (d + 1) 177 51 [x0, some (vr 69), some (vr r2), x3, x4, x5, some (vi a6), x7] (r.toList ++ []) w1 Q))) := by
  rw [T_if_ne 73 c177_41 rfl, T_aload_1 c177_44, T_aload_2 c177_45, T_iload_6 c177_46, T_inv (es := [some (vr 69), some (vr r2), some (vi a6), none, none, none]) (st := [vi a6, vr r2, vr 69]) (ks := [2, 2, 0]) (n := 6) (as := [vr 69, vr r2, vi a6]) (rest := []) c177_48 (by decide +kernel) (by decide +kernel) rfl rfl (Nat.le_of_ble_eq_true rfl)]
  all_goals try simp only [Int.reduceToNat, true_and, Nat.reduceAdd, eq_self_iff_true]
theorem g177_51 {d : Nat} {a5 s0 : Int} {x0 x1 x2 x3 x4 x6 x7 : Option aV} {w : aW} {Q : Option aV → aW → Prop} : T d 177 51 [x0, x1, x2, x3, x4, some (vi a5), x6, x7] [vi s0] w Q = ((¬ a5 = (-1) → T d 177 71 [x0, x1, x2, x3, x4, some (vi a5), x6, some (vi s0)] [vi (if s0 < a5 then s0 else a5)] w Q) ∧ (¬ (¬ a5 = (-1)) → T d 177 71 [x0, x1, x2, x3, x4, some (vi a5), x6, some (vi s0)] [vi s0] w Q)) := by
  rw [T_istore_7 c177_51, T_iload_5 c177_53, T_sipush c177_55, T_icmp_ne 64 c177_56 rfl, T_iload_5 c177_64, T_iload_7 c177_66, T_min (st := []) c177_68 (Nat.le_of_ble_eq_true rfl), T_iload_7 c177_59, T_goto 71 c177_61 rfl]
  all_goals try simp only [Int.reduceToNat, true_and, Nat.reduceAdd, eq_self_iff_true]
theorem g177_71 {d : Nat} {s0 : Int} {x0 x1 x2 x3 x4 x5 x6 x7 : Option aV} {w : aW} {Q : Option aV → aW → Prop} : T d 177 71 [x0, x1, x2, x3, x4, x5, x6, x7] [vi s0] w Q = T d 177 73 [x0, x1, x2, x3, x4, some (vi s0), x6, x7] [] w Q := by
  rw [T_istore_5 c177_71]
  all_goals try simp only [true_and, Nat.reduceAdd, eq_self_iff_true]
theorem g177_73 {d : Nat} {a6 : Int} {x0 x1 x2 x3 x4 x5 x7 : Option aV} {w : aW} {Q : Option aV → aW → Prop} : T d 177 73 [x0, x1, x2, x3, x4, x5, some (vi a6), x7] [] w Q = T d 177 6 [x0, x1, x2, x3, x4, x5, some (vi (w32 (a6 + 1))), x7] [] w Q := by
  rw [T_iinc_6 c177_73, T_goto 6 c177_76 rfl]
  all_goals try simp only [true_and, Nat.reduceAdd, eq_self_iff_true]
/-! 178: StringHandsModel.ruleHas.(II)Z -/
theorem c178_0 : cd 178 0 = some (.sipush 0, 1) := by decide +kernel
theorem c178_1 : cd 178 1 = some (.istore 3, 1) := by decide +kernel
theorem c178_2 : cd 178 2 = some (.iload 3, 1) := by decide +kernel
theorem c178_3 : cd 178 3 = some (.aload 0, 1) := by decide +kernel
theorem c178_4 : cd 178 4 = some (.getfield 3078, 3) := by decide +kernel
theorem c178_7 : cd 178 7 = some (.sipush 142, 3) := by decide +kernel
theorem c178_10 : cd 178 10 = some (.iload 1, 1) := by decide +kernel
theorem c178_11 : cd 178 11 = some (.iadd, 1) := by decide +kernel
theorem c178_12 : cd 178 12 = some (.iaload, 1) := by decide +kernel
theorem c178_13 : cd 178 13 = some (.if_icmp .ge 49, 3) := by decide +kernel
theorem c178_16 : cd 178 16 = some (.aload 0, 1) := by decide +kernel
theorem c178_17 : cd 178 17 = some (.getfield 3078, 3) := by decide +kernel
theorem c178_20 : cd 178 20 = some (.sipush 744, 3) := by decide +kernel
theorem c178_23 : cd 178 23 = some (.aload 0, 1) := by decide +kernel
theorem c178_24 : cd 178 24 = some (.getfield 3078, 3) := by decide +kernel
theorem c178_27 : cd 178 27 = some (.sipush 132, 3) := by decide +kernel
theorem c178_30 : cd 178 30 = some (.iload 1, 1) := by decide +kernel
theorem c178_31 : cd 178 31 = some (.iadd, 1) := by decide +kernel
theorem c178_32 : cd 178 32 = some (.iaload, 1) := by decide +kernel
theorem c178_33 : cd 178 33 = some (.iadd, 1) := by decide +kernel
theorem c178_34 : cd 178 34 = some (.iload 3, 1) := by decide +kernel
theorem c178_35 : cd 178 35 = some (.iadd, 1) := by decide +kernel
theorem c178_36 : cd 178 36 = some (.iaload, 1) := by decide +kernel
theorem c178_37 : cd 178 37 = some (.iload 2, 1) := by decide +kernel
theorem c178_38 : cd 178 38 = some (.if_icmp .ne 43, 3) := by decide +kernel
theorem c178_41 : cd 178 41 = some (.sipush 1, 1) := by decide +kernel
theorem c178_42 : cd 178 42 = some (.ireturn, 1) := by decide +kernel
theorem c178_43 : cd 178 43 = some (.iinc 3 1, 3) := by decide +kernel
theorem c178_46 : cd 178 46 = some (.goto 2, 3) := by decide +kernel
theorem c178_49 : cd 178 49 = some (.sipush 0, 1) := by decide +kernel
theorem c178_50 : cd 178 50 = some (.ireturn, 1) := by decide +kernel
theorem g178_0 {d : Nat} {x0 x1 x2 x3 : Option aV} {w : aW} {Q : Option aV → aW → Prop} : T d 178 0 [x0, x1, x2, x3] [] w Q = T d 178 2 [x0, x1, x2, some (vi 0)] [] w Q := by
  rw [T_sipush c178_0, T_istore_3 c178_1]
  all_goals try simp only [true_and, Nat.reduceAdd, eq_self_iff_true]
theorem g178_2 {d : Nat} {a1 a2 a3 : Int} {w : aW} {Q : Option aV → aW → Prop} : T d 178 2 [some (vr 167), some (vi a1), some (vi a2), some (vi a3)] [] w Q = ((0 ≤ w32 (142 + a1) ∧ w32 (142 + a1) < 4932) ∧ ((w 168 (w32 (142 + a1)) ≤ a3 → Q (some (vi 0)) w) ∧ (¬ (w 168 (w32 (142 + a1)) ≤ a3) → ((0 ≤ w32 (132 + a1) ∧ w32 (132 + a1) < 4932) ∧ ((0 ≤ w32 ((w32 (744 + (w 168 (w32 (132 + a1))))) + a3) ∧ w32 ((w32 (744 + (w 168 (w32 (132 + a1))))) + a3) < 4932) ∧ ((¬ w 168 (w32 ((w32 (744 + (w 168 (w32 (132 + a1))))) + a3)) = a2 → T d 178 2 [some (vr 167), some (vi a1), some (vi a2), some (vi (w32 (a3 + 1)))] [] w Q) ∧ (¬ (¬ w 168 (w32 ((w32 (744 + (w 168 (w32 (132 + a1))))) + a3)) = a2) → Q (some (vi 1)) w))))))) := by
  rw [T_iload_3 c178_2, T_aload_0 c178_3, T_getR 12 1 1 c178_4 rfl rfl rfl rfl, rf_167_1, T_sipush c178_7, T_iload_1 c178_10, T_iadd c178_11, T_iald c178_12, T_icmp_ge 49 c178_13 rfl, T_sipush c178_49, T_iretz c178_50 (by decide +kernel), T_aload_0 c178_16, T_getR 12 1 1 c178_17 rfl rfl rfl rfl, rf_167_1, T_sipush c178_20, T_aload_0 c178_23, T_getR 12 1 1 c178_24 rfl rfl rfl rfl, rf_167_1, T_sipush c178_27, T_iload_1 c178_30, T_iadd c178_31, T_iald c178_32, T_iadd c178_33, T_iload_3 c178_34, T_iadd c178_35, T_iald c178_36, T_iload_2 c178_37, T_icmp_ne 43 c178_38 rfl, T_iinc_3 c178_43, T_goto 2 c178_46 rfl, T_sipush c178_41, T_iretz c178_42 (by decide +kernel)]
  all_goals try simp only [Int.reduceToNat, lay_167, ld_168, true_and, Nat.reduceAdd, eq_self_iff_true, zero_eq_1, one_eq_0, true_or, or_true]
/-! 179: StringHandsModel.isPulled.(I)Z -/
theorem c179_0 : cd 179 0 = some (.aload 0, 1) := by decide +kernel
theorem c179_1 : cd 179 1 = some (.getfield 3078, 3) := by decide +kernel
theorem c179_4 : cd 179 4 = some (.sipush 142, 3) := by decide +kernel
theorem c179_7 : cd 179 7 = some (.iload 1, 1) := by decide +kernel
theorem c179_8 : cd 179 8 = some (.iadd, 1) := by decide +kernel
theorem c179_9 : cd 179 9 = some (.iaload, 1) := by decide +kernel
theorem c179_10 : cd 179 10 = some (.ifCond .eq 24, 3) := by decide +kernel
theorem c179_13 : cd 179 13 = some (.aload 0, 1) := by decide +kernel
theorem c179_14 : cd 179 14 = some (.iload 1, 1) := by decide +kernel
theorem c179_15 : cd 179 15 = some (.sipush 1101, 3) := by decide +kernel
theorem c179_18 : cd 179 18 = some (.invokevirtual 178, 3) := by decide +kernel
theorem c179_21 : cd 179 21 = some (.ifCond .eq 28, 3) := by decide +kernel
theorem c179_24 : cd 179 24 = some (.sipush 1, 1) := by decide +kernel
theorem c179_25 : cd 179 25 = some (.goto 29, 3) := by decide +kernel
theorem c179_28 : cd 179 28 = some (.sipush 0, 1) := by decide +kernel
theorem c179_29 : cd 179 29 = some (.ireturn, 1) := by decide +kernel
theorem g179_0 {d : Nat} {a1 : Int} {w : aW} {Q : Option aV → aW → Prop} : T (d + 1) 179 0 [some (vr 167), some (vi a1)] [] w Q = ((0 ≤ w32 (142 + a1) ∧ w32 (142 + a1) < 4932) ∧ ((w 168 (w32 (142 + a1)) = 0 → T (d + 1) 179 24 [some (vr 167), some (vi a1)] [] w Q) ∧ (¬ (w 168 (w32 (142 + a1)) = 0) → T d 178 0 [some (vr 167), some (vi a1), some (vi 1101), none] [] w (fun r w1 => T (d + 1) 179 21 [some (vr 167), some (vi a1)] (r.toList ++ []) w1 Q)))) := by
  rw [T_aload_0 c179_0, T_getR 12 1 1 c179_1 rfl rfl rfl rfl, rf_167_1, T_sipush c179_4, T_iload_1 c179_7, T_iadd c179_8, T_iald c179_9, T_if_eq 24 c179_10 rfl, T_aload_0 c179_13, T_iload_1 c179_14, T_sipush c179_15, T_invv (es := [some (vr 167), some (vi a1), some (vi 1101), none]) (st := [vi 1101, vi a1, vr 167]) (ks := [2, 0, 0]) (n := 4) (c := 12) (k := 167) (as := [vi a1, vi 1101]) (rest := []) c179_18 (by decide +kernel) (by decide +kernel) (by decide +kernel) (by decide) rfl rfl (Nat.le_of_ble_eq_true rfl)]
  all_goals try simp only [Int.reduceToNat, lay_167, ld_168, true_and, Nat.reduceAdd, eq_self_iff_true]
theorem g179_21 {d : Nat} {s0 : Int} {x0 x1 : Option aV} {w : aW} {Q : Option aV → aW → Prop} : T d 179 21 [x0, x1] [vi s0] w Q = ((s0 = 0 → T d 179 29 [x0, x1] [vi 0] w Q) ∧ (¬ (s0 = 0) → T d 179 24 [x0, x1] [] w Q)) := by
  rw [T_if_eq 28 c179_21 rfl, T_sipush c179_28]
  all_goals try simp only [Int.reduceToNat, true_and, Nat.reduceAdd, eq_self_iff_true]
theorem g179_24 {d : Nat} {x0 x1 : Option aV} {w : aW} {Q : Option aV → aW → Prop} : T d 179 24 [x0, x1] [] w Q = T d 179 29 [x0, x1] [vi 1] w Q := by
  rw [T_sipush c179_24, T_goto 29 c179_25 rfl]
  all_goals try simp only [true_and, Nat.reduceAdd, eq_self_iff_true]
theorem g179_29 {d : Nat} {s0 : Int} {x0 x1 : Option aV} {w : aW} {Q : Option aV → aW → Prop} : T d 179 29 [x0, x1] [vi s0] w Q = ((s0 = 0 ∨ s0 = 1) ∧ Q (some (vi s0)) w) := by
  rw [T_iretz c179_29 (by decide +kernel)]
  all_goals try simp only [true_and, Nat.reduceAdd, eq_self_iff_true]
/-! 180: StringHandsModel.flows.(II)Z -/
theorem c180_0 : cd 180 0 = some (.sipush 0, 1) := by decide +kernel
theorem c180_1 : cd 180 1 = some (.istore 3, 1) := by decide +kernel
theorem c180_2 : cd 180 2 = some (.iload 3, 1) := by decide +kernel
theorem c180_3 : cd 180 3 = some (.sipush 10, 2) := by decide +kernel
theorem c180_5 : cd 180 5 = some (.if_icmp .ge 21, 3) := by decide +kernel
theorem c180_8 : cd 180 8 = some (.aload 0, 1) := by decide +kernel
theorem c180_9 : cd 180 9 = some (.getfield 3178, 3) := by decide +kernel
theorem c180_12 : cd 180 12 = some (.iload 3, 1) := by decide +kernel
theorem c180_13 : cd 180 13 = some (.sipush (-1), 1) := by decide +kernel
theorem c180_14 : cd 180 14 = some (.iastore, 1) := by decide +kernel
theorem c180_15 : cd 180 15 = some (.iinc 3 1, 3) := by decide +kernel
theorem c180_18 : cd 180 18 = some (.goto 2, 3) := by decide +kernel
theorem c180_21 : cd 180 21 = some (.aload 0, 1) := by decide +kernel
theorem c180_22 : cd 180 22 = some (.getfield 3178, 3) := by decide +kernel
theorem c180_25 : cd 180 25 = some (.iload 1, 1) := by decide +kernel
theorem c180_26 : cd 180 26 = some (.iload 1, 1) := by decide +kernel
theorem c180_27 : cd 180 27 = some (.iastore, 1) := by decide +kernel
theorem c180_28 : cd 180 28 = some (.sipush 0, 1) := by decide +kernel
theorem c180_29 : cd 180 29 = some (.istore 3, 1) := by decide +kernel
theorem c180_30 : cd 180 30 = some (.iload 3, 1) := by decide +kernel
theorem c180_31 : cd 180 31 = some (.aload 0, 1) := by decide +kernel
theorem c180_32 : cd 180 32 = some (.getfield 3078, 3) := by decide +kernel
theorem c180_35 : cd 180 35 = some (.sipush 2, 1) := by decide +kernel
theorem c180_36 : cd 180 36 = some (.iaload, 1) := by decide +kernel
theorem c180_37 : cd 180 37 = some (.if_icmp .ge 133, 3) := by decide +kernel
theorem c180_40 : cd 180 40 = some (.sipush 0, 1) := by decide +kernel
theorem c180_41 : cd 180 41 = some (.istore 4, 2) := by decide +kernel
theorem c180_43 : cd 180 43 = some (.iload 4, 2) := by decide +kernel
theorem c180_45 : cd 180 45 = some (.aload 0, 1) := by decide +kernel
theorem c180_46 : cd 180 46 = some (.getfield 3078, 3) := by decide +kernel
theorem c180_49 : cd 180 49 = some (.sipush 2, 1) := by decide +kernel
theorem c180_50 : cd 180 50 = some (.iaload, 1) := by decide +kernel
theorem c180_51 : cd 180 51 = some (.if_icmp .ge 127, 3) := by decide +kernel
theorem c180_54 : cd 180 54 = some (.sipush 0, 1) := by decide +kernel
theorem c180_55 : cd 180 55 = some (.istore 5, 2) := by decide +kernel
theorem c180_57 : cd 180 57 = some (.iload 5, 2) := by decide +kernel
theorem c180_59 : cd 180 59 = some (.aload 0, 1) := by decide +kernel
theorem c180_60 : cd 180 60 = some (.getfield 3078, 3) := by decide +kernel
theorem c180_63 : cd 180 63 = some (.sipush 2, 1) := by decide +kernel
theorem c180_64 : cd 180 64 = some (.iaload, 1) := by decide +kernel
theorem c180_65 : cd 180 65 = some (.if_icmp .ge 121, 3) := by decide +kernel
theorem c180_68 : cd 180 68 = some (.aload 0, 1) := by decide +kernel
theorem c180_69 : cd 180 69 = some (.getfield 3178, 3) := by decide +kernel
theorem c180_72 : cd 180 72 = some (.iload 4, 2) := by decide +kernel
theorem c180_74 : cd 180 74 = some (.iaload, 1) := by decide +kernel
theorem c180_75 : cd 180 75 = some (.sipush (-1), 1) := by decide +kernel
theorem c180_76 : cd 180 76 = some (.if_icmp .eq 115, 3) := by decide +kernel
theorem c180_79 : cd 180 79 = some (.aload 0, 1) := by decide +kernel
theorem c180_80 : cd 180 80 = some (.getfield 3178, 3) := by decide +kernel
theorem c180_83 : cd 180 83 = some (.iload 5, 2) := by decide +kernel
theorem c180_85 : cd 180 85 = some (.iaload, 1) := by decide +kernel
theorem c180_86 : cd 180 86 = some (.sipush (-1), 1) := by decide +kernel
theorem c180_87 : cd 180 87 = some (.if_icmp .ne 115, 3) := by decide +kernel
theorem c180_90 : cd 180 90 = some (.aload 0, 1) := by decide +kernel
theorem c180_91 : cd 180 91 = some (.getfield 3174, 3) := by decide +kernel
theorem c180_94 : cd 180 94 = some (.sipush 10, 2) := by decide +kernel
theorem c180_96 : cd 180 96 = some (.iload 4, 2) := by decide +kernel
theorem c180_98 : cd 180 98 = some (.imul, 1) := by decide +kernel
theorem c180_99 : cd 180 99 = some (.iload 5, 2) := by decide +kernel
theorem c180_101 : cd 180 101 = some (.iadd, 1) := by decide +kernel
theorem c180_102 : cd 180 102 = some (.iaload, 1) := by decide +kernel
theorem c180_103 : cd 180 103 = some (.ifCond .le 115, 3) := by decide +kernel
theorem c180_106 : cd 180 106 = some (.aload 0, 1) := by decide +kernel
theorem c180_107 : cd 180 107 = some (.getfield 3178, 3) := by decide +kernel
theorem c180_110 : cd 180 110 = some (.iload 5, 2) := by decide +kernel
theorem c180_112 : cd 180 112 = some (.iload 4, 2) := by decide +kernel
theorem c180_114 : cd 180 114 = some (.iastore, 1) := by decide +kernel
theorem c180_115 : cd 180 115 = some (.iinc 5 1, 3) := by decide +kernel
theorem c180_118 : cd 180 118 = some (.goto 57, 3) := by decide +kernel
theorem c180_121 : cd 180 121 = some (.iinc 4 1, 3) := by decide +kernel
theorem c180_124 : cd 180 124 = some (.goto 43, 3) := by decide +kernel
theorem c180_127 : cd 180 127 = some (.iinc 3 1, 3) := by decide +kernel
theorem c180_130 : cd 180 130 = some (.goto 30, 3) := by decide +kernel
theorem c180_133 : cd 180 133 = some (.aload 0, 1) := by decide +kernel
theorem c180_134 : cd 180 134 = some (.getfield 3178, 3) := by decide +kernel
theorem c180_137 : cd 180 137 = some (.iload 2, 1) := by decide +kernel
theorem c180_138 : cd 180 138 = some (.iaload, 1) := by decide +kernel
theorem c180_139 : cd 180 139 = some (.sipush (-1), 1) := by decide +kernel
theorem c180_140 : cd 180 140 = some (.if_icmp .eq 147, 3) := by decide +kernel
theorem c180_143 : cd 180 143 = some (.sipush 1, 1) := by decide +kernel
theorem c180_144 : cd 180 144 = some (.goto 148, 3) := by decide +kernel
theorem c180_147 : cd 180 147 = some (.sipush 0, 1) := by decide +kernel
theorem c180_148 : cd 180 148 = some (.ireturn, 1) := by decide +kernel
theorem g180_0 {d : Nat} {x0 x1 x2 x3 x4 x5 : Option aV} {w : aW} {Q : Option aV → aW → Prop} : T d 180 0 [x0, x1, x2, x3, x4, x5] [] w Q = T d 180 2 [x0, x1, x2, some (vi 0), x4, x5] [] w Q := by
  rw [T_sipush c180_0, T_istore_3 c180_1]
  all_goals try simp only [true_and, Nat.reduceAdd, eq_self_iff_true]
theorem g180_2 {d : Nat} {a1 a3 : Int} {x2 x4 x5 : Option aV} {w : aW} {Q : Option aV → aW → Prop} : T d 180 2 [some (vr 167), some (vi a1), x2, some (vi a3), x4, x5] [] w Q = ((10 ≤ a3 → ((0 ≤ a1 ∧ a1 < 10) ∧ T d 180 30 [some (vr 167), some (vi a1), x2, some (vi 0), x4, x5] [] (iup w 181 a1 a1) Q)) ∧ (¬ (10 ≤ a3) → ((0 ≤ a3 ∧ a3 < 10) ∧ T d 180 2 [some (vr 167), some (vi a1), x2, some (vi (w32 (a3 + 1))), x4, x5] [] (iup w 181 a3 (-1)) Q))) := by
  rw [T_iload_3 c180_2, T_sipush c180_3, T_icmp_ge 21 c180_5 rfl, T_aload_0 c180_21, T_getR 12 26 26 c180_22 rfl rfl rfl rfl, rf_167_26, T_iload_1 c180_25, T_iload_1 c180_26, T_iast c180_27, T_sipush c180_28, T_istore_3 c180_29, T_aload_0 c180_8, T_getR 12 26 26 c180_9 rfl rfl rfl rfl, rf_167_26, T_iload_3 c180_12, T_sipush c180_13, T_iast c180_14, T_iinc_3 c180_15, T_goto 2 c180_18 rfl]
  all_goals try simp only [Int.reduceToNat, ia0_181, lay_167, true_and, Nat.reduceAdd, eq_self_iff_true]
theorem g180_30 {d : Nat} {a2 a3 : Int} {x1 x4 x5 : Option aV} {w : aW} {Q : Option aV → aW → Prop} : T d 180 30 [some (vr 167), x1, some (vi a2), some (vi a3), x4, x5] [] w Q = ((w 168 2 ≤ a3 → ((0 ≤ a2 ∧ a2 < 10) ∧ ((w 181 a2 = (-1) → T d 180 148 [some (vr 167), x1, some (vi a2), some (vi a3), x4, x5] [vi 0] w Q) ∧ (¬ (w 181 a2 = (-1)) → T d 180 148 [some (vr 167), x1, some (vi a2), some (vi a3), x4, x5] [vi 1] w Q)))) ∧ (¬ (w 168 2 ≤ a3) → T d 180 43 [some (vr 167), x1, some (vi a2), some (vi a3), some (vi 0), x5] [] w Q)) := by
  rw [T_iload_3 c180_30, T_aload_0 c180_31, T_getR 12 1 1 c180_32 rfl rfl rfl rfl, rf_167_1, T_sipush c180_35, T_iald c180_36, T_icmp_ge 133 c180_37 rfl, T_aload_0 c180_133, T_getR 12 26 26 c180_134 rfl rfl rfl rfl, rf_167_26, T_iload_2 c180_137, T_iald c180_138, T_sipush c180_139, T_icmp_eq 147 c180_140 rfl, T_sipush c180_147, T_sipush c180_143, T_goto 148 c180_144 rfl, T_sipush c180_40, T_istore_4 c180_41]
  all_goals try simp only [Int.reduceLE, Int.reduceLT, Int.reduceToNat, and_self, lay_167, ld_168, ld_181, true_and, Nat.reduceAdd, eq_self_iff_true]
theorem g180_43 {d : Nat} {a3 a4 : Int} {x1 x2 x5 : Option aV} {w : aW} {Q : Option aV → aW → Prop} : T d 180 43 [some (vr 167), x1, x2, some (vi a3), some (vi a4), x5] [] w Q = ((w 168 2 ≤ a4 → T d 180 30 [some (vr 167), x1, x2, some (vi (w32 (a3 + 1))), some (vi a4), x5] [] w Q) ∧ (¬ (w 168 2 ≤ a4) → T d 180 57 [some (vr 167), x1, x2, some (vi a3), some (vi a4), some (vi 0)] [] w Q)) := by
  rw [T_iload_4 c180_43, T_aload_0 c180_45, T_getR 12 1 1 c180_46 rfl rfl rfl rfl, rf_167_1, T_sipush c180_49, T_iald c180_50, T_icmp_ge 127 c180_51 rfl, T_iinc_3 c180_127, T_goto 30 c180_130 rfl, T_sipush c180_54, T_istore_5 c180_55]
  all_goals try simp only [Int.reduceLE, Int.reduceLT, Int.reduceToNat, and_self, lay_167, ld_168, true_and, Nat.reduceAdd, eq_self_iff_true]
theorem g180_57 {d : Nat} {a4 a5 : Int} {x1 x2 x3 : Option aV} {w : aW} {Q : Option aV → aW → Prop} : T d 180 57 [some (vr 167), x1, x2, x3, some (vi a4), some (vi a5)] [] w Q = ((w 168 2 ≤ a5 → T d 180 43 [some (vr 167), x1, x2, x3, some (vi (w32 (a4 + 1))), some (vi a5)] [] w Q) ∧ (¬ (w 168 2 ≤ a5) → ((0 ≤ a4 ∧ a4 < 10) ∧ ((w 181 a4 = (-1) → T d 180 115 [some (vr 167), x1, x2, x3, some (vi a4), some (vi a5)] [] w Q) ∧ (¬ (w 181 a4 = (-1)) → ((0 ≤ a5 ∧ a5 < 10) ∧ ((¬ w 181 a5 = (-1) → T d 180 115 [some (vr 167), x1, x2, x3, some (vi a4), some (vi a5)] [] w Q) ∧ (¬ (¬ w 181 a5 = (-1)) → ((0 ≤ w32 ((w32 (10 * a4)) + a5) ∧ w32 ((w32 (10 * a4)) + a5) < 100) ∧ ((w 180 (w32 ((w32 (10 * a4)) + a5)) ≤ 0 → T d 180 115 [some (vr 167), x1, x2, x3, some (vi a4), some (vi a5)] [] w Q) ∧ (¬ (w 180 (w32 ((w32 (10 * a4)) + a5)) ≤ 0) → ((0 ≤ a5 ∧ a5 < 10) ∧ T d 180 115 [some (vr 167), x1, x2, x3, some (vi a4), some (vi a5)] [] (iup w 181 a5 a4) Q)))))))))))) := by
  rw [T_iload_5 c180_57, T_aload_0 c180_59, T_getR 12 1 1 c180_60 rfl rfl rfl rfl, rf_167_1, T_sipush c180_63, T_iald c180_64, T_icmp_ge 121 c180_65 rfl, T_iinc_4 c180_121, T_goto 43 c180_124 rfl, T_aload_0 c180_68, T_getR 12 26 26 c180_69 rfl rfl rfl rfl, rf_167_26, T_iload_4 c180_72, T_iald c180_74, T_sipush c180_75, T_icmp_eq 115 c180_76 rfl, T_aload_0 c180_79, T_getR 12 26 26 c180_80 rfl rfl rfl rfl, rf_167_26, T_iload_5 c180_83, T_iald c180_85, T_sipush c180_86, T_icmp_ne 115 c180_87 rfl, T_aload_0 c180_90, T_getR 12 25 25 c180_91 rfl rfl rfl rfl, rf_167_25, T_sipush c180_94, T_iload_4 c180_96, T_imul c180_98, T_iload_5 c180_99, T_iadd c180_101, T_iald c180_102, T_if_le 115 c180_103 rfl, T_aload_0 c180_106, T_getR 12 26 26 c180_107 rfl rfl rfl rfl, rf_167_26, T_iload_5 c180_110, T_iload_4 c180_112, T_iast c180_114]
  all_goals try simp only [Int.reduceLE, Int.reduceLT, Int.reduceToNat, and_self, ia0_181, lay_167, ld_168, ld_180, ld_181, true_and, Nat.reduceAdd, eq_self_iff_true]
theorem g180_115 {d : Nat} {a5 : Int} {x0 x1 x2 x3 x4 : Option aV} {w : aW} {Q : Option aV → aW → Prop} : T d 180 115 [x0, x1, x2, x3, x4, some (vi a5)] [] w Q = T d 180 57 [x0, x1, x2, x3, x4, some (vi (w32 (a5 + 1)))] [] w Q := by
  rw [T_iinc_5 c180_115, T_goto 57 c180_118 rfl]
  all_goals try simp only [true_and, Nat.reduceAdd, eq_self_iff_true]
theorem g180_148 {d : Nat} {s0 : Int} {x0 x1 x2 x3 x4 x5 : Option aV} {w : aW} {Q : Option aV → aW → Prop} : T d 180 148 [x0, x1, x2, x3, x4, x5] [vi s0] w Q = ((s0 = 0 ∨ s0 = 1) ∧ Q (some (vi s0)) w) := by
  rw [T_iretz c180_148 (by decide +kernel)]
  all_goals try simp only [true_and, Nat.reduceAdd, eq_self_iff_true]
/-! 181: StringHands.readScript.(I)I -/
theorem c181_0 : cd 181 0 = some (.iload 1, 1) := by decide +kernel
theorem c181_1 : cd 181 1 = some (.invokestatic 147, 3) := by decide +kernel
theorem c181_4 : cd 181 4 = some (.ifCond .ne 10, 3) := by decide +kernel
theorem c181_7 : cd 181 7 = some (.sipush (-2), 2) := by decide +kernel
theorem c181_9 : cd 181 9 = some (.ireturn, 1) := by decide +kernel
theorem c181_10 : cd 181 10 = some (.aload 0, 1) := by decide +kernel
theorem c181_11 : cd 181 11 = some (.getfield 2870, 3) := by decide +kernel
theorem c181_14 : cd 181 14 = some (.iload 1, 1) := by decide +kernel
theorem c181_15 : cd 181 15 = some (.aaload, 1) := by decide +kernel
theorem c181_16 : cd 181 16 = some (.astore 2, 1) := by decide +kernel
theorem c181_17 : cd 181 17 = some (.aload 2, 1) := by decide +kernel
theorem c181_18 : cd 181 18 = some (.invokevirtual 148, 3) := by decide +kernel
theorem c181_21 : cd 181 21 = some (.ifCond .eq 27, 3) := by decide +kernel
theorem c181_24 : cd 181 24 = some (.sipush (-6), 2) := by decide +kernel
theorem c181_26 : cd 181 26 = some (.ireturn, 1) := by decide +kernel
theorem c181_27 : cd 181 27 = some (.aload 2, 1) := by decide +kernel
theorem c181_28 : cd 181 28 = some (.getfield 768, 3) := by decide +kernel
theorem c181_31 : cd 181 31 = some (.sipush 1, 1) := by decide +kernel
theorem c181_32 : cd 181 32 = some (.if_icmp .lt 44, 3) := by decide +kernel
theorem c181_35 : cd 181 35 = some (.aload 2, 1) := by decide +kernel
theorem c181_36 : cd 181 36 = some (.getfield 768, 3) := by decide +kernel
theorem c181_39 : cd 181 39 = some (.sipush 12, 2) := by decide +kernel
theorem c181_41 : cd 181 41 = some (.if_icmp .le 47, 3) := by decide +kernel
theorem c181_44 : cd 181 44 = some (.sipush (-4), 2) := by decide +kernel
theorem c181_46 : cd 181 46 = some (.ireturn, 1) := by decide +kernel
theorem c181_47 : cd 181 47 = some (.aload 0, 1) := by decide +kernel
theorem c181_48 : cd 181 48 = some (.getfield 2842, 3) := by decide +kernel
theorem c181_51 : cd 181 51 = some (.invokevirtual 189, 3) := by decide +kernel
theorem c181_54 : cd 181 54 = some (.sipush 0, 1) := by decide +kernel
theorem c181_55 : cd 181 55 = some (.istore 3, 1) := by decide +kernel
theorem c181_56 : cd 181 56 = some (.iload 3, 1) := by decide +kernel
theorem c181_57 : cd 181 57 = some (.aload 2, 1) := by decide +kernel
theorem c181_58 : cd 181 58 = some (.getfield 768, 3) := by decide +kernel
theorem c181_61 : cd 181 61 = some (.if_icmp .ge 96, 3) := by decide +kernel
theorem c181_64 : cd 181 64 = some (.aload 0, 1) := by decide +kernel
theorem c181_65 : cd 181 65 = some (.getfield 2842, 3) := by decide +kernel
theorem c181_68 : cd 181 68 = some (.aload 2, 1) := by decide +kernel
theorem c181_69 : cd 181 69 = some (.getfield 774, 3) := by decide +kernel
theorem c181_72 : cd 181 72 = some (.iload 3, 1) := by decide +kernel
theorem c181_73 : cd 181 73 = some (.laload, 1) := by decide +kernel
theorem c181_74 : cd 181 74 = some (.aload 0, 1) := by decide +kernel
theorem c181_75 : cd 181 75 = some (.getfield 2850, 3) := by decide +kernel
theorem c181_78 : cd 181 78 = some (.invokevirtual 190, 3) := by decide +kernel
theorem c181_81 : cd 181 81 = some (.invokevirtual 191, 3) := by decide +kernel
theorem c181_84 : cd 181 84 = some (.ifCond .ne 90, 3) := by decide +kernel
theorem c181_87 : cd 181 87 = some (.sipush (-3), 2) := by decide +kernel
theorem c181_89 : cd 181 89 = some (.ireturn, 1) := by decide +kernel
theorem c181_90 : cd 181 90 = some (.iinc 3 1, 3) := by decide +kernel
theorem c181_93 : cd 181 93 = some (.goto 56, 3) := by decide +kernel
theorem c181_96 : cd 181 96 = some (.sipush 0, 1) := by decide +kernel
theorem c181_97 : cd 181 97 = some (.ireturn, 1) := by decide +kernel
theorem g181_0 {d : Nat} {a1 : Int} {x0 x2 x3 : Option aV} {w : aW} {Q : Option aV → aW → Prop} : T (d + 1) 181 0 [x0, some (vi a1), x2, x3] [] w Q = T d 147 0 [some (vi a1)] [] w (fun r w1 => T (d + 1) 181 4 [x0, some (vi a1), x2, x3] (r.toList ++ []) w1 Q) := by
  rw [T_iload_1 c181_0, T_inv (es := [some (vi a1)]) (st := [vi a1]) (ks := [0]) (n := 1) (as := [vi a1]) (rest := []) c181_1 (by decide +kernel) (by decide +kernel) rfl rfl (Nat.le_of_ble_eq_true rfl)]
  all_goals try simp only [true_and, Nat.reduceAdd, eq_self_iff_true]
theorem g181_4 {d : Nat} {a1 s0 : Int} {x2 x3 : Option aV} {w : aW} {Q : Option aV → aW → Prop} : T (d + 1) 181 4 [some (vr 0), some (vi a1), x2, x3] [vi s0] w Q = ((¬ s0 = 0 → ((isRA 88 a1 = true ∧ (88 = 87 → (w 87 a1).toNat < 191)) ∧ (lay (rAt w 88 a1) = (3, 0) ∧ T d 148 0 [some (vr (rAt w 88 a1))] [] w (fun r w1 => T (d + 1) 181 21 [some (vr 0), some (vi a1), some (vr (rAt w 88 a1)), x3] (r.toList ++ []) w1 Q)))) ∧ (¬ (¬ s0 = 0) → Q (some (vi (-2))) w)) := by
  rw [T_if_ne 10 c181_4 rfl, T_aload_0 c181_10, T_getR 11 13 13 c181_11 rfl rfl rfl rfl, rf_0_13, T_iload_1 c181_14, T_aald c181_15, T_astore_2 c181_16, T_aload_2 c181_17, T_invv (es := [some (vr (rAt w 88 a1))]) (st := [vr (rAt w 88 a1)]) (ks := [2]) (n := 1) (c := 3) (k := (rAt w 88 a1)) (as := []) (rest := []) c181_18 (by decide +kernel) (by decide +kernel) (by decide +kernel) (by decide) rfl rfl (Nat.le_of_ble_eq_true rfl), T_sipush c181_7, T_ireti c181_9 (by decide +kernel)]
  all_goals try simp only [Int.reduceToNat, lay_0, true_and, Nat.reduceAdd, eq_self_iff_true]
theorem g181_21 {d : Nat} {s0 : Int} {r2 : Nat} {x1 x3 : Option aV} {w : aW} {Q : Option aV → aW → Prop} : T (d + 1) 181 21 [some (vr 0), x1, some (vr r2), x3] [vi s0] w Q = ((s0 = 0 → (lay r2 = (3, 0) ∧ ((w r2 0 < 1 → T (d + 1) 181 44 [some (vr 0), x1, some (vr r2), x3] [] w Q) ∧ (¬ (w r2 0 < 1) → (lay r2 = (3, 0) ∧ ((w r2 0 ≤ 12 → T d 189 0 [some (vr 57)] [] w (fun r w1 => T (d + 1) 181 54 [some (vr 0), x1, some (vr r2), x3] (r.toList ++ []) w1 Q)) ∧ (¬ (w r2 0 ≤ 12) → T (d + 1) 181 44 [some (vr 0), x1, some (vr r2), x3] [] w Q))))))) ∧ (¬ (s0 = 0) → Q (some (vi (-6))) w)) := by
  rw [T_if_eq 27 c181_21 rfl, T_aload_2 c181_27, T_getI 3 0 0 c181_28 rfl rfl rfl rfl, T_sipush c181_31, T_icmp_lt 44 c181_32 rfl, T_aload_2 c181_35, T_getI 3 0 0 c181_36 rfl rfl rfl rfl, T_sipush c181_39, T_icmp_le 47 c181_41 rfl, T_aload_0 c181_47, T_getR 11 6 6 c181_48 rfl rfl rfl rfl, rf_0_6, T_invv (es := [some (vr 57)]) (st := [vr 57]) (ks := [2]) (n := 1) (c := 5) (k := 57) (as := []) (rest := []) c181_51 (by decide +kernel) (by decide +kernel) (by decide +kernel) (by decide) rfl rfl (Nat.le_of_ble_eq_true rfl), T_sipush c181_24, T_ireti c181_26 (by decide +kernel)]
  all_goals try simp only [Int.reduceToNat, lay_0, lay_57, true_and, Nat.reduceAdd, eq_self_iff_true]
theorem g181_44 {d : Nat} {x0 x1 x2 x3 : Option aV} {w : aW} {Q : Option aV → aW → Prop} : T d 181 44 [x0, x1, x2, x3] [] w Q = Q (some (vi (-4))) w := by
  rw [T_sipush c181_44, T_ireti c181_46 (by decide +kernel)]
  all_goals try simp only [true_and, Nat.reduceAdd, eq_self_iff_true]
theorem g181_54 {d : Nat} {x0 x1 x2 x3 : Option aV} {w : aW} {Q : Option aV → aW → Prop} : T d 181 54 [x0, x1, x2, x3] [] w Q = T d 181 56 [x0, x1, x2, some (vi 0)] [] w Q := by
  rw [T_sipush c181_54, T_istore_3 c181_55]
  all_goals try simp only [true_and, Nat.reduceAdd, eq_self_iff_true]
theorem g181_56 {d : Nat} {a3 : Int} {r2 : Nat} {x1 : Option aV} {w : aW} {Q : Option aV → aW → Prop} : T (d + 1) 181 56 [some (vr 0), x1, some (vr r2), some (vi a3)] [] w Q = (lay r2 = (3, 0) ∧ ((w r2 0 ≤ a3 → Q (some (vi 0)) w) ∧ (¬ (w r2 0 ≤ a3) → (lay r2 = (3, 0) ∧ (inA (rfA r2 1) 1 a3 = true ∧ T d 190 0 [some (vr 69)] [] w (fun r w1 => T (d + 1) 181 81 [some (vr 0), x1, some (vr r2), some (vi a3)] (r.toList ++ [vl (w (rfA r2 1) a3), vr 57]) w1 Q)))))) := by
  rw [T_iload_3 c181_56, T_aload_2 c181_57, T_getI 3 0 0 c181_58 rfl rfl rfl rfl, T_icmp_ge 96 c181_61 rfl, T_sipush c181_96, T_ireti c181_97 (by decide +kernel), T_aload_0 c181_64, T_getR 11 6 6 c181_65 rfl rfl rfl rfl, rf_0_6, T_aload_2 c181_68, T_getR 3 1 1 c181_69 rfl rfl rfl rfl, T_iload_3 c181_72, T_lald c181_73, T_aload_0 c181_74, T_getR 11 8 8 c181_75 rfl rfl rfl rfl, rf_0_8, T_invv (es := [some (vr 69)]) (st := [vr 69, vl (w (rfA r2 1) a3), vr 57]) (ks := [2]) (n := 1) (c := 8) (k := 69) (as := []) (rest := [vl (w (rfA r2 1) a3), vr 57]) c181_78 (by decide +kernel) (by decide +kernel) (by decide +kernel) (by decide) rfl rfl (Nat.le_of_ble_eq_true rfl)]
  all_goals try simp only [Int.reduceToNat, lay_0, lay_69, true_and, Nat.reduceAdd, eq_self_iff_true]
theorem g181_81 {d : Nat} {s1 s2 : Int} {s0 : Nat} {x0 x1 x2 x3 : Option aV} {w : aW} {Q : Option aV → aW → Prop} : T (d + 1) 181 81 [x0, x1, x2, x3] [vi s2, vl s1, vr s0] w Q = (lay s0 = (5, 0) ∧ T d 191 0 [some (vr s0), some (vl s1), none, some (vi s2), none, none, none] [] w (fun r w1 => T (d + 1) 181 84 [x0, x1, x2, x3] (r.toList ++ []) w1 Q)) := by
  rw [T_invv (es := [some (vr s0), some (vl s1), none, some (vi s2), none, none, none]) (st := [vi s2, vl s1, vr s0]) (ks := [2, 1, 0]) (n := 7) (c := 5) (k := s0) (as := [vl s1, vi s2]) (rest := []) c181_81 (by decide +kernel) (by decide +kernel) (by decide +kernel) (by decide) rfl rfl (Nat.le_of_ble_eq_true rfl)]
  all_goals try simp only [true_and, Nat.reduceAdd, eq_self_iff_true]
theorem g181_84 {d : Nat} {a3 s0 : Int} {x0 x1 x2 : Option aV} {w : aW} {Q : Option aV → aW → Prop} : T d 181 84 [x0, x1, x2, some (vi a3)] [vi s0] w Q = ((¬ s0 = 0 → T d 181 56 [x0, x1, x2, some (vi (w32 (a3 + 1)))] [] w Q) ∧ (¬ (¬ s0 = 0) → Q (some (vi (-3))) w)) := by
  rw [T_if_ne 90 c181_84 rfl, T_iinc_3 c181_90, T_goto 56 c181_93 rfl, T_sipush c181_87, T_ireti c181_89 (by decide +kernel)]
  all_goals try simp only [Int.reduceToNat, true_and, Nat.reduceAdd, eq_self_iff_true]
/-! 182: StringHands$Scenes.goSo.([II)Z -/
theorem c182_0 : cd 182 0 = some (.iload 2, 1) := by decide +kernel
theorem c182_1 : cd 182 1 = some (.istore 3, 1) := by decide +kernel
theorem c182_2 : cd 182 2 = some (.sipush 0, 1) := by decide +kernel
theorem c182_3 : cd 182 3 = some (.istore 4, 2) := by decide +kernel
theorem c182_5 : cd 182 5 = some (.iload 4, 2) := by decide +kernel
theorem c182_7 : cd 182 7 = some (.aload 0, 1) := by decide +kernel
theorem c182_8 : cd 182 8 = some (.getfield 1288, 3) := by decide +kernel
theorem c182_11 : cd 182 11 = some (.if_icmp .ge 36, 3) := by decide +kernel
theorem c182_14 : cd 182 14 = some (.aload 0, 1) := by decide +kernel
theorem c182_15 : cd 182 15 = some (.iload 4, 2) := by decide +kernel
theorem c182_17 : cd 182 17 = some (.iload 3, 1) := by decide +kernel
theorem c182_18 : cd 182 18 = some (.invokevirtual 249, 3) := by decide +kernel
theorem c182_21 : cd 182 21 = some (.ifCond .ne 26, 3) := by decide +kernel
theorem c182_24 : cd 182 24 = some (.sipush 0, 1) := by decide +kernel
theorem c182_25 : cd 182 25 = some (.ireturn, 1) := by decide +kernel
theorem c182_26 : cd 182 26 = some (.aload 1, 1) := by decide +kernel
theorem c182_27 : cd 182 27 = some (.iload 3, 1) := by decide +kernel
theorem c182_28 : cd 182 28 = some (.iaload, 1) := by decide +kernel
theorem c182_29 : cd 182 29 = some (.istore 3, 1) := by decide +kernel
theorem c182_30 : cd 182 30 = some (.iinc 4 1, 3) := by decide +kernel
theorem c182_33 : cd 182 33 = some (.goto 5, 3) := by decide +kernel
theorem c182_36 : cd 182 36 = some (.sipush 1, 1) := by decide +kernel
theorem c182_37 : cd 182 37 = some (.ireturn, 1) := by decide +kernel
theorem g182_0 {d : Nat} {a2 : Int} {x0 x1 x3 x4 : Option aV} {w : aW} {Q : Option aV → aW → Prop} : T d 182 0 [x0, x1, some (vi a2), x3, x4] [] w Q = T d 182 5 [x0, x1, some (vi a2), some (vi a2), some (vi 0)] [] w Q := by
  rw [T_iload_2 c182_0, T_istore_3 c182_1, T_sipush c182_2, T_istore_4 c182_3]
  all_goals try simp only [true_and, Nat.reduceAdd, eq_self_iff_true]
theorem g182_5 {d : Nat} {a3 a4 : Int} {x1 x2 : Option aV} {w : aW} {Q : Option aV → aW → Prop} : T (d + 1) 182 5 [some (vr 57), x1, x2, some (vi a3), some (vi a4)] [] w Q = ((w 57 2 ≤ a4 → Q (some (vi 1)) w) ∧ (¬ (w 57 2 ≤ a4) → T d 249 0 [some (vr 57), some (vi a4), some (vi a3)] [] w (fun r w1 => T (d + 1) 182 21 [some (vr 57), x1, x2, some (vi a3), some (vi a4)] (r.toList ++ []) w1 Q))) := by
  rw [T_iload_4 c182_5, T_aload_0 c182_7, T_getI 5 2 2 c182_8 rfl rfl rfl rfl, T_icmp_ge 36 c182_11 rfl, T_sipush c182_36, T_iretz c182_37 (by decide +kernel), T_aload_0 c182_14, T_iload_4 c182_15, T_iload_3 c182_17, T_invv (es := [some (vr 57), some (vi a4), some (vi a3)]) (st := [vi a3, vi a4, vr 57]) (ks := [2, 0, 0]) (n := 3) (c := 5) (k := 57) (as := [vi a4, vi a3]) (rest := []) c182_18 (by decide +kernel) (by decide +kernel) (by decide +kernel) (by decide) rfl rfl (Nat.le_of_ble_eq_true rfl)]
  all_goals try simp only [Int.reduceToNat, lay_57, true_and, Nat.reduceAdd, eq_self_iff_true, zero_eq_1, one_eq_0, true_or, or_true]
theorem g182_21 {d : Nat} {a3 a4 s0 : Int} {x0 x2 : Option aV} {w : aW} {Q : Option aV → aW → Prop} : T d 182 21 [x0, some (vr 20), x2, some (vi a3), some (vi a4)] [vi s0] w Q = ((¬ s0 = 0 → ((0 ≤ a3 ∧ a3 < 1024) ∧ T d 182 5 [x0, some (vr 20), x2, some (vi (w 20 a3)), some (vi (w32 (a4 + 1)))] [] w Q)) ∧ (¬ (¬ s0 = 0) → Q (some (vi 0)) w)) := by
  rw [T_if_ne 26 c182_21 rfl, T_aload_1 c182_26, T_iload_3 c182_27, T_iald c182_28, T_istore_3 c182_29, T_iinc_4 c182_30, T_goto 5 c182_33 rfl, T_sipush c182_24, T_iretz c182_25 (by decide +kernel)]
  all_goals try simp only [Int.reduceToNat, ld_20, true_and, Nat.reduceAdd, eq_self_iff_true, zero_eq_1, one_eq_0, true_or, or_true]
/-! 183: StringHandsModel.noScript.(I)I -/
theorem c183_0 : cd 183 0 = some (.iload 1, 1) := by decide +kernel
theorem c183_1 : cd 183 1 = some (.i2l, 1) := by decide +kernel
theorem c183_2 : cd 183 2 = some (.bipush 0, 1) := by decide +kernel
theorem c183_3 : cd 183 3 = some (.bipush 3, 3) := by decide +kernel
theorem c183_6 : cd 183 6 = some (.invokestatic 105, 3) := by decide +kernel
theorem c183_9 : cd 183 9 = some (.ifCond .ne 15, 3) := by decide +kernel
theorem c183_12 : cd 183 12 = some (.sipush (-2), 2) := by decide +kernel
theorem c183_14 : cd 183 14 = some (.ireturn, 1) := by decide +kernel
theorem c183_15 : cd 183 15 = some (.aload 0, 1) := by decide +kernel
theorem c183_16 : cd 183 16 = some (.getfield 3210, 3) := by decide +kernel
theorem c183_19 : cd 183 19 = some (.iload 1, 1) := by decide +kernel
theorem c183_20 : cd 183 20 = some (.iaload, 1) := by decide +kernel
theorem c183_21 : cd 183 21 = some (.sipush (-1), 1) := by decide +kernel
theorem c183_22 : cd 183 22 = some (.if_icmp .ne 28, 3) := by decide +kernel
theorem c183_25 : cd 183 25 = some (.sipush (-6), 2) := by decide +kernel
theorem c183_27 : cd 183 27 = some (.ireturn, 1) := by decide +kernel
theorem c183_28 : cd 183 28 = some (.aload 0, 1) := by decide +kernel
theorem c183_29 : cd 183 29 = some (.getfield 3214, 3) := by decide +kernel
theorem c183_32 : cd 183 32 = some (.iload 1, 1) := by decide +kernel
theorem c183_33 : cd 183 33 = some (.iaload, 1) := by decide +kernel
theorem c183_34 : cd 183 34 = some (.i2l, 1) := by decide +kernel
theorem c183_35 : cd 183 35 = some (.bipush 1, 1) := by decide +kernel
theorem c183_36 : cd 183 36 = some (.bipush 12, 3) := by decide +kernel
theorem c183_39 : cd 183 39 = some (.invokestatic 105, 3) := by decide +kernel
theorem c183_42 : cd 183 42 = some (.ifCond .ne 48, 3) := by decide +kernel
theorem c183_45 : cd 183 45 = some (.sipush (-4), 2) := by decide +kernel
theorem c183_47 : cd 183 47 = some (.ireturn, 1) := by decide +kernel
theorem c183_48 : cd 183 48 = some (.sipush 0, 1) := by decide +kernel
theorem c183_49 : cd 183 49 = some (.istore 2, 1) := by decide +kernel
theorem c183_50 : cd 183 50 = some (.iload 2, 1) := by decide +kernel
theorem c183_51 : cd 183 51 = some (.aload 0, 1) := by decide +kernel
theorem c183_52 : cd 183 52 = some (.getfield 3214, 3) := by decide +kernel
theorem c183_55 : cd 183 55 = some (.iload 1, 1) := by decide +kernel
theorem c183_56 : cd 183 56 = some (.iaload, 1) := by decide +kernel
theorem c183_57 : cd 183 57 = some (.if_icmp .ge 87, 3) := by decide +kernel
theorem c183_60 : cd 183 60 = some (.aload 0, 1) := by decide +kernel
theorem c183_61 : cd 183 61 = some (.aload 0, 1) := by decide +kernel
theorem c183_62 : cd 183 62 = some (.getfield 3218, 3) := by decide +kernel
theorem c183_65 : cd 183 65 = some (.sipush 40, 2) := by decide +kernel
theorem c183_67 : cd 183 67 = some (.iload 1, 1) := by decide +kernel
theorem c183_68 : cd 183 68 = some (.imul, 1) := by decide +kernel
theorem c183_69 : cd 183 69 = some (.iload 2, 1) := by decide +kernel
theorem c183_70 : cd 183 70 = some (.iadd, 1) := by decide +kernel
theorem c183_71 : cd 183 71 = some (.laload, 1) := by decide +kernel
theorem c183_72 : cd 183 72 = some (.invokevirtual 194, 3) := by decide +kernel
theorem c183_75 : cd 183 75 = some (.ifCond .ne 81, 3) := by decide +kernel
theorem c183_78 : cd 183 78 = some (.sipush (-3), 2) := by decide +kernel
theorem c183_80 : cd 183 80 = some (.ireturn, 1) := by decide +kernel
theorem c183_81 : cd 183 81 = some (.iinc 2 1, 3) := by decide +kernel
theorem c183_84 : cd 183 84 = some (.goto 50, 3) := by decide +kernel
theorem c183_87 : cd 183 87 = some (.sipush 0, 1) := by decide +kernel
theorem c183_88 : cd 183 88 = some (.ireturn, 1) := by decide +kernel
theorem g183_0 {d : Nat} {a1 : Int} {x0 x2 : Option aV} {w : aW} {Q : Option aV → aW → Prop} : T (d + 1) 183 0 [x0, some (vi a1), x2] [] w Q = T d 105 0 [some (vl a1), none, some (vl 0), none, some (vl 3), none] [] w (fun r w1 => T (d + 1) 183 9 [x0, some (vi a1), x2] (r.toList ++ []) w1 Q) := by
  rw [T_iload_1 c183_0, T_i2l c183_1, T_bipush c183_2, T_bipush c183_3, T_inv (es := [some (vl a1), none, some (vl 0), none, some (vl 3), none]) (st := [vl 3, vl 0, vl a1]) (ks := [1, 1, 1]) (n := 6) (as := [vl a1, vl 0, vl 3]) (rest := []) c183_6 (by decide +kernel) (by decide +kernel) rfl rfl (Nat.le_of_ble_eq_true rfl)]
  all_goals try simp only [true_and, Nat.reduceAdd, eq_self_iff_true]
theorem g183_9 {d : Nat} {a1 s0 : Int} {x2 : Option aV} {w : aW} {Q : Option aV → aW → Prop} : T (d + 1) 183 9 [some (vr 167), some (vi a1), x2] [vi s0] w Q = ((¬ s0 = 0 → ((0 ≤ a1 ∧ a1 < 4) ∧ ((¬ w 188 a1 = (-1) → ((0 ≤ a1 ∧ a1 < 4) ∧ T d 105 0 [some (vl (w 189 a1)), none, some (vl 1), none, some (vl 12), none] [] w (fun r w1 => T (d + 1) 183 42 [some (vr 167), some (vi a1), x2] (r.toList ++ []) w1 Q))) ∧ (¬ (¬ w 188 a1 = (-1)) → Q (some (vi (-6))) w)))) ∧ (¬ (¬ s0 = 0) → Q (some (vi (-2))) w)) := by
  rw [T_if_ne 15 c183_9 rfl, T_aload_0 c183_15, T_getR 12 34 34 c183_16 rfl rfl rfl rfl, rf_167_34, T_iload_1 c183_19, T_iald c183_20, T_sipush c183_21, T_icmp_ne 28 c183_22 rfl, T_aload_0 c183_28, T_getR 12 35 35 c183_29 rfl rfl rfl rfl, rf_167_35, T_iload_1 c183_32, T_iald c183_33, T_i2l c183_34, T_bipush c183_35, T_bipush c183_36, T_inv (es := [some (vl (w 189 a1)), none, some (vl 1), none, some (vl 12), none]) (st := [vl 12, vl 1, vl (w 189 a1)]) (ks := [1, 1, 1]) (n := 6) (as := [vl (w 189 a1), vl 1, vl 12]) (rest := []) c183_39 (by decide +kernel) (by decide +kernel) rfl rfl (Nat.le_of_ble_eq_true rfl), T_sipush c183_25, T_ireti c183_27 (by decide +kernel), T_sipush c183_12, T_ireti c183_14 (by decide +kernel)]
  all_goals try simp only [Int.reduceToNat, lay_167, ld_188, ld_189, true_and, Nat.reduceAdd, eq_self_iff_true]
theorem g183_42 {d : Nat} {s0 : Int} {x0 x1 x2 : Option aV} {w : aW} {Q : Option aV → aW → Prop} : T d 183 42 [x0, x1, x2] [vi s0] w Q = ((¬ s0 = 0 → T d 183 50 [x0, x1, some (vi 0)] [] w Q) ∧ (¬ (¬ s0 = 0) → Q (some (vi (-4))) w)) := by
  rw [T_if_ne 48 c183_42 rfl, T_sipush c183_48, T_istore_2 c183_49, T_sipush c183_45, T_ireti c183_47 (by decide +kernel)]
  all_goals try simp only [Int.reduceToNat, true_and, Nat.reduceAdd, eq_self_iff_true]
theorem g183_50 {d : Nat} {a1 a2 : Int} {w : aW} {Q : Option aV → aW → Prop} : T (d + 1) 183 50 [some (vr 167), some (vi a1), some (vi a2)] [] w Q = ((0 ≤ a1 ∧ a1 < 4) ∧ ((w 189 a1 ≤ a2 → Q (some (vi 0)) w) ∧ (¬ (w 189 a1 ≤ a2) → ((0 ≤ w32 ((w32 (40 * a1)) + a2) ∧ w32 ((w32 (40 * a1)) + a2) < 160) ∧ T d 194 0 [some (vr 167), some (vl (w 190 (w32 ((w32 (40 * a1)) + a2)))), none] [] w (fun r w1 => T (d + 1) 183 75 [some (vr 167), some (vi a1), some (vi a2)] (r.toList ++ []) w1 Q))))) := by
  rw [T_iload_2 c183_50, T_aload_0 c183_51, T_getR 12 35 35 c183_52 rfl rfl rfl rfl, rf_167_35, T_iload_1 c183_55, T_iald c183_56, T_icmp_ge 87 c183_57 rfl, T_sipush c183_87, T_ireti c183_88 (by decide +kernel), T_aload_0 c183_60, T_aload_0 c183_61, T_getR 12 36 36 c183_62 rfl rfl rfl rfl, rf_167_36, T_sipush c183_65, T_iload_1 c183_67, T_imul c183_68, T_iload_2 c183_69, T_iadd c183_70, T_lald c183_71, T_invv (es := [some (vr 167), some (vl (w 190 (w32 ((w32 (40 * a1)) + a2)))), none]) (st := [vl (w 190 (w32 ((w32 (40 * a1)) + a2))), vr 167]) (ks := [2, 1]) (n := 3) (c := 12) (k := 167) (as := [vl (w 190 (w32 ((w32 (40 * a1)) + a2)))]) (rest := []) c183_72 (by decide +kernel) (by decide +kernel) (by decide +kernel) (by decide) rfl rfl (Nat.le_of_ble_eq_true rfl)]
  all_goals try simp only [Int.reduceToNat, ia1_190, lay_167, ld_189, true_and, Nat.reduceAdd, eq_self_iff_true]
theorem g183_75 {d : Nat} {a2 s0 : Int} {x0 x1 : Option aV} {w : aW} {Q : Option aV → aW → Prop} : T d 183 75 [x0, x1, some (vi a2)] [vi s0] w Q = ((¬ s0 = 0 → T d 183 50 [x0, x1, some (vi (w32 (a2 + 1)))] [] w Q) ∧ (¬ (¬ s0 = 0) → Q (some (vi (-3))) w)) := by
  rw [T_if_ne 81 c183_75 rfl, T_iinc_2 c183_81, T_goto 50 c183_84 rfl, T_sipush c183_78, T_ireti c183_80 (by decide +kernel)]
  all_goals try simp only [Int.reduceToNat, true_and, Nat.reduceAdd, eq_self_iff_true]
