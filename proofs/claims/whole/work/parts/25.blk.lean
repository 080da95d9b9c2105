/-! 75: StringHands.power.(II)I -/
theorem c75_0 : cd 75 0 = some (.aload 0, 1) := by decide +kernel
theorem c75_1 : cd 75 1 = some (.iload 1, 1) := by decide +kernel
theorem c75_2 : cd 75 2 = some (.invokevirtual 116, 3) := by decide +kernel
theorem c75_5 : cd 75 5 = some (.ifCond .ne 11, 3) := by decide +kernel
theorem c75_8 : cd 75 8 = some (.sipush (-2), 2) := by decide +kernel
theorem c75_10 : cd 75 10 = some (.ireturn, 1) := by decide +kernel
theorem c75_11 : cd 75 11 = some (.iload 2, 1) := by decide +kernel
theorem c75_12 : cd 75 12 = some (.ifCond .lt 21, 3) := by decide +kernel
theorem c75_15 : cd 75 15 = some (.iload 2, 1) := by decide +kernel
theorem c75_16 : cd 75 16 = some (.sipush 99, 2) := by decide +kernel
theorem c75_18 : cd 75 18 = some (.if_icmp .le 24, 3) := by decide +kernel
theorem c75_21 : cd 75 21 = some (.sipush (-3), 2) := by decide +kernel
theorem c75_23 : cd 75 23 = some (.ireturn, 1) := by decide +kernel
theorem c75_24 : cd 75 24 = some (.aload 0, 1) := by decide +kernel
theorem c75_25 : cd 75 25 = some (.invokevirtual 155, 3) := by decide +kernel
theorem c75_28 : cd 75 28 = some (.pop, 1) := by decide +kernel
theorem c75_29 : cd 75 29 = some (.aload 0, 1) := by decide +kernel
theorem c75_30 : cd 75 30 = some (.getfield 2826, 3) := by decide +kernel
theorem c75_33 : cd 75 33 = some (.sipush 1, 1) := by decide +kernel
theorem c75_34 : cd 75 34 = some (.iload 1, 1) := by decide +kernel
theorem c75_35 : cd 75 35 = some (.ishl, 1) := by decide +kernel
theorem c75_36 : cd 75 36 = some (.iload 2, 1) := by decide +kernel
theorem c75_37 : cd 75 37 = some (.invokevirtual 197, 3) := by decide +kernel
theorem c75_40 : cd 75 40 = some (.ireturn, 1) := by decide +kernel
theorem g75_0 {d : Nat} {a1 : Int} {x2 : Option aV} {w : aW} {Q : Option aV → aW → Prop} : T (d + 1) 75 0 [some (vr 0), some (vi a1), x2] [] w Q = T d 116 0 [some (vr 0), some (vi a1)] [] w (fun r w1 => T (d + 1) 75 5 [some (vr 0), some (vi a1), x2] (r.toList ++ []) w1 Q) := by
  rw [T_aload_0 c75_0, T_iload_1 c75_1, T_invv (es := [some (vr 0), some (vi a1)]) (st := [vi a1, vr 0]) (ks := [2, 0]) (n := 2) (c := 11) (k := 0) (as := [vi a1]) (rest := []) c75_2 (by decide +kernel) (by decide +kernel) (by decide +kernel) (by decide) rfl rfl (Nat.le_of_ble_eq_true rfl)]
  all_goals try simp only [lay_0, true_and, Nat.reduceAdd, eq_self_iff_true]
theorem g75_5 {d : Nat} {a2 s0 : Int} {x1 : Option aV} {w : aW} {Q : Option aV → aW → Prop} : T (d + 1) 75 5 [some (vr 0), x1, some (vi a2)] [vi s0] w Q = ((¬ s0 = 0 → ((a2 < 0 → T (d + 1) 75 21 [some (vr 0), x1, some (vi a2)] [] w Q) ∧ (¬ (a2 < 0) → ((a2 ≤ 99 → T d 155 0 [some (vr 0)] [] w (fun r w1 => T (d + 1) 75 28 [some (vr 0), x1, some (vi a2)] (r.toList ++ []) w1 Q)) ∧ (¬ (a2 ≤ 99) → T (d + 1) 75 21 [some (vr 0), x1, some (vi a2)] [] w Q))))) ∧ (¬ (¬ s0 = 0) → Q (some (vi (-2))) w)) := by
  rw [T_if_ne 11 c75_5 rfl, T_iload_2 c75_11, T_if_lt 21 c75_12 rfl, T_iload_2 c75_15, T_sipush c75_16, T_icmp_le 24 c75_18 rfl, T_aload_0 c75_24, T_invv (es := [some (vr 0)]) (st := [vr 0]) (ks := [2]) (n := 1) (c := 11) (k := 0) (as := []) (rest := []) c75_25 (by decide +kernel) (by decide +kernel) (by decide +kernel) (by decide) rfl rfl (Nat.le_of_ble_eq_true rfl), T_sipush c75_8, T_ireti c75_10 (by decide +kernel)]
  all_goals try simp only [Int.reduceToNat, lay_0, true_and, Nat.reduceAdd, eq_self_iff_true]
theorem g75_21 {d : Nat} {x0 x1 x2 : Option aV} {w : aW} {Q : Option aV → aW → Prop} : T d 75 21 [x0, x1, x2] [] w Q = Q (some (vi (-3))) w := by
  rw [T_sipush c75_21, T_ireti c75_23 (by decide +kernel)]
  all_goals try simp only [true_and, Nat.reduceAdd, eq_self_iff_true]
theorem g75_28 {d : Nat} {a1 a2 : Int} {s0 : Nat} {w : aW} {Q : Option aV → aW → Prop} : T (d + 1) 75 28 [some (vr 0), some (vi a1), some (vi a2)] [vr s0] w Q = T d 197 0 [some (vr 19), some (vi (jshl 1 a1)), some (vi a2), none, none, none] [] w (fun r w1 => T (d + 1) 75 40 [some (vr 0), some (vi a1), some (vi a2)] (r.toList ++ []) w1 Q) := by
  rw [T_pop_r c75_28, T_aload_0 c75_29, T_getR 11 2 2 c75_30 rfl rfl rfl rfl, rf_0_2, T_sipush c75_33, T_iload_1 c75_34, T_ishl c75_35, T_iload_2 c75_36, T_invv (es := [some (vr 19), some (vi (jshl 1 a1)), some (vi a2), none, none, none]) (st := [vi a2, vi (jshl 1 a1), vr 19]) (ks := [2, 0, 0]) (n := 6) (c := 0) (k := 19) (as := [vi (jshl 1 a1), vi a2]) (rest := []) c75_37 (by decide +kernel) (by decide +kernel) (by decide +kernel) (by decide) rfl rfl (Nat.le_of_ble_eq_true rfl)]
  all_goals try simp only [lay_0, lay_19, true_and, Nat.reduceAdd, eq_self_iff_true]
theorem g75_40 {d : Nat} {s0 : Int} {x0 x1 x2 : Option aV} {w : aW} {Q : Option aV → aW → Prop} : T d 75 40 [x0, x1, x2] [vi s0] w Q = Q (some (vi s0)) w := by
  rw [T_ireti c75_40 (by decide +kernel)]
  all_goals try simp only [true_and, Nat.reduceAdd, eq_self_iff_true]
/-! 76: StringHandsModel.power.(II)I -/
theorem c76_0 : cd 76 0 = some (.aload 0, 1) := by decide +kernel
theorem c76_1 : cd 76 1 = some (.sipush 0, 1) := by decide +kernel
theorem c76_2 : cd 76 2 = some (.putfield 3072, 3) := by decide +kernel
theorem c76_5 : cd 76 5 = some (.aload 0, 1) := by decide +kernel
theorem c76_6 : cd 76 6 = some (.iload 1, 1) := by decide +kernel
theorem c76_7 : cd 76 7 = some (.i2l, 1) := by decide +kernel
theorem c76_8 : cd 76 8 = some (.invokevirtual 121, 3) := by decide +kernel
theorem c76_11 : cd 76 11 = some (.ifCond .ne 17, 3) := by decide +kernel
theorem c76_14 : cd 76 14 = some (.sipush (-2), 2) := by decide +kernel
theorem c76_16 : cd 76 16 = some (.ireturn, 1) := by decide +kernel
theorem c76_17 : cd 76 17 = some (.iload 2, 1) := by decide +kernel
theorem c76_18 : cd 76 18 = some (.i2l, 1) := by decide +kernel
theorem c76_19 : cd 76 19 = some (.bipush 0, 1) := by decide +kernel
theorem c76_20 : cd 76 20 = some (.bipush 99, 3) := by decide +kernel
theorem c76_23 : cd 76 23 = some (.invokestatic 105, 3) := by decide +kernel
theorem c76_26 : cd 76 26 = some (.ifCond .ne 32, 3) := by decide +kernel
theorem c76_29 : cd 76 29 = some (.sipush (-3), 2) := by decide +kernel
theorem c76_31 : cd 76 31 = some (.ireturn, 1) := by decide +kernel
theorem c76_32 : cd 76 32 = some (.aload 0, 1) := by decide +kernel
theorem c76_33 : cd 76 33 = some (.invokevirtual 156, 3) := by decide +kernel
theorem c76_36 : cd 76 36 = some (.sipush 0, 1) := by decide +kernel
theorem c76_37 : cd 76 37 = some (.istore 3, 1) := by decide +kernel
theorem c76_38 : cd 76 38 = some (.sipush 0, 1) := by decide +kernel
theorem c76_39 : cd 76 39 = some (.istore 4, 2) := by decide +kernel
theorem c76_41 : cd 76 41 = some (.iload 4, 2) := by decide +kernel
theorem c76_43 : cd 76 43 = some (.aload 0, 1) := by decide +kernel
theorem c76_44 : cd 76 44 = some (.invokevirtual 164, 3) := by decide +kernel
theorem c76_47 : cd 76 47 = some (.if_icmp .ge 85, 3) := by decide +kernel
theorem c76_50 : cd 76 50 = some (.iload 3, 1) := by decide +kernel
theorem c76_51 : cd 76 51 = some (.aload 0, 1) := by decide +kernel
theorem c76_52 : cd 76 52 = some (.iload 4, 2) := by decide +kernel
theorem c76_54 : cd 76 54 = some (.iload 2, 1) := by decide +kernel
theorem c76_55 : cd 76 55 = some (.invokevirtual 157, 3) := by decide +kernel
theorem c76_58 : cd 76 58 = some (.aload 0, 1) := by decide +kernel
theorem c76_59 : cd 76 59 = some (.iload 4, 2) := by decide +kernel
theorem c76_61 : cd 76 61 = some (.sipush 1, 1) := by decide +kernel
theorem c76_62 : cd 76 62 = some (.iload 1, 1) := by decide +kernel
theorem c76_63 : cd 76 63 = some (.ishl, 1) := by decide +kernel
theorem c76_64 : cd 76 64 = some (.ixor, 1) := by decide +kernel
theorem c76_65 : cd 76 65 = some (.iload 2, 1) := by decide +kernel
theorem c76_66 : cd 76 66 = some (.invokevirtual 157, 3) := by decide +kernel
theorem c76_69 : cd 76 69 = some (.if_icmp .eq 76, 3) := by decide +kernel
theorem c76_72 : cd 76 72 = some (.sipush 1, 1) := by decide +kernel
theorem c76_73 : cd 76 73 = some (.goto 77, 3) := by decide +kernel
theorem c76_76 : cd 76 76 = some (.sipush 0, 1) := by decide +kernel
theorem c76_77 : cd 76 77 = some (.iadd, 1) := by decide +kernel
theorem c76_78 : cd 76 78 = some (.istore 3, 1) := by decide +kernel
theorem c76_79 : cd 76 79 = some (.iinc 4 1, 3) := by decide +kernel
theorem c76_82 : cd 76 82 = some (.goto 41, 3) := by decide +kernel
theorem c76_85 : cd 76 85 = some (.iload 3, 1) := by decide +kernel
theorem c76_86 : cd 76 86 = some (.ireturn, 1) := by decide +kernel
theorem g76_0 {d : Nat} {a1 : Int} {x2 x3 x4 : Option aV} {w : aW} {Q : Option aV → aW → Prop} : T (d + 1) 76 0 [some (vr 167), some (vi a1), x2, x3, x4] [] w Q = T d 121 0 [some (vr 167), some (vl a1), none] [] (iup w 167 0 0) (fun r w1 => T (d + 1) 76 11 [some (vr 167), some (vi a1), x2, x3, x4] (r.toList ++ []) w1 Q) := by
  rw [T_aload_0 c76_0, T_sipush c76_1, T_putI 12 0 0 c76_2 rfl rfl rfl rfl, T_aload_0 c76_5, T_iload_1 c76_6, T_i2l c76_7, T_invv (es := [some (vr 167), some (vl a1), none]) (st := [vl a1, vr 167]) (ks := [2, 1]) (n := 3) (c := 12) (k := 167) (as := [vl a1]) (rest := []) c76_8 (by decide +kernel) (by decide +kernel) (by decide +kernel) (by decide) rfl rfl (Nat.le_of_ble_eq_true rfl)]
  all_goals try simp only [lay_167, true_and, Nat.reduceAdd, eq_self_iff_true]
theorem g76_11 {d : Nat} {a2 s0 : Int} {x0 x1 x3 x4 : Option aV} {w : aW} {Q : Option aV → aW → Prop} : T (d + 1) 76 11 [x0, x1, some (vi a2), x3, x4] [vi s0] w Q = ((¬ s0 = 0 → T d 105 0 [some (vl a2), none, some (vl 0), none, some (vl 99), none] [] w (fun r w1 => T (d + 1) 76 26 [x0, x1, some (vi a2), x3, x4] (r.toList ++ []) w1 Q)) ∧ (¬ (¬ s0 = 0) → Q (some (vi (-2))) w)) := by
  rw [T_if_ne 17 c76_11 rfl, T_iload_2 c76_17, T_i2l c76_18, T_bipush c76_19, T_bipush c76_20, T_inv (es := [some (vl a2), none, some (vl 0), none, some (vl 99), none]) (st := [vl 99, vl 0, vl a2]) (ks := [1, 1, 1]) (n := 6) (as := [vl a2, vl 0, vl 99]) (rest := []) c76_23 (by decide +kernel) (by decide +kernel) rfl rfl (Nat.le_of_ble_eq_true rfl), T_sipush c76_14, T_ireti c76_16 (by decide +kernel)]
  all_goals try simp only [Int.reduceToNat, true_and, Nat.reduceAdd, eq_self_iff_true]
theorem g76_26 {d : Nat} {s0 : Int} {x1 x2 x3 x4 : Option aV} {w : aW} {Q : Option aV → aW → Prop} : T (d + 1) 76 26 [some (vr 167), x1, x2, x3, x4] [vi s0] w Q = ((¬ s0 = 0 → T d 156 0 [some (vr 167), none] [] w (fun r w1 => T (d + 1) 76 36 [some (vr 167), x1, x2, x3, x4] (r.toList ++ []) w1 Q)) ∧ (¬ (¬ s0 = 0) → Q (some (vi (-3))) w)) := by
  rw [T_if_ne 32 c76_26 rfl, T_aload_0 c76_32, T_invv (es := [some (vr 167), none]) (st := [vr 167]) (ks := [2]) (n := 2) (c := 12) (k := 167) (as := []) (rest := []) c76_33 (by decide +kernel) (by decide +kernel) (by decide +kernel) (by decide) rfl rfl (Nat.le_of_ble_eq_true rfl), T_sipush c76_29, T_ireti c76_31 (by decide +kernel)]
  all_goals try simp only [Int.reduceToNat, lay_167, true_and, Nat.reduceAdd, eq_self_iff_true]
theorem g76_36 {d : Nat} {x0 x1 x2 x3 x4 : Option aV} {w : aW} {Q : Option aV → aW → Prop} : T d 76 36 [x0, x1, x2, x3, x4] [] w Q = T d 76 41 [x0, x1, x2, some (vi 0), some (vi 0)] [] w Q := by
  rw [T_sipush c76_36, T_istore_3 c76_37, T_sipush c76_38, T_istore_4 c76_39]
  all_goals try simp only [true_and, Nat.reduceAdd, eq_self_iff_true]
theorem g76_41 {d : Nat} {a4 : Int} {x1 x2 x3 : Option aV} {w : aW} {Q : Option aV → aW → Prop} : T (d + 1) 76 41 [some (vr 167), x1, x2, x3, some (vi a4)] [] w Q = T d 164 0 [some (vr 167)] [] w (fun r w1 => T (d + 1) 76 47 [some (vr 167), x1, x2, x3, some (vi a4)] (r.toList ++ [vi a4]) w1 Q) := by
  rw [T_iload_4 c76_41, T_aload_0 c76_43, T_invv (es := [some (vr 167)]) (st := [vr 167, vi a4]) (ks := [2]) (n := 1) (c := 12) (k := 167) (as := []) (rest := [vi a4]) c76_44 (by decide +kernel) (by decide +kernel) (by decide +kernel) (by decide) rfl rfl (Nat.le_of_ble_eq_true rfl)]
  all_goals try simp only [lay_167, true_and, Nat.reduceAdd, eq_self_iff_true]
theorem g76_47 {d : Nat} {a2 a3 a4 s0 s1 : Int} {x1 : Option aV} {w : aW} {Q : Option aV → aW → Prop} : T (d + 1) 76 47 [some (vr 167), x1, some (vi a2), some (vi a3), some (vi a4)] [vi s1, vi s0] w Q = ((s1 ≤ s0 → Q (some (vi a3)) w) ∧ (¬ (s1 ≤ s0) → T d 157 0 [some (vr 167), some (vi a4), some (vi a2), none, none] [] w (fun r w1 => T (d + 1) 76 58 [some (vr 167), x1, some (vi a2), some (vi a3), some (vi a4)] (r.toList ++ [vi a3]) w1 Q))) := by
  rw [T_icmp_ge 85 c76_47 rfl, T_iload_3 c76_85, T_ireti c76_86 (by decide +kernel), T_iload_3 c76_50, T_aload_0 c76_51, T_iload_4 c76_52, T_iload_2 c76_54, T_invv (es := [some (vr 167), some (vi a4), some (vi a2), none, none]) (st := [vi a2, vi a4, vr 167, vi a3]) (ks := [2, 0, 0]) (n := 5) (c := 12) (k := 167) (as := [vi a4, vi a2]) (rest := [vi a3]) c76_55 (by decide +kernel) (by decide +kernel) (by decide +kernel) (by decide) rfl rfl (Nat.le_of_ble_eq_true rfl)]
  all_goals try simp only [Int.reduceToNat, lay_167, true_and, Nat.reduceAdd, eq_self_iff_true]
theorem g76_58 {d : Nat} {a1 a2 a4 s0 s1 : Int} {x3 : Option aV} {w : aW} {Q : Option aV → aW → Prop} : T (d + 1) 76 58 [some (vr 167), some (vi a1), some (vi a2), x3, some (vi a4)] [vi s1, vi s0] w Q = T d 157 0 [some (vr 167), some (vi (jxor a4 (jshl 1 a1))), some (vi a2), none, none] [] w (fun r w1 => T (d + 1) 76 69 [some (vr 167), some (vi a1), some (vi a2), x3, some (vi a4)] (r.toList ++ [vi s1, vi s0]) w1 Q) := by
  rw [T_aload_0 c76_58, T_iload_4 c76_59, T_sipush c76_61, T_iload_1 c76_62, T_ishl c76_63, T_ixor c76_64, T_iload_2 c76_65, T_invv (es := [some (vr 167), some (vi (jxor a4 (jshl 1 a1))), some (vi a2), none, none]) (st := [vi a2, vi (jxor a4 (jshl 1 a1)), vr 167, vi s1, vi s0]) (ks := [2, 0, 0]) (n := 5) (c := 12) (k := 167) (as := [vi (jxor a4 (jshl 1 a1)), vi a2]) (rest := [vi s1, vi s0]) c76_66 (by decide +kernel) (by decide +kernel) (by decide +kernel) (by decide) rfl rfl (Nat.le_of_ble_eq_true rfl)]
  all_goals try simp only [lay_167, true_and, Nat.reduceAdd, eq_self_iff_true]
theorem g76_69 {d : Nat} {s0 s1 s2 : Int} {x0 x1 x2 x3 x4 : Option aV} {w : aW} {Q : Option aV → aW → Prop} : T d 76 69 [x0, x1, x2, x3, x4] [vi s2, vi s1, vi s0] w Q = ((s1 = s2 → T d 76 77 [x0, x1, x2, x3, x4] [vi 0, vi s0] w Q) ∧ (¬ (s1 = s2) → T d 76 77 [x0, x1, x2, x3, x4] [vi 1, vi s0] w Q)) := by
  rw [T_icmp_eq 76 c76_69 rfl, T_sipush c76_76, T_sipush c76_72, T_goto 77 c76_73 rfl]
  all_goals try simp only [Int.reduceToNat, true_and, Nat.reduceAdd, eq_self_iff_true]
theorem g76_77 {d : Nat} {a4 s0 s1 : Int} {x0 x1 x2 x3 : Option aV} {w : aW} {Q : Option aV → aW → Prop} : T d 76 77 [x0, x1, x2, x3, some (vi a4)] [vi s1, vi s0] w Q = T d 76 41 [x0, x1, x2, some (vi (w32 (s0 + s1))), some (vi (w32 (a4 + 1)))] [] w Q := by
  rw [T_iadd c76_77, T_istore_3 c76_78, T_iinc_4 c76_79, T_goto 41 c76_82 rfl]
  all_goals try simp only [true_and, Nat.reduceAdd, eq_self_iff_true]
/-! 77: StringHands.fits.(II)I -/
theorem c77_0 : cd 77 0 = some (.aload 0, 1) := by decide +kernel
theorem c77_1 : cd 77 1 = some (.iload 1, 1) := by decide +kernel
theorem c77_2 : cd 77 2 = some (.iload 2, 1) := by decide +kernel
theorem c77_3 : cd 77 3 = some (.invokevirtual 198, 3) := by decide +kernel
theorem c77_6 : cd 77 6 = some (.istore 3, 1) := by decide +kernel
theorem c77_7 : cd 77 7 = some (.iload 3, 1) := by decide +kernel
theorem c77_8 : cd 77 8 = some (.ifCond .eq 15, 3) := by decide +kernel
theorem c77_11 : cd 77 11 = some (.iload 3, 1) := by decide +kernel
theorem c77_12 : cd 77 12 = some (.goto 22, 3) := by decide +kernel
theorem c77_15 : cd 77 15 = some (.aload 0, 1) := by decide +kernel
theorem c77_16 : cd 77 16 = some (.getfield 2846, 3) := by decide +kernel
theorem c77_19 : cd 77 19 = some (.getfield 256, 3) := by decide +kernel
theorem c77_22 : cd 77 22 = some (.ireturn, 1) := by decide +kernel
theorem g77_0 {d : Nat} {a1 a2 : Int} {x3 : Option aV} {w : aW} {Q : Option aV → aW → Prop} : T (d + 1) 77 0 [some (vr 0), some (vi a1), some (vi a2), x3] [] w Q = T d 198 0 [some (vr 0), some (vi a1), some (vi a2), none] [] w (fun r w1 => T (d + 1) 77 6 [some (vr 0), some (vi a1), some (vi a2), x3] (r.toList ++ []) w1 Q) := by
  rw [T_aload_0 c77_0, T_iload_1 c77_1, T_iload_2 c77_2, T_invv (es := [some (vr 0), some (vi a1), some (vi a2), none]) (st := [vi a2, vi a1, vr 0]) (ks := [2, 0, 0]) (n := 4) (c := 11) (k := 0) (as := [vi a1, vi a2]) (rest := []) c77_3 (by decide +kernel) (by decide +kernel) (by decide +kernel) (by decide) rfl rfl (Nat.le_of_ble_eq_true rfl)]
  all_goals try simp only [lay_0, true_and, Nat.reduceAdd, eq_self_iff_true]
theorem g77_6 {d : Nat} {s0 : Int} {x1 x2 x3 : Option aV} {w : aW} {Q : Option aV → aW → Prop} : T d 77 6 [some (vr 0), x1, x2, x3] [vi s0] w Q = ((s0 = 0 → T d 77 22 [some (vr 0), x1, x2, some (vi s0)] [vi (w 64 0)] w Q) ∧ (¬ (s0 = 0) → T d 77 22 [some (vr 0), x1, x2, some (vi s0)] [vi s0] w Q)) := by
  rw [T_istore_3 c77_6, T_iload_3 c77_7, T_if_eq 15 c77_8 rfl, T_aload_0 c77_15, T_getR 11 7 7 c77_16 rfl rfl rfl rfl, rf_0_7, T_getI 1 0 0 c77_19 rfl rfl rfl rfl, T_iload_3 c77_11, T_goto 22 c77_12 rfl]
  all_goals try simp only [Int.reduceToNat, lay_0, lay_64, true_and, Nat.reduceAdd, eq_self_iff_true]
theorem g77_22 {d : Nat} {s0 : Int} {x0 x1 x2 x3 : Option aV} {w : aW} {Q : Option aV → aW → Prop} : T d 77 22 [x0, x1, x2, x3] [vi s0] w Q = Q (some (vi s0)) w := by
  rw [T_ireti c77_22 (by decide +kernel)]
  all_goals try simp only [true_and, Nat.reduceAdd, eq_self_iff_true]
/-! 78: StringHandsModel.fits.(II)I -/
theorem c78_0 : cd 78 0 = some (.aload 0, 1) := by decide +kernel
theorem c78_1 : cd 78 1 = some (.sipush 0, 1) := by decide +kernel
theorem c78_2 : cd 78 2 = some (.putfield 3072, 3) := by decide +kernel
theorem c78_5 : cd 78 5 = some (.aload 0, 1) := by decide +kernel
theorem c78_6 : cd 78 6 = some (.iload 1, 1) := by decide +kernel
theorem c78_7 : cd 78 7 = some (.iload 2, 1) := by decide +kernel
theorem c78_8 : cd 78 8 = some (.invokevirtual 199, 3) := by decide +kernel
theorem c78_11 : cd 78 11 = some (.istore 3, 1) := by decide +kernel
theorem c78_12 : cd 78 12 = some (.iload 3, 1) := by decide +kernel
theorem c78_13 : cd 78 13 = some (.ifCond .eq 18, 3) := by decide +kernel
theorem c78_16 : cd 78 16 = some (.iload 3, 1) := by decide +kernel
theorem c78_17 : cd 78 17 = some (.ireturn, 1) := by decide +kernel
theorem c78_18 : cd 78 18 = some (.aload 0, 1) := by decide +kernel
theorem c78_19 : cd 78 19 = some (.iload 1, 1) := by decide +kernel
theorem c78_20 : cd 78 20 = some (.iload 2, 1) := by decide +kernel
theorem c78_21 : cd 78 21 = some (.invokevirtual 200, 3) := by decide +kernel
theorem c78_24 : cd 78 24 = some (.aload 0, 1) := by decide +kernel
theorem c78_25 : cd 78 25 = some (.getfield 3204, 3) := by decide +kernel
theorem c78_28 : cd 78 28 = some (.ireturn, 1) := by decide +kernel
theorem g78_0 {d : Nat} {a1 a2 : Int} {x3 : Option aV} {w : aW} {Q : Option aV → aW → Prop} : T (d + 1) 78 0 [some (vr 167), some (vi a1), some (vi a2), x3] [] w Q = T d 199 0 [some (vr 167), some (vi a1), some (vi a2), none] [] (iup w 167 0 0) (fun r w1 => T (d + 1) 78 11 [some (vr 167), some (vi a1), some (vi a2), x3] (r.toList ++ []) w1 Q) := by
  rw [T_aload_0 c78_0, T_sipush c78_1, T_putI 12 0 0 c78_2 rfl rfl rfl rfl, T_aload_0 c78_5, T_iload_1 c78_6, T_iload_2 c78_7, T_invv (es := [some (vr 167), some (vi a1), some (vi a2), none]) (st := [vi a2, vi a1, vr 167]) (ks := [2, 0, 0]) (n := 4) (c := 12) (k := 167) (as := [vi a1, vi a2]) (rest := []) c78_8 (by decide +kernel) (by decide +kernel) (by decide +kernel) (by decide) rfl rfl (Nat.le_of_ble_eq_true rfl)]
  all_goals try simp only [lay_167, true_and, Nat.reduceAdd, eq_self_iff_true]
theorem g78_11 {d : Nat} {a1 a2 s0 : Int} {x3 : Option aV} {w : aW} {Q : Option aV → aW → Prop} : T (d + 1) 78 11 [some (vr 167), some (vi a1), some (vi a2), x3] [vi s0] w Q = ((s0 = 0 → T d 200 0 [some (vr 167), some (vi a1), some (vi a2), none, none] [] w (fun r w1 => T (d + 1) 78 24 [some (vr 167), some (vi a1), some (vi a2), some (vi s0)] (r.toList ++ []) w1 Q)) ∧ (¬ (s0 = 0) → Q (some (vi s0)) w)) := by
  rw [T_istore_3 c78_11, T_iload_3 c78_12, T_if_eq 18 c78_13 rfl, T_aload_0 c78_18, T_iload_1 c78_19, T_iload_2 c78_20, T_invv (es := [some (vr 167), some (vi a1), some (vi a2), none, none]) (st := [vi a2, vi a1, vr 167]) (ks := [2, 0, 0]) (n := 5) (c := 12) (k := 167) (as := [vi a1, vi a2]) (rest := []) c78_21 (by decide +kernel) (by decide +kernel) (by decide +kernel) (by decide) rfl rfl (Nat.le_of_ble_eq_true rfl), T_iload_3 c78_16, T_ireti c78_17 (by decide +kernel)]
  all_goals try simp only [Int.reduceToNat, lay_167, true_and, Nat.reduceAdd, eq_self_iff_true]
theorem g78_24 {d : Nat} {x1 x2 x3 : Option aV} {w : aW} {Q : Option aV → aW → Prop} : T d 78 24 [some (vr 167), x1, x2, x3] [] w Q = Q (some (vi (w 167 33))) w := by
  rw [T_aload_0 c78_24, T_getI 12 33 33 c78_25 rfl rfl rfl rfl, T_ireti c78_28 (by decide +kernel)]
  all_goals try simp only [lay_167, true_and, Nat.reduceAdd, eq_self_iff_true]
/-! 79: StringHands.fewest.(III)I -/
theorem c79_0 : cd 79 0 = some (.iload 3, 1) := by decide +kernel
theorem c79_1 : cd 79 1 = some (.ifCond .lt 9, 3) := by decide +kernel
theorem c79_4 : cd 79 4 = some (.iload 3, 1) := by decide +kernel
theorem c79_5 : cd 79 5 = some (.sipush 1, 1) := by decide +kernel
theorem c79_6 : cd 79 6 = some (.if_icmp .le 12, 3) := by decide +kernel
theorem c79_9 : cd 79 9 = some (.sipush (-2), 2) := by decide +kernel
theorem c79_11 : cd 79 11 = some (.ireturn, 1) := by decide +kernel
theorem c79_12 : cd 79 12 = some (.aload 0, 1) := by decide +kernel
theorem c79_13 : cd 79 13 = some (.iload 1, 1) := by decide +kernel
theorem c79_14 : cd 79 14 = some (.iload 2, 1) := by decide +kernel
theorem c79_15 : cd 79 15 = some (.invokevirtual 198, 3) := by decide +kernel
theorem c79_18 : cd 79 18 = some (.istore 4, 2) := by decide +kernel
theorem c79_20 : cd 79 20 = some (.iload 4, 2) := by decide +kernel
theorem c79_22 : cd 79 22 = some (.ifCond .eq 28, 3) := by decide +kernel
theorem c79_25 : cd 79 25 = some (.iload 4, 2) := by decide +kernel
theorem c79_27 : cd 79 27 = some (.ireturn, 1) := by decide +kernel
theorem c79_28 : cd 79 28 = some (.aload 0, 1) := by decide +kernel
theorem c79_29 : cd 79 29 = some (.getfield 2846, 3) := by decide +kernel
theorem c79_32 : cd 79 32 = some (.invokevirtual 201, 3) := by decide +kernel
theorem c79_35 : cd 79 35 = some (.istore 5, 2) := by decide +kernel
theorem c79_37 : cd 79 37 = some (.iload 5, 2) := by decide +kernel
theorem c79_39 : cd 79 39 = some (.sipush (-1), 1) := by decide +kernel
theorem c79_40 : cd 79 40 = some (.if_icmp .ne 45, 3) := by decide +kernel
theorem c79_43 : cd 79 43 = some (.sipush (-1), 1) := by decide +kernel
theorem c79_44 : cd 79 44 = some (.ireturn, 1) := by decide +kernel
theorem c79_45 : cd 79 45 = some (.iload 3, 1) := by decide +kernel
theorem c79_46 : cd 79 46 = some (.ifCond .ne 62, 3) := by decide +kernel
theorem c79_49 : cd 79 49 = some (.aload 0, 1) := by decide +kernel
theorem c79_50 : cd 79 50 = some (.getfield 2846, 3) := by decide +kernel
theorem c79_53 : cd 79 53 = some (.getfield 262, 3) := by decide +kernel
theorem c79_56 : cd 79 56 = some (.iload 5, 2) := by decide +kernel
theorem c79_58 : cd 79 58 = some (.iaload, 1) := by decide +kernel
theorem c79_59 : cd 79 59 = some (.goto 72, 3) := by decide +kernel
theorem c79_62 : cd 79 62 = some (.aload 0, 1) := by decide +kernel
theorem c79_63 : cd 79 63 = some (.getfield 2846, 3) := by decide +kernel
theorem c79_66 : cd 79 66 = some (.getfield 266, 3) := by decide +kernel
theorem c79_69 : cd 79 69 = some (.iload 5, 2) := by decide +kernel
theorem c79_71 : cd 79 71 = some (.iaload, 1) := by decide +kernel
theorem c79_72 : cd 79 72 = some (.ireturn, 1) := by decide +kernel
theorem g79_0 {d : Nat} {a1 a2 a3 : Int} {x4 x5 : Option aV} {w : aW} {Q : Option aV → aW → Prop} : T (d + 1) 79 0 [some (vr 0), some (vi a1), some (vi a2), some (vi a3), x4, x5] [] w Q = ((a3 < 0 → T (d + 1) 79 9 [some (vr 0), some (vi a1), some (vi a2), some (vi a3), x4, x5] [] w Q) ∧ (¬ (a3 < 0) → ((a3 ≤ 1 → T d 198 0 [some (vr 0), some (vi a1), some (vi a2), none] [] w (fun r w1 => T (d + 1) 79 18 [some (vr 0), some (vi a1), some (vi a2), some (vi a3), x4, x5] (r.toList ++ []) w1 Q)) ∧ (¬ (a3 ≤ 1) → T (d + 1) 79 9 [some (vr 0), some (vi a1), some (vi a2), some (vi a3), x4, x5] [] w Q)))) := by
  rw [T_iload_3 c79_0, T_if_lt 9 c79_1 rfl, T_iload_3 c79_4, T_sipush c79_5, T_icmp_le 12 c79_6 rfl, T_aload_0 c79_12, T_iload_1 c79_13, T_iload_2 c79_14, T_invv (es := [some (vr 0), some (vi a1), some (vi a2), none]) (st := [vi a2, vi a1, vr 0]) (ks := [2, 0, 0]) (n := 4) (c := 11) (k := 0) (as := [vi a1, vi a2]) (rest := []) c79_15 (by decide +kernel) (by decide +kernel) (by decide +kernel) (by decide) rfl rfl (Nat.le_of_ble_eq_true rfl)]
  all_goals try simp only [Int.reduceToNat, lay_0, true_and, Nat.reduceAdd, eq_self_iff_true]
theorem g79_9 {d : Nat} {x0 x1 x2 x3 x4 x5 : Option aV} {w : aW} {Q : Option aV → aW → Prop} : T d 79 9 [x0, x1, x2, x3, x4, x5] [] w Q = Q (some (vi (-2))) w := by
  rw [T_sipush c79_9, T_ireti c79_11 (by decide +kernel)]
  all_goals try simp only [true_and, Nat.reduceAdd, eq_self_iff_true]
theorem g79_18 {d : Nat} {s0 : Int} {x1 x2 x3 x4 x5 : Option aV} {w : aW} {Q : Option aV → aW → Prop} : T (d + 1) 79 18 [some (vr 0), x1, x2, x3, x4, x5] [vi s0] w Q = ((s0 = 0 → T d 201 0 [some (vr 64), none, none] [] w (fun r w1 => T (d + 1) 79 35 [some (vr 0), x1, x2, x3, some (vi s0), x5] (r.toList ++ []) w1 Q)) ∧ (¬ (s0 = 0) → Q (some (vi s0)) w)) := by
  rw [T_istore_4 c79_18, T_iload_4 c79_20, T_if_eq 28 c79_22 rfl, T_aload_0 c79_28, T_getR 11 7 7 c79_29 rfl rfl rfl rfl, rf_0_7, T_invv (es := [some (vr 64), none, none]) (st := [vr 64]) (ks := [2]) (n := 3) (c := 1) (k := 64) (as := []) (rest := []) c79_32 (by decide +kernel) (by decide +kernel) (by decide +kernel) (by decide) rfl rfl (Nat.le_of_ble_eq_true rfl), T_iload_4 c79_25, T_ireti c79_27 (by decide +kernel)]
  all_goals try simp only [Int.reduceToNat, lay_0, lay_64, true_and, Nat.reduceAdd, eq_self_iff_true]
theorem g79_35 {d : Nat} {a3 s0 : Int} {x1 x2 x4 x5 : Option aV} {w : aW} {Q : Option aV → aW → Prop} : T d 79 35 [some (vr 0), x1, x2, some (vi a3), x4, x5] [vi s0] w Q = ((¬ s0 = (-1) → ((¬ a3 = 0 → ((0 ≤ s0 ∧ s0 < 1024) ∧ T d 79 72 [some (vr 0), x1, x2, some (vi a3), x4, some (vi s0)] [vi (w 66 s0)] w Q)) ∧ (¬ (¬ a3 = 0) → ((0 ≤ s0 ∧ s0 < 1024) ∧ T d 79 72 [some (vr 0), x1, x2, some (vi a3), x4, some (vi s0)] [vi (w 65 s0)] w Q)))) ∧ (¬ (¬ s0 = (-1)) → Q (some (vi (-1))) w)) := by
  rw [T_istore_5 c79_35, T_iload_5 c79_37, T_sipush c79_39, T_icmp_ne 45 c79_40 rfl, T_iload_3 c79_45, T_if_ne 62 c79_46 rfl, T_aload_0 c79_62, T_getR 11 7 7 c79_63 rfl rfl rfl rfl, rf_0_7, T_getR 1 2 2 c79_66 rfl rfl rfl rfl, rf_64_2, T_iload_5 c79_69, T_iald c79_71, T_aload_0 c79_49, T_getR 11 7 7 c79_50 rfl rfl rfl rfl, rf_0_7, T_getR 1 1 1 c79_53 rfl rfl rfl rfl, rf_64_1, T_iload_5 c79_56, T_iald c79_58, T_goto 72 c79_59 rfl, T_sipush c79_43, T_ireti c79_44 (by decide +kernel)]
  all_goals try simp only [Int.reduceToNat, lay_0, lay_64, ld_65, ld_66, true_and, Nat.reduceAdd, eq_self_iff_true]
theorem g79_72 {d : Nat} {s0 : Int} {x0 x1 x2 x3 x4 x5 : Option aV} {w : aW} {Q : Option aV → aW → Prop} : T d 79 72 [x0, x1, x2, x3, x4, x5] [vi s0] w Q = Q (some (vi s0)) w := by
  rw [T_ireti c79_72 (by decide +kernel)]
  all_goals try simp only [true_and, Nat.reduceAdd, eq_self_iff_true]
/-! 80: StringHandsModel.fewest.(III)I -/
theorem c80_0 : cd 80 0 = some (.aload 0, 1) := by decide +kernel
theorem c80_1 : cd 80 1 = some (.sipush 0, 1) := by decide +kernel
theorem c80_2 : cd 80 2 = some (.putfield 3072, 3) := by decide +kernel
theorem c80_5 : cd 80 5 = some (.iload 3, 1) := by decide +kernel
theorem c80_6 : cd 80 6 = some (.i2l, 1) := by decide +kernel
theorem c80_7 : cd 80 7 = some (.bipush 0, 1) := by decide +kernel
theorem c80_8 : cd 80 8 = some (.bipush 1, 1) := by decide +kernel
theorem c80_9 : cd 80 9 = some (.invokestatic 105, 3) := by decide +kernel
theorem c80_12 : cd 80 12 = some (.ifCond .ne 18, 3) := by decide +kernel
theorem c80_15 : cd 80 15 = some (.sipush (-2), 2) := by decide +kernel
theorem c80_17 : cd 80 17 = some (.ireturn, 1) := by decide +kernel
theorem c80_18 : cd 80 18 = some (.aload 0, 1) := by decide +kernel
theorem c80_19 : cd 80 19 = some (.iload 1, 1) := by decide +kernel
theorem c80_20 : cd 80 20 = some (.iload 2, 1) := by decide +kernel
theorem c80_21 : cd 80 21 = some (.invokevirtual 199, 3) := by decide +kernel
theorem c80_24 : cd 80 24 = some (.istore 4, 2) := by decide +kernel
theorem c80_26 : cd 80 26 = some (.iload 4, 2) := by decide +kernel
theorem c80_28 : cd 80 28 = some (.ifCond .eq 34, 3) := by decide +kernel
theorem c80_31 : cd 80 31 = some (.iload 4, 2) := by decide +kernel
theorem c80_33 : cd 80 33 = some (.ireturn, 1) := by decide +kernel
theorem c80_34 : cd 80 34 = some (.aload 0, 1) := by decide +kernel
theorem c80_35 : cd 80 35 = some (.iload 1, 1) := by decide +kernel
theorem c80_36 : cd 80 36 = some (.iload 2, 1) := by decide +kernel
theorem c80_37 : cd 80 37 = some (.invokevirtual 200, 3) := by decide +kernel
theorem c80_40 : cd 80 40 = some (.sipush (-1), 1) := by decide +kernel
theorem c80_41 : cd 80 41 = some (.istore 5, 2) := by decide +kernel
theorem c80_43 : cd 80 43 = some (.sipush 0, 1) := by decide +kernel
theorem c80_44 : cd 80 44 = some (.istore 6, 2) := by decide +kernel
theorem c80_46 : cd 80 46 = some (.iload 6, 2) := by decide +kernel
theorem c80_48 : cd 80 48 = some (.aload 0, 1) := by decide +kernel
theorem c80_49 : cd 80 49 = some (.getfield 3204, 3) := by decide +kernel
theorem c80_52 : cd 80 52 = some (.if_icmp .ge 100, 3) := by decide +kernel
theorem c80_55 : cd 80 55 = some (.iload 5, 2) := by decide +kernel
theorem c80_57 : cd 80 57 = some (.sipush (-1), 1) := by decide +kernel
theorem c80_58 : cd 80 58 = some (.if_icmp .eq 85, 3) := by decide +kernel
theorem c80_61 : cd 80 61 = some (.aload 0, 1) := by decide +kernel
theorem c80_62 : cd 80 62 = some (.getfield 3202, 3) := by decide +kernel
theorem c80_65 : cd 80 65 = some (.iload 6, 2) := by decide +kernel
theorem c80_67 : cd 80 67 = some (.iaload, 1) := by decide +kernel
theorem c80_68 : cd 80 68 = some (.sipush 16, 2) := by decide +kernel
theorem c80_70 : cd 80 70 = some (.idiv, 1) := by decide +kernel
theorem c80_71 : cd 80 71 = some (.invokestatic 134, 3) := by decide +kernel
theorem c80_74 : cd 80 74 = some (.iload 5, 2) := by decide +kernel
theorem c80_76 : cd 80 76 = some (.sipush 16, 2) := by decide +kernel
theorem c80_78 : cd 80 78 = some (.idiv, 1) := by decide +kernel
theorem c80_79 : cd 80 79 = some (.invokestatic 134, 3) := by decide +kernel
theorem c80_82 : cd 80 82 = some (.if_icmp .ge 94, 3) := by decide +kernel
theorem c80_85 : cd 80 85 = some (.aload 0, 1) := by decide +kernel
theorem c80_86 : cd 80 86 = some (.getfield 3202, 3) := by decide +kernel
theorem c80_89 : cd 80 89 = some (.iload 6, 2) := by decide +kernel
theorem c80_91 : cd 80 91 = some (.iaload, 1) := by decide +kernel
theorem c80_92 : cd 80 92 = some (.istore 5, 2) := by decide +kernel
theorem c80_94 : cd 80 94 = some (.iinc 6 1, 3) := by decide +kernel
theorem c80_97 : cd 80 97 = some (.goto 46, 3) := by decide +kernel
theorem c80_100 : cd 80 100 = some (.iload 5, 2) := by decide +kernel
theorem c80_102 : cd 80 102 = some (.sipush (-1), 1) := by decide +kernel
theorem c80_103 : cd 80 103 = some (.if_icmp .ne 110, 3) := by decide +kernel
theorem c80_106 : cd 80 106 = some (.sipush (-1), 1) := by decide +kernel
theorem c80_107 : cd 80 107 = some (.goto 127, 3) := by decide +kernel
theorem c80_110 : cd 80 110 = some (.iload 3, 1) := by decide +kernel
theorem c80_111 : cd 80 111 = some (.ifCond .ne 122, 3) := by decide +kernel
theorem c80_114 : cd 80 114 = some (.iload 5, 2) := by decide +kernel
theorem c80_116 : cd 80 116 = some (.sipush 16, 2) := by decide +kernel
theorem c80_118 : cd 80 118 = some (.idiv, 1) := by decide +kernel
theorem c80_119 : cd 80 119 = some (.goto 127, 3) := by decide +kernel
theorem c80_122 : cd 80 122 = some (.iload 5, 2) := by decide +kernel
theorem c80_124 : cd 80 124 = some (.sipush 16, 2) := by decide +kernel
theorem c80_126 : cd 80 126 = some (.irem, 1) := by decide +kernel
theorem c80_127 : cd 80 127 = some (.ireturn, 1) := by decide +kernel
theorem g80_0 {d : Nat} {a3 : Int} {x1 x2 x4 x5 x6 : Option aV} {w : aW} {Q : Option aV → aW → Prop} : T (d + 1) 80 0 [some (vr 167), x1, x2, some (vi a3), x4, x5, x6] [] w Q = T d 105 0 [some (vl a3), none, some (vl 0), none, some (vl 1), none] [] (iup w 167 0 0) (fun r w1 => T (d + 1) 80 12 [some (vr 167), x1, x2, some (vi a3), x4, x5, x6] (r.toList ++ []) w1 Q) := by
  rw [T_aload_0 c80_0, T_sipush c80_1, T_putI 12 0 0 c80_2 rfl rfl rfl rfl, T_iload_3 c80_5, T_i2l c80_6, T_bipush c80_7, T_bipush c80_8, T_inv (es := [some (vl a3), none, some (vl 0), none, some (vl 1), none]) (st := [vl 1, vl 0, vl a3]) (ks := [1, 1, 1]) (n := 6) (as := [vl a3, vl 0, vl 1]) (rest := []) c80_9 (by decide +kernel) (by decide +kernel) rfl rfl (Nat.le_of_ble_eq_true rfl)]
  all_goals try simp only [lay_167, true_and, Nat.reduceAdd, eq_self_iff_true]
theorem g80_12 {d : Nat} {a1 a2 s0 : Int} {x3 x4 x5 x6 : Option aV} {w : aW} {Q : Option aV → aW → Prop} : T (d + 1) 80 12 [some (vr 167), some (vi a1), some (vi a2), x3, x4, x5, x6] [vi s0] w Q = ((¬ s0 = 0 → T d 199 0 [some (vr 167), some (vi a1), some (vi a2), none] [] w (fun r w1 => T (d + 1) 80 24 [some (vr 167), some (vi a1), some (vi a2), x3, x4, x5, x6] (r.toList ++ []) w1 Q)) ∧ (¬ (¬ s0 = 0) → Q (some (vi (-2))) w)) := by
  rw [T_if_ne 18 c80_12 rfl, T_aload_0 c80_18, T_iload_1 c80_19, T_iload_2 c80_20, T_invv (es := [some (vr 167), some (vi a1), some (vi a2), none]) (st := [vi a2, vi a1, vr 167]) (ks := [2, 0, 0]) (n := 4) (c := 12) (k := 167) (as := [vi a1, vi a2]) (rest := []) c80_21 (by decide +kernel) (by decide +kernel) (by decide +kernel) (by decide) rfl rfl (Nat.le_of_ble_eq_true rfl), T_sipush c80_15, T_ireti c80_17 (by decide +kernel)]
  all_goals try simp only [Int.reduceToNat, lay_167, true_and, Nat.reduceAdd, eq_self_iff_true]
theorem g80_24 {d : Nat} {a1 a2 s0 : Int} {x3 x4 x5 x6 : Option aV} {w : aW} {Q : Option aV → aW → Prop} : T (d + 1) 80 24 [some (vr 167), some (vi a1), some (vi a2), x3, x4, x5, x6] [vi s0] w Q = ((s0 = 0 → T d 200 0 [some (vr 167), some (vi a1), some (vi a2), none, none] [] w (fun r w1 => T (d + 1) 80 40 [some (vr 167), some (vi a1), some (vi a2), x3, some (vi s0), x5, x6] (r.toList ++ []) w1 Q)) ∧ (¬ (s0 = 0) → Q (some (vi s0)) w)) := by
  rw [T_istore_4 c80_24, T_iload_4 c80_26, T_if_eq 34 c80_28 rfl, T_aload_0 c80_34, T_iload_1 c80_35, T_iload_2 c80_36, T_invv (es := [some (vr 167), some (vi a1), some (vi a2), none, none]) (st := [vi a2, vi a1, vr 167]) (ks := [2, 0, 0]) (n := 5) (c := 12) (k := 167) (as := [vi a1, vi a2]) (rest := []) c80_37 (by decide +kernel) (by decide +kernel) (by decide +kernel) (by decide) rfl rfl (Nat.le_of_ble_eq_true rfl), T_iload_4 c80_31, T_ireti c80_33 (by decide +kernel)]
  all_goals try simp only [Int.reduceToNat, lay_167, true_and, Nat.reduceAdd, eq_self_iff_true]
theorem g80_40 {d : Nat} {x0 x1 x2 x3 x4 x5 x6 : Option aV} {w : aW} {Q : Option aV → aW → Prop} : T d 80 40 [x0, x1, x2, x3, x4, x5, x6] [] w Q = T d 80 46 [x0, x1, x2, x3, x4, some (vi (-1)), some (vi 0)] [] w Q := by
  rw [T_sipush c80_40, T_istore_5 c80_41, T_sipush c80_43, T_istore_6 c80_44]
  all_goals try simp only [true_and, Nat.reduceAdd, eq_self_iff_true]
theorem g80_46 {d : Nat} {a3 a5 a6 : Int} {x1 x2 x4 : Option aV} {w : aW} {Q : Option aV → aW → Prop} : T (d + 1) 80 46 [some (vr 167), x1, x2, some (vi a3), x4, some (vi a5), some (vi a6)] [] w Q = ((w 167 33 ≤ a6 → ((¬ a5 = (-1) → ((¬ a3 = 0 → T (d + 1) 80 127 [some (vr 167), x1, x2, some (vi a3), x4, some (vi a5), some (vi a6)] [vi (jrem a5 16)] w Q) ∧ (¬ (¬ a3 = 0) → T (d + 1) 80 127 [some (vr 167), x1, x2, some (vi a3), x4, some (vi a5), some (vi a6)] [vi (jdiv a5 16)] w Q))) ∧ (¬ (¬ a5 = (-1)) → T (d + 1) 80 127 [some (vr 167), x1, x2, some (vi a3), x4, some (vi a5), some (vi a6)] [vi (-1)] w Q))) ∧ (¬ (w 167 33 ≤ a6) → ((a5 = (-1) → T (d + 1) 80 85 [some (vr 167), x1, x2, some (vi a3), x4, some (vi a5), some (vi a6)] [] w Q) ∧ (¬ (a5 = (-1)) → ((0 ≤ a6 ∧ a6 < 2400) ∧ T d 134 0 [some (vi (jdiv (w 187 a6) 16)), none, none] [] w (fun r w1 => T (d + 1) 80 74 [some (vr 167), x1, x2, some (vi a3), x4, some (vi a5), some (vi a6)] (r.toList ++ []) w1 Q)))))) := by
  rw [T_iload_6 c80_46, T_aload_0 c80_48, T_getI 12 33 33 c80_49 rfl rfl rfl rfl, T_icmp_ge 100 c80_52 rfl, T_iload_5 c80_100, T_sipush c80_102, T_icmp_ne 110 c80_103 rfl, T_iload_3 c80_110, T_if_ne 122 c80_111 rfl, T_iload_5 c80_122, T_sipush c80_124, T_irem c80_126, T_iload_5 c80_114, T_sipush c80_116, T_idiv c80_118, T_goto 127 c80_119 rfl, T_sipush c80_106, T_goto 127 c80_107 rfl, T_iload_5 c80_55, T_sipush c80_57, T_icmp_eq 85 c80_58 rfl, T_aload_0 c80_61, T_getR 12 32 32 c80_62 rfl rfl rfl rfl, rf_167_32, T_iload_6 c80_65, T_iald c80_67, T_sipush c80_68, T_idiv c80_70, T_inv (es := [some (vi (jdiv (w 187 a6) 16)), none, none]) (st := [vi (jdiv (w 187 a6) 16)]) (ks := [0]) (n := 3) (as := [vi (jdiv (w 187 a6) 16)]) (rest := []) c80_71 (by decide +kernel) (by decide +kernel) rfl rfl (Nat.le_of_ble_eq_true rfl)]
  all_goals try simp only [Int.reduceEq, Int.reduceToNat, lay_167, ld_187, ne_eq, not_false_eq_true, true_and, Nat.reduceAdd, eq_self_iff_true]
theorem g80_74 {d : Nat} {a5 s0 : Int} {x0 x1 x2 x3 x4 x6 : Option aV} {w : aW} {Q : Option aV → aW → Prop} : T (d + 1) 80 74 [x0, x1, x2, x3, x4, some (vi a5), x6] [vi s0] w Q = T d 134 0 [some (vi (jdiv a5 16)), none, none] [] w (fun r w1 => T (d + 1) 80 82 [x0, x1, x2, x3, x4, some (vi a5), x6] (r.toList ++ [vi s0]) w1 Q) := by
  rw [T_iload_5 c80_74, T_sipush c80_76, T_idiv c80_78, T_inv (es := [some (vi (jdiv a5 16)), none, none]) (st := [vi (jdiv a5 16), vi s0]) (ks := [0]) (n := 3) (as := [vi (jdiv a5 16)]) (rest := [vi s0]) c80_79 (by decide +kernel) (by decide +kernel) rfl rfl (Nat.le_of_ble_eq_true rfl)]
  all_goals try simp only [Int.reduceEq, ne_eq, not_false_eq_true, true_and, Nat.reduceAdd, eq_self_iff_true]
theorem g80_82 {d : Nat} {s0 s1 : Int} {x0 x1 x2 x3 x4 x5 x6 : Option aV} {w : aW} {Q : Option aV → aW → Prop} : T d 80 82 [x0, x1, x2, x3, x4, x5, x6] [vi s1, vi s0] w Q = ((s1 ≤ s0 → T d 80 94 [x0, x1, x2, x3, x4, x5, x6] [] w Q) ∧ (¬ (s1 ≤ s0) → T d 80 85 [x0, x1, x2, x3, x4, x5, x6] [] w Q)) := by
  rw [T_icmp_ge 94 c80_82 rfl]
  all_goals try simp only [Int.reduceToNat, true_and, Nat.reduceAdd, eq_self_iff_true]
theorem g80_85 {d : Nat} {a6 : Int} {x1 x2 x3 x4 x5 : Option aV} {w : aW} {Q : Option aV → aW → Prop} : T d 80 85 [some (vr 167), x1, x2, x3, x4, x5, some (vi a6)] [] w Q = ((0 ≤ a6 ∧ a6 < 2400) ∧ T d 80 94 [some (vr 167), x1, x2, x3, x4, some (vi (w 187 a6)), some (vi a6)] [] w Q) := by
  rw [T_aload_0 c80_85, T_getR 12 32 32 c80_86 rfl rfl rfl rfl, rf_167_32, T_iload_6 c80_89, T_iald c80_91, T_istore_5 c80_92]
  all_goals try simp only [lay_167, ld_187, true_and, Nat.reduceAdd, eq_self_iff_true]
theorem g80_94 {d : Nat} {a6 : Int} {x0 x1 x2 x3 x4 x5 : Option aV} {w : aW} {Q : Option aV → aW → Prop} : T d 80 94 [x0, x1, x2, x3, x4, x5, some (vi a6)] [] w Q = T d 80 46 [x0, x1, x2, x3, x4, x5, some (vi (w32 (a6 + 1)))] [] w Q := by
  rw [T_iinc_6 c80_94, T_goto 46 c80_97 rfl]
  all_goals try simp only [true_and, Nat.reduceAdd, eq_self_iff_true]
theorem g80_127 {d : Nat} {s0 : Int} {x0 x1 x2 x3 x4 x5 x6 : Option aV} {w : aW} {Q : Option aV → aW → Prop} : T d 80 127 [x0, x1, x2, x3, x4, x5, x6] [vi s0] w Q = Q (some (vi s0)) w := by
  rw [T_ireti c80_127 (by decide +kernel)]
  all_goals try simp only [true_and, Nat.reduceAdd, eq_self_iff_true]
/-! 81: StringHands.sure.(II)I -/
theorem c81_0 : cd 81 0 = some (.aload 0, 1) := by decide +kernel
theorem c81_1 : cd 81 1 = some (.iload 1, 1) := by decide +kernel
theorem c81_2 : cd 81 2 = some (.iload 2, 1) := by decide +kernel
theorem c81_3 : cd 81 3 = some (.invokevirtual 198, 3) := by decide +kernel
theorem c81_6 : cd 81 6 = some (.istore 3, 1) := by decide +kernel
theorem c81_7 : cd 81 7 = some (.iload 3, 1) := by decide +kernel
theorem c81_8 : cd 81 8 = some (.ifCond .eq 13, 3) := by decide +kernel
theorem c81_11 : cd 81 11 = some (.iload 3, 1) := by decide +kernel
theorem c81_12 : cd 81 12 = some (.ireturn, 1) := by decide +kernel
theorem c81_13 : cd 81 13 = some (.aload 0, 1) := by decide +kernel
theorem c81_14 : cd 81 14 = some (.getfield 2846, 3) := by decide +kernel
theorem c81_17 : cd 81 17 = some (.getfield 256, 3) := by decide +kernel
theorem c81_20 : cd 81 20 = some (.ifCond .ne 27, 3) := by decide +kernel
theorem c81_23 : cd 81 23 = some (.sipush (-1), 1) := by decide +kernel
theorem c81_24 : cd 81 24 = some (.goto 34, 3) := by decide +kernel
theorem c81_27 : cd 81 27 = some (.aload 0, 1) := by decide +kernel
theorem c81_28 : cd 81 28 = some (.getfield 2846, 3) := by decide +kernel
theorem c81_31 : cd 81 31 = some (.invokevirtual 202, 3) := by decide +kernel
theorem c81_34 : cd 81 34 = some (.ireturn, 1) := by decide +kernel
theorem g81_0 {d : Nat} {a1 a2 : Int} {x3 : Option aV} {w : aW} {Q : Option aV → aW → Prop} : T (d + 1) 81 0 [some (vr 0), some (vi a1), some (vi a2), x3] [] w Q = T d 198 0 [some (vr 0), some (vi a1), some (vi a2), none] [] w (fun r w1 => T (d + 1) 81 6 [some (vr 0), some (vi a1), some (vi a2), x3] (r.toList ++ []) w1 Q) := by
  rw [T_aload_0 c81_0, T_iload_1 c81_1, T_iload_2 c81_2, T_invv (es := [some (vr 0), some (vi a1), some (vi a2), none]) (st := [vi a2, vi a1, vr 0]) (ks := [2, 0, 0]) (n := 4) (c := 11) (k := 0) (as := [vi a1, vi a2]) (rest := []) c81_3 (by decide +kernel) (by decide +kernel) (by decide +kernel) (by decide) rfl rfl (Nat.le_of_ble_eq_true rfl)]
  all_goals try simp only [lay_0, true_and, Nat.reduceAdd, eq_self_iff_true]
theorem g81_6 {d : Nat} {s0 : Int} {x1 x2 x3 : Option aV} {w : aW} {Q : Option aV → aW → Prop} : T (d + 1) 81 6 [some (vr 0), x1, x2, x3] [vi s0] w Q = ((s0 = 0 → ((¬ w 64 0 = 0 → T d 202 0 [some (vr 64), none, none] [] w (fun r w1 => T (d + 1) 81 34 [some (vr 0), x1, x2, some (vi s0)] (r.toList ++ []) w1 Q)) ∧ (¬ (¬ w 64 0 = 0) → T (d + 1) 81 34 [some (vr 0), x1, x2, some (vi s0)] [vi (-1)] w Q))) ∧ (¬ (s0 = 0) → Q (some (vi s0)) w)) := by
  rw [T_istore_3 c81_6, T_iload_3 c81_7, T_if_eq 13 c81_8 rfl, T_aload_0 c81_13, T_getR 11 7 7 c81_14 rfl rfl rfl rfl, rf_0_7, T_getI 1 0 0 c81_17 rfl rfl rfl rfl, T_if_ne 27 c81_20 rfl, T_aload_0 c81_27, T_getR 11 7 7 c81_28 rfl rfl rfl rfl, rf_0_7, T_invv (es := [some (vr 64), none, none]) (st := [vr 64]) (ks := [2]) (n := 3) (c := 1) (k := 64) (as := []) (rest := []) c81_31 (by decide +kernel) (by decide +kernel) (by decide +kernel) (by decide) rfl rfl (Nat.le_of_ble_eq_true rfl), T_sipush c81_23, T_goto 34 c81_24 rfl, T_iload_3 c81_11, T_ireti c81_12 (by decide +kernel)]
  all_goals try simp only [Int.reduceToNat, lay_0, lay_64, true_and, Nat.reduceAdd, eq_self_iff_true]
theorem g81_34 {d : Nat} {s0 : Int} {x0 x1 x2 x3 : Option aV} {w : aW} {Q : Option aV → aW → Prop} : T d 81 34 [x0, x1, x2, x3] [vi s0] w Q = Q (some (vi s0)) w := by
  rw [T_ireti c81_34 (by decide +kernel)]
  all_goals try simp only [true_and, Nat.reduceAdd, eq_self_iff_true]
/-! 82: StringHandsModel.sure.(II)I -/
theorem c82_0 : cd 82 0 = some (.aload 0, 1) := by decide +kernel
theorem c82_1 : cd 82 1 = some (.sipush 0, 1) := by decide +kernel
theorem c82_2 : cd 82 2 = some (.putfield 3072, 3) := by decide +kernel
theorem c82_5 : cd 82 5 = some (.aload 0, 1) := by decide +kernel
theorem c82_6 : cd 82 6 = some (.iload 1, 1) := by decide +kernel
theorem c82_7 : cd 82 7 = some (.iload 2, 1) := by decide +kernel
theorem c82_8 : cd 82 8 = some (.invokevirtual 199, 3) := by decide +kernel
theorem c82_11 : cd 82 11 = some (.istore 3, 1) := by decide +kernel
theorem c82_12 : cd 82 12 = some (.iload 3, 1) := by decide +kernel
theorem c82_13 : cd 82 13 = some (.ifCond .eq 18, 3) := by decide +kernel
theorem c82_16 : cd 82 16 = some (.iload 3, 1) := by decide +kernel
theorem c82_17 : cd 82 17 = some (.ireturn, 1) := by decide +kernel
theorem c82_18 : cd 82 18 = some (.aload 0, 1) := by decide +kernel
theorem c82_19 : cd 82 19 = some (.iload 1, 1) := by decide +kernel
theorem c82_20 : cd 82 20 = some (.iload 2, 1) := by decide +kernel
theorem c82_21 : cd 82 21 = some (.invokevirtual 200, 3) := by decide +kernel
theorem c82_24 : cd 82 24 = some (.aload 0, 1) := by decide +kernel
theorem c82_25 : cd 82 25 = some (.getfield 3204, 3) := by decide +kernel
theorem c82_28 : cd 82 28 = some (.ifCond .ne 33, 3) := by decide +kernel
theorem c82_31 : cd 82 31 = some (.sipush (-1), 1) := by decide +kernel
theorem c82_32 : cd 82 32 = some (.ireturn, 1) := by decide +kernel
theorem c82_33 : cd 82 33 = some (.aload 0, 1) := by decide +kernel
theorem c82_34 : cd 82 34 = some (.invokevirtual 164, 3) := by decide +kernel
theorem c82_37 : cd 82 37 = some (.sipush 1, 1) := by decide +kernel
theorem c82_38 : cd 82 38 = some (.isub, 1) := by decide +kernel
theorem c82_39 : cd 82 39 = some (.istore 4, 2) := by decide +kernel
theorem c82_41 : cd 82 41 = some (.sipush 0, 1) := by decide +kernel
theorem c82_42 : cd 82 42 = some (.istore 5, 2) := by decide +kernel
theorem c82_44 : cd 82 44 = some (.iload 5, 2) := by decide +kernel
theorem c82_46 : cd 82 46 = some (.aload 0, 1) := by decide +kernel
theorem c82_47 : cd 82 47 = some (.getfield 3204, 3) := by decide +kernel
theorem c82_50 : cd 82 50 = some (.if_icmp .ge 74, 3) := by decide +kernel
theorem c82_53 : cd 82 53 = some (.iload 4, 2) := by decide +kernel
theorem c82_55 : cd 82 55 = some (.aload 0, 1) := by decide +kernel
theorem c82_56 : cd 82 56 = some (.getfield 3202, 3) := by decide +kernel
theorem c82_59 : cd 82 59 = some (.iload 5, 2) := by decide +kernel
theorem c82_61 : cd 82 61 = some (.iaload, 1) := by decide +kernel
theorem c82_62 : cd 82 62 = some (.sipush 16, 2) := by decide +kernel
theorem c82_64 : cd 82 64 = some (.idiv, 1) := by decide +kernel
theorem c82_65 : cd 82 65 = some (.iand, 1) := by decide +kernel
theorem c82_66 : cd 82 66 = some (.istore 4, 2) := by decide +kernel
theorem c82_68 : cd 82 68 = some (.iinc 5 1, 3) := by decide +kernel
theorem c82_71 : cd 82 71 = some (.goto 44, 3) := by decide +kernel
theorem c82_74 : cd 82 74 = some (.iload 4, 2) := by decide +kernel
theorem c82_76 : cd 82 76 = some (.ireturn, 1) := by decide +kernel
theorem g82_0 {d : Nat} {a1 a2 : Int} {x3 x4 x5 : Option aV} {w : aW} {Q : Option aV → aW → Prop} : T (d + 1) 82 0 [some (vr 167), some (vi a1), some (vi a2), x3, x4, x5] [] w Q = T d 199 0 [some (vr 167), some (vi a1), some (vi a2), none] [] (iup w 167 0 0) (fun r w1 => T (d + 1) 82 11 [some (vr 167), some (vi a1), some (vi a2), x3, x4, x5] (r.toList ++ []) w1 Q) := by
  rw [T_aload_0 c82_0, T_sipush c82_1, T_putI 12 0 0 c82_2 rfl rfl rfl rfl, T_aload_0 c82_5, T_iload_1 c82_6, T_iload_2 c82_7, T_invv (es := [some (vr 167), some (vi a1), some (vi a2), none]) (st := [vi a2, vi a1, vr 167]) (ks := [2, 0, 0]) (n := 4) (c := 12) (k := 167) (as := [vi a1, vi a2]) (rest := []) c82_8 (by decide +kernel) (by decide +kernel) (by decide +kernel) (by decide) rfl rfl (Nat.le_of_ble_eq_true rfl)]
  all_goals try simp only [lay_167, true_and, Nat.reduceAdd, eq_self_iff_true]
theorem g82_11 {d : Nat} {a1 a2 s0 : Int} {x3 x4 x5 : Option aV} {w : aW} {Q : Option aV → aW → Prop} : T (d + 1) 82 11 [some (vr 167), some (vi a1), some (vi a2), x3, x4, x5] [vi s0] w Q = ((s0 = 0 → T d 200 0 [some (vr 167), some (vi a1), some (vi a2), none, none] [] w (fun r w1 => T (d + 1) 82 24 [some (vr 167), some (vi a1), some (vi a2), some (vi s0), x4, x5] (r.toList ++ []) w1 Q)) ∧ (¬ (s0 = 0) → Q (some (vi s0)) w)) := by
  rw [T_istore_3 c82_11, T_iload_3 c82_12, T_if_eq 18 c82_13 rfl, T_aload_0 c82_18, T_iload_1 c82_19, T_iload_2 c82_20, T_invv (es := [some (vr 167), some (vi a1), some (vi a2), none, none]) (st := [vi a2, vi a1, vr 167]) (ks := [2, 0, 0]) (n := 5) (c := 12) (k := 167) (as := [vi a1, vi a2]) (rest := []) c82_21 (by decide +kernel) (by decide +kernel) (by decide +kernel) (by decide) rfl rfl (Nat.le_of_ble_eq_true rfl), T_iload_3 c82_16, T_ireti c82_17 (by decide +kernel)]
  all_goals try simp only [Int.reduceToNat, lay_167, true_and, Nat.reduceAdd, eq_self_iff_true]
theorem g82_24 {d : Nat} {x1 x2 x3 x4 x5 : Option aV} {w : aW} {Q : Option aV → aW → Prop} : T (d + 1) 82 24 [some (vr 167), x1, x2, x3, x4, x5] [] w Q = ((¬ w 167 33 = 0 → T d 164 0 [some (vr 167)] [] w (fun r w1 => T (d + 1) 82 37 [some (vr 167), x1, x2, x3, x4, x5] (r.toList ++ []) w1 Q)) ∧ (¬ (¬ w 167 33 = 0) → Q (some (vi (-1))) w)) := by
  rw [T_aload_0 c82_24, T_getI 12 33 33 c82_25 rfl rfl rfl rfl, T_if_ne 33 c82_28 rfl, T_aload_0 c82_33, T_invv (es := [some (vr 167)]) (st := [vr 167]) (ks := [2]) (n := 1) (c := 12) (k := 167) (as := []) (rest := []) c82_34 (by decide +kernel) (by decide +kernel) (by decide +kernel) (by decide) rfl rfl (Nat.le_of_ble_eq_true rfl), T_sipush c82_31, T_ireti c82_32 (by decide +kernel)]
  all_goals try simp only [Int.reduceToNat, lay_167, true_and, Nat.reduceAdd, eq_self_iff_true]
theorem g82_37 {d : Nat} {s0 : Int} {x0 x1 x2 x3 x4 x5 : Option aV} {w : aW} {Q : Option aV → aW → Prop} : T d 82 37 [x0, x1, x2, x3, x4, x5] [vi s0] w Q = T d 82 44 [x0, x1, x2, x3, some (vi (w32 (s0 - 1))), some (vi 0)] [] w Q := by
  rw [T_sipush c82_37, T_isub c82_38, T_istore_4 c82_39, T_sipush c82_41, T_istore_5 c82_42]
  all_goals try simp only [true_and, Nat.reduceAdd, eq_self_iff_true]
theorem g82_44 {d : Nat} {a4 a5 : Int} {x1 x2 x3 : Option aV} {w : aW} {Q : Option aV → aW → Prop} : T d 82 44 [some (vr 167), x1, x2, x3, some (vi a4), some (vi a5)] [] w Q = ((w 167 33 ≤ a5 → Q (some (vi a4)) w) ∧ (¬ (w 167 33 ≤ a5) → ((0 ≤ a5 ∧ a5 < 2400) ∧ T d 82 44 [some (vr 167), x1, x2, x3, some (vi (jand a4 (jdiv (w 187 a5) 16))), some (vi (w32 (a5 + 1)))] [] w Q))) := by
  rw [T_iload_5 c82_44, T_aload_0 c82_46, T_getI 12 33 33 c82_47 rfl rfl rfl rfl, T_icmp_ge 74 c82_50 rfl, T_iload_4 c82_74, T_ireti c82_76 (by decide +kernel), T_iload_4 c82_53, T_aload_0 c82_55, T_getR 12 32 32 c82_56 rfl rfl rfl rfl, rf_167_32, T_iload_5 c82_59, T_iald c82_61, T_sipush c82_62, T_idiv c82_64, T_iand c82_65, T_istore_4 c82_66, T_iinc_5 c82_68, T_goto 44 c82_71 rfl]
  all_goals try simp only [Int.reduceEq, Int.reduceToNat, lay_167, ld_187, ne_eq, not_false_eq_true, true_and, Nat.reduceAdd, eq_self_iff_true]
/-! 83: StringHands.telling.(II)I -/
theorem c83_0 : cd 83 0 = some (.aload 0, 1) := by decide +kernel
theorem c83_1 : cd 83 1 = some (.iload 1, 1) := by decide +kernel
theorem c83_2 : cd 83 2 = some (.iload 2, 1) := by decide +kernel
theorem c83_3 : cd 83 3 = some (.invokevirtual 198, 3) := by decide +kernel
theorem c83_6 : cd 83 6 = some (.istore 3, 1) := by decide +kernel
theorem c83_7 : cd 83 7 = some (.iload 3, 1) := by decide +kernel
theorem c83_8 : cd 83 8 = some (.ifCond .eq 13, 3) := by decide +kernel
theorem c83_11 : cd 83 11 = some (.iload 3, 1) := by decide +kernel
theorem c83_12 : cd 83 12 = some (.ireturn, 1) := by decide +kernel
theorem c83_13 : cd 83 13 = some (.aload 0, 1) := by decide +kernel
theorem c83_14 : cd 83 14 = some (.getfield 2846, 3) := by decide +kernel
theorem c83_17 : cd 83 17 = some (.getfield 256, 3) := by decide +kernel
theorem c83_20 : cd 83 20 = some (.sipush 2, 1) := by decide +kernel
theorem c83_21 : cd 83 21 = some (.if_icmp .ge 28, 3) := by decide +kernel
theorem c83_24 : cd 83 24 = some (.sipush (-1), 1) := by decide +kernel
theorem c83_25 : cd 83 25 = some (.goto 45, 3) := by decide +kernel
theorem c83_28 : cd 83 28 = some (.aload 0, 1) := by decide +kernel
theorem c83_29 : cd 83 29 = some (.getfield 2846, 3) := by decide +kernel
theorem c83_32 : cd 83 32 = some (.aload 0, 1) := by decide +kernel
theorem c83_33 : cd 83 33 = some (.getfield 2850, 3) := by decide +kernel
theorem c83_36 : cd 83 36 = some (.invokevirtual 190, 3) := by decide +kernel
theorem c83_39 : cd 83 39 = some (.sipush 1, 1) := by decide +kernel
theorem c83_40 : cd 83 40 = some (.iload 2, 1) := by decide +kernel
theorem c83_41 : cd 83 41 = some (.ishl, 1) := by decide +kernel
theorem c83_42 : cd 83 42 = some (.invokevirtual 203, 3) := by decide +kernel
theorem c83_45 : cd 83 45 = some (.ireturn, 1) := by decide +kernel
theorem g83_0 {d : Nat} {a1 a2 : Int} {x3 : Option aV} {w : aW} {Q : Option aV → aW → Prop} : T (d + 1) 83 0 [some (vr 0), some (vi a1), some (vi a2), x3] [] w Q = T d 198 0 [some (vr 0), some (vi a1), some (vi a2), none] [] w (fun r w1 => T (d + 1) 83 6 [some (vr 0), some (vi a1), some (vi a2), x3] (r.toList ++ []) w1 Q) := by
  rw [T_aload_0 c83_0, T_iload_1 c83_1, T_iload_2 c83_2, T_invv (es := [some (vr 0), some (vi a1), some (vi a2), none]) (st := [vi a2, vi a1, vr 0]) (ks := [2, 0, 0]) (n := 4) (c := 11) (k := 0) (as := [vi a1, vi a2]) (rest := []) c83_3 (by decide +kernel) (by decide +kernel) (by decide +kernel) (by decide) rfl rfl (Nat.le_of_ble_eq_true rfl)]
  all_goals try simp only [lay_0, true_and, Nat.reduceAdd, eq_self_iff_true]
theorem g83_6 {d : Nat} {s0 : Int} {x1 x2 x3 : Option aV} {w : aW} {Q : Option aV → aW → Prop} : T (d + 1) 83 6 [some (vr 0), x1, x2, x3] [vi s0] w Q = ((s0 = 0 → ((2 ≤ w 64 0 → T d 190 0 [some (vr 69)] [] w (fun r w1 => T (d + 1) 83 39 [some (vr 0), x1, x2, some (vi s0)] (r.toList ++ [vr 64]) w1 Q)) ∧ (¬ (2 ≤ w 64 0) → T (d + 1) 83 45 [some (vr 0), x1, x2, some (vi s0)] [vi (-1)] w Q))) ∧ (¬ (s0 = 0) → Q (some (vi s0)) w)) := by
  rw [T_istore_3 c83_6, T_iload_3 c83_7, T_if_eq 13 c83_8 rfl, T_aload_0 c83_13, T_getR 11 7 7 c83_14 rfl rfl rfl rfl, rf_0_7, T_getI 1 0 0 c83_17 rfl rfl rfl rfl, T_sipush c83_20, T_icmp_ge 28 c83_21 rfl, T_aload_0 c83_28, T_getR 11 7 7 c83_29 rfl rfl rfl rfl, rf_0_7, T_aload_0 c83_32, T_getR 11 8 8 c83_33 rfl rfl rfl rfl, rf_0_8, T_invv (es := [some (vr 69)]) (st := [vr 69, vr 64]) (ks := [2]) (n := 1) (c := 8) (k := 69) (as := []) (rest := [vr 64]) c83_36 (by decide +kernel) (by decide +kernel) (by decide +kernel) (by decide) rfl rfl (Nat.le_of_ble_eq_true rfl), T_sipush c83_24, T_goto 45 c83_25 rfl, T_iload_3 c83_11, T_ireti c83_12 (by decide +kernel)]
  all_goals try simp only [Int.reduceToNat, lay_0, lay_64, lay_69, true_and, Nat.reduceAdd, eq_self_iff_true]
theorem g83_39 {d : Nat} {a2 s1 : Int} {s0 : Nat} {x0 x1 x3 : Option aV} {w : aW} {Q : Option aV → aW → Prop} : T (d + 1) 83 39 [x0, x1, some (vi a2), x3] [vi s1, vr s0] w Q = (lay s0 = (1, 0) ∧ T d 203 0 [some (vr s0), some (vi s1), some (vi (jshl 1 a2)), none, none, none, none, none] [] w (fun r w1 => T (d + 1) 83 45 [x0, x1, some (vi a2), x3] (r.toList ++ []) w1 Q)) := by
  rw [T_sipush c83_39, T_iload_2 c83_40, T_ishl c83_41, T_invv (es := [some (vr s0), some (vi s1), some (vi (jshl 1 a2)), none, none, none, none, none]) (st := [vi (jshl 1 a2), vi s1, vr s0]) (ks := [2, 0, 0]) (n := 8) (c := 1) (k := s0) (as := [vi s1, vi (jshl 1 a2)]) (rest := []) c83_42 (by decide +kernel) (by decide +kernel) (by decide +kernel) (by decide) rfl rfl (Nat.le_of_ble_eq_true rfl)]
  all_goals try simp only [true_and, Nat.reduceAdd, eq_self_iff_true]
theorem g83_45 {d : Nat} {s0 : Int} {x0 x1 x2 x3 : Option aV} {w : aW} {Q : Option aV → aW → Prop} : T d 83 45 [x0, x1, x2, x3] [vi s0] w Q = Q (some (vi s0)) w := by
  rw [T_ireti c83_45 (by decide +kernel)]
  all_goals try simp only [true_and, Nat.reduceAdd, eq_self_iff_true]
/-! 84: StringHandsModel.telling.(II)I -/
theorem c84_0 : cd 84 0 = some (.aload 0, 1) := by decide +kernel
theorem c84_1 : cd 84 1 = some (.sipush 0, 1) := by decide +kernel
theorem c84_2 : cd 84 2 = some (.putfield 3072, 3) := by decide +kernel
theorem c84_5 : cd 84 5 = some (.aload 0, 1) := by decide +kernel
theorem c84_6 : cd 84 6 = some (.iload 1, 1) := by decide +kernel
theorem c84_7 : cd 84 7 = some (.iload 2, 1) := by decide +kernel
theorem c84_8 : cd 84 8 = some (.invokevirtual 199, 3) := by decide +kernel
theorem c84_11 : cd 84 11 = some (.istore 3, 1) := by decide +kernel
theorem c84_12 : cd 84 12 = some (.iload 3, 1) := by decide +kernel
theorem c84_13 : cd 84 13 = some (.ifCond .eq 18, 3) := by decide +kernel
theorem c84_16 : cd 84 16 = some (.iload 3, 1) := by decide +kernel
theorem c84_17 : cd 84 17 = some (.ireturn, 1) := by decide +kernel
theorem c84_18 : cd 84 18 = some (.aload 0, 1) := by decide +kernel
theorem c84_19 : cd 84 19 = some (.iload 1, 1) := by decide +kernel
theorem c84_20 : cd 84 20 = some (.iload 2, 1) := by decide +kernel
theorem c84_21 : cd 84 21 = some (.invokevirtual 200, 3) := by decide +kernel
theorem c84_24 : cd 84 24 = some (.aload 0, 1) := by decide +kernel
theorem c84_25 : cd 84 25 = some (.getfield 3204, 3) := by decide +kernel
theorem c84_28 : cd 84 28 = some (.sipush 2, 1) := by decide +kernel
theorem c84_29 : cd 84 29 = some (.if_icmp .ge 34, 3) := by decide +kernel
theorem c84_32 : cd 84 32 = some (.sipush (-1), 1) := by decide +kernel
theorem c84_33 : cd 84 33 = some (.ireturn, 1) := by decide +kernel
theorem c84_34 : cd 84 34 = some (.sipush (-1), 1) := by decide +kernel
theorem c84_35 : cd 84 35 = some (.istore 4, 2) := by decide +kernel
theorem c84_37 : cd 84 37 = some (.sipush 9999, 3) := by decide +kernel
theorem c84_40 : cd 84 40 = some (.istore 5, 2) := by decide +kernel
theorem c84_42 : cd 84 42 = some (.sipush 0, 1) := by decide +kernel
theorem c84_43 : cd 84 43 = some (.istore 6, 2) := by decide +kernel
theorem c84_45 : cd 84 45 = some (.iload 6, 2) := by decide +kernel
theorem c84_47 : cd 84 47 = some (.aload 0, 1) := by decide +kernel
theorem c84_48 : cd 84 48 = some (.invokevirtual 164, 3) := by decide +kernel
theorem c84_51 : cd 84 51 = some (.if_icmp .ge 164, 3) := by decide +kernel
theorem c84_54 : cd 84 54 = some (.sipush 0, 1) := by decide +kernel
theorem c84_55 : cd 84 55 = some (.istore 7, 2) := by decide +kernel
theorem c84_57 : cd 84 57 = some (.sipush 0, 1) := by decide +kernel
theorem c84_58 : cd 84 58 = some (.istore 8, 2) := by decide +kernel
theorem c84_60 : cd 84 60 = some (.iload 8, 2) := by decide +kernel
theorem c84_62 : cd 84 62 = some (.aload 0, 1) := by decide +kernel
theorem c84_63 : cd 84 63 = some (.getfield 3204, 3) := by decide +kernel
theorem c84_66 : cd 84 66 = some (.if_icmp .ge 114, 3) := by decide +kernel
theorem c84_69 : cd 84 69 = some (.iload 7, 2) := by decide +kernel
theorem c84_71 : cd 84 71 = some (.iload 6, 2) := by decide +kernel
theorem c84_73 : cd 84 73 = some (.aload 0, 1) := by decide +kernel
theorem c84_74 : cd 84 74 = some (.getfield 3202, 3) := by decide +kernel
theorem c84_77 : cd 84 77 = some (.iload 8, 2) := by decide +kernel
theorem c84_79 : cd 84 79 = some (.iaload, 1) := by decide +kernel
theorem c84_80 : cd 84 80 = some (.sipush 16, 2) := by decide +kernel
theorem c84_82 : cd 84 82 = some (.idiv, 1) := by decide +kernel
theorem c84_83 : cd 84 83 = some (.iand, 1) := by decide +kernel
theorem c84_84 : cd 84 84 = some (.invokestatic 134, 3) := by decide +kernel
theorem c84_87 : cd 84 87 = some (.aload 0, 1) := by decide +kernel
theorem c84_88 : cd 84 88 = some (.getfield 3202, 3) := by decide +kernel
theorem c84_91 : cd 84 91 = some (.iload 8, 2) := by decide +kernel
theorem c84_93 : cd 84 93 = some (.iaload, 1) := by decide +kernel
theorem c84_94 : cd 84 94 = some (.sipush 16, 2) := by decide +kernel
theorem c84_96 : cd 84 96 = some (.irem, 1) := by decide +kernel
theorem c84_97 : cd 84 97 = some (.if_icmp .lt 104, 3) := by decide +kernel
theorem c84_100 : cd 84 100 = some (.sipush 1, 1) := by decide +kernel
theorem c84_101 : cd 84 101 = some (.goto 105, 3) := by decide +kernel
theorem c84_104 : cd 84 104 = some (.sipush 0, 1) := by decide +kernel
theorem c84_105 : cd 84 105 = some (.iadd, 1) := by decide +kernel
theorem c84_106 : cd 84 106 = some (.istore 7, 2) := by decide +kernel
theorem c84_108 : cd 84 108 = some (.iinc 8 1, 3) := by decide +kernel
theorem c84_111 : cd 84 111 = some (.goto 60, 3) := by decide +kernel
theorem c84_114 : cd 84 114 = some (.iload 7, 2) := by decide +kernel
theorem c84_116 : cd 84 116 = some (.aload 0, 1) := by decide +kernel
theorem c84_117 : cd 84 117 = some (.getfield 3204, 3) := by decide +kernel
theorem c84_120 : cd 84 120 = some (.iload 7, 2) := by decide +kernel
theorem c84_122 : cd 84 122 = some (.isub, 1) := by decide +kernel
theorem c84_123 : cd 84 123 = some (.if_icmp .le 131, 3) := by decide +kernel
theorem c84_126 : cd 84 126 = some (.iload 7, 2) := by decide +kernel
theorem c84_128 : cd 84 128 = some (.goto 138, 3) := by decide +kernel
theorem c84_131 : cd 84 131 = some (.aload 0, 1) := by decide +kernel
theorem c84_132 : cd 84 132 = some (.getfield 3204, 3) := by decide +kernel
theorem c84_135 : cd 84 135 = some (.iload 7, 2) := by decide +kernel
theorem c84_137 : cd 84 137 = some (.isub, 1) := by decide +kernel
theorem c84_138 : cd 84 138 = some (.istore 8, 2) := by decide +kernel
theorem c84_140 : cd 84 140 = some (.iload 8, 2) := by decide +kernel
theorem c84_142 : cd 84 142 = some (.iload 5, 2) := by decide +kernel
theorem c84_144 : cd 84 144 = some (.if_icmp .lt 150, 3) := by decide +kernel
theorem c84_147 : cd 84 147 = some (.goto 158, 3) := by decide +kernel
theorem c84_150 : cd 84 150 = some (.iload 8, 2) := by decide +kernel
theorem c84_152 : cd 84 152 = some (.istore 5, 2) := by decide +kernel
theorem c84_154 : cd 84 154 = some (.iload 6, 2) := by decide +kernel
theorem c84_156 : cd 84 156 = some (.istore 4, 2) := by decide +kernel
theorem c84_158 : cd 84 158 = some (.iinc 6 1, 3) := by decide +kernel
theorem c84_161 : cd 84 161 = some (.goto 45, 3) := by decide +kernel
theorem c84_164 : cd 84 164 = some (.iload 4, 2) := by decide +kernel
theorem c84_166 : cd 84 166 = some (.ireturn, 1) := by decide +kernel
theorem g84_0 {d : Nat} {a1 a2 : Int} {x3 x4 x5 x6 x7 x8 : Option aV} {w : aW} {Q : Option aV → aW → Prop} : T (d + 1) 84 0 [some (vr 167), some (vi a1), some (vi a2), x3, x4, x5, x6, x7, x8] [] w Q = T d 199 0 [some (vr 167), some (vi a1), some (vi a2), none] [] (iup w 167 0 0) (fun r w1 => T (d + 1) 84 11 [some (vr 167), some (vi a1), some (vi a2), x3, x4, x5, x6, x7, x8] (r.toList ++ []) w1 Q) := by
  rw [T_aload_0 c84_0, T_sipush c84_1, T_putI 12 0 0 c84_2 rfl rfl rfl rfl, T_aload_0 c84_5, T_iload_1 c84_6, T_iload_2 c84_7, T_invv (es := [some (vr 167), some (vi a1), some (vi a2), none]) (st := [vi a2, vi a1, vr 167]) (ks := [2, 0, 0]) (n := 4) (c := 12) (k := 167) (as := [vi a1, vi a2]) (rest := []) c84_8 (by decide +kernel) (by decide +kernel) (by decide +kernel) (by decide) rfl rfl (Nat.le_of_ble_eq_true rfl)]
  all_goals try simp only [lay_167, true_and, Nat.reduceAdd, eq_self_iff_true]
theorem g84_11 {d : Nat} {a1 a2 s0 : Int} {x3 x4 x5 x6 x7 x8 : Option aV} {w : aW} {Q : Option aV → aW → Prop} : T (d + 1) 84 11 [some (vr 167), some (vi a1), some (vi a2), x3, x4, x5, x6, x7, x8] [vi s0] w Q = ((s0 = 0 → T d 200 0 [some (vr 167), some (vi a1), some (vi a2), none, none] [] w (fun r w1 => T (d + 1) 84 24 [some (vr 167), some (vi a1), some (vi a2), some (vi s0), x4, x5, x6, x7, x8] (r.toList ++ []) w1 Q)) ∧ (¬ (s0 = 0) → Q (some (vi s0)) w)) := by
  rw [T_istore_3 c84_11, T_iload_3 c84_12, T_if_eq 18 c84_13 rfl, T_aload_0 c84_18, T_iload_1 c84_19, T_iload_2 c84_20, T_invv (es := [some (vr 167), some (vi a1), some (vi a2), none, none]) (st := [vi a2, vi a1, vr 167]) (ks := [2, 0, 0]) (n := 5) (c := 12) (k := 167) (as := [vi a1, vi a2]) (rest := []) c84_21 (by decide +kernel) (by decide +kernel) (by decide +kernel) (by decide) rfl rfl (Nat.le_of_ble_eq_true rfl), T_iload_3 c84_16, T_ireti c84_17 (by decide +kernel)]
  all_goals try simp only [Int.reduceToNat, lay_167, true_and, Nat.reduceAdd, eq_self_iff_true]
theorem g84_24 {d : Nat} {x1 x2 x3 x4 x5 x6 x7 x8 : Option aV} {w : aW} {Q : Option aV → aW → Prop} : T d 84 24 [some (vr 167), x1, x2, x3, x4, x5, x6, x7, x8] [] w Q = ((2 ≤ w 167 33 → T d 84 45 [some (vr 167), x1, x2, x3, some (vi (-1)), some (vi 9999), some (vi 0), x7, x8] [] w Q) ∧ (¬ (2 ≤ w 167 33) → Q (some (vi (-1))) w)) := by
  rw [T_aload_0 c84_24, T_getI 12 33 33 c84_25 rfl rfl rfl rfl, T_sipush c84_28, T_icmp_ge 34 c84_29 rfl, T_sipush c84_34, T_istore_4 c84_35, T_sipush c84_37, T_istore_5 c84_40, T_sipush c84_42, T_istore_6 c84_43, T_sipush c84_32, T_ireti c84_33 (by decide +kernel)]
  all_goals try simp only [Int.reduceToNat, lay_167, true_and, Nat.reduceAdd, eq_self_iff_true]
theorem g84_45 {d : Nat} {a6 : Int} {x1 x2 x3 x4 x5 x7 x8 : Option aV} {w : aW} {Q : Option aV → aW → Prop} : T (d + 1) 84 45 [some (vr 167), x1, x2, x3, x4, x5, some (vi a6), x7, x8] [] w Q = T d 164 0 [some (vr 167)] [] w (fun r w1 => T (d + 1) 84 51 [some (vr 167), x1, x2, x3, x4, x5, some (vi a6), x7, x8] (r.toList ++ [vi a6]) w1 Q) := by
  rw [T_iload_6 c84_45, T_aload_0 c84_47, T_invv (es := [some (vr 167)]) (st := [vr 167, vi a6]) (ks := [2]) (n := 1) (c := 12) (k := 167) (as := []) (rest := [vi a6]) c84_48 (by decide +kernel) (by decide +kernel) (by decide +kernel) (by decide) rfl rfl (Nat.le_of_ble_eq_true rfl)]
  all_goals try simp only [lay_167, true_and, Nat.reduceAdd, eq_self_iff_true]
theorem g84_51 {d : Nat} {a4 s0 s1 : Int} {x0 x1 x2 x3 x5 x6 x7 x8 : Option aV} {w : aW} {Q : Option aV → aW → Prop} : T d 84 51 [x0, x1, x2, x3, some (vi a4), x5, x6, x7, x8] [vi s1, vi s0] w Q = ((s1 ≤ s0 → Q (some (vi a4)) w) ∧ (¬ (s1 ≤ s0) → T d 84 60 [x0, x1, x2, x3, some (vi a4), x5, x6, some (vi 0), some (vi 0)] [] w Q)) := by
  rw [T_icmp_ge 164 c84_51 rfl, T_iload_4 c84_164, T_ireti c84_166 (by decide +kernel), T_sipush c84_54, T_istore_7 c84_55, T_sipush c84_57, T_istore_8 c84_58]
  all_goals try simp only [Int.reduceToNat, true_and, Nat.reduceAdd, eq_self_iff_true]
theorem g84_60 {d : Nat} {a6 a7 a8 : Int} {x1 x2 x3 x4 x5 : Option aV} {w : aW} {Q : Option aV → aW → Prop} : T (d + 1) 84 60 [some (vr 167), x1, x2, x3, x4, x5, some (vi a6), some (vi a7), some (vi a8)] [] w Q = ((w 167 33 ≤ a8 → ((a7 ≤ w32 ((w 167 33) - a7) → T (d + 1) 84 138 [some (vr 167), x1, x2, x3, x4, x5, some (vi a6), some (vi a7), some (vi a8)] [vi (w32 ((w 167 33) - a7))] w Q) ∧ (¬ (a7 ≤ w32 ((w 167 33) - a7)) → T (d + 1) 84 138 [some (vr 167), x1, x2, x3, x4, x5, some (vi a6), some (vi a7), some (vi a8)] [vi a7] w Q))) ∧ (¬ (w 167 33 ≤ a8) → ((0 ≤ a8 ∧ a8 < 2400) ∧ T d 134 0 [some (vi (jand a6 (jdiv (w 187 a8) 16))), none, none] [] w (fun r w1 => T (d + 1) 84 87 [some (vr 167), x1, x2, x3, x4, x5, some (vi a6), some (vi a7), some (vi a8)] (r.toList ++ [vi a7]) w1 Q)))) := by
  rw [T_iload_8 c84_60, T_aload_0 c84_62, T_getI 12 33 33 c84_63 rfl rfl rfl rfl, T_icmp_ge 114 c84_66 rfl, T_iload_7 c84_114, T_aload_0 c84_116, T_getI 12 33 33 c84_117 rfl rfl rfl rfl, T_iload_7 c84_120, T_isub c84_122, T_icmp_le 131 c84_123 rfl, T_aload_0 c84_131, T_getI 12 33 33 c84_132 rfl rfl rfl rfl, T_iload_7 c84_135, T_isub c84_137, T_iload_7 c84_126, T_goto 138 c84_128 rfl, T_iload_7 c84_69, T_iload_6 c84_71, T_aload_0 c84_73, T_getR 12 32 32 c84_74 rfl rfl rfl rfl, rf_167_32, T_iload_8 c84_77, T_iald c84_79, T_sipush c84_80, T_idiv c84_82, T_iand c84_83, T_inv (es := [some (vi (jand a6 (jdiv (w 187 a8) 16))), none, none]) (st := [vi (jand a6 (jdiv (w 187 a8) 16)), vi a7]) (ks := [0]) (n := 3) (as := [vi (jand a6 (jdiv (w 187 a8) 16))]) (rest := [vi a7]) c84_84 (by decide +kernel) (by decide +kernel) rfl rfl (Nat.le_of_ble_eq_true rfl)]
  all_goals try simp only [Int.reduceEq, Int.reduceToNat, lay_167, ld_187, ne_eq, not_false_eq_true, true_and, Nat.reduceAdd, eq_self_iff_true]
theorem g84_87 {d : Nat} {a8 s0 s1 : Int} {x1 x2 x3 x4 x5 x6 x7 : Option aV} {w : aW} {Q : Option aV → aW → Prop} : T d 84 87 [some (vr 167), x1, x2, x3, x4, x5, x6, x7, some (vi a8)] [vi s1, vi s0] w Q = ((0 ≤ a8 ∧ a8 < 2400) ∧ ((s1 < jrem (w 187 a8) 16 → T d 84 105 [some (vr 167), x1, x2, x3, x4, x5, x6, x7, some (vi a8)] [vi 0, vi s0] w Q) ∧ (¬ (s1 < jrem (w 187 a8) 16) → T d 84 105 [some (vr 167), x1, x2, x3, x4, x5, x6, x7, some (vi a8)] [vi 1, vi s0] w Q))) := by
  rw [T_aload_0 c84_87, T_getR 12 32 32 c84_88 rfl rfl rfl rfl, rf_167_32, T_iload_8 c84_91, T_iald c84_93, T_sipush c84_94, T_irem c84_96, T_icmp_lt 104 c84_97 rfl, T_sipush c84_104, T_sipush c84_100, T_goto 105 c84_101 rfl]
  all_goals try simp only [Int.reduceEq, Int.reduceToNat, lay_167, ld_187, ne_eq, not_false_eq_true, true_and, Nat.reduceAdd, eq_self_iff_true]
theorem g84_105 {d : Nat} {a8 s0 s1 : Int} {x0 x1 x2 x3 x4 x5 x6 x7 : Option aV} {w : aW} {Q : Option aV → aW → Prop} : T d 84 105 [x0, x1, x2, x3, x4, x5, x6, x7, some (vi a8)] [vi s1, vi s0] w Q = T d 84 60 [x0, x1, x2, x3, x4, x5, x6, some (vi (w32 (s0 + s1))), some (vi (w32 (a8 + 1)))] [] w Q := by
  rw [T_iadd c84_105, T_istore_7 c84_106, T_iinc_8 c84_108, T_goto 60 c84_111 rfl]
  all_goals try simp only [true_and, Nat.reduceAdd, eq_self_iff_true]
theorem g84_138 {d : Nat} {a5 a6 s0 : Int} {x0 x1 x2 x3 x4 x7 x8 : Option aV} {w : aW} {Q : Option aV → aW → Prop} : T d 84 138 [x0, x1, x2, x3, x4, some (vi a5), some (vi a6), x7, x8] [vi s0] w Q = ((s0 < a5 → T d 84 158 [x0, x1, x2, x3, some (vi a6), some (vi s0), some (vi a6), x7, some (vi s0)] [] w Q) ∧ (¬ (s0 < a5) → T d 84 158 [x0, x1, x2, x3, x4, some (vi a5), some (vi a6), x7, some (vi s0)] [] w Q)) := by
  rw [T_istore_8 c84_138, T_iload_8 c84_140, T_iload_5 c84_142, T_icmp_lt 150 c84_144 rfl, T_iload_8 c84_150, T_istore_5 c84_152, T_iload_6 c84_154, T_istore_4 c84_156, T_goto 158 c84_147 rfl]
  all_goals try simp only [Int.reduceToNat, true_and, Nat.reduceAdd, eq_self_iff_true]
theorem g84_158 {d : Nat} {a6 : Int} {x0 x1 x2 x3 x4 x5 x7 x8 : Option aV} {w : aW} {Q : Option aV → aW → Prop} : T d 84 158 [x0, x1, x2, x3, x4, x5, some (vi a6), x7, x8] [] w Q = T d 84 45 [x0, x1, x2, x3, x4, x5, some (vi (w32 (a6 + 1))), x7, x8] [] w Q := by
  rw [T_iinc_6 c84_158, T_goto 45 c84_161 rfl]
  all_goals try simp only [true_and, Nat.reduceAdd, eq_self_iff_true]
/-! 85: StringHands.film.(I)I -/
theorem c85_0 : cd 85 0 = some (.iload 1, 1) := by decide +kernel
theorem c85_1 : cd 85 1 = some (.invokestatic 147, 3) := by decide +kernel
theorem c85_4 : cd 85 4 = some (.ifCond .ne 10, 3) := by decide +kernel
theorem c85_7 : cd 85 7 = some (.sipush (-2), 2) := by decide +kernel
theorem c85_9 : cd 85 9 = some (.ireturn, 1) := by decide +kernel
theorem c85_10 : cd 85 10 = some (.aload 0, 1) := by decide +kernel
theorem c85_11 : cd 85 11 = some (.getfield 2870, 3) := by decide +kernel
theorem c85_14 : cd 85 14 = some (.iload 1, 1) := by decide +kernel
theorem c85_15 : cd 85 15 = some (.aaload, 1) := by decide +kernel
theorem c85_16 : cd 85 16 = some (.astore 2, 1) := by decide +kernel
theorem c85_17 : cd 85 17 = some (.aload 2, 1) := by decide +kernel
theorem c85_18 : cd 85 18 = some (.invokevirtual 148, 3) := by decide +kernel
theorem c85_21 : cd 85 21 = some (.ifCond .eq 27, 3) := by decide +kernel
theorem c85_24 : cd 85 24 = some (.sipush (-6), 2) := by decide +kernel
theorem c85_26 : cd 85 26 = some (.ireturn, 1) := by decide +kernel
theorem c85_27 : cd 85 27 = some (.aload 0, 1) := by decide +kernel
theorem c85_28 : cd 85 28 = some (.invokevirtual 155, 3) := by decide +kernel
theorem c85_31 : cd 85 31 = some (.astore 3, 1) := by decide +kernel
theorem c85_32 : cd 85 32 = some (.aload 0, 1) := by decide +kernel
theorem c85_33 : cd 85 33 = some (.getfield 2854, 3) := by decide +kernel
theorem c85_36 : cd 85 36 = some (.getfield 1536, 3) := by decide +kernel
theorem c85_39 : cd 85 39 = some (.istore 4, 2) := by decide +kernel
theorem c85_41 : cd 85 41 = some (.sipush 0, 1) := by decide +kernel
theorem c85_42 : cd 85 42 = some (.istore 5, 2) := by decide +kernel
theorem c85_44 : cd 85 44 = some (.iload 5, 2) := by decide +kernel
theorem c85_46 : cd 85 46 = some (.aload 2, 1) := by decide +kernel
theorem c85_47 : cd 85 47 = some (.getfield 768, 3) := by decide +kernel
theorem c85_50 : cd 85 50 = some (.if_icmp .ge 75, 3) := by decide +kernel
theorem c85_53 : cd 85 53 = some (.aload 2, 1) := by decide +kernel
theorem c85_54 : cd 85 54 = some (.iload 5, 2) := by decide +kernel
theorem c85_56 : cd 85 56 = some (.iload 4, 2) := by decide +kernel
theorem c85_58 : cd 85 58 = some (.i2l, 1) := by decide +kernel
theorem c85_59 : cd 85 59 = some (.invokevirtual 204, 3) := by decide +kernel
theorem c85_62 : cd 85 62 = some (.pop2, 1) := by decide +kernel
theorem c85_63 : cd 85 63 = some (.aload 3, 1) := by decide +kernel
theorem c85_64 : cd 85 64 = some (.iload 4, 2) := by decide +kernel
theorem c85_66 : cd 85 66 = some (.iaload, 1) := by decide +kernel
theorem c85_67 : cd 85 67 = some (.istore 4, 2) := by decide +kernel
theorem c85_69 : cd 85 69 = some (.iinc 5 1, 3) := by decide +kernel
theorem c85_72 : cd 85 72 = some (.goto 44, 3) := by decide +kernel
theorem c85_75 : cd 85 75 = some (.aload 2, 1) := by decide +kernel
theorem c85_76 : cd 85 76 = some (.getfield 768, 3) := by decide +kernel
theorem c85_79 : cd 85 79 = some (.ireturn, 1) := by decide +kernel
theorem g85_0 {d : Nat} {a1 : Int} {x0 x2 x3 x4 x5 : Option aV} {w : aW} {Q : Option aV → aW → Prop} : T (d + 1) 85 0 [x0, some (vi a1), x2, x3, x4, x5] [] w Q = T d 147 0 [some (vi a1)] [] w (fun r w1 => T (d + 1) 85 4 [x0, some (vi a1), x2, x3, x4, x5] (r.toList ++ []) w1 Q) := by
  rw [T_iload_1 c85_0, T_inv (es := [some (vi a1)]) (st := [vi a1]) (ks := [0]) (n := 1) (as := [vi a1]) (rest := []) c85_1 (by decide +kernel) (by decide +kernel) rfl rfl (Nat.le_of_ble_eq_true rfl)]
  all_goals try simp only [true_and, Nat.reduceAdd, eq_self_iff_true]
theorem g85_4 {d : Nat} {a1 s0 : Int} {x2 x3 x4 x5 : Option aV} {w : aW} {Q : Option aV → aW → Prop} : T (d + 1) 85 4 [some (vr 0), some (vi a1), x2, x3, x4, x5] [vi s0] w Q = ((¬ s0 = 0 → ((isRA 88 a1 = true ∧ (88 = 87 → (w 87 a1).toNat < 191)) ∧ (lay (rAt w 88 a1) = (3, 0) ∧ T d 148 0 [some (vr (rAt w 88 a1))] [] w (fun r w1 => T (d + 1) 85 21 [some (vr 0), some (vi a1), some (vr (rAt w 88 a1)), x3, x4, x5] (r.toList ++ []) w1 Q)))) ∧ (¬ (¬ s0 = 0) → Q (some (vi (-2))) w)) := by
  rw [T_if_ne 10 c85_4 rfl, T_aload_0 c85_10, T_getR 11 13 13 c85_11 rfl rfl rfl rfl, rf_0_13, T_iload_1 c85_14, T_aald c85_15, T_astore_2 c85_16, T_aload_2 c85_17, T_invv (es := [some (vr (rAt w 88 a1))]) (st := [vr (rAt w 88 a1)]) (ks := [2]) (n := 1) (c := 3) (k := (rAt w 88 a1)) (as := []) (rest := []) c85_18 (by decide +kernel) (by decide +kernel) (by decide +kernel) (by decide) rfl rfl (Nat.le_of_ble_eq_true rfl), T_sipush c85_7, T_ireti c85_9 (by decide +kernel)]
  all_goals try simp only [Int.reduceToNat, lay_0, true_and, Nat.reduceAdd, eq_self_iff_true]
theorem g85_21 {d : Nat} {s0 : Int} {x1 x2 x3 x4 x5 : Option aV} {w : aW} {Q : Option aV → aW → Prop} : T (d + 1) 85 21 [some (vr 0), x1, x2, x3, x4, x5] [vi s0] w Q = ((s0 = 0 → T d 155 0 [some (vr 0)] [] w (fun r w1 => T (d + 1) 85 31 [some (vr 0), x1, x2, x3, x4, x5] (r.toList ++ []) w1 Q)) ∧ (¬ (s0 = 0) → Q (some (vi (-6))) w)) := by
  rw [T_if_eq 27 c85_21 rfl, T_aload_0 c85_27, T_invv (es := [some (vr 0)]) (st := [vr 0]) (ks := [2]) (n := 1) (c := 11) (k := 0) (as := []) (rest := []) c85_28 (by decide +kernel) (by decide +kernel) (by decide +kernel) (by decide) rfl rfl (Nat.le_of_ble_eq_true rfl), T_sipush c85_24, T_ireti c85_26 (by decide +kernel)]
  all_goals try simp only [Int.reduceToNat, lay_0, true_and, Nat.reduceAdd, eq_self_iff_true]
theorem g85_31 {d : Nat} {s0 : Nat} {x1 x2 x3 x4 x5 : Option aV} {w : aW} {Q : Option aV → aW → Prop} : T d 85 31 [some (vr 0), x1, x2, x3, x4, x5] [vr s0] w Q = T d 85 44 [some (vr 0), x1, x2, some (vr s0), some (vi (w 79 0)), some (vi 0)] [] w Q := by
  rw [T_astore_3 c85_31, T_aload_0 c85_32, T_getR 11 9 9 c85_33 rfl rfl rfl rfl, rf_0_9, T_getI 6 0 0 c85_36 rfl rfl rfl rfl, T_istore_4 c85_39, T_sipush c85_41, T_istore_5 c85_42]
  all_goals try simp only [lay_0, lay_79, true_and, Nat.reduceAdd, eq_self_iff_true]
theorem g85_44 {d : Nat} {a4 a5 : Int} {r2 : Nat} {x0 x1 x3 : Option aV} {w : aW} {Q : Option aV → aW → Prop} : T (d + 1) 85 44 [x0, x1, some (vr r2), x3, some (vi a4), some (vi a5)] [] w Q = (lay r2 = (3, 0) ∧ ((w r2 0 ≤ a5 → (lay r2 = (3, 0) ∧ Q (some (vi (w r2 0))) w)) ∧ (¬ (w r2 0 ≤ a5) → (lay r2 = (3, 0) ∧ T d 204 0 [some (vr r2), some (vi a5), some (vl a4), none] [] w (fun r w1 => T (d + 1) 85 62 [x0, x1, some (vr r2), x3, some (vi a4), some (vi a5)] (r.toList ++ []) w1 Q))))) := by
  rw [T_iload_5 c85_44, T_aload_2 c85_46, T_getI 3 0 0 c85_47 rfl rfl rfl rfl, T_icmp_ge 75 c85_50 rfl, T_aload_2 c85_75, T_getI 3 0 0 c85_76 rfl rfl rfl rfl, T_ireti c85_79 (by decide +kernel), T_aload_2 c85_53, T_iload_5 c85_54, T_iload_4 c85_56, T_i2l c85_58, T_invv (es := [some (vr r2), some (vi a5), some (vl a4), none]) (st := [vl a4, vi a5, vr r2]) (ks := [2, 0, 1]) (n := 4) (c := 3) (k := r2) (as := [vi a5, vl a4]) (rest := []) c85_59 (by decide +kernel) (by decide +kernel) (by decide +kernel) (by decide) rfl rfl (Nat.le_of_ble_eq_true rfl)]
  all_goals try simp only [Int.reduceToNat, true_and, Nat.reduceAdd, eq_self_iff_true]
theorem g85_62 {d : Nat} {a4 a5 s0 : Int} {r3 : Nat} {x0 x1 x2 : Option aV} {w : aW} {Q : Option aV → aW → Prop} : T d 85 62 [x0, x1, x2, some (vr r3), some (vi a4), some (vi a5)] [vl s0] w Q = (ldok r3 a4 w ∧ T d 85 44 [x0, x1, x2, some (vr r3), some (vi (w r3 a4)), some (vi (w32 (a5 + 1)))] [] w Q) := by
  rw [T_pop2 c85_62, T_aload_3 c85_63, T_iload_4 c85_64, T_iald c85_66, T_istore_4 c85_67, T_iinc_5 c85_69, T_goto 44 c85_72 rfl]
  all_goals try simp only [true_and, Nat.reduceAdd, eq_self_iff_true]
/-! 86: StringHandsModel.film.(I)I -/
theorem c86_0 : cd 86 0 = some (.aload 0, 1) := by decide +kernel
theorem c86_1 : cd 86 1 = some (.sipush 0, 1) := by decide +kernel
theorem c86_2 : cd 86 2 = some (.putfield 3072, 3) := by decide +kernel
theorem c86_5 : cd 86 5 = some (.iload 1, 1) := by decide +kernel
theorem c86_6 : cd 86 6 = some (.i2l, 1) := by decide +kernel
theorem c86_7 : cd 86 7 = some (.bipush 0, 1) := by decide +kernel
theorem c86_8 : cd 86 8 = some (.bipush 3, 3) := by decide +kernel
theorem c86_11 : cd 86 11 = some (.invokestatic 105, 3) := by decide +kernel
theorem c86_14 : cd 86 14 = some (.ifCond .ne 20, 3) := by decide +kernel
theorem c86_17 : cd 86 17 = some (.sipush (-2), 2) := by decide +kernel
theorem c86_19 : cd 86 19 = some (.ireturn, 1) := by decide +kernel
theorem c86_20 : cd 86 20 = some (.aload 0, 1) := by decide +kernel
theorem c86_21 : cd 86 21 = some (.getfield 3210, 3) := by decide +kernel
theorem c86_24 : cd 86 24 = some (.iload 1, 1) := by decide +kernel
theorem c86_25 : cd 86 25 = some (.iaload, 1) := by decide +kernel
theorem c86_26 : cd 86 26 = some (.sipush (-1), 1) := by decide +kernel
theorem c86_27 : cd 86 27 = some (.if_icmp .ne 33, 3) := by decide +kernel
theorem c86_30 : cd 86 30 = some (.sipush (-6), 2) := by decide +kernel
theorem c86_32 : cd 86 32 = some (.ireturn, 1) := by decide +kernel
theorem c86_33 : cd 86 33 = some (.aload 0, 1) := by decide +kernel
theorem c86_34 : cd 86 34 = some (.getfield 3078, 3) := by decide +kernel
theorem c86_37 : cd 86 37 = some (.sipush 5, 1) := by decide +kernel
theorem c86_38 : cd 86 38 = some (.iaload, 1) := by decide +kernel
theorem c86_39 : cd 86 39 = some (.istore 2, 1) := by decide +kernel
theorem c86_40 : cd 86 40 = some (.sipush 0, 1) := by decide +kernel
theorem c86_41 : cd 86 41 = some (.istore 3, 1) := by decide +kernel
theorem c86_42 : cd 86 42 = some (.iload 3, 1) := by decide +kernel
theorem c86_43 : cd 86 43 = some (.aload 0, 1) := by decide +kernel
theorem c86_44 : cd 86 44 = some (.getfield 3214, 3) := by decide +kernel
theorem c86_47 : cd 86 47 = some (.iload 1, 1) := by decide +kernel
theorem c86_48 : cd 86 48 = some (.iaload, 1) := by decide +kernel
theorem c86_49 : cd 86 49 = some (.if_icmp .ge 86, 3) := by decide +kernel
theorem c86_52 : cd 86 52 = some (.aload 0, 1) := by decide +kernel
theorem c86_53 : cd 86 53 = some (.getfield 3218, 3) := by decide +kernel
theorem c86_56 : cd 86 56 = some (.sipush 40, 2) := by decide +kernel
theorem c86_58 : cd 86 58 = some (.iload 1, 1) := by decide +kernel
theorem c86_59 : cd 86 59 = some (.imul, 1) := by decide +kernel
theorem c86_60 : cd 86 60 = some (.iload 3, 1) := by decide +kernel
theorem c86_61 : cd 86 61 = some (.iadd, 1) := by decide +kernel
theorem c86_62 : cd 86 62 = some (.iload 2, 1) := by decide +kernel
theorem c86_63 : cd 86 63 = some (.i2l, 1) := by decide +kernel
theorem c86_64 : cd 86 64 = some (.aload 0, 1) := by decide +kernel
theorem c86_65 : cd 86 65 = some (.getfield 3210, 3) := by decide +kernel
theorem c86_68 : cd 86 68 = some (.iload 1, 1) := by decide +kernel
theorem c86_69 : cd 86 69 = some (.iaload, 1) := by decide +kernel
theorem c86_70 : cd 86 70 = some (.invokestatic 205, 3) := by decide +kernel
theorem c86_73 : cd 86 73 = some (.lastore, 1) := by decide +kernel
theorem c86_74 : cd 86 74 = some (.aload 0, 1) := by decide +kernel
theorem c86_75 : cd 86 75 = some (.iload 2, 1) := by decide +kernel
theorem c86_76 : cd 86 76 = some (.invokevirtual 154, 3) := by decide +kernel
theorem c86_79 : cd 86 79 = some (.istore 2, 1) := by decide +kernel
theorem c86_80 : cd 86 80 = some (.iinc 3 1, 3) := by decide +kernel
theorem c86_83 : cd 86 83 = some (.goto 42, 3) := by decide +kernel
theorem c86_86 : cd 86 86 = some (.aload 0, 1) := by decide +kernel
theorem c86_87 : cd 86 87 = some (.getfield 3214, 3) := by decide +kernel
theorem c86_90 : cd 86 90 = some (.iload 1, 1) := by decide +kernel
theorem c86_91 : cd 86 91 = some (.iaload, 1) := by decide +kernel
theorem c86_92 : cd 86 92 = some (.ireturn, 1) := by decide +kernel
theorem g86_0 {d : Nat} {a1 : Int} {x2 x3 : Option aV} {w : aW} {Q : Option aV → aW → Prop} : T (d + 1) 86 0 [some (vr 167), some (vi a1), x2, x3] [] w Q = T d 105 0 [some (vl a1), none, some (vl 0), none, some (vl 3), none] [] (iup w 167 0 0) (fun r w1 => T (d + 1) 86 14 [some (vr 167), some (vi a1), x2, x3] (r.toList ++ []) w1 Q) := by
  rw [T_aload_0 c86_0, T_sipush c86_1, T_putI 12 0 0 c86_2 rfl rfl rfl rfl, T_iload_1 c86_5, T_i2l c86_6, T_bipush c86_7, T_bipush c86_8, T_inv (es := [some (vl a1), none, some (vl 0), none, some (vl 3), none]) (st := [vl 3, vl 0, vl a1]) (ks := [1, 1, 1]) (n := 6) (as := [vl a1, vl 0, vl 3]) (rest := []) c86_11 (by decide +kernel) (by decide +kernel) rfl rfl (Nat.le_of_ble_eq_true rfl)]
  all_goals try simp only [lay_167, true_and, Nat.reduceAdd, eq_self_iff_true]
theorem g86_14 {d : Nat} {a1 s0 : Int} {x2 x3 : Option aV} {w : aW} {Q : Option aV → aW → Prop} : T d 86 14 [some (vr 167), some (vi a1), x2, x3] [vi s0] w Q = ((¬ s0 = 0 → ((0 ≤ a1 ∧ a1 < 4) ∧ ((¬ w 188 a1 = (-1) → T d 86 42 [some (vr 167), some (vi a1), some (vi (w 168 5)), some (vi 0)] [] w Q) ∧ (¬ (¬ w 188 a1 = (-1)) → Q (some (vi (-6))) w)))) ∧ (¬ (¬ s0 = 0) → Q (some (vi (-2))) w)) := by
  rw [T_if_ne 20 c86_14 rfl, T_aload_0 c86_20, T_getR 12 34 34 c86_21 rfl rfl rfl rfl, rf_167_34, T_iload_1 c86_24, T_iald c86_25, T_sipush c86_26, T_icmp_ne 33 c86_27 rfl, T_aload_0 c86_33, T_getR 12 1 1 c86_34 rfl rfl rfl rfl, rf_167_1, T_sipush c86_37, T_iald c86_38, T_istore_2 c86_39, T_sipush c86_40, T_istore_3 c86_41, T_sipush c86_30, T_ireti c86_32 (by decide +kernel), T_sipush c86_17, T_ireti c86_19 (by decide +kernel)]
  all_goals try simp only [Int.reduceLE, Int.reduceLT, Int.reduceToNat, and_self, lay_167, ld_168, ld_188, true_and, Nat.reduceAdd, eq_self_iff_true]
theorem g86_42 {d : Nat} {a1 a2 a3 : Int} {w : aW} {Q : Option aV → aW → Prop} : T (d + 1) 86 42 [some (vr 167), some (vi a1), some (vi a2), some (vi a3)] [] w Q = ((0 ≤ a1 ∧ a1 < 4) ∧ ((w 189 a1 ≤ a3 → ((0 ≤ a1 ∧ a1 < 4) ∧ Q (some (vi (w 189 a1))) w)) ∧ (¬ (w 189 a1 ≤ a3) → ((0 ≤ a1 ∧ a1 < 4) ∧ T d 205 0 [some (vl a2), none, some (vi (w 188 a1))] [] w (fun r w1 => T (d + 1) 86 73 [some (vr 167), some (vi a1), some (vi a2), some (vi a3)] (r.toList ++ [vi (w32 ((w32 (40 * a1)) + a3)), vr 190]) w1 Q))))) := by
  rw [T_iload_3 c86_42, T_aload_0 c86_43, T_getR 12 35 35 c86_44 rfl rfl rfl rfl, rf_167_35, T_iload_1 c86_47, T_iald c86_48, T_icmp_ge 86 c86_49 rfl, T_aload_0 c86_86, T_getR 12 35 35 c86_87 rfl rfl rfl rfl, rf_167_35, T_iload_1 c86_90, T_iald c86_91, T_ireti c86_92 (by decide +kernel), T_aload_0 c86_52, T_getR 12 36 36 c86_53 rfl rfl rfl rfl, rf_167_36, T_sipush c86_56, T_iload_1 c86_58, T_imul c86_59, T_iload_3 c86_60, T_iadd c86_61, T_iload_2 c86_62, T_i2l c86_63, T_aload_0 c86_64, T_getR 12 34 34 c86_65 rfl rfl rfl rfl, rf_167_34, T_iload_1 c86_68, T_iald c86_69, T_inv (es := [some (vl a2), none, some (vi (w 188 a1))]) (st := [vi (w 188 a1), vl a2, vi (w32 ((w32 (40 * a1)) + a3)), vr 190]) (ks := [1, 0]) (n := 3) (as := [vl a2, vi (w 188 a1)]) (rest := [vi (w32 ((w32 (40 * a1)) + a3)), vr 190]) c86_70 (by decide +kernel) (by decide +kernel) rfl rfl (Nat.le_of_ble_eq_true rfl)]
  all_goals try simp only [Int.reduceToNat, lay_167, ld_188, ld_189, true_and, Nat.reduceAdd, eq_self_iff_true]
theorem g86_73 {d : Nat} {a2 s1 s2 : Int} {s0 : Nat} {x1 x3 : Option aV} {w : aW} {Q : Option aV → aW → Prop} : T (d + 1) 86 73 [some (vr 167), x1, some (vi a2), x3] [vl s2, vi s1, vr s0] w Q = (inA s0 1 s1 = true ∧ T d 154 0 [some (vr 167), some (vi a2), none, none] [] (iup w s0 s1 s2) (fun r w1 => T (d + 1) 86 79 [some (vr 167), x1, some (vi a2), x3] (r.toList ++ []) w1 Q)) := by
  rw [T_last c86_73, T_aload_0 c86_74, T_iload_2 c86_75, T_invv (es := [some (vr 167), some (vi a2), none, none]) (st := [vi a2, vr 167]) (ks := [2, 0]) (n := 4) (c := 12) (k := 167) (as := [vi a2]) (rest := []) c86_76 (by decide +kernel) (by decide +kernel) (by decide +kernel) (by decide) rfl rfl (Nat.le_of_ble_eq_true rfl)]
  all_goals try simp only [lay_167, true_and, Nat.reduceAdd, eq_self_iff_true]
theorem g86_79 {d : Nat} {a3 s0 : Int} {x0 x1 x2 : Option aV} {w : aW} {Q : Option aV → aW → Prop} : T d 86 79 [x0, x1, x2, some (vi a3)] [vi s0] w Q = T d 86 42 [x0, x1, some (vi s0), some (vi (w32 (a3 + 1)))] [] w Q := by
  rw [T_istore_2 c86_79, T_iinc_3 c86_80, T_goto 42 c86_83 rfl]
  all_goals try simp only [true_and, Nat.reduceAdd, eq_self_iff_true]
/-! 87: StringHands.breaks.(I)I -/
theorem c87_0 : cd 87 0 = some (.iload 1, 1) := by decide +kernel
theorem c87_1 : cd 87 1 = some (.ifCond .lt 9, 3) := by decide +kernel
theorem c87_4 : cd 87 4 = some (.iload 1, 1) := by decide +kernel
theorem c87_5 : cd 87 5 = some (.sipush 1, 1) := by decide +kernel
theorem c87_6 : cd 87 6 = some (.if_icmp .le 12, 3) := by decide +kernel
theorem c87_9 : cd 87 9 = some (.sipush (-2), 2) := by decide +kernel
theorem c87_11 : cd 87 11 = some (.ireturn, 1) := by decide +kernel
theorem c87_12 : cd 87 12 = some (.aload 0, 1) := by decide +kernel
theorem c87_13 : cd 87 13 = some (.getfield 2850, 3) := by decide +kernel
theorem c87_16 : cd 87 16 = some (.getfield 2064, 3) := by decide +kernel
theorem c87_19 : cd 87 19 = some (.ifCond .ne 25, 3) := by decide +kernel
theorem c87_22 : cd 87 22 = some (.sipush (-5), 2) := by decide +kernel
theorem c87_24 : cd 87 24 = some (.ireturn, 1) := by decide +kernel
theorem c87_25 : cd 87 25 = some (.aload 0, 1) := by decide +kernel
theorem c87_26 : cd 87 26 = some (.getfield 2858, 3) := by decide +kernel
theorem c87_29 : cd 87 29 = some (.aload 0, 1) := by decide +kernel
theorem c87_30 : cd 87 30 = some (.getfield 2854, 3) := by decide +kernel
theorem c87_33 : cd 87 33 = some (.invokevirtual 146, 3) := by decide +kernel
theorem c87_36 : cd 87 36 = some (.sipush 0, 1) := by decide +kernel
theorem c87_37 : cd 87 37 = some (.istore 2, 1) := by decide +kernel
theorem c87_38 : cd 87 38 = some (.iload 2, 1) := by decide +kernel
theorem c87_39 : cd 87 39 = some (.sipush 200, 3) := by decide +kernel
theorem c87_42 : cd 87 42 = some (.if_icmp .ge 102, 3) := by decide +kernel
theorem c87_45 : cd 87 45 = some (.aload 0, 1) := by decide +kernel
theorem c87_46 : cd 87 46 = some (.getfield 2822, 3) := by decide +kernel
theorem c87_49 : cd 87 49 = some (.aload 0, 1) := by decide +kernel
theorem c87_50 : cd 87 50 = some (.getfield 2850, 3) := by decide +kernel
theorem c87_53 : cd 87 53 = some (.aload 0, 1) := by decide +kernel
theorem c87_54 : cd 87 54 = some (.getfield 2858, 3) := by decide +kernel
theorem c87_57 : cd 87 57 = some (.invokevirtual 135, 3) := by decide +kernel
theorem c87_60 : cd 87 60 = some (.pop, 1) := by decide +kernel
theorem c87_61 : cd 87 61 = some (.aload 0, 1) := by decide +kernel
theorem c87_62 : cd 87 62 = some (.getfield 2854, 3) := by decide +kernel
theorem c87_65 : cd 87 65 = some (.getfield 1540, 3) := by decide +kernel
theorem c87_68 : cd 87 68 = some (.aload 0, 1) := by decide +kernel
theorem c87_69 : cd 87 69 = some (.getfield 2858, 3) := by decide +kernel
theorem c87_72 : cd 87 72 = some (.getfield 1540, 3) := by decide +kernel
theorem c87_75 : cd 87 75 = some (.sipush (-1), 1) := by decide +kernel
theorem c87_76 : cd 87 76 = some (.ixor, 1) := by decide +kernel
theorem c87_77 : cd 87 77 = some (.iand, 1) := by decide +kernel
theorem c87_78 : cd 87 78 = some (.istore 3, 1) := by decide +kernel
theorem c87_79 : cd 87 79 = some (.iload 3, 1) := by decide +kernel
theorem c87_80 : cd 87 80 = some (.ifCond .eq 96, 3) := by decide +kernel
theorem c87_83 : cd 87 83 = some (.iload 1, 1) := by decide +kernel
theorem c87_84 : cd 87 84 = some (.ifCond .ne 91, 3) := by decide +kernel
theorem c87_87 : cd 87 87 = some (.iload 2, 1) := by decide +kernel
theorem c87_88 : cd 87 88 = some (.goto 95, 3) := by decide +kernel
theorem c87_91 : cd 87 91 = some (.iload 3, 1) := by decide +kernel
theorem c87_92 : cd 87 92 = some (.invokestatic 176, 3) := by decide +kernel
theorem c87_95 : cd 87 95 = some (.ireturn, 1) := by decide +kernel
theorem c87_96 : cd 87 96 = some (.iinc 2 1, 3) := by decide +kernel
theorem c87_99 : cd 87 99 = some (.goto 38, 3) := by decide +kernel
theorem c87_102 : cd 87 102 = some (.sipush (-1), 1) := by decide +kernel
theorem c87_103 : cd 87 103 = some (.ireturn, 1) := by decide +kernel
theorem g87_0 {d : Nat} {a1 : Int} {x2 x3 : Option aV} {w : aW} {Q : Option aV → aW → Prop} : T (d + 1) 87 0 [some (vr 0), some (vi a1), x2, x3] [] w Q = ((a1 < 0 → T (d + 1) 87 9 [some (vr 0), some (vi a1), x2, x3] [] w Q) ∧ (¬ (a1 < 0) → ((a1 ≤ 1 → ((¬ w 69 4 = 0 → T d 146 0 [some (vr 83), some (vr 79)] [] w (fun r w1 => T (d + 1) 87 36 [some (vr 0), some (vi a1), x2, x3] (r.toList ++ []) w1 Q)) ∧ (¬ (¬ w 69 4 = 0) → Q (some (vi (-5))) w))) ∧ (¬ (a1 ≤ 1) → T (d + 1) 87 9 [some (vr 0), some (vi a1), x2, x3] [] w Q)))) := by
  rw [T_iload_1 c87_0, T_if_lt 9 c87_1 rfl, T_iload_1 c87_4, T_sipush c87_5, T_icmp_le 12 c87_6 rfl, T_aload_0 c87_12, T_getR 11 8 8 c87_13 rfl rfl rfl rfl, rf_0_8, T_getI 8 4 4 c87_16 rfl rfl rfl rfl, T_if_ne 25 c87_19 rfl, T_aload_0 c87_25, T_getR 11 10 10 c87_26 rfl rfl rfl rfl, rf_0_10, T_aload_0 c87_29, T_getR 11 9 9 c87_30 rfl rfl rfl rfl, rf_0_9, T_invv (es := [some (vr 83), some (vr 79)]) (st := [vr 79, vr 83]) (ks := [2, 2]) (n := 2) (c := 6) (k := 83) (as := [vr 79]) (rest := []) c87_33 (by decide +kernel) (by decide +kernel) (by decide +kernel) (by decide) rfl rfl (Nat.le_of_ble_eq_true rfl), T_sipush c87_22, T_ireti c87_24 (by decide +kernel)]
  all_goals try simp only [Int.reduceToNat, lay_0, lay_69, lay_83, true_and, Nat.reduceAdd, eq_self_iff_true]
theorem g87_9 {d : Nat} {x0 x1 x2 x3 : Option aV} {w : aW} {Q : Option aV → aW → Prop} : T d 87 9 [x0, x1, x2, x3] [] w Q = Q (some (vi (-2))) w := by
  rw [T_sipush c87_9, T_ireti c87_11 (by decide +kernel)]
  all_goals try simp only [true_and, Nat.reduceAdd, eq_self_iff_true]
theorem g87_36 {d : Nat} {x0 x1 x2 x3 : Option aV} {w : aW} {Q : Option aV → aW → Prop} : T d 87 36 [x0, x1, x2, x3] [] w Q = T d 87 38 [x0, x1, some (vi 0), x3] [] w Q := by
  rw [T_sipush c87_36, T_istore_2 c87_37]
  all_goals try simp only [true_and, Nat.reduceAdd, eq_self_iff_true]
theorem g87_38 {d : Nat} {a2 : Int} {x1 x3 : Option aV} {w : aW} {Q : Option aV → aW → Prop} : T (d + 1) 87 38 [some (vr 0), x1, some (vi a2), x3] [] w Q = ((200 ≤ a2 → Q (some (vi (-1))) w) ∧ (¬ (200 ≤ a2) → T d 135 0 [some (vr 16), some (vr 69), some (vr 83), none, none, none] [] w (fun r w1 => T (d + 1) 87 60 [some (vr 0), x1, some (vi a2), x3] (r.toList ++ []) w1 Q))) := by
  rw [T_iload_2 c87_38, T_sipush c87_39, T_icmp_ge 102 c87_42 rfl, T_sipush c87_102, T_ireti c87_103 (by decide +kernel), T_aload_0 c87_45, T_getR 11 1 1 c87_46 rfl rfl rfl rfl, rf_0_1, T_aload_0 c87_49, T_getR 11 8 8 c87_50 rfl rfl rfl rfl, rf_0_8, T_aload_0 c87_53, T_getR 11 10 10 c87_54 rfl rfl rfl rfl, rf_0_10, T_invv (es := [some (vr 16), some (vr 69), some (vr 83), none, none, none]) (st := [vr 83, vr 69, vr 16]) (ks := [2, 2, 2]) (n := 6) (c := 2) (k := 16) (as := [vr 69, vr 83]) (rest := []) c87_57 (by decide +kernel) (by decide +kernel) (by decide +kernel) (by decide) rfl rfl (Nat.le_of_ble_eq_true rfl)]
  all_goals try simp only [Int.reduceToNat, lay_0, lay_16, true_and, Nat.reduceAdd, eq_self_iff_true]
theorem g87_60 {d : Nat} {a1 a2 s0 : Int} {x3 : Option aV} {w : aW} {Q : Option aV → aW → Prop} : T (d + 1) 87 60 [some (vr 0), some (vi a1), some (vi a2), x3] [vi s0] w Q = ((jand (w 79 1) (jxor (w 83 1) (-1)) = 0 → T (d + 1) 87 38 [some (vr 0), some (vi a1), some (vi (w32 (a2 + 1))), some (vi (jand (w 79 1) (jxor (w 83 1) (-1))))] [] w Q) ∧ (¬ (jand (w 79 1) (jxor (w 83 1) (-1)) = 0) → ((¬ a1 = 0 → T d 176 0 [some (vi (jand (w 79 1) (jxor (w 83 1) (-1)))), none] [] w (fun r w1 => T (d + 1) 87 95 [some (vr 0), some (vi a1), some (vi a2), some (vi (jand (w 79 1) (jxor (w 83 1) (-1))))] (r.toList ++ []) w1 Q)) ∧ (¬ (¬ a1 = 0) → T (d + 1) 87 95 [some (vr 0), some (vi a1), some (vi a2), some (vi (jand (w 79 1) (jxor (w 83 1) (-1))))] [vi a2] w Q)))) := by
  rw [T_pop_i c87_60, T_aload_0 c87_61, T_getR 11 9 9 c87_62 rfl rfl rfl rfl, rf_0_9, T_getI 6 1 1 c87_65 rfl rfl rfl rfl, T_aload_0 c87_68, T_getR 11 10 10 c87_69 rfl rfl rfl rfl, rf_0_10, T_getI 6 1 1 c87_72 rfl rfl rfl rfl, T_sipush c87_75, T_ixor c87_76, T_iand c87_77, T_istore_3 c87_78, T_iload_3 c87_79, T_if_eq 96 c87_80 rfl, T_iinc_2 c87_96, T_goto 38 c87_99 rfl, T_iload_1 c87_83, T_if_ne 91 c87_84 rfl, T_iload_3 c87_91, T_inv (es := [some (vi (jand (w 79 1) (jxor (w 83 1) (-1)))), none]) (st := [vi (jand (w 79 1) (jxor (w 83 1) (-1)))]) (ks := [0]) (n := 2) (as := [vi (jand (w 79 1) (jxor (w 83 1) (-1)))]) (rest := []) c87_92 (by decide +kernel) (by decide +kernel) rfl rfl (Nat.le_of_ble_eq_true rfl), T_iload_2 c87_87, T_goto 95 c87_88 rfl]
  all_goals try simp only [Int.reduceToNat, lay_0, lay_79, lay_83, true_and, Nat.reduceAdd, eq_self_iff_true]
theorem g87_95 {d : Nat} {s0 : Int} {x0 x1 x2 x3 : Option aV} {w : aW} {Q : Option aV → aW → Prop} : T d 87 95 [x0, x1, x2, x3] [vi s0] w Q = Q (some (vi s0)) w := by
  rw [T_ireti c87_95 (by decide +kernel)]
  all_goals try simp only [true_and, Nat.reduceAdd, eq_self_iff_true]
/-! 88: StringHandsModel.breaks.(I)I -/
theorem c88_0 : cd 88 0 = some (.aload 0, 1) := by decide +kernel
theorem c88_1 : cd 88 1 = some (.sipush 0, 1) := by decide +kernel
theorem c88_2 : cd 88 2 = some (.putfield 3072, 3) := by decide +kernel
theorem c88_5 : cd 88 5 = some (.iload 1, 1) := by decide +kernel
theorem c88_6 : cd 88 6 = some (.i2l, 1) := by decide +kernel
theorem c88_7 : cd 88 7 = some (.bipush 0, 1) := by decide +kernel
theorem c88_8 : cd 88 8 = some (.bipush 1, 1) := by decide +kernel
theorem c88_9 : cd 88 9 = some (.invokestatic 105, 3) := by decide +kernel
theorem c88_12 : cd 88 12 = some (.ifCond .ne 18, 3) := by decide +kernel
theorem c88_15 : cd 88 15 = some (.sipush (-2), 2) := by decide +kernel
theorem c88_17 : cd 88 17 = some (.ireturn, 1) := by decide +kernel
theorem c88_18 : cd 88 18 = some (.aload 0, 1) := by decide +kernel
theorem c88_19 : cd 88 19 = some (.getfield 3078, 3) := by decide +kernel
theorem c88_22 : cd 88 22 = some (.sipush 4, 1) := by decide +kernel
theorem c88_23 : cd 88 23 = some (.iaload, 1) := by decide +kernel
theorem c88_24 : cd 88 24 = some (.ifCond .ne 30, 3) := by decide +kernel
theorem c88_27 : cd 88 27 = some (.sipush (-5), 2) := by decide +kernel
theorem c88_29 : cd 88 29 = some (.ireturn, 1) := by decide +kernel
theorem c88_30 : cd 88 30 = some (.aload 0, 1) := by decide +kernel
theorem c88_31 : cd 88 31 = some (.invokevirtual 129, 3) := by decide +kernel
theorem c88_34 : cd 88 34 = some (.aload 0, 1) := by decide +kernel
theorem c88_35 : cd 88 35 = some (.invokevirtual 139, 3) := by decide +kernel
theorem c88_38 : cd 88 38 = some (.istore 2, 1) := by decide +kernel
theorem c88_39 : cd 88 39 = some (.sipush (-1), 1) := by decide +kernel
theorem c88_40 : cd 88 40 = some (.istore 3, 1) := by decide +kernel
theorem c88_41 : cd 88 41 = some (.sipush 0, 1) := by decide +kernel
theorem c88_42 : cd 88 42 = some (.istore 4, 2) := by decide +kernel
theorem c88_44 : cd 88 44 = some (.iload 4, 2) := by decide +kernel
theorem c88_46 : cd 88 46 = some (.sipush 200, 3) := by decide +kernel
theorem c88_49 : cd 88 49 = some (.if_icmp .ge 123, 3) := by decide +kernel
theorem c88_52 : cd 88 52 = some (.iload 3, 1) := by decide +kernel
theorem c88_53 : cd 88 53 = some (.sipush (-1), 1) := by decide +kernel
theorem c88_54 : cd 88 54 = some (.if_icmp .ne 123, 3) := by decide +kernel
theorem c88_57 : cd 88 57 = some (.aload 0, 1) := by decide +kernel
theorem c88_58 : cd 88 58 = some (.invokevirtual 136, 3) := by decide +kernel
theorem c88_61 : cd 88 61 = some (.pop, 1) := by decide +kernel
theorem c88_62 : cd 88 62 = some (.aload 0, 1) := by decide +kernel
theorem c88_63 : cd 88 63 = some (.invokevirtual 139, 3) := by decide +kernel
theorem c88_66 : cd 88 66 = some (.iload 2, 1) := by decide +kernel
theorem c88_67 : cd 88 67 = some (.if_icmp .ne 73, 3) := by decide +kernel
theorem c88_70 : cd 88 70 = some (.goto 117, 3) := by decide +kernel
theorem c88_73 : cd 88 73 = some (.sipush 0, 1) := by decide +kernel
theorem c88_74 : cd 88 74 = some (.istore 5, 2) := by decide +kernel
theorem c88_76 : cd 88 76 = some (.aload 0, 1) := by decide +kernel
theorem c88_77 : cd 88 77 = some (.getfield 3138, 3) := by decide +kernel
theorem c88_80 : cd 88 80 = some (.sipush 17, 2) := by decide +kernel
theorem c88_82 : cd 88 82 = some (.iload 5, 2) := by decide +kernel
theorem c88_84 : cd 88 84 = some (.iadd, 1) := by decide +kernel
theorem c88_85 : cd 88 85 = some (.iaload, 1) := by decide +kernel
theorem c88_86 : cd 88 86 = some (.aload 0, 1) := by decide +kernel
theorem c88_87 : cd 88 87 = some (.getfield 3078, 3) := by decide +kernel
theorem c88_90 : cd 88 90 = some (.sipush 22, 2) := by decide +kernel
theorem c88_92 : cd 88 92 = some (.iload 5, 2) := by decide +kernel
theorem c88_94 : cd 88 94 = some (.iadd, 1) := by decide +kernel
theorem c88_95 : cd 88 95 = some (.iaload, 1) := by decide +kernel
theorem c88_96 : cd 88 96 = some (.if_icmp .ne 105, 3) := by decide +kernel
theorem c88_99 : cd 88 99 = some (.iinc 5 1, 3) := by decide +kernel
theorem c88_102 : cd 88 102 = some (.goto 76, 3) := by decide +kernel
theorem c88_105 : cd 88 105 = some (.iload 1, 1) := by decide +kernel
theorem c88_106 : cd 88 106 = some (.ifCond .ne 114, 3) := by decide +kernel
theorem c88_109 : cd 88 109 = some (.iload 4, 2) := by decide +kernel
theorem c88_111 : cd 88 111 = some (.goto 116, 3) := by decide +kernel
theorem c88_114 : cd 88 114 = some (.iload 5, 2) := by decide +kernel
theorem c88_116 : cd 88 116 = some (.istore 3, 1) := by decide +kernel
theorem c88_117 : cd 88 117 = some (.iinc 4 1, 3) := by decide +kernel
theorem c88_120 : cd 88 120 = some (.goto 44, 3) := by decide +kernel
theorem c88_123 : cd 88 123 = some (.aload 0, 1) := by decide +kernel
theorem c88_124 : cd 88 124 = some (.invokevirtual 151, 3) := by decide +kernel
theorem c88_127 : cd 88 127 = some (.iload 3, 1) := by decide +kernel
theorem c88_128 : cd 88 128 = some (.ireturn, 1) := by decide +kernel
theorem g88_0 {d : Nat} {a1 : Int} {x2 x3 x4 x5 : Option aV} {w : aW} {Q : Option aV → aW → Prop} : T (d + 1) 88 0 [some (vr 167), some (vi a1), x2, x3, x4, x5] [] w Q = T d 105 0 [some (vl a1), none, some (vl 0), none, some (vl 1), none] [] (iup w 167 0 0) (fun r w1 => T (d + 1) 88 12 [some (vr 167), some (vi a1), x2, x3, x4, x5] (r.toList ++ []) w1 Q) := by
  rw [T_aload_0 c88_0, T_sipush c88_1, T_putI 12 0 0 c88_2 rfl rfl rfl rfl, T_iload_1 c88_5, T_i2l c88_6, T_bipush c88_7, T_bipush c88_8, T_inv (es := [some (vl a1), none, some (vl 0), none, some (vl 1), none]) (st := [vl 1, vl 0, vl a1]) (ks := [1, 1, 1]) (n := 6) (as := [vl a1, vl 0, vl 1]) (rest := []) c88_9 (by decide +kernel) (by decide +kernel) rfl rfl (Nat.le_of_ble_eq_true rfl)]
  all_goals try simp only [lay_167, true_and, Nat.reduceAdd, eq_self_iff_true]
theorem g88_12 {d : Nat} {s0 : Int} {x1 x2 x3 x4 x5 : Option aV} {w : aW} {Q : Option aV → aW → Prop} : T (d + 1) 88 12 [some (vr 167), x1, x2, x3, x4, x5] [vi s0] w Q = ((¬ s0 = 0 → ((¬ w 168 4 = 0 → T d 129 0 [some (vr 167), none] [] w (fun r w1 => T (d + 1) 88 34 [some (vr 167), x1, x2, x3, x4, x5] (r.toList ++ []) w1 Q)) ∧ (¬ (¬ w 168 4 = 0) → Q (some (vi (-5))) w))) ∧ (¬ (¬ s0 = 0) → Q (some (vi (-2))) w)) := by
  rw [T_if_ne 18 c88_12 rfl, T_aload_0 c88_18, T_getR 12 1 1 c88_19 rfl rfl rfl rfl, rf_167_1, T_sipush c88_22, T_iald c88_23, T_if_ne 30 c88_24 rfl, T_aload_0 c88_30, T_invv (es := [some (vr 167), none]) (st := [vr 167]) (ks := [2]) (n := 2) (c := 12) (k := 167) (as := []) (rest := []) c88_31 (by decide +kernel) (by decide +kernel) (by decide +kernel) (by decide) rfl rfl (Nat.le_of_ble_eq_true rfl), T_sipush c88_27, T_ireti c88_29 (by decide +kernel), T_sipush c88_15, T_ireti c88_17 (by decide +kernel)]
  all_goals try simp only [Int.reduceLE, Int.reduceLT, Int.reduceToNat, and_self, lay_167, ld_168, true_and, Nat.reduceAdd, eq_self_iff_true]
theorem g88_34 {d : Nat} {x1 x2 x3 x4 x5 : Option aV} {w : aW} {Q : Option aV → aW → Prop} : T (d + 1) 88 34 [some (vr 167), x1, x2, x3, x4, x5] [] w Q = T d 139 0 [some (vr 167), none, none] [] w (fun r w1 => T (d + 1) 88 38 [some (vr 167), x1, x2, x3, x4, x5] (r.toList ++ []) w1 Q) := by
  rw [T_aload_0 c88_34, T_invv (es := [some (vr 167), none, none]) (st := [vr 167]) (ks := [2]) (n := 3) (c := 12) (k := 167) (as := []) (rest := []) c88_35 (by decide +kernel) (by decide +kernel) (by decide +kernel) (by decide) rfl rfl (Nat.le_of_ble_eq_true rfl)]
  all_goals try simp only [lay_167, true_and, Nat.reduceAdd, eq_self_iff_true]
theorem g88_38 {d : Nat} {s0 : Int} {x0 x1 x2 x3 x4 x5 : Option aV} {w : aW} {Q : Option aV → aW → Prop} : T d 88 38 [x0, x1, x2, x3, x4, x5] [vi s0] w Q = T d 88 44 [x0, x1, some (vi s0), some (vi (-1)), some (vi 0), x5] [] w Q := by
  rw [T_istore_2 c88_38, T_sipush c88_39, T_istore_3 c88_40, T_sipush c88_41, T_istore_4 c88_42]
  all_goals try simp only [true_and, Nat.reduceAdd, eq_self_iff_true]
theorem g88_44 {d : Nat} {a3 a4 : Int} {x1 x2 x5 : Option aV} {w : aW} {Q : Option aV → aW → Prop} : T (d + 1) 88 44 [some (vr 167), x1, x2, some (vi a3), some (vi a4), x5] [] w Q = ((200 ≤ a4 → T (d + 1) 88 123 [some (vr 167), x1, x2, some (vi a3), some (vi a4), x5] [] w Q) ∧ (¬ (200 ≤ a4) → ((¬ a3 = (-1) → T (d + 1) 88 123 [some (vr 167), x1, x2, some (vi a3), some (vi a4), x5] [] w Q) ∧ (¬ (¬ a3 = (-1)) → T d 136 0 [some (vr 167), none, none, none] [] w (fun r w1 => T (d + 1) 88 61 [some (vr 167), x1, x2, some (vi a3), some (vi a4), x5] (r.toList ++ []) w1 Q))))) := by
  rw [T_iload_4 c88_44, T_sipush c88_46, T_icmp_ge 123 c88_49 rfl, T_iload_3 c88_52, T_sipush c88_53, T_icmp_ne 123 c88_54 rfl, T_aload_0 c88_57, T_invv (es := [some (vr 167), none, none, none]) (st := [vr 167]) (ks := [2]) (n := 4) (c := 12) (k := 167) (as := []) (rest := []) c88_58 (by decide +kernel) (by decide +kernel) (by decide +kernel) (by decide) rfl rfl (Nat.le_of_ble_eq_true rfl)]
  all_goals try simp only [Int.reduceToNat, lay_167, true_and, Nat.reduceAdd, eq_self_iff_true]
theorem g88_61 {d : Nat} {s0 : Int} {x1 x2 x3 x4 x5 : Option aV} {w : aW} {Q : Option aV → aW → Prop} : T (d + 1) 88 61 [some (vr 167), x1, x2, x3, x4, x5] [vi s0] w Q = T d 139 0 [some (vr 167), none, none] [] w (fun r w1 => T (d + 1) 88 66 [some (vr 167), x1, x2, x3, x4, x5] (r.toList ++ []) w1 Q) := by
  rw [T_pop_i c88_61, T_aload_0 c88_62, T_invv (es := [some (vr 167), none, none]) (st := [vr 167]) (ks := [2]) (n := 3) (c := 12) (k := 167) (as := []) (rest := []) c88_63 (by decide +kernel) (by decide +kernel) (by decide +kernel) (by decide) rfl rfl (Nat.le_of_ble_eq_true rfl)]
  all_goals try simp only [lay_167, true_and, Nat.reduceAdd, eq_self_iff_true]
theorem g88_66 {d : Nat} {a2 s0 : Int} {x0 x1 x3 x4 x5 : Option aV} {w : aW} {Q : Option aV → aW → Prop} : T d 88 66 [x0, x1, some (vi a2), x3, x4, x5] [vi s0] w Q = ((¬ s0 = a2 → T d 88 76 [x0, x1, some (vi a2), x3, x4, some (vi 0)] [] w Q) ∧ (¬ (¬ s0 = a2) → T d 88 117 [x0, x1, some (vi a2), x3, x4, x5] [] w Q)) := by
  rw [T_iload_2 c88_66, T_icmp_ne 73 c88_67 rfl, T_sipush c88_73, T_istore_5 c88_74, T_goto 117 c88_70 rfl]
  all_goals try simp only [Int.reduceToNat, true_and, Nat.reduceAdd, eq_self_iff_true]
theorem g88_76 {d : Nat} {a1 a4 a5 : Int} {x2 x3 : Option aV} {w : aW} {Q : Option aV → aW → Prop} : T d 88 76 [some (vr 167), some (vi a1), x2, x3, some (vi a4), some (vi a5)] [] w Q = ((0 ≤ w32 (17 + a5) ∧ w32 (17 + a5) < 59) ∧ ((0 ≤ w32 (22 + a5) ∧ w32 (22 + a5) < 4932) ∧ ((¬ w 173 (w32 (17 + a5)) = w 168 (w32 (22 + a5)) → ((¬ a1 = 0 → T d 88 116 [some (vr 167), some (vi a1), x2, x3, some (vi a4), some (vi a5)] [vi a5] w Q) ∧ (¬ (¬ a1 = 0) → T d 88 116 [some (vr 167), some (vi a1), x2, x3, some (vi a4), some (vi a5)] [vi a4] w Q))) ∧ (¬ (¬ w 173 (w32 (17 + a5)) = w 168 (w32 (22 + a5))) → T d 88 76 [some (vr 167), some (vi a1), x2, x3, some (vi a4), some (vi (w32 (a5 + 1)))] [] w Q)))) := by
  rw [T_aload_0 c88_76, T_getR 12 16 16 c88_77 rfl rfl rfl rfl, rf_167_16, T_sipush c88_80, T_iload_5 c88_82, T_iadd c88_84, T_iald c88_85, T_aload_0 c88_86, T_getR 12 1 1 c88_87 rfl rfl rfl rfl, rf_167_1, T_sipush c88_90, T_iload_5 c88_92, T_iadd c88_94, T_iald c88_95, T_icmp_ne 105 c88_96 rfl, T_iload_1 c88_105, T_if_ne 114 c88_106 rfl, T_iload_5 c88_114, T_iload_4 c88_109, T_goto 116 c88_111 rfl, T_iinc_5 c88_99, T_goto 76 c88_102 rfl]
  all_goals try simp only [Int.reduceToNat, lay_167, ld_168, ld_173, true_and, Nat.reduceAdd, eq_self_iff_true]
theorem g88_116 {d : Nat} {s0 : Int} {x0 x1 x2 x3 x4 x5 : Option aV} {w : aW} {Q : Option aV → aW → Prop} : T d 88 116 [x0, x1, x2, x3, x4, x5] [vi s0] w Q = T d 88 117 [x0, x1, x2, some (vi s0), x4, x5] [] w Q := by
  rw [T_istore_3 c88_116]
  all_goals try simp only [true_and, Nat.reduceAdd, eq_self_iff_true]
theorem g88_117 {d : Nat} {a4 : Int} {x0 x1 x2 x3 x5 : Option aV} {w : aW} {Q : Option aV → aW → Prop} : T d 88 117 [x0, x1, x2, x3, some (vi a4), x5] [] w Q = T d 88 44 [x0, x1, x2, x3, some (vi (w32 (a4 + 1))), x5] [] w Q := by
  rw [T_iinc_4 c88_117, T_goto 44 c88_120 rfl]
  all_goals try simp only [true_and, Nat.reduceAdd, eq_self_iff_true]
theorem g88_123 {d : Nat} {x1 x2 x3 x4 x5 : Option aV} {w : aW} {Q : Option aV → aW → Prop} : T (d + 1) 88 123 [some (vr 167), x1, x2, x3, x4, x5] [] w Q = T d 151 0 [some (vr 167), none] [] w (fun r w1 => T (d + 1) 88 127 [some (vr 167), x1, x2, x3, x4, x5] (r.toList ++ []) w1 Q) := by
  rw [T_aload_0 c88_123, T_invv (es := [some (vr 167), none]) (st := [vr 167]) (ks := [2]) (n := 2) (c := 12) (k := 167) (as := []) (rest := []) c88_124 (by decide +kernel) (by decide +kernel) (by decide +kernel) (by decide) rfl rfl (Nat.le_of_ble_eq_true rfl)]
  all_goals try simp only [lay_167, true_and, Nat.reduceAdd, eq_self_iff_true]
theorem g88_127 {d : Nat} {a3 : Int} {x0 x1 x2 x4 x5 : Option aV} {w : aW} {Q : Option aV → aW → Prop} : T d 88 127 [x0, x1, x2, some (vi a3), x4, x5] [] w Q = Q (some (vi a3)) w := by
  rw [T_iload_3 c88_127, T_ireti c88_128 (by decide +kernel)]
  all_goals try simp only [true_and, Nat.reduceAdd, eq_self_iff_true]
/-! 89: StringHands.numbers.(III)I -/
theorem c89_0 : cd 89 0 = some (.iload 1, 1) := by decide +kernel
theorem c89_1 : cd 89 1 = some (.invokestatic 147, 3) := by decide +kernel
theorem c89_4 : cd 89 4 = some (.ifCond .eq 16, 3) := by decide +kernel
theorem c89_7 : cd 89 7 = some (.iload 2, 1) := by decide +kernel
theorem c89_8 : cd 89 8 = some (.ifCond .lt 16, 3) := by decide +kernel
theorem c89_11 : cd 89 11 = some (.iload 2, 1) := by decide +kernel
theorem c89_12 : cd 89 12 = some (.sipush 3, 1) := by decide +kernel
theorem c89_13 : cd 89 13 = some (.if_icmp .le 19, 3) := by decide +kernel
theorem c89_16 : cd 89 16 = some (.sipush (-2), 2) := by decide +kernel
theorem c89_18 : cd 89 18 = some (.ireturn, 1) := by decide +kernel
theorem c89_19 : cd 89 19 = some (.iload 3, 1) := by decide +kernel
theorem c89_20 : cd 89 20 = some (.ifCond .lt 29, 3) := by decide +kernel
theorem c89_23 : cd 89 23 = some (.iload 3, 1) := by decide +kernel
theorem c89_24 : cd 89 24 = some (.sipush 40, 2) := by decide +kernel
theorem c89_26 : cd 89 26 = some (.if_icmp .le 32, 3) := by decide +kernel
theorem c89_29 : cd 89 29 = some (.sipush (-3), 2) := by decide +kernel
theorem c89_31 : cd 89 31 = some (.ireturn, 1) := by decide +kernel
theorem c89_32 : cd 89 32 = some (.aload 0, 1) := by decide +kernel
theorem c89_33 : cd 89 33 = some (.getfield 2870, 3) := by decide +kernel
theorem c89_36 : cd 89 36 = some (.iload 1, 1) := by decide +kernel
theorem c89_37 : cd 89 37 = some (.aaload, 1) := by decide +kernel
theorem c89_38 : cd 89 38 = some (.iload 2, 1) := by decide +kernel
theorem c89_39 : cd 89 39 = some (.iload 3, 1) := by decide +kernel
theorem c89_40 : cd 89 40 = some (.invokevirtual 206, 3) := by decide +kernel
theorem c89_43 : cd 89 43 = some (.sipush 0, 1) := by decide +kernel
theorem c89_44 : cd 89 44 = some (.ireturn, 1) := by decide +kernel
theorem g89_0 {d : Nat} {a1 : Int} {x0 x2 x3 : Option aV} {w : aW} {Q : Option aV → aW → Prop} : T (d + 1) 89 0 [x0, some (vi a1), x2, x3] [] w Q = T d 147 0 [some (vi a1)] [] w (fun r w1 => T (d + 1) 89 4 [x0, some (vi a1), x2, x3] (r.toList ++ []) w1 Q) := by
  rw [T_iload_1 c89_0, T_inv (es := [some (vi a1)]) (st := [vi a1]) (ks := [0]) (n := 1) (as := [vi a1]) (rest := []) c89_1 (by decide +kernel) (by decide +kernel) rfl rfl (Nat.le_of_ble_eq_true rfl)]
  all_goals try simp only [true_and, Nat.reduceAdd, eq_self_iff_true]
theorem g89_4 {d : Nat} {a1 a2 a3 s0 : Int} {w : aW} {Q : Option aV → aW → Prop} : T (d + 1) 89 4 [some (vr 0), some (vi a1), some (vi a2), some (vi a3)] [vi s0] w Q = ((s0 = 0 → T (d + 1) 89 16 [some (vr 0), some (vi a1), some (vi a2), some (vi a3)] [] w Q) ∧ (¬ (s0 = 0) → ((a2 < 0 → T (d + 1) 89 16 [some (vr 0), some (vi a1), some (vi a2), some (vi a3)] [] w Q) ∧ (¬ (a2 < 0) → ((a2 ≤ 3 → ((a3 < 0 → T (d + 1) 89 29 [some (vr 0), some (vi a1), some (vi a2), some (vi a3)] [] w Q) ∧ (¬ (a3 < 0) → ((a3 ≤ 40 → ((isRA 88 a1 = true ∧ (88 = 87 → (w 87 a1).toNat < 191)) ∧ (lay (rAt w 88 a1) = (3, 0) ∧ T d 206 0 [some (vr (rAt w 88 a1)), some (vi a2), some (vi a3)] [] w (fun r w1 => T (d + 1) 89 43 [some (vr 0), some (vi a1), some (vi a2), some (vi a3)] (r.toList ++ []) w1 Q)))) ∧ (¬ (a3 ≤ 40) → T (d + 1) 89 29 [some (vr 0), some (vi a1), some (vi a2), some (vi a3)] [] w Q))))) ∧ (¬ (a2 ≤ 3) → T (d + 1) 89 16 [some (vr 0), some (vi a1), some (vi a2), some (vi a3)] [] w Q)))))) := by
  rw [T_if_eq 16 c89_4 rfl, T_iload_2 c89_7, T_if_lt 16 c89_8 rfl, T_iload_2 c89_11, T_sipush c89_12, T_icmp_le 19 c89_13 rfl, T_iload_3 c89_19, T_if_lt 29 c89_20 rfl, T_iload_3 c89_23, T_sipush c89_24, T_icmp_le 32 c89_26 rfl, T_aload_0 c89_32, T_getR 11 13 13 c89_33 rfl rfl rfl rfl, rf_0_13, T_iload_1 c89_36, T_aald c89_37, T_iload_2 c89_38, T_iload_3 c89_39, T_invv (es := [some (vr (rAt w 88 a1)), some (vi a2), some (vi a3)]) (st := [vi a3, vi a2, vr (rAt w 88 a1)]) (ks := [2, 0, 0]) (n := 3) (c := 3) (k := (rAt w 88 a1)) (as := [vi a2, vi a3]) (rest := []) c89_40 (by decide +kernel) (by decide +kernel) (by decide +kernel) (by decide) rfl rfl (Nat.le_of_ble_eq_true rfl)]
  all_goals try simp only [Int.reduceToNat, lay_0, true_and, Nat.reduceAdd, eq_self_iff_true]
theorem g89_16 {d : Nat} {x0 x1 x2 x3 : Option aV} {w : aW} {Q : Option aV → aW → Prop} : T d 89 16 [x0, x1, x2, x3] [] w Q = Q (some (vi (-2))) w := by
  rw [T_sipush c89_16, T_ireti c89_18 (by decide +kernel)]
  all_goals try simp only [true_and, Nat.reduceAdd, eq_self_iff_true]
theorem g89_29 {d : Nat} {x0 x1 x2 x3 : Option aV} {w : aW} {Q : Option aV → aW → Prop} : T d 89 29 [x0, x1, x2, x3] [] w Q = Q (some (vi (-3))) w := by
  rw [T_sipush c89_29, T_ireti c89_31 (by decide +kernel)]
  all_goals try simp only [true_and, Nat.reduceAdd, eq_self_iff_true]
theorem g89_43 {d : Nat} {x0 x1 x2 x3 : Option aV} {w : aW} {Q : Option aV → aW → Prop} : T d 89 43 [x0, x1, x2, x3] [] w Q = Q (some (vi 0)) w := by
  rw [T_sipush c89_43, T_ireti c89_44 (by decide +kernel)]
  all_goals try simp only [true_and, Nat.reduceAdd, eq_self_iff_true]
/-! 90: StringHandsModel.numbers.(III)I -/
theorem c90_0 : cd 90 0 = some (.aload 0, 1) := by decide +kernel
theorem c90_1 : cd 90 1 = some (.sipush 0, 1) := by decide +kernel
theorem c90_2 : cd 90 2 = some (.putfield 3072, 3) := by decide +kernel
theorem c90_5 : cd 90 5 = some (.iload 1, 1) := by decide +kernel
theorem c90_6 : cd 90 6 = some (.i2l, 1) := by decide +kernel
theorem c90_7 : cd 90 7 = some (.bipush 0, 1) := by decide +kernel
theorem c90_8 : cd 90 8 = some (.bipush 3, 3) := by decide +kernel
theorem c90_11 : cd 90 11 = some (.invokestatic 105, 3) := by decide +kernel
theorem c90_14 : cd 90 14 = some (.ifCond .eq 29, 3) := by decide +kernel
theorem c90_17 : cd 90 17 = some (.iload 2, 1) := by decide +kernel
theorem c90_18 : cd 90 18 = some (.i2l, 1) := by decide +kernel
theorem c90_19 : cd 90 19 = some (.bipush 0, 1) := by decide +kernel
theorem c90_20 : cd 90 20 = some (.bipush 3, 3) := by decide +kernel
theorem c90_23 : cd 90 23 = some (.invokestatic 105, 3) := by decide +kernel
theorem c90_26 : cd 90 26 = some (.ifCond .ne 32, 3) := by decide +kernel
theorem c90_29 : cd 90 29 = some (.sipush (-2), 2) := by decide +kernel
theorem c90_31 : cd 90 31 = some (.ireturn, 1) := by decide +kernel
theorem c90_32 : cd 90 32 = some (.iload 3, 1) := by decide +kernel
theorem c90_33 : cd 90 33 = some (.i2l, 1) := by decide +kernel
theorem c90_34 : cd 90 34 = some (.bipush 0, 1) := by decide +kernel
theorem c90_35 : cd 90 35 = some (.bipush 40, 3) := by decide +kernel
theorem c90_38 : cd 90 38 = some (.invokestatic 105, 3) := by decide +kernel
theorem c90_41 : cd 90 41 = some (.ifCond .ne 47, 3) := by decide +kernel
theorem c90_44 : cd 90 44 = some (.sipush (-3), 2) := by decide +kernel
theorem c90_46 : cd 90 46 = some (.ireturn, 1) := by decide +kernel
theorem c90_47 : cd 90 47 = some (.aload 0, 1) := by decide +kernel
theorem c90_48 : cd 90 48 = some (.getfield 3210, 3) := by decide +kernel
theorem c90_51 : cd 90 51 = some (.iload 1, 1) := by decide +kernel
theorem c90_52 : cd 90 52 = some (.iload 2, 1) := by decide +kernel
theorem c90_53 : cd 90 53 = some (.iastore, 1) := by decide +kernel
theorem c90_54 : cd 90 54 = some (.aload 0, 1) := by decide +kernel
theorem c90_55 : cd 90 55 = some (.getfield 3214, 3) := by decide +kernel
theorem c90_58 : cd 90 58 = some (.iload 1, 1) := by decide +kernel
theorem c90_59 : cd 90 59 = some (.iload 3, 1) := by decide +kernel
theorem c90_60 : cd 90 60 = some (.iastore, 1) := by decide +kernel
theorem c90_61 : cd 90 61 = some (.sipush 0, 1) := by decide +kernel
theorem c90_62 : cd 90 62 = some (.istore 4, 2) := by decide +kernel
theorem c90_64 : cd 90 64 = some (.iload 4, 2) := by decide +kernel
theorem c90_66 : cd 90 66 = some (.iload 3, 1) := by decide +kernel
theorem c90_67 : cd 90 67 = some (.if_icmp .ge 89, 3) := by decide +kernel
theorem c90_70 : cd 90 70 = some (.aload 0, 1) := by decide +kernel
theorem c90_71 : cd 90 71 = some (.getfield 3218, 3) := by decide +kernel
theorem c90_74 : cd 90 74 = some (.sipush 40, 2) := by decide +kernel
theorem c90_76 : cd 90 76 = some (.iload 1, 1) := by decide +kernel
theorem c90_77 : cd 90 77 = some (.imul, 1) := by decide +kernel
theorem c90_78 : cd 90 78 = some (.iload 4, 2) := by decide +kernel
theorem c90_80 : cd 90 80 = some (.iadd, 1) := by decide +kernel
theorem c90_81 : cd 90 81 = some (.bipush 0, 1) := by decide +kernel
theorem c90_82 : cd 90 82 = some (.lastore, 1) := by decide +kernel
theorem c90_83 : cd 90 83 = some (.iinc 4 1, 3) := by decide +kernel
theorem c90_86 : cd 90 86 = some (.goto 64, 3) := by decide +kernel
theorem c90_89 : cd 90 89 = some (.sipush 0, 1) := by decide +kernel
theorem c90_90 : cd 90 90 = some (.ireturn, 1) := by decide +kernel
theorem g90_0 {d : Nat} {a1 : Int} {x2 x3 x4 : Option aV} {w : aW} {Q : Option aV → aW → Prop} : T (d + 1) 90 0 [some (vr 167), some (vi a1), x2, x3, x4] [] w Q = T d 105 0 [some (vl a1), none, some (vl 0), none, some (vl 3), none] [] (iup w 167 0 0) (fun r w1 => T (d + 1) 90 14 [some (vr 167), some (vi a1), x2, x3, x4] (r.toList ++ []) w1 Q) := by
  rw [T_aload_0 c90_0, T_sipush c90_1, T_putI 12 0 0 c90_2 rfl rfl rfl rfl, T_iload_1 c90_5, T_i2l c90_6, T_bipush c90_7, T_bipush c90_8, T_inv (es := [some (vl a1), none, some (vl 0), none, some (vl 3), none]) (st := [vl 3, vl 0, vl a1]) (ks := [1, 1, 1]) (n := 6) (as := [vl a1, vl 0, vl 3]) (rest := []) c90_11 (by decide +kernel) (by decide +kernel) rfl rfl (Nat.le_of_ble_eq_true rfl)]
  all_goals try simp only [lay_167, true_and, Nat.reduceAdd, eq_self_iff_true]
theorem g90_14 {d : Nat} {a2 s0 : Int} {x0 x1 x3 x4 : Option aV} {w : aW} {Q : Option aV → aW → Prop} : T (d + 1) 90 14 [x0, x1, some (vi a2), x3, x4] [vi s0] w Q = ((s0 = 0 → T (d + 1) 90 29 [x0, x1, some (vi a2), x3, x4] [] w Q) ∧ (¬ (s0 = 0) → T d 105 0 [some (vl a2), none, some (vl 0), none, some (vl 3), none] [] w (fun r w1 => T (d + 1) 90 26 [x0, x1, some (vi a2), x3, x4] (r.toList ++ []) w1 Q))) := by
  rw [T_if_eq 29 c90_14 rfl, T_iload_2 c90_17, T_i2l c90_18, T_bipush c90_19, T_bipush c90_20, T_inv (es := [some (vl a2), none, some (vl 0), none, some (vl 3), none]) (st := [vl 3, vl 0, vl a2]) (ks := [1, 1, 1]) (n := 6) (as := [vl a2, vl 0, vl 3]) (rest := []) c90_23 (by decide +kernel) (by decide +kernel) rfl rfl (Nat.le_of_ble_eq_true rfl)]
  all_goals try simp only [Int.reduceToNat, true_and, Nat.reduceAdd, eq_self_iff_true]
theorem g90_26 {d : Nat} {a3 s0 : Int} {x0 x1 x2 x4 : Option aV} {w : aW} {Q : Option aV → aW → Prop} : T (d + 1) 90 26 [x0, x1, x2, some (vi a3), x4] [vi s0] w Q = ((¬ s0 = 0 → T d 105 0 [some (vl a3), none, some (vl 0), none, some (vl 40), none] [] w (fun r w1 => T (d + 1) 90 41 [x0, x1, x2, some (vi a3), x4] (r.toList ++ []) w1 Q)) ∧ (¬ (¬ s0 = 0) → T (d + 1) 90 29 [x0, x1, x2, some (vi a3), x4] [] w Q)) := by
  rw [T_if_ne 32 c90_26 rfl, T_iload_3 c90_32, T_i2l c90_33, T_bipush c90_34, T_bipush c90_35, T_inv (es := [some (vl a3), none, some (vl 0), none, some (vl 40), none]) (st := [vl 40, vl 0, vl a3]) (ks := [1, 1, 1]) (n := 6) (as := [vl a3, vl 0, vl 40]) (rest := []) c90_38 (by decide +kernel) (by decide +kernel) rfl rfl (Nat.le_of_ble_eq_true rfl)]
  all_goals try simp only [Int.reduceToNat, true_and, Nat.reduceAdd, eq_self_iff_true]
theorem g90_29 {d : Nat} {x0 x1 x2 x3 x4 : Option aV} {w : aW} {Q : Option aV → aW → Prop} : T d 90 29 [x0, x1, x2, x3, x4] [] w Q = Q (some (vi (-2))) w := by
  rw [T_sipush c90_29, T_ireti c90_31 (by decide +kernel)]
  all_goals try simp only [true_and, Nat.reduceAdd, eq_self_iff_true]
theorem g90_41 {d : Nat} {a1 a2 a3 s0 : Int} {x4 : Option aV} {w : aW} {Q : Option aV → aW → Prop} : T d 90 41 [some (vr 167), some (vi a1), some (vi a2), some (vi a3), x4] [vi s0] w Q = ((¬ s0 = 0 → ((0 ≤ a1 ∧ a1 < 4) ∧ ((0 ≤ a1 ∧ a1 < 4) ∧ T d 90 64 [some (vr 167), some (vi a1), some (vi a2), some (vi a3), some (vi 0)] [] (iup (iup w 188 a1 a2) 189 a1 a3) Q))) ∧ (¬ (¬ s0 = 0) → Q (some (vi (-3))) w)) := by
  rw [T_if_ne 47 c90_41 rfl, T_aload_0 c90_47, T_getR 12 34 34 c90_48 rfl rfl rfl rfl, rf_167_34, T_iload_1 c90_51, T_iload_2 c90_52, T_iast c90_53, T_aload_0 c90_54, T_getR 12 35 35 c90_55 rfl rfl rfl rfl, rf_167_35, T_iload_1 c90_58, T_iload_3 c90_59, T_iast c90_60, T_sipush c90_61, T_istore_4 c90_62, T_sipush c90_44, T_ireti c90_46 (by decide +kernel)]
  all_goals try simp only [Int.reduceToNat, ia0_188, ia0_189, lay_167, true_and, Nat.reduceAdd, eq_self_iff_true]
theorem g90_64 {d : Nat} {a1 a3 a4 : Int} {x2 : Option aV} {w : aW} {Q : Option aV → aW → Prop} : T d 90 64 [some (vr 167), some (vi a1), x2, some (vi a3), some (vi a4)] [] w Q = ((a3 ≤ a4 → Q (some (vi 0)) w) ∧ (¬ (a3 ≤ a4) → ((0 ≤ w32 ((w32 (40 * a1)) + a4) ∧ w32 ((w32 (40 * a1)) + a4) < 160) ∧ T d 90 64 [some (vr 167), some (vi a1), x2, some (vi a3), some (vi (w32 (a4 + 1)))] [] (iup w 190 (w32 ((w32 (40 * a1)) + a4)) 0) Q))) := by
  rw [T_iload_4 c90_64, T_iload_3 c90_66, T_icmp_ge 89 c90_67 rfl, T_sipush c90_89, T_ireti c90_90 (by decide +kernel), T_aload_0 c90_70, T_getR 12 36 36 c90_71 rfl rfl rfl rfl, rf_167_36, T_sipush c90_74, T_iload_1 c90_76, T_imul c90_77, T_iload_4 c90_78, T_iadd c90_80, T_bipush c90_81, T_last c90_82, T_iinc_4 c90_83, T_goto 64 c90_86 rfl]
  all_goals try simp only [Int.reduceToNat, ia1_190, lay_167, true_and, Nat.reduceAdd, eq_self_iff_true]
/-! 91: StringHands.write.(IIJ)J -/
theorem c91_0 : cd 91 0 = some (.iload 1, 1) := by decide +kernel
theorem c91_1 : cd 91 1 = some (.invokestatic 147, 3) := by decide +kernel
theorem c91_4 : cd 91 4 = some (.ifCond .ne 11, 3) := by decide +kernel
theorem c91_7 : cd 91 7 = some (.bipush (-2), 3) := by decide +kernel
theorem c91_10 : cd 91 10 = some (.lreturn, 1) := by decide +kernel
theorem c91_11 : cd 91 11 = some (.aload 0, 1) := by decide +kernel
theorem c91_12 : cd 91 12 = some (.getfield 2870, 3) := by decide +kernel
theorem c91_15 : cd 91 15 = some (.iload 1, 1) := by decide +kernel
theorem c91_16 : cd 91 16 = some (.aaload, 1) := by decide +kernel
theorem c91_17 : cd 91 17 = some (.invokevirtual 148, 3) := by decide +kernel
theorem c91_20 : cd 91 20 = some (.ifCond .eq 27, 3) := by decide +kernel
theorem c91_23 : cd 91 23 = some (.bipush (-6), 3) := by decide +kernel
theorem c91_26 : cd 91 26 = some (.lreturn, 1) := by decide +kernel
theorem c91_27 : cd 91 27 = some (.iload 2, 1) := by decide +kernel
theorem c91_28 : cd 91 28 = some (.ifCond .lt 44, 3) := by decide +kernel
theorem c91_31 : cd 91 31 = some (.iload 2, 1) := by decide +kernel
theorem c91_32 : cd 91 32 = some (.aload 0, 1) := by decide +kernel
theorem c91_33 : cd 91 33 = some (.getfield 2870, 3) := by decide +kernel
theorem c91_36 : cd 91 36 = some (.iload 1, 1) := by decide +kernel
theorem c91_37 : cd 91 37 = some (.aaload, 1) := by decide +kernel
theorem c91_38 : cd 91 38 = some (.getfield 768, 3) := by decide +kernel
theorem c91_41 : cd 91 41 = some (.if_icmp .lt 48, 3) := by decide +kernel
theorem c91_44 : cd 91 44 = some (.bipush (-7), 3) := by decide +kernel
theorem c91_47 : cd 91 47 = some (.lreturn, 1) := by decide +kernel
theorem c91_48 : cd 91 48 = some (.aload 0, 1) := by decide +kernel
theorem c91_49 : cd 91 49 = some (.getfield 2870, 3) := by decide +kernel
theorem c91_52 : cd 91 52 = some (.iload 1, 1) := by decide +kernel
theorem c91_53 : cd 91 53 = some (.aaload, 1) := by decide +kernel
theorem c91_54 : cd 91 54 = some (.iload 2, 1) := by decide +kernel
theorem c91_55 : cd 91 55 = some (.lload 3, 1) := by decide +kernel
theorem c91_56 : cd 91 56 = some (.invokevirtual 204, 3) := by decide +kernel
theorem c91_59 : cd 91 59 = some (.lreturn, 1) := by decide +kernel
theorem g91_0 {d : Nat} {a1 : Int} {x0 x2 x3 x4 : Option aV} {w : aW} {Q : Option aV → aW → Prop} : T (d + 1) 91 0 [x0, some (vi a1), x2, x3, x4] [] w Q = T d 147 0 [some (vi a1)] [] w (fun r w1 => T (d + 1) 91 4 [x0, some (vi a1), x2, x3, x4] (r.toList ++ []) w1 Q) := by
  rw [T_iload_1 c91_0, T_inv (es := [some (vi a1)]) (st := [vi a1]) (ks := [0]) (n := 1) (as := [vi a1]) (rest := []) c91_1 (by decide +kernel) (by decide +kernel) rfl rfl (Nat.le_of_ble_eq_true rfl)]
  all_goals try simp only [true_and, Nat.reduceAdd, eq_self_iff_true]
theorem g91_4 {d : Nat} {a1 s0 : Int} {x2 x3 x4 : Option aV} {w : aW} {Q : Option aV → aW → Prop} : T (d + 1) 91 4 [some (vr 0), some (vi a1), x2, x3, x4] [vi s0] w Q = ((¬ s0 = 0 → ((isRA 88 a1 = true ∧ (88 = 87 → (w 87 a1).toNat < 191)) ∧ (lay (rAt w 88 a1) = (3, 0) ∧ T d 148 0 [some (vr (rAt w 88 a1))] [] w (fun r w1 => T (d + 1) 91 20 [some (vr 0), some (vi a1), x2, x3, x4] (r.toList ++ []) w1 Q)))) ∧ (¬ (¬ s0 = 0) → Q (some (vl (-2))) w)) := by
  rw [T_if_ne 11 c91_4 rfl, T_aload_0 c91_11, T_getR 11 13 13 c91_12 rfl rfl rfl rfl, rf_0_13, T_iload_1 c91_15, T_aald c91_16, T_invv (es := [some (vr (rAt w 88 a1))]) (st := [vr (rAt w 88 a1)]) (ks := [2]) (n := 1) (c := 3) (k := (rAt w 88 a1)) (as := []) (rest := []) c91_17 (by decide +kernel) (by decide +kernel) (by decide +kernel) (by decide) rfl rfl (Nat.le_of_ble_eq_true rfl), T_bipush c91_7, T_lret c91_10 (by decide +kernel)]
  all_goals try simp only [Int.reduceToNat, lay_0, true_and, Nat.reduceAdd, eq_self_iff_true]
theorem g91_20 {d : Nat} {a1 a2 b3 s0 : Int} {w : aW} {Q : Option aV → aW → Prop} : T (d + 1) 91 20 [some (vr 0), some (vi a1), some (vi a2), some (vl b3), none] [vi s0] w Q = ((s0 = 0 → ((a2 < 0 → T (d + 1) 91 44 [some (vr 0), some (vi a1), some (vi a2), some (vl b3), none] [] w Q) ∧ (¬ (a2 < 0) → ((isRA 88 a1 = true ∧ (88 = 87 → (w 87 a1).toNat < 191)) ∧ (lay (rAt w 88 a1) = (3, 0) ∧ ((a2 < w (rAt w 88 a1) 0 → ((isRA 88 a1 = true ∧ (88 = 87 → (w 87 a1).toNat < 191)) ∧ (lay (rAt w 88 a1) = (3, 0) ∧ T d 204 0 [some (vr (rAt w 88 a1)), some (vi a2), some (vl b3), none] [] w (fun r w1 => T (d + 1) 91 59 [some (vr 0), some (vi a1), some (vi a2), some (vl b3), none] (r.toList ++ []) w1 Q)))) ∧ (¬ (a2 < w (rAt w 88 a1) 0) → T (d + 1) 91 44 [some (vr 0), some (vi a1), some (vi a2), some (vl b3), none] [] w Q))))))) ∧ (¬ (s0 = 0) → Q (some (vl (-6))) w)) := by
  rw [T_if_eq 27 c91_20 rfl, T_iload_2 c91_27, T_if_lt 44 c91_28 rfl, T_iload_2 c91_31, T_aload_0 c91_32, T_getR 11 13 13 c91_33 rfl rfl rfl rfl, rf_0_13, T_iload_1 c91_36, T_aald c91_37, T_getI 3 0 0 c91_38 rfl rfl rfl rfl, T_icmp_lt 48 c91_41 rfl, T_aload_0 c91_48, T_getR 11 13 13 c91_49 rfl rfl rfl rfl, rf_0_13, T_iload_1 c91_52, T_aald c91_53, T_iload_2 c91_54, T_lload_3 c91_55, T_invv (es := [some (vr (rAt w 88 a1)), some (vi a2), some (vl b3), none]) (st := [vl b3, vi a2, vr (rAt w 88 a1)]) (ks := [2, 0, 1]) (n := 4) (c := 3) (k := (rAt w 88 a1)) (as := [vi a2, vl b3]) (rest := []) c91_56 (by decide +kernel) (by decide +kernel) (by decide +kernel) (by decide) rfl rfl (Nat.le_of_ble_eq_true rfl), T_bipush c91_23, T_lret c91_26 (by decide +kernel)]
  all_goals try simp only [Int.reduceToNat, lay_0, true_and, Nat.reduceAdd, eq_self_iff_true]
theorem g91_44 {d : Nat} {x0 x1 x2 x3 x4 : Option aV} {w : aW} {Q : Option aV → aW → Prop} : T d 91 44 [x0, x1, x2, x3, x4] [] w Q = Q (some (vl (-7))) w := by
  rw [T_bipush c91_44, T_lret c91_47 (by decide +kernel)]
  all_goals try simp only [true_and, Nat.reduceAdd, eq_self_iff_true]
theorem g91_59 {d : Nat} {s0 : Int} {x0 x1 x2 x3 x4 : Option aV} {w : aW} {Q : Option aV → aW → Prop} : T d 91 59 [x0, x1, x2, x3, x4] [vl s0] w Q = Q (some (vl s0)) w := by
  rw [T_lret c91_59 (by decide +kernel)]
  all_goals try simp only [true_and, Nat.reduceAdd, eq_self_iff_true]
/-! 92: StringHandsModel.write.(IIJ)J -/
theorem c92_0 : cd 92 0 = some (.aload 0, 1) := by decide +kernel
theorem c92_1 : cd 92 1 = some (.sipush 0, 1) := by decide +kernel
theorem c92_2 : cd 92 2 = some (.putfield 3072, 3) := by decide +kernel
theorem c92_5 : cd 92 5 = some (.iload 1, 1) := by decide +kernel
theorem c92_6 : cd 92 6 = some (.i2l, 1) := by decide +kernel
theorem c92_7 : cd 92 7 = some (.bipush 0, 1) := by decide +kernel
theorem c92_8 : cd 92 8 = some (.bipush 3, 3) := by decide +kernel
theorem c92_11 : cd 92 11 = some (.invokestatic 105, 3) := by decide +kernel
theorem c92_14 : cd 92 14 = some (.ifCond .ne 21, 3) := by decide +kernel
theorem c92_17 : cd 92 17 = some (.bipush (-2), 3) := by decide +kernel
theorem c92_20 : cd 92 20 = some (.lreturn, 1) := by decide +kernel
theorem c92_21 : cd 92 21 = some (.aload 0, 1) := by decide +kernel
theorem c92_22 : cd 92 22 = some (.getfield 3210, 3) := by decide +kernel
theorem c92_25 : cd 92 25 = some (.iload 1, 1) := by decide +kernel
theorem c92_26 : cd 92 26 = some (.iaload, 1) := by decide +kernel
theorem c92_27 : cd 92 27 = some (.sipush (-1), 1) := by decide +kernel
theorem c92_28 : cd 92 28 = some (.if_icmp .ne 35, 3) := by decide +kernel
theorem c92_31 : cd 92 31 = some (.bipush (-6), 3) := by decide +kernel
theorem c92_34 : cd 92 34 = some (.lreturn, 1) := by decide +kernel
theorem c92_35 : cd 92 35 = some (.iload 2, 1) := by decide +kernel
theorem c92_36 : cd 92 36 = some (.i2l, 1) := by decide +kernel
theorem c92_37 : cd 92 37 = some (.bipush 0, 1) := by decide +kernel
theorem c92_38 : cd 92 38 = some (.aload 0, 1) := by decide +kernel
theorem c92_39 : cd 92 39 = some (.getfield 3214, 3) := by decide +kernel
theorem c92_42 : cd 92 42 = some (.iload 1, 1) := by decide +kernel
theorem c92_43 : cd 92 43 = some (.iaload, 1) := by decide +kernel
theorem c92_44 : cd 92 44 = some (.sipush 1, 1) := by decide +kernel
theorem c92_45 : cd 92 45 = some (.isub, 1) := by decide +kernel
theorem c92_46 : cd 92 46 = some (.i2l, 1) := by decide +kernel
theorem c92_47 : cd 92 47 = some (.invokestatic 105, 3) := by decide +kernel
theorem c92_50 : cd 92 50 = some (.ifCond .ne 57, 3) := by decide +kernel
theorem c92_53 : cd 92 53 = some (.bipush (-7), 3) := by decide +kernel
theorem c92_56 : cd 92 56 = some (.lreturn, 1) := by decide +kernel
theorem c92_57 : cd 92 57 = some (.aload 0, 1) := by decide +kernel
theorem c92_58 : cd 92 58 = some (.getfield 3218, 3) := by decide +kernel
theorem c92_61 : cd 92 61 = some (.sipush 40, 2) := by decide +kernel
theorem c92_63 : cd 92 63 = some (.iload 1, 1) := by decide +kernel
theorem c92_64 : cd 92 64 = some (.imul, 1) := by decide +kernel
theorem c92_65 : cd 92 65 = some (.iload 2, 1) := by decide +kernel
theorem c92_66 : cd 92 66 = some (.iadd, 1) := by decide +kernel
theorem c92_67 : cd 92 67 = some (.lload 3, 1) := by decide +kernel
theorem c92_68 : cd 92 68 = some (.aload 0, 1) := by decide +kernel
theorem c92_69 : cd 92 69 = some (.getfield 3210, 3) := by decide +kernel
theorem c92_72 : cd 92 72 = some (.iload 1, 1) := by decide +kernel
theorem c92_73 : cd 92 73 = some (.iaload, 1) := by decide +kernel
theorem c92_74 : cd 92 74 = some (.invokestatic 205, 3) := by decide +kernel
theorem c92_77 : cd 92 77 = some (.lastore, 1) := by decide +kernel
theorem c92_78 : cd 92 78 = some (.aload 0, 1) := by decide +kernel
theorem c92_79 : cd 92 79 = some (.getfield 3218, 3) := by decide +kernel
theorem c92_82 : cd 92 82 = some (.sipush 40, 2) := by decide +kernel
theorem c92_84 : cd 92 84 = some (.iload 1, 1) := by decide +kernel
theorem c92_85 : cd 92 85 = some (.imul, 1) := by decide +kernel
theorem c92_86 : cd 92 86 = some (.iload 2, 1) := by decide +kernel
theorem c92_87 : cd 92 87 = some (.iadd, 1) := by decide +kernel
theorem c92_88 : cd 92 88 = some (.laload, 1) := by decide +kernel
theorem c92_89 : cd 92 89 = some (.lreturn, 1) := by decide +kernel
theorem g92_0 {d : Nat} {a1 : Int} {x2 x3 x4 : Option aV} {w : aW} {Q : Option aV → aW → Prop} : T (d + 1) 92 0 [some (vr 167), some (vi a1), x2, x3, x4] [] w Q = T d 105 0 [some (vl a1), none, some (vl 0), none, some (vl 3), none] [] (iup w 167 0 0) (fun r w1 => T (d + 1) 92 14 [some (vr 167), some (vi a1), x2, x3, x4] (r.toList ++ []) w1 Q) := by
  rw [T_aload_0 c92_0, T_sipush c92_1, T_putI 12 0 0 c92_2 rfl rfl rfl rfl, T_iload_1 c92_5, T_i2l c92_6, T_bipush c92_7, T_bipush c92_8, T_inv (es := [some (vl a1), none, some (vl 0), none, some (vl 3), none]) (st := [vl 3, vl 0, vl a1]) (ks := [1, 1, 1]) (n := 6) (as := [vl a1, vl 0, vl 3]) (rest := []) c92_11 (by decide +kernel) (by decide +kernel) rfl rfl (Nat.le_of_ble_eq_true rfl)]
  all_goals try simp only [lay_167, true_and, Nat.reduceAdd, eq_self_iff_true]
theorem g92_14 {d : Nat} {a1 a2 s0 : Int} {x3 x4 : Option aV} {w : aW} {Q : Option aV → aW → Prop} : T (d + 1) 92 14 [some (vr 167), some (vi a1), some (vi a2), x3, x4] [vi s0] w Q = ((¬ s0 = 0 → ((0 ≤ a1 ∧ a1 < 4) ∧ ((¬ w 188 a1 = (-1) → ((0 ≤ a1 ∧ a1 < 4) ∧ T d 105 0 [some (vl a2), none, some (vl 0), none, some (vl (w32 ((w 189 a1) - 1))), none] [] w (fun r w1 => T (d + 1) 92 50 [some (vr 167), some (vi a1), some (vi a2), x3, x4] (r.toList ++ []) w1 Q))) ∧ (¬ (¬ w 188 a1 = (-1)) → Q (some (vl (-6))) w)))) ∧ (¬ (¬ s0 = 0) → Q (some (vl (-2))) w)) := by
  rw [T_if_ne 21 c92_14 rfl, T_aload_0 c92_21, T_getR 12 34 34 c92_22 rfl rfl rfl rfl, rf_167_34, T_iload_1 c92_25, T_iald c92_26, T_sipush c92_27, T_icmp_ne 35 c92_28 rfl, T_iload_2 c92_35, T_i2l c92_36, T_bipush c92_37, T_aload_0 c92_38, T_getR 12 35 35 c92_39 rfl rfl rfl rfl, rf_167_35, T_iload_1 c92_42, T_iald c92_43, T_sipush c92_44, T_isub c92_45, T_i2l c92_46, T_inv (es := [some (vl a2), none, some (vl 0), none, some (vl (w32 ((w 189 a1) - 1))), none]) (st := [vl (w32 ((w 189 a1) - 1)), vl 0, vl a2]) (ks := [1, 1, 1]) (n := 6) (as := [vl a2, vl 0, vl (w32 ((w 189 a1) - 1))]) (rest := []) c92_47 (by decide +kernel) (by decide +kernel) rfl rfl (Nat.le_of_ble_eq_true rfl), T_bipush c92_31, T_lret c92_34 (by decide +kernel), T_bipush c92_17, T_lret c92_20 (by decide +kernel)]
  all_goals try simp only [Int.reduceToNat, lay_167, ld_188, ld_189, true_and, Nat.reduceAdd, eq_self_iff_true]
theorem g92_50 {d : Nat} {a1 a2 b3 s0 : Int} {w : aW} {Q : Option aV → aW → Prop} : T (d + 1) 92 50 [some (vr 167), some (vi a1), some (vi a2), some (vl b3), none] [vi s0] w Q = ((¬ s0 = 0 → ((0 ≤ a1 ∧ a1 < 4) ∧ T d 205 0 [some (vl b3), none, some (vi (w 188 a1))] [] w (fun r w1 => T (d + 1) 92 77 [some (vr 167), some (vi a1), some (vi a2), some (vl b3), none] (r.toList ++ [vi (w32 ((w32 (40 * a1)) + a2)), vr 190]) w1 Q))) ∧ (¬ (¬ s0 = 0) → Q (some (vl (-7))) w)) := by
  rw [T_if_ne 57 c92_50 rfl, T_aload_0 c92_57, T_getR 12 36 36 c92_58 rfl rfl rfl rfl, rf_167_36, T_sipush c92_61, T_iload_1 c92_63, T_imul c92_64, T_iload_2 c92_65, T_iadd c92_66, T_lload_3 c92_67, T_aload_0 c92_68, T_getR 12 34 34 c92_69 rfl rfl rfl rfl, rf_167_34, T_iload_1 c92_72, T_iald c92_73, T_inv (es := [some (vl b3), none, some (vi (w 188 a1))]) (st := [vi (w 188 a1), vl b3, vi (w32 ((w32 (40 * a1)) + a2)), vr 190]) (ks := [1, 0]) (n := 3) (as := [vl b3, vi (w 188 a1)]) (rest := [vi (w32 ((w32 (40 * a1)) + a2)), vr 190]) c92_74 (by decide +kernel) (by decide +kernel) rfl rfl (Nat.le_of_ble_eq_true rfl), T_bipush c92_53, T_lret c92_56 (by decide +kernel)]
  all_goals try simp only [Int.reduceToNat, lay_167, ld_188, true_and, Nat.reduceAdd, eq_self_iff_true]
theorem g92_77 {d : Nat} {a1 a2 s1 s2 : Int} {s0 : Nat} {x3 x4 : Option aV} {w : aW} {Q : Option aV → aW → Prop} : T d 92 77 [some (vr 167), some (vi a1), some (vi a2), x3, x4] [vl s2, vi s1, vr s0] w Q = (inA s0 1 s1 = true ∧ ((0 ≤ w32 ((w32 (40 * a1)) + a2) ∧ w32 ((w32 (40 * a1)) + a2) < 160) ∧ Q (some (vl ((iup w s0 s1 s2) 190 (w32 ((w32 (40 * a1)) + a2))))) (iup w s0 s1 s2))) := by
  rw [T_last c92_77, T_aload_0 c92_78, T_getR 12 36 36 c92_79 rfl rfl rfl rfl, rf_167_36, T_sipush c92_82, T_iload_1 c92_84, T_imul c92_85, T_iload_2 c92_86, T_iadd c92_87, T_lald c92_88, T_lret c92_89 (by decide +kernel)]
  all_goals try simp only [ia1_190, lay_167, true_and, Nat.reduceAdd, eq_self_iff_true]
/-! 93: StringHands.image.(I)I -/
theorem c93_0 : cd 93 0 = some (.iload 1, 1) := by decide +kernel
theorem c93_1 : cd 93 1 = some (.ifCond .lt 9, 3) := by decide +kernel
theorem c93_4 : cd 93 4 = some (.iload 1, 1) := by decide +kernel
theorem c93_5 : cd 93 5 = some (.sipush 2, 1) := by decide +kernel
theorem c93_6 : cd 93 6 = some (.if_icmp .lt 12, 3) := by decide +kernel
theorem c93_9 : cd 93 9 = some (.sipush (-2), 2) := by decide +kernel
theorem c93_11 : cd 93 11 = some (.ireturn, 1) := by decide +kernel
theorem c93_12 : cd 93 12 = some (.aload 0, 1) := by decide +kernel
theorem c93_13 : cd 93 13 = some (.getfield 2874, 3) := by decide +kernel
theorem c93_16 : cd 93 16 = some (.iload 1, 1) := by decide +kernel
theorem c93_17 : cd 93 17 = some (.aaload, 1) := by decide +kernel
theorem c93_18 : cd 93 18 = some (.aload 0, 1) := by decide +kernel
theorem c93_19 : cd 93 19 = some (.getfield 2850, 3) := by decide +kernel
theorem c93_22 : cd 93 22 = some (.invokevirtual 102, 3) := by decide +kernel
theorem c93_25 : cd 93 25 = some (.aload 0, 1) := by decide +kernel
theorem c93_26 : cd 93 26 = some (.getfield 2878, 3) := by decide +kernel
theorem c93_29 : cd 93 29 = some (.iload 1, 1) := by decide +kernel
theorem c93_30 : cd 93 30 = some (.aaload, 1) := by decide +kernel
theorem c93_31 : cd 93 31 = some (.aload 0, 1) := by decide +kernel
theorem c93_32 : cd 93 32 = some (.getfield 2854, 3) := by decide +kernel
theorem c93_35 : cd 93 35 = some (.invokevirtual 146, 3) := by decide +kernel
theorem c93_38 : cd 93 38 = some (.aload 0, 1) := by decide +kernel
theorem c93_39 : cd 93 39 = some (.dup, 1) := by decide +kernel
theorem c93_40 : cd 93 40 = some (.getfield 2880, 3) := by decide +kernel
theorem c93_43 : cd 93 43 = some (.sipush 1, 1) := by decide +kernel
theorem c93_44 : cd 93 44 = some (.iload 1, 1) := by decide +kernel
theorem c93_45 : cd 93 45 = some (.ishl, 1) := by decide +kernel
theorem c93_46 : cd 93 46 = some (.ior, 1) := by decide +kernel
theorem c93_47 : cd 93 47 = some (.putfield 2880, 3) := by decide +kernel
theorem c93_50 : cd 93 50 = some (.sipush 0, 1) := by decide +kernel
theorem c93_51 : cd 93 51 = some (.ireturn, 1) := by decide +kernel
theorem g93_0 {d : Nat} {a1 : Int} {w : aW} {Q : Option aV → aW → Prop} : T (d + 1) 93 0 [some (vr 0), some (vi a1)] [] w Q = ((a1 < 0 → T (d + 1) 93 9 [some (vr 0), some (vi a1)] [] w Q) ∧ (¬ (a1 < 0) → ((a1 < 2 → ((isRA 89 a1 = true ∧ (89 = 87 → (w 87 a1).toNat < 191)) ∧ (lay (rAt w 89 a1) = (8, 0) ∧ T d 102 0 [some (vr (rAt w 89 a1)), some (vr 69)] [] w (fun r w1 => T (d + 1) 93 25 [some (vr 0), some (vi a1)] (r.toList ++ []) w1 Q)))) ∧ (¬ (a1 < 2) → T (d + 1) 93 9 [some (vr 0), some (vi a1)] [] w Q)))) := by
  rw [T_iload_1 c93_0, T_if_lt 9 c93_1 rfl, T_iload_1 c93_4, T_sipush c93_5, T_icmp_lt 12 c93_6 rfl, T_aload_0 c93_12, T_getR 11 14 14 c93_13 rfl rfl rfl rfl, rf_0_14, T_iload_1 c93_16, T_aald c93_17, T_aload_0 c93_18, T_getR 11 8 8 c93_19 rfl rfl rfl rfl, rf_0_8, T_invv (es := [some (vr (rAt w 89 a1)), some (vr 69)]) (st := [vr 69, vr (rAt w 89 a1)]) (ks := [2, 2]) (n := 2) (c := 8) (k := (rAt w 89 a1)) (as := [vr 69]) (rest := []) c93_22 (by decide +kernel) (by decide +kernel) (by decide +kernel) (by decide) rfl rfl (Nat.le_of_ble_eq_true rfl)]
  all_goals try simp only [Int.reduceToNat, lay_0, true_and, Nat.reduceAdd, eq_self_iff_true]
theorem g93_9 {d : Nat} {x0 x1 : Option aV} {w : aW} {Q : Option aV → aW → Prop} : T d 93 9 [x0, x1] [] w Q = Q (some (vi (-2))) w := by
  rw [T_sipush c93_9, T_ireti c93_11 (by decide +kernel)]
  all_goals try simp only [true_and, Nat.reduceAdd, eq_self_iff_true]
theorem g93_25 {d : Nat} {a1 : Int} {w : aW} {Q : Option aV → aW → Prop} : T (d + 1) 93 25 [some (vr 0), some (vi a1)] [] w Q = ((isRA 90 a1 = true ∧ (90 = 87 → (w 87 a1).toNat < 191)) ∧ (lay (rAt w 90 a1) = (6, 0) ∧ T d 146 0 [some (vr (rAt w 90 a1)), some (vr 79)] [] w (fun r w1 => T (d + 1) 93 38 [some (vr 0), some (vi a1)] (r.toList ++ []) w1 Q))) := by
  rw [T_aload_0 c93_25, T_getR 11 15 15 c93_26 rfl rfl rfl rfl, rf_0_15, T_iload_1 c93_29, T_aald c93_30, T_aload_0 c93_31, T_getR 11 9 9 c93_32 rfl rfl rfl rfl, rf_0_9, T_invv (es := [some (vr (rAt w 90 a1)), some (vr 79)]) (st := [vr 79, vr (rAt w 90 a1)]) (ks := [2, 2]) (n := 2) (c := 6) (k := (rAt w 90 a1)) (as := [vr 79]) (rest := []) c93_35 (by decide +kernel) (by decide +kernel) (by decide +kernel) (by decide) rfl rfl (Nat.le_of_ble_eq_true rfl)]
  all_goals try simp only [lay_0, true_and, Nat.reduceAdd, eq_self_iff_true]
theorem g93_38 {d : Nat} {a1 : Int} {w : aW} {Q : Option aV → aW → Prop} : T d 93 38 [some (vr 0), some (vi a1)] [] w Q = Q (some (vi 0)) (iup w 0 16 (jor (w 0 16) (jshl 1 a1))) := by
  rw [T_aload_0 c93_38, T_dup_r c93_39, T_getI 11 16 16 c93_40 rfl rfl rfl rfl, T_sipush c93_43, T_iload_1 c93_44, T_ishl c93_45, T_ior c93_46, T_putI 11 16 16 c93_47 rfl rfl rfl rfl, T_sipush c93_50, T_ireti c93_51 (by decide +kernel)]
  all_goals try simp only [lay_0, true_and, Nat.reduceAdd, eq_self_iff_true]
/-! 94: StringHandsModel.image.(I)I -/
theorem c94_0 : cd 94 0 = some (.aload 0, 1) := by decide +kernel
theorem c94_1 : cd 94 1 = some (.sipush 0, 1) := by decide +kernel
theorem c94_2 : cd 94 2 = some (.putfield 3072, 3) := by decide +kernel
theorem c94_5 : cd 94 5 = some (.iload 1, 1) := by decide +kernel
theorem c94_6 : cd 94 6 = some (.i2l, 1) := by decide +kernel
theorem c94_7 : cd 94 7 = some (.bipush 0, 1) := by decide +kernel
theorem c94_8 : cd 94 8 = some (.bipush 1, 1) := by decide +kernel
theorem c94_9 : cd 94 9 = some (.invokestatic 105, 3) := by decide +kernel
theorem c94_12 : cd 94 12 = some (.ifCond .ne 18, 3) := by decide +kernel
theorem c94_15 : cd 94 15 = some (.sipush (-2), 2) := by decide +kernel
theorem c94_17 : cd 94 17 = some (.ireturn, 1) := by decide +kernel
theorem c94_18 : cd 94 18 = some (.sipush 0, 1) := by decide +kernel
theorem c94_19 : cd 94 19 = some (.istore 2, 1) := by decide +kernel
theorem c94_20 : cd 94 20 = some (.iload 2, 1) := by decide +kernel
theorem c94_21 : cd 94 21 = some (.sipush 1644, 3) := by decide +kernel
theorem c94_24 : cd 94 24 = some (.if_icmp .ge 53, 3) := by decide +kernel
theorem c94_27 : cd 94 27 = some (.aload 0, 1) := by decide +kernel
theorem c94_28 : cd 94 28 = some (.getfield 3078, 3) := by decide +kernel
theorem c94_31 : cd 94 31 = some (.sipush 1644, 3) := by decide +kernel
theorem c94_34 : cd 94 34 = some (.iload 1, 1) := by decide +kernel
theorem c94_35 : cd 94 35 = some (.sipush 1, 1) := by decide +kernel
theorem c94_36 : cd 94 36 = some (.iadd, 1) := by decide +kernel
theorem c94_37 : cd 94 37 = some (.imul, 1) := by decide +kernel
theorem c94_38 : cd 94 38 = some (.iload 2, 1) := by decide +kernel
theorem c94_39 : cd 94 39 = some (.iadd, 1) := by decide +kernel
theorem c94_40 : cd 94 40 = some (.aload 0, 1) := by decide +kernel
theorem c94_41 : cd 94 41 = some (.getfield 3078, 3) := by decide +kernel
theorem c94_44 : cd 94 44 = some (.iload 2, 1) := by decide +kernel
theorem c94_45 : cd 94 45 = some (.iaload, 1) := by decide +kernel
theorem c94_46 : cd 94 46 = some (.iastore, 1) := by decide +kernel
theorem c94_47 : cd 94 47 = some (.iinc 2 1, 3) := by decide +kernel
theorem c94_50 : cd 94 50 = some (.goto 20, 3) := by decide +kernel
theorem c94_53 : cd 94 53 = some (.aload 0, 1) := by decide +kernel
theorem c94_54 : cd 94 54 = some (.getfield 3082, 3) := by decide +kernel
theorem c94_57 : cd 94 57 = some (.iload 1, 1) := by decide +kernel
theorem c94_58 : cd 94 58 = some (.sipush 1, 1) := by decide +kernel
theorem c94_59 : cd 94 59 = some (.bastore, 1) := by decide +kernel
theorem c94_60 : cd 94 60 = some (.sipush 0, 1) := by decide +kernel
theorem c94_61 : cd 94 61 = some (.ireturn, 1) := by decide +kernel
theorem g94_0 {d : Nat} {a1 : Int} {x2 : Option aV} {w : aW} {Q : Option aV → aW → Prop} : T (d + 1) 94 0 [some (vr 167), some (vi a1), x2] [] w Q = T d 105 0 [some (vl a1), none, some (vl 0), none, some (vl 1), none] [] (iup w 167 0 0) (fun r w1 => T (d + 1) 94 12 [some (vr 167), some (vi a1), x2] (r.toList ++ []) w1 Q) := by
  rw [T_aload_0 c94_0, T_sipush c94_1, T_putI 12 0 0 c94_2 rfl rfl rfl rfl, T_iload_1 c94_5, T_i2l c94_6, T_bipush c94_7, T_bipush c94_8, T_inv (es := [some (vl a1), none, some (vl 0), none, some (vl 1), none]) (st := [vl 1, vl 0, vl a1]) (ks := [1, 1, 1]) (n := 6) (as := [vl a1, vl 0, vl 1]) (rest := []) c94_9 (by decide +kernel) (by decide +kernel) rfl rfl (Nat.le_of_ble_eq_true rfl)]
  all_goals try simp only [lay_167, true_and, Nat.reduceAdd, eq_self_iff_true]
theorem g94_12 {d : Nat} {s0 : Int} {x0 x1 x2 : Option aV} {w : aW} {Q : Option aV → aW → Prop} : T d 94 12 [x0, x1, x2] [vi s0] w Q = ((¬ s0 = 0 → T d 94 20 [x0, x1, some (vi 0)] [] w Q) ∧ (¬ (¬ s0 = 0) → Q (some (vi (-2))) w)) := by
  rw [T_if_ne 18 c94_12 rfl, T_sipush c94_18, T_istore_2 c94_19, T_sipush c94_15, T_ireti c94_17 (by decide +kernel)]
  all_goals try simp only [Int.reduceToNat, true_and, Nat.reduceAdd, eq_self_iff_true]
theorem g94_20 {d : Nat} {a1 a2 : Int} {w : aW} {Q : Option aV → aW → Prop} : T d 94 20 [some (vr 167), some (vi a1), some (vi a2)] [] w Q = ((1644 ≤ a2 → ((0 ≤ a1 ∧ a1 < 2) ∧ Q (some (vi 0)) (iup w 169 a1 1))) ∧ (¬ (1644 ≤ a2) → ((0 ≤ a2 ∧ a2 < 4932) ∧ ((0 ≤ w32 ((w32 (1644 * (w32 (a1 + 1)))) + a2) ∧ w32 ((w32 (1644 * (w32 (a1 + 1)))) + a2) < 4932) ∧ T d 94 20 [some (vr 167), some (vi a1), some (vi (w32 (a2 + 1)))] [] (iup w 168 (w32 ((w32 (1644 * (w32 (a1 + 1)))) + a2)) (w 168 a2)) Q)))) := by
  rw [T_iload_2 c94_20, T_sipush c94_21, T_icmp_ge 53 c94_24 rfl, T_aload_0 c94_53, T_getR 12 2 2 c94_54 rfl rfl rfl rfl, rf_167_2, T_iload_1 c94_57, T_sipush c94_58, T_bast3 (k := 169) c94_59 (by decide +kernel), T_sipush c94_60, T_ireti c94_61 (by decide +kernel), T_aload_0 c94_27, T_getR 12 1 1 c94_28 rfl rfl rfl rfl, rf_167_1, T_sipush c94_31, T_iload_1 c94_34, T_sipush c94_35, T_iadd c94_36, T_imul c94_37, T_iload_2 c94_38, T_iadd c94_39, T_aload_0 c94_40, T_getR 12 1 1 c94_41 rfl rfl rfl rfl, rf_167_1, T_iload_2 c94_44, T_iald c94_45, T_iast c94_46, T_iinc_2 c94_47, T_goto 20 c94_50 rfl]
  all_goals try simp only [Int.reduceEq, Int.reduceToNat, and_true, ia0_168, ia3_169, lay_167, ld_168, or_true, true_or, true_and, Nat.reduceAdd, eq_self_iff_true]
/-! 95: StringHands.restore.(I)I -/
theorem c95_0 : cd 95 0 = some (.iload 1, 1) := by decide +kernel
theorem c95_1 : cd 95 1 = some (.ifCond .lt 9, 3) := by decide +kernel
theorem c95_4 : cd 95 4 = some (.iload 1, 1) := by decide +kernel
theorem c95_5 : cd 95 5 = some (.sipush 2, 1) := by decide +kernel
theorem c95_6 : cd 95 6 = some (.if_icmp .lt 12, 3) := by decide +kernel
theorem c95_9 : cd 95 9 = some (.sipush (-2), 2) := by decide +kernel
theorem c95_11 : cd 95 11 = some (.ireturn, 1) := by decide +kernel
theorem c95_12 : cd 95 12 = some (.aload 0, 1) := by decide +kernel
theorem c95_13 : cd 95 13 = some (.getfield 2880, 3) := by decide +kernel
theorem c95_16 : cd 95 16 = some (.iload 1, 1) := by decide +kernel
theorem c95_17 : cd 95 17 = some (.invokestatic 117, 3) := by decide +kernel
theorem c95_20 : cd 95 20 = some (.ifCond .ne 26, 3) := by decide +kernel
theorem c95_23 : cd 95 23 = some (.sipush (-5), 2) := by decide +kernel
theorem c95_25 : cd 95 25 = some (.ireturn, 1) := by decide +kernel
theorem c95_26 : cd 95 26 = some (.aload 0, 1) := by decide +kernel
theorem c95_27 : cd 95 27 = some (.getfield 2850, 3) := by decide +kernel
theorem c95_30 : cd 95 30 = some (.aload 0, 1) := by decide +kernel
theorem c95_31 : cd 95 31 = some (.getfield 2874, 3) := by decide +kernel
theorem c95_34 : cd 95 34 = some (.iload 1, 1) := by decide +kernel
theorem c95_35 : cd 95 35 = some (.aaload, 1) := by decide +kernel
theorem c95_36 : cd 95 36 = some (.invokevirtual 102, 3) := by decide +kernel
theorem c95_39 : cd 95 39 = some (.aload 0, 1) := by decide +kernel
theorem c95_40 : cd 95 40 = some (.getfield 2854, 3) := by decide +kernel
theorem c95_43 : cd 95 43 = some (.aload 0, 1) := by decide +kernel
theorem c95_44 : cd 95 44 = some (.getfield 2878, 3) := by decide +kernel
theorem c95_47 : cd 95 47 = some (.iload 1, 1) := by decide +kernel
theorem c95_48 : cd 95 48 = some (.aaload, 1) := by decide +kernel
theorem c95_49 : cd 95 49 = some (.invokevirtual 146, 3) := by decide +kernel
theorem c95_52 : cd 95 52 = some (.aload 0, 1) := by decide +kernel
theorem c95_53 : cd 95 53 = some (.getfield 2826, 3) := by decide +kernel
theorem c95_56 : cd 95 56 = some (.invokevirtual 104, 3) := by decide +kernel
theorem c95_59 : cd 95 59 = some (.aload 0, 1) := by decide +kernel
theorem c95_60 : cd 95 60 = some (.sipush 0, 1) := by decide +kernel
theorem c95_61 : cd 95 61 = some (.putfield 2864, 3) := by decide +kernel
theorem c95_64 : cd 95 64 = some (.sipush 0, 1) := by decide +kernel
theorem c95_65 : cd 95 65 = some (.ireturn, 1) := by decide +kernel
theorem g95_0 {d : Nat} {a1 : Int} {w : aW} {Q : Option aV → aW → Prop} : T (d + 1) 95 0 [some (vr 0), some (vi a1)] [] w Q = ((a1 < 0 → T (d + 1) 95 9 [some (vr 0), some (vi a1)] [] w Q) ∧ (¬ (a1 < 0) → ((a1 < 2 → T d 117 0 [some (vi (w 0 16)), some (vi a1)] [] w (fun r w1 => T (d + 1) 95 20 [some (vr 0), some (vi a1)] (r.toList ++ []) w1 Q)) ∧ (¬ (a1 < 2) → T (d + 1) 95 9 [some (vr 0), some (vi a1)] [] w Q)))) := by
  rw [T_iload_1 c95_0, T_if_lt 9 c95_1 rfl, T_iload_1 c95_4, T_sipush c95_5, T_icmp_lt 12 c95_6 rfl, T_aload_0 c95_12, T_getI 11 16 16 c95_13 rfl rfl rfl rfl, T_iload_1 c95_16, T_inv (es := [some (vi (w 0 16)), some (vi a1)]) (st := [vi a1, vi (w 0 16)]) (ks := [0, 0]) (n := 2) (as := [vi (w 0 16), vi a1]) (rest := []) c95_17 (by decide +kernel) (by decide +kernel) rfl rfl (Nat.le_of_ble_eq_true rfl)]
  all_goals try simp only [Int.reduceToNat, lay_0, true_and, Nat.reduceAdd, eq_self_iff_true]
theorem g95_9 {d : Nat} {x0 x1 : Option aV} {w : aW} {Q : Option aV → aW → Prop} : T d 95 9 [x0, x1] [] w Q = Q (some (vi (-2))) w := by
  rw [T_sipush c95_9, T_ireti c95_11 (by decide +kernel)]
  all_goals try simp only [true_and, Nat.reduceAdd, eq_self_iff_true]
theorem g95_20 {d : Nat} {a1 s0 : Int} {w : aW} {Q : Option aV → aW → Prop} : T (d + 1) 95 20 [some (vr 0), some (vi a1)] [vi s0] w Q = ((¬ s0 = 0 → ((isRA 89 a1 = true ∧ (89 = 87 → (w 87 a1).toNat < 191)) ∧ T d 102 0 [some (vr 69), some (vr (rAt w 89 a1))] [] w (fun r w1 => T (d + 1) 95 39 [some (vr 0), some (vi a1)] (r.toList ++ []) w1 Q))) ∧ (¬ (¬ s0 = 0) → Q (some (vi (-5))) w)) := by
  rw [T_if_ne 26 c95_20 rfl, T_aload_0 c95_26, T_getR 11 8 8 c95_27 rfl rfl rfl rfl, rf_0_8, T_aload_0 c95_30, T_getR 11 14 14 c95_31 rfl rfl rfl rfl, rf_0_14, T_iload_1 c95_34, T_aald c95_35, T_invv (es := [some (vr 69), some (vr (rAt w 89 a1))]) (st := [vr (rAt w 89 a1), vr 69]) (ks := [2, 2]) (n := 2) (c := 8) (k := 69) (as := [vr (rAt w 89 a1)]) (rest := []) c95_36 (by decide +kernel) (by decide +kernel) (by decide +kernel) (by decide) rfl rfl (Nat.le_of_ble_eq_true rfl), T_sipush c95_23, T_ireti c95_25 (by decide +kernel)]
  all_goals try simp only [Int.reduceToNat, lay_0, lay_69, true_and, Nat.reduceAdd, eq_self_iff_true]
theorem g95_39 {d : Nat} {a1 : Int} {w : aW} {Q : Option aV → aW → Prop} : T (d + 1) 95 39 [some (vr 0), some (vi a1)] [] w Q = ((isRA 90 a1 = true ∧ (90 = 87 → (w 87 a1).toNat < 191)) ∧ T d 146 0 [some (vr 79), some (vr (rAt w 90 a1))] [] w (fun r w1 => T (d + 1) 95 52 [some (vr 0), some (vi a1)] (r.toList ++ []) w1 Q)) := by
  rw [T_aload_0 c95_39, T_getR 11 9 9 c95_40 rfl rfl rfl rfl, rf_0_9, T_aload_0 c95_43, T_getR 11 15 15 c95_44 rfl rfl rfl rfl, rf_0_15, T_iload_1 c95_47, T_aald c95_48, T_invv (es := [some (vr 79), some (vr (rAt w 90 a1))]) (st := [vr (rAt w 90 a1), vr 79]) (ks := [2, 2]) (n := 2) (c := 6) (k := 79) (as := [vr (rAt w 90 a1)]) (rest := []) c95_49 (by decide +kernel) (by decide +kernel) (by decide +kernel) (by decide) rfl rfl (Nat.le_of_ble_eq_true rfl)]
  all_goals try simp only [lay_0, lay_79, true_and, Nat.reduceAdd, eq_self_iff_true]
theorem g95_52 {d : Nat} {x1 : Option aV} {w : aW} {Q : Option aV → aW → Prop} : T (d + 1) 95 52 [some (vr 0), x1] [] w Q = T d 104 0 [some (vr 19)] [] w (fun r w1 => T (d + 1) 95 59 [some (vr 0), x1] (r.toList ++ []) w1 Q) := by
  rw [T_aload_0 c95_52, T_getR 11 2 2 c95_53 rfl rfl rfl rfl, rf_0_2, T_invv (es := [some (vr 19)]) (st := [vr 19]) (ks := [2]) (n := 1) (c := 0) (k := 19) (as := []) (rest := []) c95_56 (by decide +kernel) (by decide +kernel) (by decide +kernel) (by decide) rfl rfl (Nat.le_of_ble_eq_true rfl)]
  all_goals try simp only [lay_0, lay_19, true_and, Nat.reduceAdd, eq_self_iff_true]
theorem g95_59 {d : Nat} {x1 : Option aV} {w : aW} {Q : Option aV → aW → Prop} : T d 95 59 [some (vr 0), x1] [] w Q = Q (some (vi 0)) (iup w 0 12 0) := by
  rw [T_aload_0 c95_59, T_sipush c95_60, T_putI 11 12 12 c95_61 rfl rfl rfl rfl, T_sipush c95_64, T_ireti c95_65 (by decide +kernel)]
  all_goals try simp only [lay_0, true_and, Nat.reduceAdd, eq_self_iff_true]
/-! 96: StringHandsModel.restore.(I)I -/
theorem c96_0 : cd 96 0 = some (.aload 0, 1) := by decide +kernel
theorem c96_1 : cd 96 1 = some (.sipush 0, 1) := by decide +kernel
theorem c96_2 : cd 96 2 = some (.putfield 3072, 3) := by decide +kernel
theorem c96_5 : cd 96 5 = some (.iload 1, 1) := by decide +kernel
theorem c96_6 : cd 96 6 = some (.i2l, 1) := by decide +kernel
theorem c96_7 : cd 96 7 = some (.bipush 0, 1) := by decide +kernel
theorem c96_8 : cd 96 8 = some (.bipush 1, 1) := by decide +kernel
theorem c96_9 : cd 96 9 = some (.invokestatic 105, 3) := by decide +kernel
theorem c96_12 : cd 96 12 = some (.ifCond .ne 18, 3) := by decide +kernel
theorem c96_15 : cd 96 15 = some (.sipush (-2), 2) := by decide +kernel
theorem c96_17 : cd 96 17 = some (.ireturn, 1) := by decide +kernel
theorem c96_18 : cd 96 18 = some (.aload 0, 1) := by decide +kernel
theorem c96_19 : cd 96 19 = some (.getfield 3082, 3) := by decide +kernel
theorem c96_22 : cd 96 22 = some (.iload 1, 1) := by decide +kernel
theorem c96_23 : cd 96 23 = some (.baload, 1) := by decide +kernel
theorem c96_24 : cd 96 24 = some (.ifCond .ne 30, 3) := by decide +kernel
theorem c96_27 : cd 96 27 = some (.sipush (-5), 2) := by decide +kernel
theorem c96_29 : cd 96 29 = some (.ireturn, 1) := by decide +kernel
theorem c96_30 : cd 96 30 = some (.sipush 0, 1) := by decide +kernel
theorem c96_31 : cd 96 31 = some (.istore 2, 1) := by decide +kernel
theorem c96_32 : cd 96 32 = some (.iload 2, 1) := by decide +kernel
theorem c96_33 : cd 96 33 = some (.sipush 1644, 3) := by decide +kernel
theorem c96_36 : cd 96 36 = some (.if_icmp .ge 65, 3) := by decide +kernel
theorem c96_39 : cd 96 39 = some (.aload 0, 1) := by decide +kernel
theorem c96_40 : cd 96 40 = some (.getfield 3078, 3) := by decide +kernel
theorem c96_43 : cd 96 43 = some (.iload 2, 1) := by decide +kernel
theorem c96_44 : cd 96 44 = some (.aload 0, 1) := by decide +kernel
theorem c96_45 : cd 96 45 = some (.getfield 3078, 3) := by decide +kernel
theorem c96_48 : cd 96 48 = some (.sipush 1644, 3) := by decide +kernel
theorem c96_51 : cd 96 51 = some (.iload 1, 1) := by decide +kernel
theorem c96_52 : cd 96 52 = some (.sipush 1, 1) := by decide +kernel
theorem c96_53 : cd 96 53 = some (.iadd, 1) := by decide +kernel
theorem c96_54 : cd 96 54 = some (.imul, 1) := by decide +kernel
theorem c96_55 : cd 96 55 = some (.iload 2, 1) := by decide +kernel
theorem c96_56 : cd 96 56 = some (.iadd, 1) := by decide +kernel
theorem c96_57 : cd 96 57 = some (.iaload, 1) := by decide +kernel
theorem c96_58 : cd 96 58 = some (.iastore, 1) := by decide +kernel
theorem c96_59 : cd 96 59 = some (.iinc 2 1, 3) := by decide +kernel
theorem c96_62 : cd 96 62 = some (.goto 32, 3) := by decide +kernel
theorem c96_65 : cd 96 65 = some (.aload 0, 1) := by decide +kernel
theorem c96_66 : cd 96 66 = some (.getfield 3078, 3) := by decide +kernel
theorem c96_69 : cd 96 69 = some (.sipush 152, 3) := by decide +kernel
theorem c96_72 : cd 96 72 = some (.sipush 0, 1) := by decide +kernel
theorem c96_73 : cd 96 73 = some (.iastore, 1) := by decide +kernel
theorem c96_74 : cd 96 74 = some (.sipush 0, 1) := by decide +kernel
theorem c96_75 : cd 96 75 = some (.ireturn, 1) := by decide +kernel
theorem g96_0 {d : Nat} {a1 : Int} {x2 : Option aV} {w : aW} {Q : Option aV → aW → Prop} : T (d + 1) 96 0 [some (vr 167), some (vi a1), x2] [] w Q = T d 105 0 [some (vl a1), none, some (vl 0), none, some (vl 1), none] [] (iup w 167 0 0) (fun r w1 => T (d + 1) 96 12 [some (vr 167), some (vi a1), x2] (r.toList ++ []) w1 Q) := by
  rw [T_aload_0 c96_0, T_sipush c96_1, T_putI 12 0 0 c96_2 rfl rfl rfl rfl, T_iload_1 c96_5, T_i2l c96_6, T_bipush c96_7, T_bipush c96_8, T_inv (es := [some (vl a1), none, some (vl 0), none, some (vl 1), none]) (st := [vl 1, vl 0, vl a1]) (ks := [1, 1, 1]) (n := 6) (as := [vl a1, vl 0, vl 1]) (rest := []) c96_9 (by decide +kernel) (by decide +kernel) rfl rfl (Nat.le_of_ble_eq_true rfl)]
  all_goals try simp only [lay_167, true_and, Nat.reduceAdd, eq_self_iff_true]
theorem g96_12 {d : Nat} {a1 s0 : Int} {x2 : Option aV} {w : aW} {Q : Option aV → aW → Prop} : T d 96 12 [some (vr 167), some (vi a1), x2] [vi s0] w Q = ((¬ s0 = 0 → ((0 ≤ a1 ∧ a1 < 2) ∧ ((¬ w 169 a1 = 0 → T d 96 32 [some (vr 167), some (vi a1), some (vi 0)] [] w Q) ∧ (¬ (¬ w 169 a1 = 0) → Q (some (vi (-5))) w)))) ∧ (¬ (¬ s0 = 0) → Q (some (vi (-2))) w)) := by
  rw [T_if_ne 18 c96_12 rfl, T_aload_0 c96_18, T_getR 12 2 2 c96_19 rfl rfl rfl rfl, rf_167_2, T_iload_1 c96_22, T_bald c96_23, lbv_169, T_if_ne 30 c96_24 rfl, T_sipush c96_30, T_istore_2 c96_31, T_sipush c96_27, T_ireti c96_29 (by decide +kernel), T_sipush c96_15, T_ireti c96_17 (by decide +kernel)]
  all_goals try simp only [Int.reduceToNat, lay_167, lb_169, lbv_169, true_and, Nat.reduceAdd, eq_self_iff_true]
theorem g96_32 {d : Nat} {a1 a2 : Int} {w : aW} {Q : Option aV → aW → Prop} : T d 96 32 [some (vr 167), some (vi a1), some (vi a2)] [] w Q = ((1644 ≤ a2 → Q (some (vi 0)) (iup w 168 152 0)) ∧ (¬ (1644 ≤ a2) → ((0 ≤ w32 ((w32 (1644 * (w32 (a1 + 1)))) + a2) ∧ w32 ((w32 (1644 * (w32 (a1 + 1)))) + a2) < 4932) ∧ ((0 ≤ a2 ∧ a2 < 4932) ∧ T d 96 32 [some (vr 167), some (vi a1), some (vi (w32 (a2 + 1)))] [] (iup w 168 a2 (w 168 (w32 ((w32 (1644 * (w32 (a1 + 1)))) + a2)))) Q)))) := by
  rw [T_iload_2 c96_32, T_sipush c96_33, T_icmp_ge 65 c96_36 rfl, T_aload_0 c96_65, T_getR 12 1 1 c96_66 rfl rfl rfl rfl, rf_167_1, T_sipush c96_69, T_sipush c96_72, T_iast c96_73, T_sipush c96_74, T_ireti c96_75 (by decide +kernel), T_aload_0 c96_39, T_getR 12 1 1 c96_40 rfl rfl rfl rfl, rf_167_1, T_iload_2 c96_43, T_aload_0 c96_44, T_getR 12 1 1 c96_45 rfl rfl rfl rfl, rf_167_1, T_sipush c96_48, T_iload_1 c96_51, T_sipush c96_52, T_iadd c96_53, T_imul c96_54, T_iload_2 c96_55, T_iadd c96_56, T_iald c96_57, T_iast c96_58, T_iinc_2 c96_59, T_goto 32 c96_62 rfl]
  all_goals try simp only [Int.reduceLE, Int.reduceLT, Int.reduceToNat, and_self, ia0_168, lay_167, ld_168, true_and, Nat.reduceAdd, eq_self_iff_true]
/-! 97: StringHands.count.(I)I -/
theorem c97_0 : cd 97 0 = some (.iload 1, 1) := by decide +kernel
theorem c97_1 : cd 97 1 = some (.tableswitch 139 0 9 #[56, 64, 72, 80, 91, 99, 104, 112, 123, 131], 55) := by decide +kernel
theorem c97_56 : cd 97 56 = some (.aload 0, 1) := by decide +kernel
theorem c97_57 : cd 97 57 = some (.getfield 2850, 3) := by decide +kernel
theorem c97_60 : cd 97 60 = some (.getfield 2048, 3) := by decide +kernel
theorem c97_63 : cd 97 63 = some (.ireturn, 1) := by decide +kernel
theorem c97_64 : cd 97 64 = some (.aload 0, 1) := by decide +kernel
theorem c97_65 : cd 97 65 = some (.getfield 2850, 3) := by decide +kernel
theorem c97_68 : cd 97 68 = some (.getfield 2052, 3) := by decide +kernel
theorem c97_71 : cd 97 71 = some (.ireturn, 1) := by decide +kernel
theorem c97_72 : cd 97 72 = some (.aload 0, 1) := by decide +kernel
theorem c97_73 : cd 97 73 = some (.getfield 2850, 3) := by decide +kernel
theorem c97_76 : cd 97 76 = some (.getfield 2056, 3) := by decide +kernel
theorem c97_79 : cd 97 79 = some (.ireturn, 1) := by decide +kernel
theorem c97_80 : cd 97 80 = some (.aload 0, 1) := by decide +kernel
theorem c97_81 : cd 97 81 = some (.getfield 2854, 3) := by decide +kernel
theorem c97_84 : cd 97 84 = some (.getfield 1540, 3) := by decide +kernel
theorem c97_87 : cd 97 87 = some (.invokestatic 132, 3) := by decide +kernel
theorem c97_90 : cd 97 90 = some (.ireturn, 1) := by decide +kernel
theorem c97_91 : cd 97 91 = some (.aload 0, 1) := by decide +kernel
theorem c97_92 : cd 97 92 = some (.getfield 2854, 3) := by decide +kernel
theorem c97_95 : cd 97 95 = some (.getfield 1536, 3) := by decide +kernel
theorem c97_98 : cd 97 98 = some (.ireturn, 1) := by decide +kernel
theorem c97_99 : cd 97 99 = some (.aload 0, 1) := by decide +kernel
theorem c97_100 : cd 97 100 = some (.getfield 2864, 3) := by decide +kernel
theorem c97_103 : cd 97 103 = some (.ireturn, 1) := by decide +kernel
theorem c97_104 : cd 97 104 = some (.aload 0, 1) := by decide +kernel
theorem c97_105 : cd 97 105 = some (.getfield 2850, 3) := by decide +kernel
theorem c97_108 : cd 97 108 = some (.getfield 2064, 3) := by decide +kernel
theorem c97_111 : cd 97 111 = some (.ireturn, 1) := by decide +kernel
theorem c97_112 : cd 97 112 = some (.aload 0, 1) := by decide +kernel
theorem c97_113 : cd 97 113 = some (.getfield 2850, 3) := by decide +kernel
theorem c97_116 : cd 97 116 = some (.getfield 2096, 3) := by decide +kernel
theorem c97_119 : cd 97 119 = some (.invokestatic 132, 3) := by decide +kernel
theorem c97_122 : cd 97 122 = some (.ireturn, 1) := by decide +kernel
theorem c97_123 : cd 97 123 = some (.aload 0, 1) := by decide +kernel
theorem c97_124 : cd 97 124 = some (.getfield 2818, 3) := by decide +kernel
theorem c97_127 : cd 97 127 = some (.getfield 1028, 3) := by decide +kernel
theorem c97_130 : cd 97 130 = some (.ireturn, 1) := by decide +kernel
theorem c97_131 : cd 97 131 = some (.aload 0, 1) := by decide +kernel
theorem c97_132 : cd 97 132 = some (.getfield 2850, 3) := by decide +kernel
theorem c97_135 : cd 97 135 = some (.getfield 2068, 3) := by decide +kernel
theorem c97_138 : cd 97 138 = some (.ireturn, 1) := by decide +kernel
theorem c97_139 : cd 97 139 = some (.sipush (-1), 1) := by decide +kernel
theorem c97_140 : cd 97 140 = some (.ireturn, 1) := by decide +kernel
theorem sw97_1 {d : Nat} {ls : List (Option aV)} {st : List aV} {w : aW} {Q : Option aV → aW → Prop} {x : Int} : T d 97 1 ls (vi x :: st) w Q = ((x = 0 → T d 97 56 ls st w Q) ∧ (x = 1 → T d 97 64 ls st w Q) ∧ (x = 2 → T d 97 72 ls st w Q) ∧ (x = 3 → T d 97 80 ls st w Q) ∧ (x = 4 → T d 97 91 ls st w Q) ∧ (x = 5 → T d 97 99 ls st w Q) ∧ (x = 6 → T d 97 104 ls st w Q) ∧ (x = 7 → T d 97 112 ls st w Q) ∧ (x = 8 → T d 97 123 ls st w Q) ∧ (x = 9 → T d 97 131 ls st w Q) ∧ (¬ x = 0 ∧ ¬ x = 1 ∧ ¬ x = 2 ∧ ¬ x = 3 ∧ ¬ x = 4 ∧ ¬ x = 5 ∧ ¬ x = 6 ∧ ¬ x = 7 ∧ ¬ x = 8 ∧ ¬ x = 9 → T d 97 139 ls st w Q)) := by
  rw [T_tab c97_1]
  apply propext
  constructor
  · intro h
    refine ⟨fun q => by subst q; exact h, fun q => by subst q; exact h, fun q => by subst q; exact h, fun q => by subst q; exact h, fun q => by subst q; exact h, fun q => by subst q; exact h, fun q => by subst q; exact h, fun q => by subst q; exact h, fun q => by subst q; exact h, fun q => by subst q; exact h, fun q => ?_⟩
    · have e : (if x < 0 ∨ 9 < x then (139 : Int).toNat else ((#[56, 64, 72, 80, 91, 99, 104, 112, 123, 131] : Array Int).toList.getD (x - 0).toNat 139).toNat) = 139 := by rw [if_pos (by omega)]; rfl
      rw [e] at h; exact h
  · rintro ⟨h0, h1, h2, h3, h4, h5, h6, h7, h8, h9, hd⟩
    by_cases n0 : x = 0
    · subst n0; exact h0 rfl
    by_cases n1 : x = 1
    · subst n1; exact h1 rfl
    by_cases n2 : x = 2
    · subst n2; exact h2 rfl
    by_cases n3 : x = 3
    · subst n3; exact h3 rfl
    by_cases n4 : x = 4
    · subst n4; exact h4 rfl
    by_cases n5 : x = 5
    · subst n5; exact h5 rfl
    by_cases n6 : x = 6
    · subst n6; exact h6 rfl
    by_cases n7 : x = 7
    · subst n7; exact h7 rfl
    by_cases n8 : x = 8
    · subst n8; exact h8 rfl
    by_cases n9 : x = 9
    · subst n9; exact h9 rfl
    · have e : (if x < 0 ∨ 9 < x then (139 : Int).toNat else ((#[56, 64, 72, 80, 91, 99, 104, 112, 123, 131] : Array Int).toList.getD (x - 0).toNat 139).toNat) = 139 := by rw [if_pos (by omega)]; rfl
      rw [e]; exact hd ⟨n0, n1, n2, n3, n4, n5, n6, n7, n8, n9⟩
theorem g97_0 {d : Nat} {a1 : Int} {w : aW} {Q : Option aV → aW → Prop} : T (d + 1) 97 0 [some (vr 0), some (vi a1)] [] w Q = ((a1 = 0 → Q (some (vi (w 69 0))) w) ∧ (a1 = 1 → Q (some (vi (w 69 1))) w) ∧ (a1 = 2 → Q (some (vi (w 69 2))) w) ∧ (a1 = 3 → T d 132 0 [some (vi (w 79 1))] [] w (fun r w1 => T (d + 1) 97 90 [some (vr 0), some (vi a1)] (r.toList ++ []) w1 Q)) ∧ (a1 = 4 → Q (some (vi (w 79 0))) w) ∧ (a1 = 5 → Q (some (vi (w 0 12))) w) ∧ (a1 = 6 → Q (some (vi (w 69 4))) w) ∧ (a1 = 7 → T d 132 0 [some (vi (w 69 12))] [] w (fun r w1 => T (d + 1) 97 122 [some (vr 0), some (vi a1)] (r.toList ++ []) w1 Q)) ∧ (a1 = 8 → Q (some (vi (w 1 1))) w) ∧ (a1 = 9 → Q (some (vi (w 69 5))) w) ∧ (¬ a1 = 0 ∧ ¬ a1 = 1 ∧ ¬ a1 = 2 ∧ ¬ a1 = 3 ∧ ¬ a1 = 4 ∧ ¬ a1 = 5 ∧ ¬ a1 = 6 ∧ ¬ a1 = 7 ∧ ¬ a1 = 8 ∧ ¬ a1 = 9 → Q (some (vi (-1))) w)) := by
  rw [T_iload_1 c97_0, sw97_1, T_aload_0 c97_56, T_getR 11 8 8 c97_57 rfl rfl rfl rfl, rf_0_8, T_getI 8 0 0 c97_60 rfl rfl rfl rfl, T_ireti c97_63 (by decide +kernel), T_aload_0 c97_64, T_getR 11 8 8 c97_65 rfl rfl rfl rfl, rf_0_8, T_getI 8 1 1 c97_68 rfl rfl rfl rfl, T_ireti c97_71 (by decide +kernel), T_aload_0 c97_72, T_getR 11 8 8 c97_73 rfl rfl rfl rfl, rf_0_8, T_getI 8 2 2 c97_76 rfl rfl rfl rfl, T_ireti c97_79 (by decide +kernel), T_aload_0 c97_80, T_getR 11 9 9 c97_81 rfl rfl rfl rfl, rf_0_9, T_getI 6 1 1 c97_84 rfl rfl rfl rfl, T_inv (es := [some (vi (w 79 1))]) (st := [vi (w 79 1)]) (ks := [0]) (n := 1) (as := [vi (w 79 1)]) (rest := []) c97_87 (by decide +kernel) (by decide +kernel) rfl rfl (Nat.le_of_ble_eq_true rfl), T_aload_0 c97_91, T_getR 11 9 9 c97_92 rfl rfl rfl rfl, rf_0_9, T_getI 6 0 0 c97_95 rfl rfl rfl rfl, T_ireti c97_98 (by decide +kernel), T_aload_0 c97_99, T_getI 11 12 12 c97_100 rfl rfl rfl rfl, T_ireti c97_103 (by decide +kernel), T_aload_0 c97_104, T_getR 11 8 8 c97_105 rfl rfl rfl rfl, rf_0_8, T_getI 8 4 4 c97_108 rfl rfl rfl rfl, T_ireti c97_111 (by decide +kernel), T_aload_0 c97_112, T_getR 11 8 8 c97_113 rfl rfl rfl rfl, rf_0_8, T_getI 8 12 12 c97_116 rfl rfl rfl rfl, T_inv (es := [some (vi (w 69 12))]) (st := [vi (w 69 12)]) (ks := [0]) (n := 1) (as := [vi (w 69 12)]) (rest := []) c97_119 (by decide +kernel) (by decide +kernel) rfl rfl (Nat.le_of_ble_eq_true rfl), T_aload_0 c97_123, T_getR 11 0 0 c97_124 rfl rfl rfl rfl, rf_0_0, T_getI 4 1 1 c97_127 rfl rfl rfl rfl, T_ireti c97_130 (by decide +kernel), T_aload_0 c97_131, T_getR 11 8 8 c97_132 rfl rfl rfl rfl, rf_0_8, T_getI 8 5 5 c97_135 rfl rfl rfl rfl, T_ireti c97_138 (by decide +kernel), T_sipush c97_139, T_ireti c97_140 (by decide +kernel)]
  all_goals try simp only [lay_0, lay_1, lay_69, lay_79, true_and, Nat.reduceAdd, eq_self_iff_true]
theorem g97_90 {d : Nat} {s0 : Int} {x0 x1 : Option aV} {w : aW} {Q : Option aV → aW → Prop} : T d 97 90 [x0, x1] [vi s0] w Q = Q (some (vi s0)) w := by
  rw [T_ireti c97_90 (by decide +kernel)]
  all_goals try simp only [true_and, Nat.reduceAdd, eq_self_iff_true]
theorem g97_122 {d : Nat} {s0 : Int} {x0 x1 : Option aV} {w : aW} {Q : Option aV → aW → Prop} : T d 97 122 [x0, x1] [vi s0] w Q = Q (some (vi s0)) w := by
  rw [T_ireti c97_122 (by decide +kernel)]
  all_goals try simp only [true_and, Nat.reduceAdd, eq_self_iff_true]
/-! 98: StringHandsModel.count.(I)I -/
theorem c98_0 : cd 98 0 = some (.aload 0, 1) := by decide +kernel
theorem c98_1 : cd 98 1 = some (.sipush 0, 1) := by decide +kernel
theorem c98_2 : cd 98 2 = some (.putfield 3072, 3) := by decide +kernel
theorem c98_5 : cd 98 5 = some (.iload 1, 1) := by decide +kernel
theorem c98_6 : cd 98 6 = some (.tableswitch 126 0 9 #[60, 67, 74, 81, 86, 93, 102, 109, 114, 119], 54) := by decide +kernel
theorem c98_60 : cd 98 60 = some (.aload 0, 1) := by decide +kernel
theorem c98_61 : cd 98 61 = some (.getfield 3078, 3) := by decide +kernel
theorem c98_64 : cd 98 64 = some (.sipush 1, 1) := by decide +kernel
theorem c98_65 : cd 98 65 = some (.iaload, 1) := by decide +kernel
theorem c98_66 : cd 98 66 = some (.ireturn, 1) := by decide +kernel
theorem c98_67 : cd 98 67 = some (.aload 0, 1) := by decide +kernel
theorem c98_68 : cd 98 68 = some (.getfield 3078, 3) := by decide +kernel
theorem c98_71 : cd 98 71 = some (.sipush 2, 1) := by decide +kernel
theorem c98_72 : cd 98 72 = some (.iaload, 1) := by decide +kernel
theorem c98_73 : cd 98 73 = some (.ireturn, 1) := by decide +kernel
theorem c98_74 : cd 98 74 = some (.aload 0, 1) := by decide +kernel
theorem c98_75 : cd 98 75 = some (.getfield 3078, 3) := by decide +kernel
theorem c98_78 : cd 98 78 = some (.sipush 3, 1) := by decide +kernel
theorem c98_79 : cd 98 79 = some (.iaload, 1) := by decide +kernel
theorem c98_80 : cd 98 80 = some (.ireturn, 1) := by decide +kernel
theorem c98_81 : cd 98 81 = some (.aload 0, 1) := by decide +kernel
theorem c98_82 : cd 98 82 = some (.invokevirtual 139, 3) := by decide +kernel
theorem c98_85 : cd 98 85 = some (.ireturn, 1) := by decide +kernel
theorem c98_86 : cd 98 86 = some (.aload 0, 1) := by decide +kernel
theorem c98_87 : cd 98 87 = some (.getfield 3078, 3) := by decide +kernel
theorem c98_90 : cd 98 90 = some (.sipush 5, 1) := by decide +kernel
theorem c98_91 : cd 98 91 = some (.iaload, 1) := by decide +kernel
theorem c98_92 : cd 98 92 = some (.ireturn, 1) := by decide +kernel
theorem c98_93 : cd 98 93 = some (.aload 0, 1) := by decide +kernel
theorem c98_94 : cd 98 94 = some (.getfield 3078, 3) := by decide +kernel
theorem c98_97 : cd 98 97 = some (.sipush 152, 3) := by decide +kernel
theorem c98_100 : cd 98 100 = some (.iaload, 1) := by decide +kernel
theorem c98_101 : cd 98 101 = some (.ireturn, 1) := by decide +kernel
theorem c98_102 : cd 98 102 = some (.aload 0, 1) := by decide +kernel
theorem c98_103 : cd 98 103 = some (.getfield 3078, 3) := by decide +kernel
theorem c98_106 : cd 98 106 = some (.sipush 4, 1) := by decide +kernel
theorem c98_107 : cd 98 107 = some (.iaload, 1) := by decide +kernel
theorem c98_108 : cd 98 108 = some (.ireturn, 1) := by decide +kernel
theorem c98_109 : cd 98 109 = some (.aload 0, 1) := by decide +kernel
theorem c98_110 : cd 98 110 = some (.invokevirtual 207, 3) := by decide +kernel
theorem c98_113 : cd 98 113 = some (.ireturn, 1) := by decide +kernel
theorem c98_114 : cd 98 114 = some (.aload 0, 1) := by decide +kernel
theorem c98_115 : cd 98 115 = some (.getfield 3092, 3) := by decide +kernel
theorem c98_118 : cd 98 118 = some (.ireturn, 1) := by decide +kernel
theorem c98_119 : cd 98 119 = some (.aload 0, 1) := by decide +kernel
theorem c98_120 : cd 98 120 = some (.getfield 3078, 3) := by decide +kernel
theorem c98_123 : cd 98 123 = some (.sipush 0, 1) := by decide +kernel
theorem c98_124 : cd 98 124 = some (.iaload, 1) := by decide +kernel
theorem c98_125 : cd 98 125 = some (.ireturn, 1) := by decide +kernel
theorem c98_126 : cd 98 126 = some (.sipush (-1), 1) := by decide +kernel
theorem c98_127 : cd 98 127 = some (.ireturn, 1) := by decide +kernel
theorem sw98_6 {d : Nat} {ls : List (Option aV)} {st : List aV} {w : aW} {Q : Option aV → aW → Prop} {x : Int} : T d 98 6 ls (vi x :: st) w Q = ((x = 0 → T d 98 60 ls st w Q) ∧ (x = 1 → T d 98 67 ls st w Q) ∧ (x = 2 → T d 98 74 ls st w Q) ∧ (x = 3 → T d 98 81 ls st w Q) ∧ (x = 4 → T d 98 86 ls st w Q) ∧ (x = 5 → T d 98 93 ls st w Q) ∧ (x = 6 → T d 98 102 ls st w Q) ∧ (x = 7 → T d 98 109 ls st w Q) ∧ (x = 8 → T d 98 114 ls st w Q) ∧ (x = 9 → T d 98 119 ls st w Q) ∧ (¬ x = 0 ∧ ¬ x = 1 ∧ ¬ x = 2 ∧ ¬ x = 3 ∧ ¬ x = 4 ∧ ¬ x = 5 ∧ ¬ x = 6 ∧ ¬ x = 7 ∧ ¬ x = 8 ∧ ¬ x = 9 → T d 98 126 ls st w Q)) := by
  rw [T_tab c98_6]
  apply propext
  constructor
  · intro h
    refine ⟨fun q => by subst q; exact h, fun q => by subst q; exact h, fun q => by subst q; exact h, fun q => by subst q; exact h, fun q => by subst q; exact h, fun q => by subst q; exact h, fun q => by subst q; exact h, fun q => by subst q; exact h, fun q => by subst q; exact h, fun q => by subst q; exact h, fun q => ?_⟩
    · have e : (if x < 0 ∨ 9 < x then (126 : Int).toNat else ((#[60, 67, 74, 81, 86, 93, 102, 109, 114, 119] : Array Int).toList.getD (x - 0).toNat 126).toNat) = 126 := by rw [if_pos (by omega)]; rfl
      rw [e] at h; exact h
  · rintro ⟨h0, h1, h2, h3, h4, h5, h6, h7, h8, h9, hd⟩
    by_cases n0 : x = 0
    · subst n0; exact h0 rfl
    by_cases n1 : x = 1
    · subst n1; exact h1 rfl
    by_cases n2 : x = 2
    · subst n2; exact h2 rfl
    by_cases n3 : x = 3
    · subst n3; exact h3 rfl
    by_cases n4 : x = 4
    · subst n4; exact h4 rfl
    by_cases n5 : x = 5
    · subst n5; exact h5 rfl
    by_cases n6 : x = 6
    · subst n6; exact h6 rfl
    by_cases n7 : x = 7
    · subst n7; exact h7 rfl
    by_cases n8 : x = 8
    · subst n8; exact h8 rfl
    by_cases n9 : x = 9
    · subst n9; exact h9 rfl
    · have e : (if x < 0 ∨ 9 < x then (126 : Int).toNat else ((#[60, 67, 74, 81, 86, 93, 102, 109, 114, 119] : Array Int).toList.getD (x - 0).toNat 126).toNat) = 126 := by rw [if_pos (by omega)]; rfl
      rw [e]; exact hd ⟨n0, n1, n2, n3, n4, n5, n6, n7, n8, n9⟩
theorem g98_0 {d : Nat} {a1 : Int} {w : aW} {Q : Option aV → aW → Prop} : T (d + 1) 98 0 [some (vr 167), some (vi a1)] [] w Q = ((a1 = 0 → Q (some (vi ((iup w 167 0 0) 168 1))) (iup w 167 0 0)) ∧ (a1 = 1 → Q (some (vi ((iup w 167 0 0) 168 2))) (iup w 167 0 0)) ∧ (a1 = 2 → Q (some (vi ((iup w 167 0 0) 168 3))) (iup w 167 0 0)) ∧ (a1 = 3 → T d 139 0 [some (vr 167), none, none] [] (iup w 167 0 0) (fun r w1 => T (d + 1) 98 85 [some (vr 167), some (vi a1)] (r.toList ++ []) w1 Q)) ∧ (a1 = 4 → Q (some (vi ((iup w 167 0 0) 168 5))) (iup w 167 0 0)) ∧ (a1 = 5 → Q (some (vi ((iup w 167 0 0) 168 152))) (iup w 167 0 0)) ∧ (a1 = 6 → Q (some (vi ((iup w 167 0 0) 168 4))) (iup w 167 0 0)) ∧ (a1 = 7 → T d 207 0 [some (vr 167), none, none] [] (iup w 167 0 0) (fun r w1 => T (d + 1) 98 113 [some (vr 167), some (vi a1)] (r.toList ++ []) w1 Q)) ∧ (a1 = 8 → Q (some (vi ((iup w 167 0 0) 167 5))) (iup w 167 0 0)) ∧ (a1 = 9 → Q (some (vi ((iup w 167 0 0) 168 0))) (iup w 167 0 0)) ∧ (¬ a1 = 0 ∧ ¬ a1 = 1 ∧ ¬ a1 = 2 ∧ ¬ a1 = 3 ∧ ¬ a1 = 4 ∧ ¬ a1 = 5 ∧ ¬ a1 = 6 ∧ ¬ a1 = 7 ∧ ¬ a1 = 8 ∧ ¬ a1 = 9 → Q (some (vi (-1))) (iup w 167 0 0))) := by
  rw [T_aload_0 c98_0, T_sipush c98_1, T_putI 12 0 0 c98_2 rfl rfl rfl rfl, T_iload_1 c98_5, sw98_6, T_aload_0 c98_60, T_getR 12 1 1 c98_61 rfl rfl rfl rfl, rf_167_1, T_sipush c98_64, T_iald c98_65, T_ireti c98_66 (by decide +kernel), T_aload_0 c98_67, T_getR 12 1 1 c98_68 rfl rfl rfl rfl, rf_167_1, T_sipush c98_71, T_iald c98_72, T_ireti c98_73 (by decide +kernel), T_aload_0 c98_74, T_getR 12 1 1 c98_75 rfl rfl rfl rfl, rf_167_1, T_sipush c98_78, T_iald c98_79, T_ireti c98_80 (by decide +kernel), T_aload_0 c98_81, T_invv (es := [some (vr 167), none, none]) (st := [vr 167]) (ks := [2]) (n := 3) (c := 12) (k := 167) (as := []) (rest := []) c98_82 (by decide +kernel) (by decide +kernel) (by decide +kernel) (by decide) rfl rfl (Nat.le_of_ble_eq_true rfl), T_aload_0 c98_86, T_getR 12 1 1 c98_87 rfl rfl rfl rfl, rf_167_1, T_sipush c98_90, T_iald c98_91, T_ireti c98_92 (by decide +kernel), T_aload_0 c98_93, T_getR 12 1 1 c98_94 rfl rfl rfl rfl, rf_167_1, T_sipush c98_97, T_iald c98_100, T_ireti c98_101 (by decide +kernel), T_aload_0 c98_102, T_getR 12 1 1 c98_103 rfl rfl rfl rfl, rf_167_1, T_sipush c98_106, T_iald c98_107, T_ireti c98_108 (by decide +kernel), T_aload_0 c98_109, T_invv (es := [some (vr 167), none, none]) (st := [vr 167]) (ks := [2]) (n := 3) (c := 12) (k := 167) (as := []) (rest := []) c98_110 (by decide +kernel) (by decide +kernel) (by decide +kernel) (by decide) rfl rfl (Nat.le_of_ble_eq_true rfl), T_aload_0 c98_114, T_getI 12 5 5 c98_115 rfl rfl rfl rfl, T_ireti c98_118 (by decide +kernel), T_aload_0 c98_119, T_getR 12 1 1 c98_120 rfl rfl rfl rfl, rf_167_1, T_sipush c98_123, T_iald c98_124, T_ireti c98_125 (by decide +kernel), T_sipush c98_126, T_ireti c98_127 (by decide +kernel)]
  all_goals try simp only [Int.reduceLE, Int.reduceLT, and_self, lay_167, ld_168, true_and, Nat.reduceAdd, eq_self_iff_true]
theorem g98_85 {d : Nat} {s0 : Int} {x0 x1 : Option aV} {w : aW} {Q : Option aV → aW → Prop} : T d 98 85 [x0, x1] [vi s0] w Q = Q (some (vi s0)) w := by
  rw [T_ireti c98_85 (by decide +kernel)]
  all_goals try simp only [true_and, Nat.reduceAdd, eq_self_iff_true]
theorem g98_113 {d : Nat} {s0 : Int} {x0 x1 : Option aV} {w : aW} {Q : Option aV → aW → Prop} : T d 98 113 [x0, x1] [vi s0] w Q = Q (some (vi s0)) w := by
  rw [T_ireti c98_113 (by decide +kernel)]
  all_goals try simp only [true_and, Nat.reduceAdd, eq_self_iff_true]
/-! 99: StringHands$Reader.putWord.(I)V -/
theorem c99_0 : cd 99 0 = some (.sipush 24, 2) := by decide +kernel
theorem c99_2 : cd 99 2 = some (.istore 2, 1) := by decide +kernel
theorem c99_3 : cd 99 3 = some (.iload 2, 1) := by decide +kernel
theorem c99_4 : cd 99 4 = some (.ifCond .lt 46, 3) := by decide +kernel
theorem c99_7 : cd 99 7 = some (.aload 0, 1) := by decide +kernel
theorem c99_8 : cd 99 8 = some (.getfield 1028, 3) := by decide +kernel
theorem c99_11 : cd 99 11 = some (.sipush 900, 3) := by decide +kernel
theorem c99_14 : cd 99 14 = some (.if_icmp .ge 46, 3) := by decide +kernel
theorem c99_17 : cd 99 17 = some (.aload 0, 1) := by decide +kernel
theorem c99_18 : cd 99 18 = some (.getfield 1026, 3) := by decide +kernel
theorem c99_21 : cd 99 21 = some (.aload 0, 1) := by decide +kernel
theorem c99_22 : cd 99 22 = some (.getfield 1028, 3) := by decide +kernel
theorem c99_25 : cd 99 25 = some (.iload 1, 1) := by decide +kernel
theorem c99_26 : cd 99 26 = some (.iload 2, 1) := by decide +kernel
theorem c99_27 : cd 99 27 = some (.ishr, 1) := by decide +kernel
theorem c99_28 : cd 99 28 = some (.i2b, 1) := by decide +kernel
theorem c99_29 : cd 99 29 = some (.bastore, 1) := by decide +kernel
theorem c99_30 : cd 99 30 = some (.aload 0, 1) := by decide +kernel
theorem c99_31 : cd 99 31 = some (.dup, 1) := by decide +kernel
theorem c99_32 : cd 99 32 = some (.getfield 1028, 3) := by decide +kernel
theorem c99_35 : cd 99 35 = some (.sipush 1, 1) := by decide +kernel
theorem c99_36 : cd 99 36 = some (.iadd, 1) := by decide +kernel
theorem c99_37 : cd 99 37 = some (.putfield 1028, 3) := by decide +kernel
theorem c99_40 : cd 99 40 = some (.iinc 2 (-8), 3) := by decide +kernel
theorem c99_43 : cd 99 43 = some (.goto 3, 3) := by decide +kernel
theorem c99_46 : cd 99 46 = some (.return_, 1) := by decide +kernel
theorem g99_0 {d : Nat} {x0 x1 x2 : Option aV} {w : aW} {Q : Option aV → aW → Prop} : T d 99 0 [x0, x1, x2] [] w Q = T d 99 3 [x0, x1, some (vi 24)] [] w Q := by
  rw [T_sipush c99_0, T_istore_2 c99_2]
  all_goals try simp only [true_and, Nat.reduceAdd, eq_self_iff_true]
theorem g99_3 {d : Nat} {a1 a2 : Int} {w : aW} {Q : Option aV → aW → Prop} : T d 99 3 [some (vr 1), some (vi a1), some (vi a2)] [] w Q = ((a2 < 0 → T d 99 46 [some (vr 1), some (vi a1), some (vi a2)] [] w Q) ∧ (¬ (a2 < 0) → ((900 ≤ w 1 1 → T d 99 46 [some (vr 1), some (vi a1), some (vi a2)] [] w Q) ∧ (¬ (900 ≤ w 1 1) → ((0 ≤ w 1 1 ∧ w 1 1 < 900) ∧ T d 99 3 [some (vr 1), some (vi a1), some (vi (w32 (a2 + (-8))))] [] (iup (iup w 2 (w 1 1) (j8 (j8 (jshr a1 a2)))) 1 1 (w32 (((iup w 2 (w 1 1) (j8 (j8 (jshr a1 a2)))) 1 1) + 1))) Q))))) := by
  rw [T_iload_2 c99_3, T_if_lt 46 c99_4 rfl, T_aload_0 c99_7, T_getI 4 1 1 c99_8 rfl rfl rfl rfl, T_sipush c99_11, T_icmp_ge 46 c99_14 rfl, T_aload_0 c99_17, T_getR 4 0 0 c99_18 rfl rfl rfl rfl, rf_1_0, T_aload_0 c99_21, T_getI 4 1 1 c99_22 rfl rfl rfl rfl, T_iload_1 c99_25, T_iload_2 c99_26, T_ishr c99_27, T_i2b c99_28, T_bast2 (k := 2) c99_29 (by decide +kernel), T_aload_0 c99_30, T_dup_r c99_31, T_getI 4 1 1 c99_32 rfl rfl rfl rfl, T_sipush c99_35, T_iadd c99_36, T_putI 4 1 1 c99_37 rfl rfl rfl rfl, T_iinc_2 c99_40, T_goto 3 c99_43 rfl]
  all_goals try simp only [Int.reduceToNat, ia2_2, lay_1, true_and, Nat.reduceAdd, eq_self_iff_true]
theorem g99_46 {d : Nat} {x0 x1 x2 : Option aV} {w : aW} {Q : Option aV → aW → Prop} : T d 99 46 [x0, x1, x2] [] w Q = Q none w := by
  rw [T_vret c99_46 (by decide +kernel)]
  all_goals try simp only [true_and, Nat.reduceAdd, eq_self_iff_true]
/-! 100: StringHands$Reader.cutText.(I)V -/
theorem c100_0 : cd 100 0 = some (.iload 1, 1) := by decide +kernel
theorem c100_1 : cd 100 1 = some (.aload 0, 1) := by decide +kernel
theorem c100_2 : cd 100 2 = some (.getfield 1028, 3) := by decide +kernel
theorem c100_5 : cd 100 5 = some (.invokedynamic 1, 3) := by decide +kernel
theorem c100_8 : cd 100 8 = some (.istore 2, 1) := by decide +kernel
theorem c100_9 : cd 100 9 = some (.sipush 0, 1) := by decide +kernel
theorem c100_10 : cd 100 10 = some (.istore 3, 1) := by decide +kernel
theorem c100_11 : cd 100 11 = some (.aload 0, 1) := by decide +kernel
theorem c100_12 : cd 100 12 = some (.sipush 0, 1) := by decide +kernel
theorem c100_13 : cd 100 13 = some (.putfield 1056, 3) := by decide +kernel
theorem c100_16 : cd 100 16 = some (.sipush 0, 1) := by decide +kernel
theorem c100_17 : cd 100 17 = some (.istore 4, 2) := by decide +kernel
theorem c100_19 : cd 100 19 = some (.iload 4, 2) := by decide +kernel
theorem c100_21 : cd 100 21 = some (.sipush 900, 3) := by decide +kernel
theorem c100_24 : cd 100 24 = some (.if_icmp .ge 63, 3) := by decide +kernel
theorem c100_27 : cd 100 27 = some (.iload 3, 1) := by decide +kernel
theorem c100_28 : cd 100 28 = some (.iload 2, 1) := by decide +kernel
theorem c100_29 : cd 100 29 = some (.if_icmp .ge 63, 3) := by decide +kernel
theorem c100_32 : cd 100 32 = some (.aload 0, 1) := by decide +kernel
theorem c100_33 : cd 100 33 = some (.getfield 1026, 3) := by decide +kernel
theorem c100_36 : cd 100 36 = some (.iload 3, 1) := by decide +kernel
theorem c100_37 : cd 100 37 = some (.baload, 1) := by decide +kernel
theorem c100_38 : cd 100 38 = some (.invokestatic 208, 3) := by decide +kernel
theorem c100_41 : cd 100 41 = some (.ifCond .eq 50, 3) := by decide +kernel
theorem c100_44 : cd 100 44 = some (.iload 3, 1) := by decide +kernel
theorem c100_45 : cd 100 45 = some (.sipush 1, 1) := by decide +kernel
theorem c100_46 : cd 100 46 = some (.iadd, 1) := by decide +kernel
theorem c100_47 : cd 100 47 = some (.goto 56, 3) := by decide +kernel
theorem c100_50 : cd 100 50 = some (.aload 0, 1) := by decide +kernel
theorem c100_51 : cd 100 51 = some (.iload 3, 1) := by decide +kernel
theorem c100_52 : cd 100 52 = some (.iload 2, 1) := by decide +kernel
theorem c100_53 : cd 100 53 = some (.invokevirtual 209, 3) := by decide +kernel
theorem c100_56 : cd 100 56 = some (.istore 3, 1) := by decide +kernel
theorem c100_57 : cd 100 57 = some (.iinc 4 1, 3) := by decide +kernel
theorem c100_60 : cd 100 60 = some (.goto 19, 3) := by decide +kernel
theorem c100_63 : cd 100 63 = some (.aload 0, 1) := by decide +kernel
theorem c100_64 : cd 100 64 = some (.sipush 0, 1) := by decide +kernel
theorem c100_65 : cd 100 65 = some (.iload 2, 1) := by decide +kernel
theorem c100_66 : cd 100 66 = some (.sipush 0, 1) := by decide +kernel
theorem c100_67 : cd 100 67 = some (.invokevirtual 210, 3) := by decide +kernel
theorem c100_70 : cd 100 70 = some (.aload 0, 1) := by decide +kernel
theorem c100_71 : cd 100 71 = some (.sipush 0, 1) := by decide +kernel
theorem c100_72 : cd 100 72 = some (.putfield 1028, 3) := by decide +kernel
theorem c100_75 : cd 100 75 = some (.return_, 1) := by decide +kernel
theorem g100_0 {d : Nat} {a1 : Int} {x2 x3 x4 : Option aV} {w : aW} {Q : Option aV → aW → Prop} : T d 100 0 [some (vr 1), some (vi a1), x2, x3, x4] [] w Q = T d 100 19 [some (vr 1), some (vi a1), some (vi (if w 1 1 < a1 then w 1 1 else a1)), some (vi 0), some (vi 0)] [] (iup w 1 8 0) Q := by
  rw [T_iload_1 c100_0, T_aload_0 c100_1, T_getI 4 1 1 c100_2 rfl rfl rfl rfl, T_min (st := []) c100_5 (Nat.le_of_ble_eq_true rfl), T_istore_2 c100_8, T_sipush c100_9, T_istore_3 c100_10, T_aload_0 c100_11, T_sipush c100_12, T_putI 4 8 8 c100_13 rfl rfl rfl rfl, T_sipush c100_16, T_istore_4 c100_17]
  all_goals try simp only [lay_1, true_and, Nat.reduceAdd, eq_self_iff_true]
theorem g100_19 {d : Nat} {a2 a3 a4 : Int} {x1 : Option aV} {w : aW} {Q : Option aV → aW → Prop} : T (d + 1) 100 19 [some (vr 1), x1, some (vi a2), some (vi a3), some (vi a4)] [] w Q = ((900 ≤ a4 → T (d + 1) 100 63 [some (vr 1), x1, some (vi a2), some (vi a3), some (vi a4)] [] w Q) ∧ (¬ (900 ≤ a4) → ((a2 ≤ a3 → T (d + 1) 100 63 [some (vr 1), x1, some (vi a2), some (vi a3), some (vi a4)] [] w Q) ∧ (¬ (a2 ≤ a3) → ((0 ≤ a3 ∧ a3 < 900) ∧ T d 208 0 [some (vi (w 2 a3))] [] w (fun r w1 => T (d + 1) 100 41 [some (vr 1), x1, some (vi a2), some (vi a3), some (vi a4)] (r.toList ++ []) w1 Q)))))) := by
  rw [T_iload_4 c100_19, T_sipush c100_21, T_icmp_ge 63 c100_24 rfl, T_iload_3 c100_27, T_iload_2 c100_28, T_icmp_ge 63 c100_29 rfl, T_aload_0 c100_32, T_getR 4 0 0 c100_33 rfl rfl rfl rfl, rf_1_0, T_iload_3 c100_36, T_bald c100_37, lbv_2, T_inv (es := [some (vi (w 2 a3))]) (st := [vi (w 2 a3)]) (ks := [0]) (n := 1) (as := [vi (w 2 a3)]) (rest := []) c100_38 (by decide +kernel) (by decide +kernel) rfl rfl (Nat.le_of_ble_eq_true rfl)]
  all_goals try simp only [Int.reduceToNat, lay_1, lb_2, lbv_2, true_and, Nat.reduceAdd, eq_self_iff_true]
theorem g100_41 {d : Nat} {a2 a3 s0 : Int} {x1 x4 : Option aV} {w : aW} {Q : Option aV → aW → Prop} : T (d + 1) 100 41 [some (vr 1), x1, some (vi a2), some (vi a3), x4] [vi s0] w Q = ((s0 = 0 → T d 209 0 [some (vr 1), some (vi a3), some (vi a2), none, none] [] w (fun r w1 => T (d + 1) 100 56 [some (vr 1), x1, some (vi a2), some (vi a3), x4] (r.toList ++ []) w1 Q)) ∧ (¬ (s0 = 0) → T (d + 1) 100 56 [some (vr 1), x1, some (vi a2), some (vi a3), x4] [vi (w32 (a3 + 1))] w Q)) := by
  rw [T_if_eq 50 c100_41 rfl, T_aload_0 c100_50, T_iload_3 c100_51, T_iload_2 c100_52, T_invv (es := [some (vr 1), some (vi a3), some (vi a2), none, none]) (st := [vi a2, vi a3, vr 1]) (ks := [2, 0, 0]) (n := 5) (c := 4) (k := 1) (as := [vi a3, vi a2]) (rest := []) c100_53 (by decide +kernel) (by decide +kernel) (by decide +kernel) (by decide) rfl rfl (Nat.le_of_ble_eq_true rfl), T_iload_3 c100_44, T_sipush c100_45, T_iadd c100_46, T_goto 56 c100_47 rfl]
  all_goals try simp only [Int.reduceToNat, lay_1, true_and, Nat.reduceAdd, eq_self_iff_true]
theorem g100_56 {d : Nat} {a4 s0 : Int} {x0 x1 x2 x3 : Option aV} {w : aW} {Q : Option aV → aW → Prop} : T d 100 56 [x0, x1, x2, x3, some (vi a4)] [vi s0] w Q = T d 100 19 [x0, x1, x2, some (vi s0), some (vi (w32 (a4 + 1)))] [] w Q := by
  rw [T_istore_3 c100_56, T_iinc_4 c100_57, T_goto 19 c100_60 rfl]
  all_goals try simp only [true_and, Nat.reduceAdd, eq_self_iff_true]
theorem g100_63 {d : Nat} {a2 : Int} {x1 x3 x4 : Option aV} {w : aW} {Q : Option aV → aW → Prop} : T (d + 1) 100 63 [some (vr 1), x1, some (vi a2), x3, x4] [] w Q = T d 210 0 [some (vr 1), some (vi 0), some (vi a2), some (vi 0)] [] w (fun r w1 => T (d + 1) 100 70 [some (vr 1), x1, some (vi a2), x3, x4] (r.toList ++ []) w1 Q) := by
  rw [T_aload_0 c100_63, T_sipush c100_64, T_iload_2 c100_65, T_sipush c100_66, T_invv (es := [some (vr 1), some (vi 0), some (vi a2), some (vi 0)]) (st := [vi 0, vi a2, vi 0, vr 1]) (ks := [2, 0, 0, 0]) (n := 4) (c := 4) (k := 1) (as := [vi 0, vi a2, vi 0]) (rest := []) c100_67 (by decide +kernel) (by decide +kernel) (by decide +kernel) (by decide) rfl rfl (Nat.le_of_ble_eq_true rfl)]
  all_goals try simp only [lay_1, true_and, Nat.reduceAdd, eq_self_iff_true]
theorem g100_70 {d : Nat} {x1 x2 x3 x4 : Option aV} {w : aW} {Q : Option aV → aW → Prop} : T d 100 70 [some (vr 1), x1, x2, x3, x4] [] w Q = Q none (iup w 1 1 0) := by
  rw [T_aload_0 c100_70, T_sipush c100_71, T_putI 4 1 1 c100_72 rfl rfl rfl rfl, T_vret c100_75 (by decide +kernel)]
  all_goals try simp only [lay_1, true_and, Nat.reduceAdd, eq_self_iff_true]
/-! 101: StringHands$Reader.readLines.()Z -/
theorem c101_0 : cd 101 0 = some (.aload 0, 1) := by decide +kernel
theorem c101_1 : cd 101 1 = some (.sipush 0, 1) := by decide +kernel
theorem c101_2 : cd 101 2 = some (.putfield 1032, 3) := by decide +kernel
theorem c101_5 : cd 101 5 = some (.aload 0, 1) := by decide +kernel
theorem c101_6 : cd 101 6 = some (.sipush (-1), 1) := by decide +kernel
theorem c101_7 : cd 101 7 = some (.putfield 1036, 3) := by decide +kernel
theorem c101_10 : cd 101 10 = some (.aload 0, 1) := by decide +kernel
theorem c101_11 : cd 101 11 = some (.getfield 1042, 3) := by decide +kernel
theorem c101_14 : cd 101 14 = some (.invokevirtual 211, 3) := by decide +kernel
theorem c101_17 : cd 101 17 = some (.aload 0, 1) := by decide +kernel
theorem c101_18 : cd 101 18 = some (.sipush (-1), 1) := by decide +kernel
theorem c101_19 : cd 101 19 = some (.putfield 1060, 3) := by decide +kernel
theorem c101_22 : cd 101 22 = some (.aload 0, 1) := by decide +kernel
theorem c101_23 : cd 101 23 = some (.invokevirtual 212, 3) := by decide +kernel
theorem c101_26 : cd 101 26 = some (.pop, 1) := by decide +kernel
theorem c101_27 : cd 101 27 = some (.sipush 0, 1) := by decide +kernel
theorem c101_28 : cd 101 28 = some (.istore 1, 1) := by decide +kernel
theorem c101_29 : cd 101 29 = some (.iload 1, 1) := by decide +kernel
theorem c101_30 : cd 101 30 = some (.sipush 900, 3) := by decide +kernel
theorem c101_33 : cd 101 33 = some (.if_icmp .ge 197, 3) := by decide +kernel
theorem c101_36 : cd 101 36 = some (.aload 0, 1) := by decide +kernel
theorem c101_37 : cd 101 37 = some (.getfield 1032, 3) := by decide +kernel
theorem c101_40 : cd 101 40 = some (.ifCond .ne 197, 3) := by decide +kernel
theorem c101_43 : cd 101 43 = some (.aload 0, 1) := by decide +kernel
theorem c101_44 : cd 101 44 = some (.getfield 1064, 3) := by decide +kernel
theorem c101_47 : cd 101 47 = some (.ifCond .eq 197, 3) := by decide +kernel
theorem c101_50 : cd 101 50 = some (.aload 0, 1) := by decide +kernel
theorem c101_51 : cd 101 51 = some (.getfield 1064, 3) := by decide +kernel
theorem c101_54 : cd 101 54 = some (.tableswitch 152 201 209 #[104, 112, 152, 152, 152, 120, 128, 136, 144], 50) := by decide +kernel
theorem c101_104 : cd 101 104 = some (.aload 0, 1) := by decide +kernel
theorem c101_105 : cd 101 105 = some (.invokevirtual 213, 3) := by decide +kernel
theorem c101_108 : cd 101 108 = some (.istore 2, 1) := by decide +kernel
theorem c101_109 : cd 101 109 = some (.goto 158, 3) := by decide +kernel
theorem c101_112 : cd 101 112 = some (.aload 0, 1) := by decide +kernel
theorem c101_113 : cd 101 113 = some (.invokevirtual 214, 3) := by decide +kernel
theorem c101_116 : cd 101 116 = some (.istore 2, 1) := by decide +kernel
theorem c101_117 : cd 101 117 = some (.goto 158, 3) := by decide +kernel
theorem c101_120 : cd 101 120 = some (.aload 0, 1) := by decide +kernel
theorem c101_121 : cd 101 121 = some (.invokevirtual 215, 3) := by decide +kernel
theorem c101_124 : cd 101 124 = some (.istore 2, 1) := by decide +kernel
theorem c101_125 : cd 101 125 = some (.goto 158, 3) := by decide +kernel
theorem c101_128 : cd 101 128 = some (.aload 0, 1) := by decide +kernel
theorem c101_129 : cd 101 129 = some (.invokevirtual 216, 3) := by decide +kernel
theorem c101_132 : cd 101 132 = some (.istore 2, 1) := by decide +kernel
theorem c101_133 : cd 101 133 = some (.goto 158, 3) := by decide +kernel
theorem c101_136 : cd 101 136 = some (.aload 0, 1) := by decide +kernel
theorem c101_137 : cd 101 137 = some (.invokevirtual 217, 3) := by decide +kernel
theorem c101_140 : cd 101 140 = some (.istore 2, 1) := by decide +kernel
theorem c101_141 : cd 101 141 = some (.goto 158, 3) := by decide +kernel
theorem c101_144 : cd 101 144 = some (.aload 0, 1) := by decide +kernel
theorem c101_145 : cd 101 145 = some (.invokevirtual 218, 3) := by decide +kernel
theorem c101_148 : cd 101 148 = some (.istore 2, 1) := by decide +kernel
theorem c101_149 : cd 101 149 = some (.goto 158, 3) := by decide +kernel
theorem c101_152 : cd 101 152 = some (.aload 0, 1) := by decide +kernel
theorem c101_153 : cd 101 153 = some (.sipush 2, 1) := by decide +kernel
theorem c101_154 : cd 101 154 = some (.invokevirtual 219, 3) := by decide +kernel
theorem c101_157 : cd 101 157 = some (.istore 2, 1) := by decide +kernel
theorem c101_158 : cd 101 158 = some (.iload 2, 1) := by decide +kernel
theorem c101_159 : cd 101 159 = some (.ifCond .eq 191, 3) := by decide +kernel
theorem c101_162 : cd 101 162 = some (.aload 0, 1) := by decide +kernel
theorem c101_163 : cd 101 163 = some (.sipush 59, 2) := by decide +kernel
theorem c101_165 : cd 101 165 = some (.invokevirtual 220, 3) := by decide +kernel
theorem c101_168 : cd 101 168 = some (.ifCond .eq 191, 3) := by decide +kernel
theorem c101_171 : cd 101 171 = some (.aload 0, 1) := by decide +kernel
theorem c101_172 : cd 101 172 = some (.invokevirtual 212, 3) := by decide +kernel
theorem c101_175 : cd 101 175 = some (.ifCond .eq 191, 3) := by decide +kernel
theorem c101_178 : cd 101 178 = some (.aload 0, 1) := by decide +kernel
theorem c101_179 : cd 101 179 = some (.getfield 1042, 3) := by decide +kernel
theorem c101_182 : cd 101 182 = some (.dup, 1) := by decide +kernel
theorem c101_183 : cd 101 183 = some (.getfield 2068, 3) := by decide +kernel
theorem c101_186 : cd 101 186 = some (.sipush 1, 1) := by decide +kernel
theorem c101_187 : cd 101 187 = some (.iadd, 1) := by decide +kernel
theorem c101_188 : cd 101 188 = some (.putfield 2068, 3) := by decide +kernel
theorem c101_191 : cd 101 191 = some (.iinc 1 1, 3) := by decide +kernel
theorem c101_194 : cd 101 194 = some (.goto 29, 3) := by decide +kernel
theorem c101_197 : cd 101 197 = some (.aload 0, 1) := by decide +kernel
theorem c101_198 : cd 101 198 = some (.getfield 1032, 3) := by decide +kernel
theorem c101_201 : cd 101 201 = some (.ifCond .ne 208, 3) := by decide +kernel
theorem c101_204 : cd 101 204 = some (.sipush 1, 1) := by decide +kernel
theorem c101_205 : cd 101 205 = some (.goto 209, 3) := by decide +kernel
theorem c101_208 : cd 101 208 = some (.sipush 0, 1) := by decide +kernel
theorem c101_209 : cd 101 209 = some (.ireturn, 1) := by decide +kernel
theorem sw101_54 {d : Nat} {ls : List (Option aV)} {st : List aV} {w : aW} {Q : Option aV → aW → Prop} {x : Int} : T d 101 54 ls (vi x :: st) w Q = ((x = 201 → T d 101 104 ls st w Q) ∧ (x = 202 → T d 101 112 ls st w Q) ∧ (x = 203 → T d 101 152 ls st w Q) ∧ (x = 204 → T d 101 152 ls st w Q) ∧ (x = 205 → T d 101 152 ls st w Q) ∧ (x = 206 → T d 101 120 ls st w Q) ∧ (x = 207 → T d 101 128 ls st w Q) ∧ (x = 208 → T d 101 136 ls st w Q) ∧ (x = 209 → T d 101 144 ls st w Q) ∧ (¬ x = 201 ∧ ¬ x = 202 ∧ ¬ x = 203 ∧ ¬ x = 204 ∧ ¬ x = 205 ∧ ¬ x = 206 ∧ ¬ x = 207 ∧ ¬ x = 208 ∧ ¬ x = 209 → T d 101 152 ls st w Q)) := by
  rw [T_tab c101_54]
  apply propext
  constructor
  · intro h
    refine ⟨fun q => by subst q; exact h, fun q => by subst q; exact h, fun q => by subst q; exact h, fun q => by subst q; exact h, fun q => by subst q; exact h, fun q => by subst q; exact h, fun q => by subst q; exact h, fun q => by subst q; exact h, fun q => by subst q; exact h, fun q => ?_⟩
    · have e : (if x < 201 ∨ 209 < x then (152 : Int).toNat else ((#[104, 112, 152, 152, 152, 120, 128, 136, 144] : Array Int).toList.getD (x - 201).toNat 152).toNat) = 152 := by rw [if_pos (by omega)]; rfl
      rw [e] at h; exact h
  · rintro ⟨h0, h1, h2, h3, h4, h5, h6, h7, h8, hd⟩
    by_cases n0 : x = 201
    · subst n0; exact h0 rfl
    by_cases n1 : x = 202
    · subst n1; exact h1 rfl
    by_cases n2 : x = 203
    · subst n2; exact h2 rfl
    by_cases n3 : x = 204
    · subst n3; exact h3 rfl
    by_cases n4 : x = 205
    · subst n4; exact h4 rfl
    by_cases n5 : x = 206
    · subst n5; exact h5 rfl
    by_cases n6 : x = 207
    · subst n6; exact h6 rfl
    by_cases n7 : x = 208
    · subst n7; exact h7 rfl
    by_cases n8 : x = 209
    · subst n8; exact h8 rfl
    · have e : (if x < 201 ∨ 209 < x then (152 : Int).toNat else ((#[104, 112, 152, 152, 152, 120, 128, 136, 144] : Array Int).toList.getD (x - 201).toNat 152).toNat) = 152 := by rw [if_pos (by omega)]; rfl
      rw [e]; exact hd ⟨n0, n1, n2, n3, n4, n5, n6, n7, n8⟩
theorem g101_0 {d : Nat} {x1 x2 : Option aV} {w : aW} {Q : Option aV → aW → Prop} : T (d + 1) 101 0 [some (vr 1), x1, x2] [] w Q = T d 211 0 [some (vr 3)] [] (iup (iup w 1 2 0) 1 3 (-1)) (fun r w1 => T (d + 1) 101 17 [some (vr 1), x1, x2] (r.toList ++ []) w1 Q) := by
  rw [T_aload_0 c101_0, T_sipush c101_1, T_putI 4 2 2 c101_2 rfl rfl rfl rfl, T_aload_0 c101_5, T_sipush c101_6, T_putI 4 3 3 c101_7 rfl rfl rfl rfl, T_aload_0 c101_10, T_getR 4 4 4 c101_11 rfl rfl rfl rfl, rf_1_4, T_invv (es := [some (vr 3)]) (st := [vr 3]) (ks := [2]) (n := 1) (c := 8) (k := 3) (as := []) (rest := []) c101_14 (by decide +kernel) (by decide +kernel) (by decide +kernel) (by decide) rfl rfl (Nat.le_of_ble_eq_true rfl)]
  all_goals try simp only [lay_1, lay_3, true_and, Nat.reduceAdd, eq_self_iff_true]
theorem g101_17 {d : Nat} {x1 x2 : Option aV} {w : aW} {Q : Option aV → aW → Prop} : T (d + 1) 101 17 [some (vr 1), x1, x2] [] w Q = T d 212 0 [some (vr 1)] [] (iup w 1 9 (-1)) (fun r w1 => T (d + 1) 101 26 [some (vr 1), x1, x2] (r.toList ++ []) w1 Q) := by
  rw [T_aload_0 c101_17, T_sipush c101_18, T_putI 4 9 9 c101_19 rfl rfl rfl rfl, T_aload_0 c101_22, T_invv (es := [some (vr 1)]) (st := [vr 1]) (ks := [2]) (n := 1) (c := 4) (k := 1) (as := []) (rest := []) c101_23 (by decide +kernel) (by decide +kernel) (by decide +kernel) (by decide) rfl rfl (Nat.le_of_ble_eq_true rfl)]
  all_goals try simp only [lay_1, true_and, Nat.reduceAdd, eq_self_iff_true]
theorem g101_26 {d : Nat} {s0 : Int} {x0 x1 x2 : Option aV} {w : aW} {Q : Option aV → aW → Prop} : T d 101 26 [x0, x1, x2] [vi s0] w Q = T d 101 29 [x0, some (vi 0), x2] [] w Q := by
  rw [T_pop_i c101_26, T_sipush c101_27, T_istore_1 c101_28]
  all_goals try simp only [true_and, Nat.reduceAdd, eq_self_iff_true]
theorem g101_29 {d : Nat} {a1 : Int} {x2 : Option aV} {w : aW} {Q : Option aV → aW → Prop} : T (d + 1) 101 29 [some (vr 1), some (vi a1), x2] [] w Q = ((900 ≤ a1 → T (d + 1) 101 197 [some (vr 1), some (vi a1), x2] [] w Q) ∧ (¬ (900 ≤ a1) → ((¬ w 1 2 = 0 → T (d + 1) 101 197 [some (vr 1), some (vi a1), x2] [] w Q) ∧ (¬ (¬ w 1 2 = 0) → ((w 1 10 = 0 → T (d + 1) 101 197 [some (vr 1), some (vi a1), x2] [] w Q) ∧ (¬ (w 1 10 = 0) → ((w 1 10 = 201 → T d 213 0 [some (vr 1)] [] w (fun r w1 => T (d + 1) 101 108 [some (vr 1), some (vi a1), x2] (r.toList ++ []) w1 Q)) ∧ (w 1 10 = 202 → T d 214 0 [some (vr 1), none, none] [] w (fun r w1 => T (d + 1) 101 116 [some (vr 1), some (vi a1), x2] (r.toList ++ []) w1 Q)) ∧ (w 1 10 = 203 → T (d + 1) 101 152 [some (vr 1), some (vi a1), x2] [] w Q) ∧ (w 1 10 = 204 → T (d + 1) 101 152 [some (vr 1), some (vi a1), x2] [] w Q) ∧ (w 1 10 = 205 → T (d + 1) 101 152 [some (vr 1), some (vi a1), x2] [] w Q) ∧ (w 1 10 = 206 → T d 215 0 [some (vr 1), none] [] w (fun r w1 => T (d + 1) 101 124 [some (vr 1), some (vi a1), x2] (r.toList ++ []) w1 Q)) ∧ (w 1 10 = 207 → T d 216 0 [some (vr 1), none, none, none] [] w (fun r w1 => T (d + 1) 101 132 [some (vr 1), some (vi a1), x2] (r.toList ++ []) w1 Q)) ∧ (w 1 10 = 208 → T d 217 0 [some (vr 1)] [] w (fun r w1 => T (d + 1) 101 140 [some (vr 1), some (vi a1), x2] (r.toList ++ []) w1 Q)) ∧ (w 1 10 = 209 → T d 218 0 [some (vr 1)] [] w (fun r w1 => T (d + 1) 101 148 [some (vr 1), some (vi a1), x2] (r.toList ++ []) w1 Q)) ∧ (¬ w 1 10 = 201 ∧ ¬ w 1 10 = 202 ∧ ¬ w 1 10 = 203 ∧ ¬ w 1 10 = 204 ∧ ¬ w 1 10 = 205 ∧ ¬ w 1 10 = 206 ∧ ¬ w 1 10 = 207 ∧ ¬ w 1 10 = 208 ∧ ¬ w 1 10 = 209 → T (d + 1) 101 152 [some (vr 1), some (vi a1), x2] [] w Q)))))))) := by
  rw [T_iload_1 c101_29, T_sipush c101_30, T_icmp_ge 197 c101_33 rfl, T_aload_0 c101_36, T_getI 4 2 2 c101_37 rfl rfl rfl rfl, T_if_ne 197 c101_40 rfl, T_aload_0 c101_43, T_getI 4 10 10 c101_44 rfl rfl rfl rfl, T_if_eq 197 c101_47 rfl, T_aload_0 c101_50, T_getI 4 10 10 c101_51 rfl rfl rfl rfl, sw101_54, T_aload_0 c101_104, T_invv (es := [some (vr 1)]) (st := [vr 1]) (ks := [2]) (n := 1) (c := 4) (k := 1) (as := []) (rest := []) c101_105 (by decide +kernel) (by decide +kernel) (by decide +kernel) (by decide) rfl rfl (Nat.le_of_ble_eq_true rfl), T_aload_0 c101_112, T_invv (es := [some (vr 1), none, none]) (st := [vr 1]) (ks := [2]) (n := 3) (c := 4) (k := 1) (as := []) (rest := []) c101_113 (by decide +kernel) (by decide +kernel) (by decide +kernel) (by decide) rfl rfl (Nat.le_of_ble_eq_true rfl), T_aload_0 c101_120, T_invv (es := [some (vr 1), none]) (st := [vr 1]) (ks := [2]) (n := 2) (c := 4) (k := 1) (as := []) (rest := []) c101_121 (by decide +kernel) (by decide +kernel) (by decide +kernel) (by decide) rfl rfl (Nat.le_of_ble_eq_true rfl), T_aload_0 c101_128, T_invv (es := [some (vr 1), none, none, none]) (st := [vr 1]) (ks := [2]) (n := 4) (c := 4) (k := 1) (as := []) (rest := []) c101_129 (by decide +kernel) (by decide +kernel) (by decide +kernel) (by decide) rfl rfl (Nat.le_of_ble_eq_true rfl), T_aload_0 c101_136, T_invv (es := [some (vr 1)]) (st := [vr 1]) (ks := [2]) (n := 1) (c := 4) (k := 1) (as := []) (rest := []) c101_137 (by decide +kernel) (by decide +kernel) (by decide +kernel) (by decide) rfl rfl (Nat.le_of_ble_eq_true rfl), T_aload_0 c101_144, T_invv (es := [some (vr 1)]) (st := [vr 1]) (ks := [2]) (n := 1) (c := 4) (k := 1) (as := []) (rest := []) c101_145 (by decide +kernel) (by decide +kernel) (by decide +kernel) (by decide) rfl rfl (Nat.le_of_ble_eq_true rfl)]
  all_goals try simp only [Int.reduceToNat, lay_1, true_and, Nat.reduceAdd, eq_self_iff_true]
theorem g101_108 {d : Nat} {s0 : Int} {x0 x1 x2 : Option aV} {w : aW} {Q : Option aV → aW → Prop} : T d 101 108 [x0, x1, x2] [vi s0] w Q = T d 101 158 [x0, x1, some (vi s0)] [] w Q := by
  rw [T_istore_2 c101_108, T_goto 158 c101_109 rfl]
  all_goals try simp only [true_and, Nat.reduceAdd, eq_self_iff_true]
theorem g101_116 {d : Nat} {s0 : Int} {x0 x1 x2 : Option aV} {w : aW} {Q : Option aV → aW → Prop} : T d 101 116 [x0, x1, x2] [vi s0] w Q = T d 101 158 [x0, x1, some (vi s0)] [] w Q := by
  rw [T_istore_2 c101_116, T_goto 158 c101_117 rfl]
  all_goals try simp only [true_and, Nat.reduceAdd, eq_self_iff_true]
theorem g101_124 {d : Nat} {s0 : Int} {x0 x1 x2 : Option aV} {w : aW} {Q : Option aV → aW → Prop} : T d 101 124 [x0, x1, x2] [vi s0] w Q = T d 101 158 [x0, x1, some (vi s0)] [] w Q := by
  rw [T_istore_2 c101_124, T_goto 158 c101_125 rfl]
  all_goals try simp only [true_and, Nat.reduceAdd, eq_self_iff_true]
theorem g101_132 {d : Nat} {s0 : Int} {x0 x1 x2 : Option aV} {w : aW} {Q : Option aV → aW → Prop} : T d 101 132 [x0, x1, x2] [vi s0] w Q = T d 101 158 [x0, x1, some (vi s0)] [] w Q := by
  rw [T_istore_2 c101_132, T_goto 158 c101_133 rfl]
  all_goals try simp only [true_and, Nat.reduceAdd, eq_self_iff_true]
theorem g101_140 {d : Nat} {s0 : Int} {x0 x1 x2 : Option aV} {w : aW} {Q : Option aV → aW → Prop} : T d 101 140 [x0, x1, x2] [vi s0] w Q = T d 101 158 [x0, x1, some (vi s0)] [] w Q := by
  rw [T_istore_2 c101_140, T_goto 158 c101_141 rfl]
  all_goals try simp only [true_and, Nat.reduceAdd, eq_self_iff_true]
theorem g101_148 {d : Nat} {s0 : Int} {x0 x1 x2 : Option aV} {w : aW} {Q : Option aV → aW → Prop} : T d 101 148 [x0, x1, x2] [vi s0] w Q = T d 101 158 [x0, x1, some (vi s0)] [] w Q := by
  rw [T_istore_2 c101_148, T_goto 158 c101_149 rfl]
  all_goals try simp only [true_and, Nat.reduceAdd, eq_self_iff_true]
theorem g101_152 {d : Nat} {x1 x2 : Option aV} {w : aW} {Q : Option aV → aW → Prop} : T (d + 1) 101 152 [some (vr 1), x1, x2] [] w Q = T d 219 0 [some (vr 1), some (vi 2)] [] w (fun r w1 => T (d + 1) 101 157 [some (vr 1), x1, x2] (r.toList ++ []) w1 Q) := by
  rw [T_aload_0 c101_152, T_sipush c101_153, T_invv (es := [some (vr 1), some (vi 2)]) (st := [vi 2, vr 1]) (ks := [2, 0]) (n := 2) (c := 4) (k := 1) (as := [vi 2]) (rest := []) c101_154 (by decide +kernel) (by decide +kernel) (by decide +kernel) (by decide) rfl rfl (Nat.le_of_ble_eq_true rfl)]
  all_goals try simp only [lay_1, true_and, Nat.reduceAdd, eq_self_iff_true]
theorem g101_157 {d : Nat} {s0 : Int} {x0 x1 x2 : Option aV} {w : aW} {Q : Option aV → aW → Prop} : T d 101 157 [x0, x1, x2] [vi s0] w Q = T d 101 158 [x0, x1, some (vi s0)] [] w Q := by
  rw [T_istore_2 c101_157]
  all_goals try simp only [true_and, Nat.reduceAdd, eq_self_iff_true]
theorem g101_158 {d : Nat} {a2 : Int} {x1 : Option aV} {w : aW} {Q : Option aV → aW → Prop} : T (d + 1) 101 158 [some (vr 1), x1, some (vi a2)] [] w Q = ((a2 = 0 → T (d + 1) 101 191 [some (vr 1), x1, some (vi a2)] [] w Q) ∧ (¬ (a2 = 0) → T d 220 0 [some (vr 1), some (vi 59)] [] w (fun r w1 => T (d + 1) 101 168 [some (vr 1), x1, some (vi a2)] (r.toList ++ []) w1 Q))) := by
  rw [T_iload_2 c101_158, T_if_eq 191 c101_159 rfl, T_aload_0 c101_162, T_sipush c101_163, T_invv (es := [some (vr 1), some (vi 59)]) (st := [vi 59, vr 1]) (ks := [2, 0]) (n := 2) (c := 4) (k := 1) (as := [vi 59]) (rest := []) c101_165 (by decide +kernel) (by decide +kernel) (by decide +kernel) (by decide) rfl rfl (Nat.le_of_ble_eq_true rfl)]
  all_goals try simp only [Int.reduceToNat, lay_1, true_and, Nat.reduceAdd, eq_self_iff_true]
theorem g101_168 {d : Nat} {s0 : Int} {x1 x2 : Option aV} {w : aW} {Q : Option aV → aW → Prop} : T (d + 1) 101 168 [some (vr 1), x1, x2] [vi s0] w Q = ((s0 = 0 → T (d + 1) 101 191 [some (vr 1), x1, x2] [] w Q) ∧ (¬ (s0 = 0) → T d 212 0 [some (vr 1)] [] w (fun r w1 => T (d + 1) 101 175 [some (vr 1), x1, x2] (r.toList ++ []) w1 Q))) := by
  rw [T_if_eq 191 c101_168 rfl, T_aload_0 c101_171, T_invv (es := [some (vr 1)]) (st := [vr 1]) (ks := [2]) (n := 1) (c := 4) (k := 1) (as := []) (rest := []) c101_172 (by decide +kernel) (by decide +kernel) (by decide +kernel) (by decide) rfl rfl (Nat.le_of_ble_eq_true rfl)]
  all_goals try simp only [Int.reduceToNat, lay_1, true_and, Nat.reduceAdd, eq_self_iff_true]
theorem g101_175 {d : Nat} {s0 : Int} {x1 x2 : Option aV} {w : aW} {Q : Option aV → aW → Prop} : T d 101 175 [some (vr 1), x1, x2] [vi s0] w Q = ((s0 = 0 → T d 101 191 [some (vr 1), x1, x2] [] w Q) ∧ (¬ (s0 = 0) → T d 101 191 [some (vr 1), x1, x2] [] (iup w 3 5 (w32 ((w 3 5) + 1))) Q)) := by
  rw [T_if_eq 191 c101_175 rfl, T_aload_0 c101_178, T_getR 4 4 4 c101_179 rfl rfl rfl rfl, rf_1_4, T_dup_r c101_182, T_getI 8 5 5 c101_183 rfl rfl rfl rfl, T_sipush c101_186, T_iadd c101_187, T_putI 8 5 5 c101_188 rfl rfl rfl rfl]
  all_goals try simp only [Int.reduceToNat, lay_1, lay_3, true_and, Nat.reduceAdd, eq_self_iff_true]
theorem g101_191 {d : Nat} {a1 : Int} {x0 x2 : Option aV} {w : aW} {Q : Option aV → aW → Prop} : T d 101 191 [x0, some (vi a1), x2] [] w Q = T d 101 29 [x0, some (vi (w32 (a1 + 1))), x2] [] w Q := by
  rw [T_iinc_1 c101_191, T_goto 29 c101_194 rfl]
  all_goals try simp only [true_and, Nat.reduceAdd, eq_self_iff_true]
theorem g101_197 {d : Nat} {x1 x2 : Option aV} {w : aW} {Q : Option aV → aW → Prop} : T d 101 197 [some (vr 1), x1, x2] [] w Q = ((¬ w 1 2 = 0 → T d 101 209 [some (vr 1), x1, x2] [vi 0] w Q) ∧ (¬ (¬ w 1 2 = 0) → T d 101 209 [some (vr 1), x1, x2] [vi 1] w Q)) := by
  rw [T_aload_0 c101_197, T_getI 4 2 2 c101_198 rfl rfl rfl rfl, T_if_ne 208 c101_201 rfl, T_sipush c101_208, T_sipush c101_204, T_goto 209 c101_205 rfl]
  all_goals try simp only [Int.reduceToNat, lay_1, true_and, Nat.reduceAdd, eq_self_iff_true]
theorem g101_209 {d : Nat} {s0 : Int} {x0 x1 x2 : Option aV} {w : aW} {Q : Option aV → aW → Prop} : T d 101 209 [x0, x1, x2] [vi s0] w Q = ((s0 = 0 ∨ s0 = 1) ∧ Q (some (vi s0)) w) := by
  rw [T_iretz c101_209 (by decide +kernel)]
  all_goals try simp only [true_and, Nat.reduceAdd, eq_self_iff_true]
/-! 102: StringHands$Troupe.takeAll.(LStringHands$Troupe;)V -/
theorem c102_0 : cd 102 0 = some (.aload 0, 1) := by decide +kernel
theorem c102_1 : cd 102 1 = some (.aload 1, 1) := by decide +kernel
theorem c102_2 : cd 102 2 = some (.getfield 2048, 3) := by decide +kernel
theorem c102_5 : cd 102 5 = some (.putfield 2048, 3) := by decide +kernel
theorem c102_8 : cd 102 8 = some (.aload 0, 1) := by decide +kernel
theorem c102_9 : cd 102 9 = some (.aload 1, 1) := by decide +kernel
theorem c102_10 : cd 102 10 = some (.getfield 2052, 3) := by decide +kernel
theorem c102_13 : cd 102 13 = some (.putfield 2052, 3) := by decide +kernel
theorem c102_16 : cd 102 16 = some (.aload 0, 1) := by decide +kernel
theorem c102_17 : cd 102 17 = some (.aload 1, 1) := by decide +kernel
theorem c102_18 : cd 102 18 = some (.getfield 2056, 3) := by decide +kernel
theorem c102_21 : cd 102 21 = some (.putfield 2056, 3) := by decide +kernel
theorem c102_24 : cd 102 24 = some (.aload 0, 1) := by decide +kernel
theorem c102_25 : cd 102 25 = some (.aload 1, 1) := by decide +kernel
theorem c102_26 : cd 102 26 = some (.getfield 2060, 3) := by decide +kernel
theorem c102_29 : cd 102 29 = some (.putfield 2060, 3) := by decide +kernel
theorem c102_32 : cd 102 32 = some (.aload 0, 1) := by decide +kernel
theorem c102_33 : cd 102 33 = some (.aload 1, 1) := by decide +kernel
theorem c102_34 : cd 102 34 = some (.getfield 2064, 3) := by decide +kernel
theorem c102_37 : cd 102 37 = some (.putfield 2064, 3) := by decide +kernel
theorem c102_40 : cd 102 40 = some (.aload 0, 1) := by decide +kernel
theorem c102_41 : cd 102 41 = some (.aload 1, 1) := by decide +kernel
theorem c102_42 : cd 102 42 = some (.getfield 2068, 3) := by decide +kernel
theorem c102_45 : cd 102 45 = some (.putfield 2068, 3) := by decide +kernel
theorem c102_48 : cd 102 48 = some (.aload 0, 1) := by decide +kernel
theorem c102_49 : cd 102 49 = some (.aload 1, 1) := by decide +kernel
theorem c102_50 : cd 102 50 = some (.getfield 2092, 3) := by decide +kernel
theorem c102_53 : cd 102 53 = some (.putfield 2092, 3) := by decide +kernel
theorem c102_56 : cd 102 56 = some (.aload 0, 1) := by decide +kernel
theorem c102_57 : cd 102 57 = some (.aload 1, 1) := by decide +kernel
theorem c102_58 : cd 102 58 = some (.getfield 2096, 3) := by decide +kernel
theorem c102_61 : cd 102 61 = some (.putfield 2096, 3) := by decide +kernel
theorem c102_64 : cd 102 64 = some (.aload 0, 1) := by decide +kernel
theorem c102_65 : cd 102 65 = some (.aload 1, 1) := by decide +kernel
theorem c102_66 : cd 102 66 = some (.getfield 2100, 3) := by decide +kernel
theorem c102_69 : cd 102 69 = some (.putfield 2100, 3) := by decide +kernel
theorem c102_72 : cd 102 72 = some (.aload 0, 1) := by decide +kernel
theorem c102_73 : cd 102 73 = some (.aload 1, 1) := by decide +kernel
theorem c102_74 : cd 102 74 = some (.getfield 2120, 3) := by decide +kernel
theorem c102_77 : cd 102 77 = some (.putfield 2120, 3) := by decide +kernel
theorem c102_80 : cd 102 80 = some (.aload 1, 1) := by decide +kernel
theorem c102_81 : cd 102 81 = some (.getfield 2074, 3) := by decide +kernel
theorem c102_84 : cd 102 84 = some (.sipush 0, 1) := by decide +kernel
theorem c102_85 : cd 102 85 = some (.aload 0, 1) := by decide +kernel
theorem c102_86 : cd 102 86 = some (.getfield 2074, 3) := by decide +kernel
theorem c102_89 : cd 102 89 = some (.sipush 0, 1) := by decide +kernel
theorem c102_90 : cd 102 90 = some (.sipush 10, 2) := by decide +kernel
theorem c102_92 : cd 102 92 = some (.invokedynamic 0, 3) := by decide +kernel
theorem c102_95 : cd 102 95 = some (.aload 1, 1) := by decide +kernel
theorem c102_96 : cd 102 96 = some (.getfield 2078, 3) := by decide +kernel
theorem c102_99 : cd 102 99 = some (.sipush 0, 1) := by decide +kernel
theorem c102_100 : cd 102 100 = some (.aload 0, 1) := by decide +kernel
theorem c102_101 : cd 102 101 = some (.getfield 2078, 3) := by decide +kernel
theorem c102_104 : cd 102 104 = some (.sipush 0, 1) := by decide +kernel
theorem c102_105 : cd 102 105 = some (.sipush 10, 2) := by decide +kernel
theorem c102_107 : cd 102 107 = some (.invokedynamic 0, 3) := by decide +kernel
theorem c102_110 : cd 102 110 = some (.aload 1, 1) := by decide +kernel
theorem c102_111 : cd 102 111 = some (.getfield 2082, 3) := by decide +kernel
theorem c102_114 : cd 102 114 = some (.sipush 0, 1) := by decide +kernel
theorem c102_115 : cd 102 115 = some (.aload 0, 1) := by decide +kernel
theorem c102_116 : cd 102 116 = some (.getfield 2082, 3) := by decide +kernel
theorem c102_119 : cd 102 119 = some (.sipush 0, 1) := by decide +kernel
theorem c102_120 : cd 102 120 = some (.sipush 16, 2) := by decide +kernel
theorem c102_122 : cd 102 122 = some (.invokedynamic 0, 3) := by decide +kernel
theorem c102_125 : cd 102 125 = some (.aload 1, 1) := by decide +kernel
theorem c102_126 : cd 102 126 = some (.getfield 2086, 3) := by decide +kernel
theorem c102_129 : cd 102 129 = some (.sipush 0, 1) := by decide +kernel
theorem c102_130 : cd 102 130 = some (.aload 0, 1) := by decide +kernel
theorem c102_131 : cd 102 131 = some (.getfield 2086, 3) := by decide +kernel
theorem c102_134 : cd 102 134 = some (.sipush 0, 1) := by decide +kernel
theorem c102_135 : cd 102 135 = some (.sipush 16, 2) := by decide +kernel
theorem c102_137 : cd 102 137 = some (.invokedynamic 0, 3) := by decide +kernel
theorem c102_140 : cd 102 140 = some (.aload 1, 1) := by decide +kernel
theorem c102_141 : cd 102 141 = some (.getfield 2090, 3) := by decide +kernel
theorem c102_144 : cd 102 144 = some (.sipush 0, 1) := by decide +kernel
theorem c102_145 : cd 102 145 = some (.aload 0, 1) := by decide +kernel
theorem c102_146 : cd 102 146 = some (.getfield 2090, 3) := by decide +kernel
theorem c102_149 : cd 102 149 = some (.sipush 0, 1) := by decide +kernel
theorem c102_150 : cd 102 150 = some (.sipush 16, 2) := by decide +kernel
theorem c102_152 : cd 102 152 = some (.invokedynamic 0, 3) := by decide +kernel
theorem c102_155 : cd 102 155 = some (.aload 1, 1) := by decide +kernel
theorem c102_156 : cd 102 156 = some (.getfield 2106, 3) := by decide +kernel
theorem c102_159 : cd 102 159 = some (.sipush 0, 1) := by decide +kernel
theorem c102_160 : cd 102 160 = some (.aload 0, 1) := by decide +kernel
theorem c102_161 : cd 102 161 = some (.getfield 2106, 3) := by decide +kernel
theorem c102_164 : cd 102 164 = some (.sipush 0, 1) := by decide +kernel
theorem c102_165 : cd 102 165 = some (.sipush 10, 2) := by decide +kernel
theorem c102_167 : cd 102 167 = some (.invokedynamic 0, 3) := by decide +kernel
theorem c102_170 : cd 102 170 = some (.aload 1, 1) := by decide +kernel
theorem c102_171 : cd 102 171 = some (.getfield 2110, 3) := by decide +kernel
theorem c102_174 : cd 102 174 = some (.sipush 0, 1) := by decide +kernel
theorem c102_175 : cd 102 175 = some (.aload 0, 1) := by decide +kernel
theorem c102_176 : cd 102 176 = some (.getfield 2110, 3) := by decide +kernel
theorem c102_179 : cd 102 179 = some (.sipush 0, 1) := by decide +kernel
theorem c102_180 : cd 102 180 = some (.sipush 10, 2) := by decide +kernel
theorem c102_182 : cd 102 182 = some (.invokedynamic 0, 3) := by decide +kernel
theorem c102_185 : cd 102 185 = some (.aload 1, 1) := by decide +kernel
theorem c102_186 : cd 102 186 = some (.getfield 2114, 3) := by decide +kernel
theorem c102_189 : cd 102 189 = some (.sipush 0, 1) := by decide +kernel
theorem c102_190 : cd 102 190 = some (.aload 0, 1) := by decide +kernel
theorem c102_191 : cd 102 191 = some (.getfield 2114, 3) := by decide +kernel
theorem c102_194 : cd 102 194 = some (.sipush 0, 1) := by decide +kernel
theorem c102_195 : cd 102 195 = some (.sipush 10, 2) := by decide +kernel
theorem c102_197 : cd 102 197 = some (.invokedynamic 0, 3) := by decide +kernel
theorem c102_200 : cd 102 200 = some (.aload 1, 1) := by decide +kernel
theorem c102_201 : cd 102 201 = some (.getfield 2118, 3) := by decide +kernel
theorem c102_204 : cd 102 204 = some (.sipush 0, 1) := by decide +kernel
theorem c102_205 : cd 102 205 = some (.aload 0, 1) := by decide +kernel
theorem c102_206 : cd 102 206 = some (.getfield 2118, 3) := by decide +kernel
theorem c102_209 : cd 102 209 = some (.sipush 0, 1) := by decide +kernel
theorem c102_210 : cd 102 210 = some (.sipush 900, 3) := by decide +kernel
theorem c102_213 : cd 102 213 = some (.invokedynamic 0, 3) := by decide +kernel
theorem c102_216 : cd 102 216 = some (.return_, 1) := by decide +kernel
theorem g102_0 {d : Nat} {r0 r1 : Nat} {w : aW} {Q : Option aV → aW → Prop} : T d 102 0 [some (vr r0), some (vr r1)] [] w Q = (lay r1 = (8, 0) ∧ ((lay r0 = (8, 0)) ∧ (lay r1 = (8, 0) ∧ ((lay r0 = (8, 0)) ∧ (lay r1 = (8, 0) ∧ ((lay r0 = (8, 0)) ∧ (lay r1 = (8, 0) ∧ ((lay r0 = (8, 0)) ∧ (lay r1 = (8, 0) ∧ ((lay r0 = (8, 0)) ∧ (lay r1 = (8, 0) ∧ ((lay r0 = (8, 0)) ∧ (lay r1 = (8, 0) ∧ ((lay r0 = (8, 0)) ∧ (lay r1 = (8, 0) ∧ ((lay r0 = (8, 0)) ∧ (lay r1 = (8, 0) ∧ ((lay r0 = (8, 0)) ∧ (lay r1 = (8, 0) ∧ ((lay r0 = (8, 0)) ∧ (lay r1 = (8, 0) ∧ (lay r0 = (8, 0) ∧ (((lay (rfA r1 6)).1 = 100 ∧ (lay (rfA r0 6)).1 = 100 ∧ (0 : Int) ≤ 0 ∧ (0 : Int) ≤ 0 ∧ (0 : Int) ≤ 10 ∧ 0 + 10 ≤ ((lay (rfA r1 6)).2 : Int) ∧ 0 + 10 ≤ ((lay (rfA r0 6)).2 : Int)) ∧ (lay r1 = (8, 0) ∧ (lay r0 = (8, 0) ∧ (((lay (rfA r1 7)).1 = 100 ∧ (lay (rfA r0 7)).1 = 100 ∧ (0 : Int) ≤ 0 ∧ (0 : Int) ≤ 0 ∧ (0 : Int) ≤ 10 ∧ 0 + 10 ≤ ((lay (rfA r1 7)).2 : Int) ∧ 0 + 10 ≤ ((lay (rfA r0 7)).2 : Int)) ∧ (lay r1 = (8, 0) ∧ (lay r0 = (8, 0) ∧ (((lay (rfA r1 8)).1 = 100 ∧ (lay (rfA r0 8)).1 = 100 ∧ (0 : Int) ≤ 0 ∧ (0 : Int) ≤ 0 ∧ (0 : Int) ≤ 16 ∧ 0 + 16 ≤ ((lay (rfA r1 8)).2 : Int) ∧ 0 + 16 ≤ ((lay (rfA r0 8)).2 : Int)) ∧ (lay r1 = (8, 0) ∧ (lay r0 = (8, 0) ∧ (((lay (rfA r1 9)).1 = 100 ∧ (lay (rfA r0 9)).1 = 100 ∧ (0 : Int) ≤ 0 ∧ (0 : Int) ≤ 0 ∧ (0 : Int) ≤ 16 ∧ 0 + 16 ≤ ((lay (rfA r1 9)).2 : Int) ∧ 0 + 16 ≤ ((lay (rfA r0 9)).2 : Int)) ∧ (lay r1 = (8, 0) ∧ (lay r0 = (8, 0) ∧ (((lay (rfA r1 10)).1 = 100 ∧ (lay (rfA r0 10)).1 = 100 ∧ (0 : Int) ≤ 0 ∧ (0 : Int) ≤ 0 ∧ (0 : Int) ≤ 16 ∧ 0 + 16 ≤ ((lay (rfA r1 10)).2 : Int) ∧ 0 + 16 ≤ ((lay (rfA r0 10)).2 : Int)) ∧ (lay r1 = (8, 0) ∧ (lay r0 = (8, 0) ∧ (((lay (rfA r1 14)).1 = 100 ∧ (lay (rfA r0 14)).1 = 100 ∧ (0 : Int) ≤ 0 ∧ (0 : Int) ≤ 0 ∧ (0 : Int) ≤ 10 ∧ 0 + 10 ≤ ((lay (rfA r1 14)).2 : Int) ∧ 0 + 10 ≤ ((lay (rfA r0 14)).2 : Int)) ∧ (lay r1 = (8, 0) ∧ (lay r0 = (8, 0) ∧ (((lay (rfA r1 15)).1 = 100 ∧ (lay (rfA r0 15)).1 = 100 ∧ (0 : Int) ≤ 0 ∧ (0 : Int) ≤ 0 ∧ (0 : Int) ≤ 10 ∧ 0 + 10 ≤ ((lay (rfA r1 15)).2 : Int) ∧ 0 + 10 ≤ ((lay (rfA r0 15)).2 : Int)) ∧ (lay r1 = (8, 0) ∧ (lay r0 = (8, 0) ∧ (((lay (rfA r1 16)).1 = 100 ∧ (lay (rfA r0 16)).1 = 100 ∧ (0 : Int) ≤ 0 ∧ (0 : Int) ≤ 0 ∧ (0 : Int) ≤ 10 ∧ 0 + 10 ≤ ((lay (rfA r1 16)).2 : Int) ∧ 0 + 10 ≤ ((lay (rfA r0 16)).2 : Int)) ∧ (lay r1 = (8, 0) ∧ (lay r0 = (8, 0) ∧ (((lay (rfA r1 17)).1 = 100 ∧ (lay (rfA r0 17)).1 = 100 ∧ (0 : Int) ≤ 0 ∧ (0 : Int) ≤ 0 ∧ (0 : Int) ≤ 900 ∧ 0 + 900 ≤ ((lay (rfA r1 17)).2 : Int) ∧ 0 + 900 ≤ ((lay (rfA r0 17)).2 : Int)) ∧ Q none (wcp (wcp (wcp (wcp (wcp (wcp (wcp (wcp (wcp (iup (iup (iup (iup (iup (iup (iup (iup (iup (iup w r0 0 (w r1 0)) r0 1 ((iup w r0 0 (w r1 0)) r1 1)) r0 2 ((iup (iup w r0 0 (w r1 0)) r0 1 ((iup w r0 0 (w r1 0)) r1 1)) r1 2)) r0 3 ((iup (iup (iup w r0 0 (w r1 0)) r0 1 ((iup w r0 0 (w r1 0)) r1 1)) r0 2 ((iup (iup w r0 0 (w r1 0)) r0 1 ((iup w r0 0 (w r1 0)) r1 1)) r1 2)) r1 3)) r0 4 ((iup (iup (iup (iup w r0 0 (w r1 0)) r0 1 ((iup w r0 0 (w r1 0)) r1 1)) r0 2 ((iup (iup w r0 0 (w r1 0)) r0 1 ((iup w r0 0 (w r1 0)) r1 1)) r1 2)) r0 3 ((iup (iup (iup w r0 0 (w r1 0)) r0 1 ((iup w r0 0 (w r1 0)) r1 1)) r0 2 ((iup (iup w r0 0 (w r1 0)) r0 1 ((iup w r0 0 (w r1 0)) r1 1)) r1 2)) r1 3)) r1 4)) r0 5 ((iup (iup (iup (iup (iup w r0 0 (w r1 0)) r0 1 ((iup w r0 0 (w r1 0)) r1 1)) r0 2 ((iup (iup w r0 0 (w r1 0)) r0 1 ((iup w r0 0 (w r1 0)) r1 1)) r1 2)) r0 3 ((iup (iup (iup w r0 0 (w r1 0)) r0 1 ((iup w r0 0 (w r1 0)) r1 1)) r0 2 ((iup (iup w r0 0 (w r1 0)) r0 1 ((iup w r0 0 (w r1 0)) r1 1)) r1 2)) r1 3)) r0 4 ((iup (iup (iup (iup w r0 0 (w r1 0)) r0 1 ((iup w r0 0 (w r1 0)) r1 1)) r0 2 ((iup (iup w r0 0 (w r1 0)) r0 1 ((iup w r0 0 (w r1 0)) r1 1)) r1 2)) r0 3 ((iup (iup (iup w r0 0 (w r1 0)) r0 1 ((iup w r0 0 (w r1 0)) r1 1)) r0 2 ((iup (iup w r0 0 (w r1 0)) r0 1 ((iup w r0 0 (w r1 0)) r1 1)) r1 2)) r1 3)) r1 4)) r1 5)) r0 11 ((iup (iup (iup (iup (iup (iup w r0 0 (w r1 0)) r0 1 ((iup w r0 0 (w r1 0)) r1 1)) r0 2 ((iup (iup w r0 0 (w r1 0)) r0 1 ((iup w r0 0 (w r1 0)) r1 1)) r1 2)) r0 3 ((iup (iup (iup w r0 0 (w r1 0)) r0 1 ((iup w r0 0 (w r1 0)) r1 1)) r0 2 ((iup (iup w r0 0 (w r1 0)) r0 1 ((iup w r0 0 (w r1 0)) r1 1)) r1 2)) r1 3)) r0 4 ((iup (iup (iup (iup w r0 0 (w r1 0)) r0 1 ((iup w r0 0 (w r1 0)) r1 1)) r0 2 ((iup (iup w r0 0 (w r1 0)) r0 1 ((iup w r0 0 (w r1 0)) r1 1)) r1 2)) r0 3 ((iup (iup (iup w r0 0 (w r1 0)) r0 1 ((iup w r0 0 (w r1 0)) r1 1)) r0 2 ((iup (iup w r0 0 (w r1 0)) r0 1 ((iup w r0 0 (w r1 0)) r1 1)) r1 2)) r1 3)) r1 4)) r0 5 ((iup (iup (iup (iup (iup w r0 0 (w r1 0)) r0 1 ((iup w r0 0 (w r1 0)) r1 1)) r0 2 ((iup (iup w r0 0 (w r1 0)) r0 1 ((iup w r0 0 (w r1 0)) r1 1)) r1 2)) r0 3 ((iup (iup (iup w r0 0 (w r1 0)) r0 1 ((iup w r0 0 (w r1 0)) r1 1)) r0 2 ((iup (iup w r0 0 (w r1 0)) r0 1 ((iup w r0 0 (w r1 0)) r1 1)) r1 2)) r1 3)) r0 4 ((iup (iup (iup (iup w r0 0 (w r1 0)) r0 1 ((iup w r0 0 (w r1 0)) r1 1)) r0 2 ((iup (iup w r0 0 (w r1 0)) r0 1 ((iup w r0 0 (w r1 0)) r1 1)) r1 2)) r0 3 ((iup (iup (iup w r0 0 (w r1 0)) r0 1 ((iup w r0 0 (w r1 0)) r1 1)) r0 2 ((iup (iup w r0 0 (w r1 0)) r0 1 ((iup w r0 0 (w r1 0)) r1 1)) r1 2)) r1 3)) r1 4)) r1 5)) r1 11)) r0 12 ((iup (iup (iup (iup (iup (iup (iup w r0 0 (w r1 0)) r0 1 ((iup w r0 0 (w r1 0)) r1 1)) r0 2 ((iup (iup w r0 0 (w r1 0)) r0 1 ((iup w r0 0 (w r1 0)) r1 1)) r1 2)) r0 3 ((iup (iup (iup w r0 0 (w r1 0)) r0 1 ((iup w r0 0 (w r1 0)) r1 1)) r0 2 ((iup (iup w r0 0 (w r1 0)) r0 1 ((iup w r0 0 (w r1 0)) r1 1)) r1 2)) r1 3)) r0 4 ((iup (iup (iup (iup w r0 0 (w r1 0)) r0 1 ((iup w r0 0 (w r1 0)) r1 1)) r0 2 ((iup (iup w r0 0 (w r1 0)) r0 1 ((iup w r0 0 (w r1 0)) r1 1)) r1 2)) r0 3 ((iup (iup (iup w r0 0 (w r1 0)) r0 1 ((iup w r0 0 (w r1 0)) r1 1)) r0 2 ((iup (iup w r0 0 (w r1 0)) r0 1 ((iup w r0 0 (w r1 0)) r1 1)) r1 2)) r1 3)) r1 4)) r0 5 ((iup (iup (iup (iup (iup w r0 0 (w r1 0)) r0 1 ((iup w r0 0 (w r1 0)) r1 1)) r0 2 ((iup (iup w r0 0 (w r1 0)) r0 1 ((iup w r0 0 (w r1 0)) r1 1)) r1 2)) r0 3 ((iup (iup (iup w r0 0 (w r1 0)) r0 1 ((iup w r0 0 (w r1 0)) r1 1)) r0 2 ((iup (iup w r0 0 (w r1 0)) r0 1 ((iup w r0 0 (w r1 0)) r1 1)) r1 2)) r1 3)) r0 4 ((iup (iup (iup (iup w r0 0 (w r1 0)) r0 1 ((iup w r0 0 (w r1 0)) r1 1)) r0 2 ((iup (iup w r0 0 (w r1 0)) r0 1 ((iup w r0 0 (w r1 0)) r1 1)) r1 2)) r0 3 ((iup (iup (iup w r0 0 (w r1 0)) r0 1 ((iup w r0 0 (w r1 0)) r1 1)) r0 2 ((iup (iup w r0 0 (w r1 0)) r0 1 ((iup w r0 0 (w r1 0)) r1 1)) r1 2)) r1 3)) r1 4)) r1 5)) r0 11 ((iup (iup (iup (iup (iup (iup w r0 0 (w r1 0)) r0 1 ((iup w r0 0 (w r1 0)) r1 1)) r0 2 ((iup (iup w r0 0 (w r1 0)) r0 1 ((iup w r0 0 (w r1 0)) r1 1)) r1 2)) r0 3 ((iup (iup (iup w r0 0 (w r1 0)) r0 1 ((iup w r0 0 (w r1 0)) r1 1)) r0 2 ((iup (iup w r0 0 (w r1 0)) r0 1 ((iup w r0 0 (w r1 0)) r1 1)) r1 2)) r1 3)) r0 4 ((iup (iup (iup (iup w r0 0 (w r1 0)) r0 1 ((iup w r0 0 (w r1 0)) r1 1)) r0 2 ((iup (iup w r0 0 (w r1 0)) r0 1 ((iup w r0 0 (w r1 0)) r1 1)) r1 2)) r0 3 ((iup (iup (iup w r0 0 (w r1 0)) r0 1 ((iup w r0 0 (w r1 0)) r1 1)) r0 2 ((iup (iup w r0 0 (w r1 0)) r0 1 ((iup w r0 0 (w r1 0)) r1 1)) r1 2)) r1 3)) r1 4)) r0 5 ((iup (iup (iup (iup (iup w r0 0 (w r1 0)) r0 1 ((iup w r0 0 (w r1 0)) r1 1)) r0 2 ((iup (iup w r0 0 (w r1 0)) r0 1 ((iup w r0 0 (w r1 0)) r1 1)) r1 2)) r0 3 ((iup (iup (iup w r0 0 (w r1 0)) r0 1 ((iup w r0 0 (w r1 0)) r1 1)) r0 2 ((iup (iup w r0 0 (w r1 0)) r0 1 ((iup w r0 0 (w r1 0)) r1 1)) r1 2)) r1 3)) r0 4 ((iup (iup (iup (iup w r0 0 (w r1 0)) r0 1 ((iup w r0 0 (w r1 0)) r1 1)) r0 2 ((iup (iup w r0 0 (w r1 0)) r0 1 ((iup w r0 0 (w r1 0)) r1 1)) r1 2)) r0 3 ((iup (iup (iup w r0 0 (w r1 0)) r0 1 ((iup w r0 0 (w r1 0)) r1 1)) r0 2 ((iup (iup w r0 0 (w r1 0)) r0 1 ((iup w r0 0 (w r1 0)) r1 1)) r1 2)) r1 3)) r1 4)) r1 5)) r1 11)) r1 12)) r0 13 ((iup (iup (iup (iup (iup (iup (iup (iup w r0 0 (w r1 0)) r0 1 ((iup w r0 0 (w r1 0)) r1 1)) r0 2 ((iup (iup w r0 0 (w r1 0)) r0 1 ((iup w r0 0 (w r1 0)) r1 1)) r1 2)) r0 3 ((iup (iup (iup w r0 0 (w r1 0)) r0 1 ((iup w r0 0 (w r1 0)) r1 1)) r0 2 ((iup (iup w r0 0 (w r1 0)) r0 1 ((iup w r0 0 (w r1 0)) r1 1)) r1 2)) r1 3)) r0 4 ((iup (iup (iup (iup w r0 0 (w r1 0)) r0 1 ((iup w r0 0 (w r1 0)) r1 1)) r0 2 ((iup (iup w r0 0 (w r1 0)) r0 1 ((iup w r0 0 (w r1 0)) r1 1)) r1 2)) r0 3 ((iup (iup (iup w r0 0 (w r1 0)) r0 1 ((iup w r0 0 (w r1 0)) r1 1)) r0 2 ((iup (iup w r0 0 (w r1 0)) r0 1 ((iup w r0 0 (w r1 0)) r1 1)) r1 2)) r1 3)) r1 4)) r0 5 ((iup (iup (iup (iup (iup w r0 0 (w r1 0)) r0 1 ((iup w r0 0 (w r1 0)) r1 1)) r0 2 ((iup (iup w r0 0 (w r1 0)) r0 1 ((iup w r0 0 (w r1 0)) r1 1)) r1 2)) r0 3 ((iup (iup (iup w r0 0 (w r1 0)) r0 1 ((iup w r0 0 (w r1 0)) r1 1)) r0 2 ((iup (iup w r0 0 (w r1 0)) r0 1 ((iup w r0 0 (w r1 0)) r1 1)) r1 2)) r1 3)) r0 4 ((iup (iup (iup (iup w r0 0 (w r1 0)) r0 1 ((iup w r0 0 (w r1 0)) r1 1)) r0 2 ((iup (iup w r0 0 (w r1 0)) r0 1 ((iup w r0 0 (w r1 0)) r1 1)) r1 2)) r0 3 ((iup (iup (iup w r0 0 (w r1 0)) r0 1 ((iup w r0 0 (w r1 0)) r1 1)) r0 2 ((iup (iup w r0 0 (w r1 0)) r0 1 ((iup w r0 0 (w r1 0)) r1 1)) r1 2)) r1 3)) r1 4)) r1 5)) r0 11 ((iup (iup (iup (iup (iup (iup w r0 0 (w r1 0)) r0 1 ((iup w r0 0 (w r1 0)) r1 1)) r0 2 ((iup (iup w r0 0 (w r1 0)) r0 1 ((iup w r0 0 (w r1 0)) r1 1)) r1 2)) r0 3 ((iup (iup (iup w r0 0 (w r1 0)) r0 1 ((iup w r0 0 (w r1 0)) r1 1)) r0 2 ((iup (iup w r0 0 (w r1 0)) r0 1 ((iup w r0 0 (w r1 0)) r1 1)) r1 2)) r1 3)) r0 4 ((iup (iup (iup (iup w r0 0 (w r1 0)) r0 1 ((iup w r0 0 (w r1 0)) r1 1)) r0 2 ((iup (iup w r0 0 (w r1 0)) r0 1 ((iup w r0 0 (w r1 0)) r1 1)) r1 2)) r0 3 ((iup (iup (iup w r0 0 (w r1 0)) r0 1 ((iup w r0 0 (w r1 0)) r1 1)) r0 2 ((iup (iup w r0 0 (w r1 0)) r0 1 ((iup w r0 0 (w r1 0)) r1 1)) r1 2)) r1 3)) r1 4)) r0 5 ((iup (iup (iup (iup (iup w r0 0 (w r1 0)) r0 1 ((iup w r0 0 (w r1 0)) r1 1)) r0 2 ((iup (iup w r0 0 (w r1 0)) r0 1 ((iup w r0 0 (w r1 0)) r1 1)) r1 2)) r0 3 ((iup (iup (iup w r0 0 (w r1 0)) r0 1 ((iup w r0 0 (w r1 0)) r1 1)) r0 2 ((iup (iup w r0 0 (w r1 0)) r0 1 ((iup w r0 0 (w r1 0)) r1 1)) r1 2)) r1 3)) r0 4 ((iup (iup (iup (iup w r0 0 (w r1 0)) r0 1 ((iup w r0 0 (w r1 0)) r1 1)) r0 2 ((iup (iup w r0 0 (w r1 0)) r0 1 ((iup w r0 0 (w r1 0)) r1 1)) r1 2)) r0 3 ((iup (iup (iup w r0 0 (w r1 0)) r0 1 ((iup w r0 0 (w r1 0)) r1 1)) r0 2 ((iup (iup w r0 0 (w r1 0)) r0 1 ((iup w r0 0 (w r1 0)) r1 1)) r1 2)) r1 3)) r1 4)) r1 5)) r1 11)) r0 12 ((iup (iup (iup (iup (iup (iup (iup w r0 0 (w r1 0)) r0 1 ((iup w r0 0 (w r1 0)) r1 1)) r0 2 ((iup (iup w r0 0 (w r1 0)) r0 1 ((iup w r0 0 (w r1 0)) r1 1)) r1 2)) r0 3 ((iup (iup (iup w r0 0 (w r1 0)) r0 1 ((iup w r0 0 (w r1 0)) r1 1)) r0 2 ((iup (iup w r0 0 (w r1 0)) r0 1 ((iup w r0 0 (w r1 0)) r1 1)) r1 2)) r1 3)) r0 4 ((iup (iup (iup (iup w r0 0 (w r1 0)) r0 1 ((iup w r0 0 (w r1 0)) r1 1)) r0 2 ((iup (iup w r0 0 (w r1 0)) r0 1 ((iup w r0 0 (w r1 0)) r1 1)) r1 2)) r0 3 ((iup (iup (iup w r0 0 (w r1 0)) r0 1 ((iup w r0 0 (w r1 0)) r1 1)) r0 2 ((iup (iup w r0 0 (w r1 0)) r0 1 ((iup w r0 0 (w r1 0)) r1 1)) r1 2)) r1 3)) r1 4)) r0 5 ((iup (iup (iup (iup (iup w r0 0 (w r1 0)) r0 1 ((iup w r0 0 (w r1 0)) r1 1)) r0 2 ((iup (iup w r0 0 (w r1 0)) r0 1 ((iup w r0 0 (w r1 0)) r1 1)) r1 2)) r0 3 ((iup (iup (iup w r0 0 (w r1 0)) r0 1 ((iup w r0 0 (w r1 0)) r1 1)) r0 2 ((iup (iup w r0 0 (w r1 0)) r0 1 ((iup w r0 0 (w r1 0)) r1 1)) r1 2)) r1 3)) r0 4 ((iup (iup (iup (iup w r0 0 (w r1 0)) r0 1 ((iup w r0 0 (w r1 0)) r1 1)) r0 2 ((iup (iup w r0 0 (w r1 0)) r0 1 ((iup w r0 0 (w r1 0)) r1 1)) r1 2)) r0 3 ((iup (iup (iup w r0 0 (w r1 0)) r0 1 ((iup w r0 0 (w r1 0)) r1 1)) r0 2 ((iup (iup w r0 0 (w r1 0)) r0 1 ((iup w r0 0 (w r1 0)) r1 1)) r1 2)) r1 3)) r1 4)) r1 5)) r0 11 ((iup (iup (iup (iup (iup (iup w r0 0 (w r1 0)) r0 1 ((iup w r0 0 (w r1 0)) r1 1)) r0 2 ((iup (iup w r0 0 (w r1 0)) r0 1 ((iup w r0 0 (w r1 0)) r1 1)) r1 2)) r0 3 ((iup (iup (iup w r0 0 (w r1 0)) r0 1 ((iup w r0 0 (w r1 0)) r1 1)) r0 2 ((iup (iup w r0 0 (w r1 0)) r0 1 ((iup w r0 0 (w r1 0)) r1 1)) r1 2)) r1 3)) r0 4 ((iup (iup (iup (iup w r0 0 (w r1 0)) r0 1 ((iup w r0 0 (w r1 0)) r1 1)) r0 2 ((iup (iup w r0 0 (w r1 0)) r0 1 ((iup w r0 0 (w r1 0)) r1 1)) r1 2)) r0 3 ((iup (iup (iup w r0 0 (w r1 0)) r0 1 ((iup w r0 0 (w r1 0)) r1 1)) r0 2 ((iup (iup w r0 0 (w r1 0)) r0 1 ((iup w r0 0 (w r1 0)) r1 1)) r1 2)) r1 3)) r1 4)) r0 5 ((iup (iup (iup (iup (iup w r0 0 (w r1 0)) r0 1 ((iup w r0 0 (w r1 0)) r1 1)) r0 2 ((iup (iup w r0 0 (w r1 0)) r0 1 ((iup w r0 0 (w r1 0)) r1 1)) r1 2)) r0 3 ((iup (iup (iup w r0 0 (w r1 0)) r0 1 ((iup w r0 0 (w r1 0)) r1 1)) r0 2 ((iup (iup w r0 0 (w r1 0)) r0 1 ((iup w r0 0 (w r1 0)) r1 1)) r1 2)) r1 3)) r0 4 ((iup (iup (iup (iup w r0 0 (w r1 0)) r0 1 ((iup w r0 0 (w r1 0)) r1 1)) r0 2 ((iup (iup w r0 0 (w r1 0)) r0 1 ((iup w r0 0 (w r1 0)) r1 1)) r1 2)) r0 3 ((iup (iup (iup w r0 0 (w r1 0)) r0 1 ((iup w r0 0 (w r1 0)) r1 1)) r0 2 ((iup (iup w r0 0 (w r1 0)) r0 1 ((iup w r0 0 (w r1 0)) r1 1)) r1 2)) r1 3)) r1 4)) r1 5)) r1 11)) r1 12)) r1 13)) r0 18 ((iup (iup (iup (iup (iup (iup (iup (iup (iup w r0 0 (w r1 0)) r0 1 ((iup w r0 0 (w r1 0)) r1 1)) r0 2 ((iup (iup w r0 0 (w r1 0)) r0 1 ((iup w r0 0 (w r1 0)) r1 1)) r1 2)) r0 3 ((iup (iup (iup w r0 0 (w r1 0)) r0 1 ((iup w r0 0 (w r1 0)) r1 1)) r0 2 ((iup (iup w r0 0 (w r1 0)) r0 1 ((iup w r0 0 (w r1 0)) r1 1)) r1 2)) r1 3)) r0 4 ((iup (iup (iup (iup w r0 0 (w r1 0)) r0 1 ((iup w r0 0 (w r1 0)) r1 1)) r0 2 ((iup (iup w r0 0 (w r1 0)) r0 1 ((iup w r0 0 (w r1 0)) r1 1)) r1 2)) r0 3 ((iup (iup (iup w r0 0 (w r1 0)) r0 1 ((iup w r0 0 (w r1 0)) r1 1)) r0 2 ((iup (iup w r0 0 (w r1 0)) r0 1 ((iup w r0 0 (w r1 0)) r1 1)) r1 2)) r1 3)) r1 4)) r0 5 ((iup (iup (iup (iup (iup w r0 0 (w r1 0)) r0 1 ((iup w r0 0 (w r1 0)) r1 1)) r0 2 ((iup (iup w r0 0 (w r1 0)) r0 1 ((iup w r0 0 (w r1 0)) r1 1)) r1 2)) r0 3 ((iup (iup (iup w r0 0 (w r1 0)) r0 1 ((iup w r0 0 (w r1 0)) r1 1)) r0 2 ((iup (iup w r0 0 (w r1 0)) r0 1 ((iup w r0 0 (w r1 0)) r1 1)) r1 2)) r1 3)) r0 4 ((iup (iup (iup (iup w r0 0 (w r1 0)) r0 1 ((iup w r0 0 (w r1 0)) r1 1)) r0 2 ((iup (iup w r0 0 (w r1 0)) r0 1 ((iup w r0 0 (w r1 0)) r1 1)) r1 2)) r0 3 ((iup (iup (iup w r0 0 (w r1 0)) r0 1 ((iup w r0 0 (w r1 0)) r1 1)) r0 2 ((iup (iup w r0 0 (w r1 0)) r0 1 ((iup w r0 0 (w r1 0)) r1 1)) r1 2)) r1 3)) r1 4)) r1 5)) r0 11 ((iup (iup (iup (iup (iup (iup w r0 0 (w r1 0)) r0 1 ((iup w r0 0 (w r1 0)) r1 1)) r0 2 ((iup (iup w r0 0 (w r1 0)) r0 1 ((iup w r0 0 (w r1 0)) r1 1)) r1 2)) r0 3 ((iup (iup (iup w r0 0 (w r1 0)) r0 1 ((iup w r0 0 (w r1 0)) r1 1)) r0 2 ((iup (iup w r0 0 (w r1 0)) r0 1 ((iup w r0 0 (w r1 0)) r1 1)) r1 2)) r1 3)) r0 4 ((iup (iup (iup (iup w r0 0 (w r1 0)) r0 1 ((iup w r0 0 (w r1 0)) r1 1)) r0 2 ((iup (iup w r0 0 (w r1 0)) r0 1 ((iup w r0 0 (w r1 0)) r1 1)) r1 2)) r0 3 ((iup (iup (iup w r0 0 (w r1 0)) r0 1 ((iup w r0 0 (w r1 0)) r1 1)) r0 2 ((iup (iup w r0 0 (w r1 0)) r0 1 ((iup w r0 0 (w r1 0)) r1 1)) r1 2)) r1 3)) r1 4)) r0 5 ((iup (iup (iup (iup (iup w r0 0 (w r1 0)) r0 1 ((iup w r0 0 (w r1 0)) r1 1)) r0 2 ((iup (iup w r0 0 (w r1 0)) r0 1 ((iup w r0 0 (w r1 0)) r1 1)) r1 2)) r0 3 ((iup (iup (iup w r0 0 (w r1 0)) r0 1 ((iup w r0 0 (w r1 0)) r1 1)) r0 2 ((iup (iup w r0 0 (w r1 0)) r0 1 ((iup w r0 0 (w r1 0)) r1 1)) r1 2)) r1 3)) r0 4 ((iup (iup (iup (iup w r0 0 (w r1 0)) r0 1 ((iup w r0 0 (w r1 0)) r1 1)) r0 2 ((iup (iup w r0 0 (w r1 0)) r0 1 ((iup w r0 0 (w r1 0)) r1 1)) r1 2)) r0 3 ((iup (iup (iup w r0 0 (w r1 0)) r0 1 ((iup w r0 0 (w r1 0)) r1 1)) r0 2 ((iup (iup w r0 0 (w r1 0)) r0 1 ((iup w r0 0 (w r1 0)) r1 1)) r1 2)) r1 3)) r1 4)) r1 5)) r1 11)) r0 12 ((iup (iup (iup (iup (iup (iup (iup w r0 0 (w r1 0)) r0 1 ((iup w r0 0 (w r1 0)) r1 1)) r0 2 ((iup (iup w r0 0 (w r1 0)) r0 1 ((iup w r0 0 (w r1 0)) r1 1)) r1 2)) r0 3 ((iup (iup (iup w r0 0 (w r1 0)) r0 1 ((iup w r0 0 (w r1 0)) r1 1)) r0 2 ((iup (iup w r0 0 (w r1 0)) r0 1 ((iup w r0 0 (w r1 0)) r1 1)) r1 2)) r1 3)) r0 4 ((iup (iup (iup (iup w r0 0 (w r1 0)) r0 1 ((iup w r0 0 (w r1 0)) r1 1)) r0 2 ((iup (iup w r0 0 (w r1 0)) r0 1 ((iup w r0 0 (w r1 0)) r1 1)) r1 2)) r0 3 ((iup (iup (iup w r0 0 (w r1 0)) r0 1 ((iup w r0 0 (w r1 0)) r1 1)) r0 2 ((iup (iup w r0 0 (w r1 0)) r0 1 ((iup w r0 0 (w r1 0)) r1 1)) r1 2)) r1 3)) r1 4)) r0 5 ((iup (iup (iup (iup (iup w r0 0 (w r1 0)) r0 1 ((iup w r0 0 (w r1 0)) r1 1)) r0 2 ((iup (iup w r0 0 (w r1 0)) r0 1 ((iup w r0 0 (w r1 0)) r1 1)) r1 2)) r0 3 ((iup (iup (iup w r0 0 (w r1 0)) r0 1 ((iup w r0 0 (w r1 0)) r1 1)) r0 2 ((iup (iup w r0 0 (w r1 0)) r0 1 ((iup w r0 0 (w r1 0)) r1 1)) r1 2)) r1 3)) r0 4 ((iup (iup (iup (iup w r0 0 (w r1 0)) r0 1 ((iup w r0 0 (w r1 0)) r1 1)) r0 2 ((iup (iup w r0 0 (w r1 0)) r0 1 ((iup w r0 0 (w r1 0)) r1 1)) r1 2)) r0 3 ((iup (iup (iup w r0 0 (w r1 0)) r0 1 ((iup w r0 0 (w r1 0)) r1 1)) r0 2 ((iup (iup w r0 0 (w r1 0)) r0 1 ((iup w r0 0 (w r1 0)) r1 1)) r1 2)) r1 3)) r1 4)) r1 5)) r0 11 ((iup (iup (iup (iup (iup (iup w r0 0 (w r1 0)) r0 1 ((iup w r0 0 (w r1 0)) r1 1)) r0 2 ((iup (iup w r0 0 (w r1 0)) r0 1 ((iup w r0 0 (w r1 0)) r1 1)) r1 2)) r0 3 ((iup (iup (iup w r0 0 (w r1 0)) r0 1 ((iup w r0 0 (w r1 0)) r1 1)) r0 2 ((iup (iup w r0 0 (w r1 0)) r0 1 ((iup w r0 0 (w r1 0)) r1 1)) r1 2)) r1 3)) r0 4 ((iup (iup (iup (iup w r0 0 (w r1 0)) r0 1 ((iup w r0 0 (w r1 0)) r1 1)) r0 2 ((iup (iup w r0 0 (w r1 0)) r0 1 ((iup w r0 0 (w r1 0)) r1 1)) r1 2)) r0 3 ((iup (iup (iup w r0 0 (w r1 0)) r0 1 ((iup w r0 0 (w r1 0)) r1 1)) r0 2 ((iup (iup w r0 0 (w r1 0)) r0 1 ((iup w r0 0 (w r1 0)) r1 1)) r1 2)) r1 3)) r1 4)) r0 5 ((iup (iup (iup (iup (iup w r0 0 (w r1 0)) r0 1 ((iup w r0 0 (w r1 0)) r1 1)) r0 2 ((iup (iup w r0 0 (w r1 0)) r0 1 ((iup w r0 0 (w r1 0)) r1 1)) r1 2)) r0 3 ((iup (iup (iup w r0 0 (w r1 0)) r0 1 ((iup w r0 0 (w r1 0)) r1 1)) r0 2 ((iup (iup w r0 0 (w r1 0)) r0 1 ((iup w r0 0 (w r1 0)) r1 1)) r1 2)) r1 3)) r0 4 ((iup (iup (iup (iup w r0 0 (w r1 0)) r0 1 ((iup w r0 0 (w r1 0)) r1 1)) r0 2 ((iup (iup w r0 0 (w r1 0)) r0 1 ((iup w r0 0 (w r1 0)) r1 1)) r1 2)) r0 3 ((iup (iup (iup w r0 0 (w r1 0)) r0 1 ((iup w r0 0 (w r1 0)) r1 1)) r0 2 ((iup (iup w r0 0 (w r1 0)) r0 1 ((iup w r0 0 (w r1 0)) r1 1)) r1 2)) r1 3)) r1 4)) r1 5)) r1 11)) r1 12)) r0 13 ((iup (iup (iup (iup (iup (iup (iup (iup w r0 0 (w r1 0)) r0 1 ((iup w r0 0 (w r1 0)) r1 1)) r0 2 ((iup (iup w r0 0 (w r1 0)) r0 1 ((iup w r0 0 (w r1 0)) r1 1)) r1 2)) r0 3 ((iup (iup (iup w r0 0 (w r1 0)) r0 1 ((iup w r0 0 (w r1 0)) r1 1)) r0 2 ((iup (iup w r0 0 (w r1 0)) r0 1 ((iup w r0 0 (w r1 0)) r1 1)) r1 2)) r1 3)) r0 4 ((iup (iup (iup (iup w r0 0 (w r1 0)) r0 1 ((iup w r0 0 (w r1 0)) r1 1)) r0 2 ((iup (iup w r0 0 (w r1 0)) r0 1 ((iup w r0 0 (w r1 0)) r1 1)) r1 2)) r0 3 ((iup (iup (iup w r0 0 (w r1 0)) r0 1 ((iup w r0 0 (w r1 0)) r1 1)) r0 2 ((iup (iup w r0 0 (w r1 0)) r0 1 ((iup w r0 0 (w r1 0)) r1 1)) r1 2)) r1 3)) r1 4)) r0 5 ((iup (iup (iup (iup (iup w r0 0 (w r1 0)) r0 1 ((iup w r0 0 (w r1 0)) r1 1)) r0 2 ((iup (iup w r0 0 (w r1 0)) r0 1 ((iup w r0 0 (w r1 0)) r1 1)) r1 2)) r0 3 ((iup (iup (iup w r0 0 (w r1 0)) r0 1 ((iup w r0 0 (w r1 0)) r1 1)) r0 2 ((iup (iup w r0 0 (w r1 0)) r0 1 ((iup w r0 0 (w r1 0)) r1 1)) r1 2)) r1 3)) r0 4 ((iup (iup (iup (iup w r0 0 (w r1 0)) r0 1 ((iup w r0 0 (w r1 0)) r1 1)) r0 2 ((iup (iup w r0 0 (w r1 0)) r0 1 ((iup w r0 0 (w r1 0)) r1 1)) r1 2)) r0 3 ((iup (iup (iup w r0 0 (w r1 0)) r0 1 ((iup w r0 0 (w r1 0)) r1 1)) r0 2 ((iup (iup w r0 0 (w r1 0)) r0 1 ((iup w r0 0 (w r1 0)) r1 1)) r1 2)) r1 3)) r1 4)) r1 5)) r0 11 ((iup (iup (iup (iup (iup (iup w r0 0 (w r1 0)) r0 1 ((iup w r0 0 (w r1 0)) r1 1)) r0 2 ((iup (iup w r0 0 (w r1 0)) r0 1 ((iup w r0 0 (w r1 0)) r1 1)) r1 2)) r0 3 ((iup (iup (iup w r0 0 (w r1 0)) r0 1 ((iup w r0 0 (w r1 0)) r1 1)) r0 2 ((iup (iup w r0 0 (w r1 0)) r0 1 ((iup w r0 0 (w r1 0)) r1 1)) r1 2)) r1 3)) r0 4 ((iup (iup (iup (iup w r0 0 (w r1 0)) r0 1 ((iup w r0 0 (w r1 0)) r1 1)) r0 2 ((iup (iup w r0 0 (w r1 0)) r0 1 ((iup w r0 0 (w r1 0)) r1 1)) r1 2)) r0 3 ((iup (iup (iup w r0 0 (w r1 0)) r0 1 ((iup w r0 0 (w r1 0)) r1 1)) r0 2 ((iup (iup w r0 0 (w r1 0)) r0 1 ((iup w r0 0 (w r1 0)) r1 1)) r1 2)) r1 3)) r1 4)) r0 5 ((iup (iup (iup (iup (iup w r0 0 (w r1 0)) r0 1 ((iup w r0 0 (w r1 0)) r1 1)) r0 2 ((iup (iup w r0 0 (w r1 0)) r0 1 ((iup w r0 0 (w r1 0)) r1 1)) r1 2)) r0 3 ((iup (iup (iup w r0 0 (w r1 0)) r0 1 ((iup w r0 0 (w r1 0)) r1 1)) r0 2 ((iup (iup w r0 0 (w r1 0)) r0 1 ((iup w r0 0 (w r1 0)) r1 1)) r1 2)) r1 3)) r0 4 ((iup (iup (iup (iup w r0 0 (w r1 0)) r0 1 ((iup w r0 0 (w r1 0)) r1 1)) r0 2 ((iup (iup w r0 0 (w r1 0)) r0 1 ((iup w r0 0 (w r1 0)) r1 1)) r1 2)) r0 3 ((iup (iup (iup w r0 0 (w r1 0)) r0 1 ((iup w r0 0 (w r1 0)) r1 1)) r0 2 ((iup (iup w r0 0 (w r1 0)) r0 1 ((iup w r0 0 (w r1 0)) r1 1)) r1 2)) r1 3)) r1 4)) r1 5)) r1 11)) r0 12 ((iup (iup (iup (iup (iup (iup (iup w r0 0 (w r1 0)) r0 1 ((iup w r0 0 (w r1 0)) r1 1)) r0 2 ((iup (iup w r0 0 (w r1 0)) r0 1 ((iup w r0 0 (w r1 0)) r1 1)) r1 2)) r0 3 ((iup (iup (iup w r0 0 (w r1 0)) r0 1 ((iup w r0 0 (w r1 0)) r1 1)) r0 2 ((iup (iup w r0 0 (w r1 0)) r0 1 ((iup w r0 0 (w r1 0)) r1 1)) r1 2)) r1 3)) r0 4 ((iup (iup (iup (iup w r0 0 (w r1 0)) r0 1 ((iup w r0 0 (w r1 0)) r1 1)) r0 2 ((iup (iup w r0 0 (w r1 0)) r0 1 ((iup w r0 0 (w r1 0)) r1 1)) r1 2)) r0 3 ((iup (iup (iup w r0 0 (w r1 0)) r0 1 ((iup w r0 0 (w r1 0)) r1 1)) r0 2 ((iup (iup w r0 0 (w r1 0)) r0 1 ((iup w r0 0 (w r1 0)) r1 1)) r1 2)) r1 3)) r1 4)) r0 5 ((iup (iup (iup (iup (iup w r0 0 (w r1 0)) r0 1 ((iup w r0 0 (w r1 0)) r1 1)) r0 2 ((iup (iup w r0 0 (w r1 0)) r0 1 ((iup w r0 0 (w r1 0)) r1 1)) r1 2)) r0 3 ((iup (iup (iup w r0 0 (w r1 0)) r0 1 ((iup w r0 0 (w r1 0)) r1 1)) r0 2 ((iup (iup w r0 0 (w r1 0)) r0 1 ((iup w r0 0 (w r1 0)) r1 1)) r1 2)) r1 3)) r0 4 ((iup (iup (iup (iup w r0 0 (w r1 0)) r0 1 ((iup w r0 0 (w r1 0)) r1 1)) r0 2 ((iup (iup w r0 0 (w r1 0)) r0 1 ((iup w r0 0 (w r1 0)) r1 1)) r1 2)) r0 3 ((iup (iup (iup w r0 0 (w r1 0)) r0 1 ((iup w r0 0 (w r1 0)) r1 1)) r0 2 ((iup (iup w r0 0 (w r1 0)) r0 1 ((iup w r0 0 (w r1 0)) r1 1)) r1 2)) r1 3)) r1 4)) r1 5)) r0 11 ((iup (iup (iup (iup (iup (iup w r0 0 (w r1 0)) r0 1 ((iup w r0 0 (w r1 0)) r1 1)) r0 2 ((iup (iup w r0 0 (w r1 0)) r0 1 ((iup w r0 0 (w r1 0)) r1 1)) r1 2)) r0 3 ((iup (iup (iup w r0 0 (w r1 0)) r0 1 ((iup w r0 0 (w r1 0)) r1 1)) r0 2 ((iup (iup w r0 0 (w r1 0)) r0 1 ((iup w r0 0 (w r1 0)) r1 1)) r1 2)) r1 3)) r0 4 ((iup (iup (iup (iup w r0 0 (w r1 0)) r0 1 ((iup w r0 0 (w r1 0)) r1 1)) r0 2 ((iup (iup w r0 0 (w r1 0)) r0 1 ((iup w r0 0 (w r1 0)) r1 1)) r1 2)) r0 3 ((iup (iup (iup w r0 0 (w r1 0)) r0 1 ((iup w r0 0 (w r1 0)) r1 1)) r0 2 ((iup (iup w r0 0 (w r1 0)) r0 1 ((iup w r0 0 (w r1 0)) r1 1)) r1 2)) r1 3)) r1 4)) r0 5 ((iup (iup (iup (iup (iup w r0 0 (w r1 0)) r0 1 ((iup w r0 0 (w r1 0)) r1 1)) r0 2 ((iup (iup w r0 0 (w r1 0)) r0 1 ((iup w r0 0 (w r1 0)) r1 1)) r1 2)) r0 3 ((iup (iup (iup w r0 0 (w r1 0)) r0 1 ((iup w r0 0 (w r1 0)) r1 1)) r0 2 ((iup (iup w r0 0 (w r1 0)) r0 1 ((iup w r0 0 (w r1 0)) r1 1)) r1 2)) r1 3)) r0 4 ((iup (iup (iup (iup w r0 0 (w r1 0)) r0 1 ((iup w r0 0 (w r1 0)) r1 1)) r0 2 ((iup (iup w r0 0 (w r1 0)) r0 1 ((iup w r0 0 (w r1 0)) r1 1)) r1 2)) r0 3 ((iup (iup (iup w r0 0 (w r1 0)) r0 1 ((iup w r0 0 (w r1 0)) r1 1)) r0 2 ((iup (iup w r0 0 (w r1 0)) r0 1 ((iup w r0 0 (w r1 0)) r1 1)) r1 2)) r1 3)) r1 4)) r1 5)) r1 11)) r1 12)) r1 13)) r1 18)) (rfA r1 6) (rfA r0 6) 0 0 10) (rfA r1 7) (rfA r0 7) 0 0 10) (rfA r1 8) (rfA r0 8) 0 0 16) (rfA r1 9) (rfA r0 9) 0 0 16) (rfA r1 10) (rfA r0 10) 0 0 16) (rfA r1 14) (rfA r0 14) 0 0 10) (rfA r1 15) (rfA r0 15) 0 0 10) (rfA r1 16) (rfA r0 16) 0 0 10) (rfA r1 17) (rfA r0 17) 0 0 900)))))))))))))))))))))))))))))))))))))))))))))))) := by
  rw [T_aload_0 c102_0, T_aload_1 c102_1, T_getI 8 0 0 c102_2 rfl rfl rfl rfl, T_putI 8 0 0 c102_5 rfl rfl rfl rfl, T_aload_0 c102_8, T_aload_1 c102_9, T_getI 8 1 1 c102_10 rfl rfl rfl rfl, T_putI 8 1 1 c102_13 rfl rfl rfl rfl, T_aload_0 c102_16, T_aload_1 c102_17, T_getI 8 2 2 c102_18 rfl rfl rfl rfl, T_putI 8 2 2 c102_21 rfl rfl rfl rfl, T_aload_0 c102_24, T_aload_1 c102_25, T_getI 8 3 3 c102_26 rfl rfl rfl rfl, T_putI 8 3 3 c102_29 rfl rfl rfl rfl, T_aload_0 c102_32, T_aload_1 c102_33, T_getI 8 4 4 c102_34 rfl rfl rfl rfl, T_putI 8 4 4 c102_37 rfl rfl rfl rfl, T_aload_0 c102_40, T_aload_1 c102_41, T_getI 8 5 5 c102_42 rfl rfl rfl rfl, T_putI 8 5 5 c102_45 rfl rfl rfl rfl, T_aload_0 c102_48, T_aload_1 c102_49, T_getI 8 11 11 c102_50 rfl rfl rfl rfl, T_putI 8 11 11 c102_53 rfl rfl rfl rfl, T_aload_0 c102_56, T_aload_1 c102_57, T_getI 8 12 12 c102_58 rfl rfl rfl rfl, T_putI 8 12 12 c102_61 rfl rfl rfl rfl, T_aload_0 c102_64, T_aload_1 c102_65, T_getI 8 13 13 c102_66 rfl rfl rfl rfl, T_putI 8 13 13 c102_69 rfl rfl rfl rfl, T_aload_0 c102_72, T_aload_1 c102_73, T_getI 8 18 18 c102_74 rfl rfl rfl rfl, T_putI 8 18 18 c102_77 rfl rfl rfl rfl, T_aload_1 c102_80, T_getR 8 6 6 c102_81 rfl rfl rfl rfl, T_sipush c102_84, T_aload_0 c102_85, T_getR 8 6 6 c102_86 rfl rfl rfl rfl, T_sipush c102_89, T_sipush c102_90, T_copy (st := []) c102_92 (Nat.le_of_ble_eq_true rfl), T_aload_1 c102_95, T_getR 8 7 7 c102_96 rfl rfl rfl rfl, T_sipush c102_99, T_aload_0 c102_100, T_getR 8 7 7 c102_101 rfl rfl rfl rfl, T_sipush c102_104, T_sipush c102_105, T_copy (st := []) c102_107 (Nat.le_of_ble_eq_true rfl), T_aload_1 c102_110, T_getR 8 8 8 c102_111 rfl rfl rfl rfl, T_sipush c102_114, T_aload_0 c102_115, T_getR 8 8 8 c102_116 rfl rfl rfl rfl, T_sipush c102_119, T_sipush c102_120, T_copy (st := []) c102_122 (Nat.le_of_ble_eq_true rfl), T_aload_1 c102_125, T_getR 8 9 9 c102_126 rfl rfl rfl rfl, T_sipush c102_129, T_aload_0 c102_130, T_getR 8 9 9 c102_131 rfl rfl rfl rfl, T_sipush c102_134, T_sipush c102_135, T_copy (st := []) c102_137 (Nat.le_of_ble_eq_true rfl), T_aload_1 c102_140, T_getR 8 10 10 c102_141 rfl rfl rfl rfl, T_sipush c102_144, T_aload_0 c102_145, T_getR 8 10 10 c102_146 rfl rfl rfl rfl, T_sipush c102_149, T_sipush c102_150, T_copy (st := []) c102_152 (Nat.le_of_ble_eq_true rfl), T_aload_1 c102_155, T_getR 8 14 14 c102_156 rfl rfl rfl rfl, T_sipush c102_159, T_aload_0 c102_160, T_getR 8 14 14 c102_161 rfl rfl rfl rfl, T_sipush c102_164, T_sipush c102_165, T_copy (st := []) c102_167 (Nat.le_of_ble_eq_true rfl), T_aload_1 c102_170, T_getR 8 15 15 c102_171 rfl rfl rfl rfl, T_sipush c102_174, T_aload_0 c102_175, T_getR 8 15 15 c102_176 rfl rfl rfl rfl, T_sipush c102_179, T_sipush c102_180, T_copy (st := []) c102_182 (Nat.le_of_ble_eq_true rfl), T_aload_1 c102_185, T_getR 8 16 16 c102_186 rfl rfl rfl rfl, T_sipush c102_189, T_aload_0 c102_190, T_getR 8 16 16 c102_191 rfl rfl rfl rfl, T_sipush c102_194, T_sipush c102_195, T_copy (st := []) c102_197 (Nat.le_of_ble_eq_true rfl), T_aload_1 c102_200, T_getR 8 17 17 c102_201 rfl rfl rfl rfl, T_sipush c102_204, T_aload_0 c102_205, T_getR 8 17 17 c102_206 rfl rfl rfl rfl, T_sipush c102_209, T_sipush c102_210, T_copy (st := []) c102_213 (Nat.le_of_ble_eq_true rfl), T_vret c102_216 (by decide +kernel)]
  all_goals try simp only [true_and, Nat.reduceAdd, eq_self_iff_true]
/-! 103: StringHands$Stage.setUp.(LStringHands$Troupe;)V -/
theorem c103_0 : cd 103 0 = some (.aload 0, 1) := by decide +kernel
theorem c103_1 : cd 103 1 = some (.aload 1, 1) := by decide +kernel
theorem c103_2 : cd 103 2 = some (.getfield 2060, 3) := by decide +kernel
theorem c103_5 : cd 103 5 = some (.putfield 1536, 3) := by decide +kernel
theorem c103_8 : cd 103 8 = some (.aload 0, 1) := by decide +kernel
theorem c103_9 : cd 103 9 = some (.sipush 1, 1) := by decide +kernel
theorem c103_10 : cd 103 10 = some (.aload 1, 1) := by decide +kernel
theorem c103_11 : cd 103 11 = some (.getfield 2056, 3) := by decide +kernel
theorem c103_14 : cd 103 14 = some (.ishl, 1) := by decide +kernel
theorem c103_15 : cd 103 15 = some (.sipush 1, 1) := by decide +kernel
theorem c103_16 : cd 103 16 = some (.isub, 1) := by decide +kernel
theorem c103_17 : cd 103 17 = some (.putfield 1540, 3) := by decide +kernel
theorem c103_20 : cd 103 20 = some (.aload 1, 1) := by decide +kernel
theorem c103_21 : cd 103 21 = some (.getfield 2082, 3) := by decide +kernel
theorem c103_24 : cd 103 24 = some (.sipush 0, 1) := by decide +kernel
theorem c103_25 : cd 103 25 = some (.aload 0, 1) := by decide +kernel
theorem c103_26 : cd 103 26 = some (.getfield 1546, 3) := by decide +kernel
theorem c103_29 : cd 103 29 = some (.sipush 0, 1) := by decide +kernel
theorem c103_30 : cd 103 30 = some (.sipush 16, 2) := by decide +kernel
theorem c103_32 : cd 103 32 = some (.invokedynamic 0, 3) := by decide +kernel
theorem c103_35 : cd 103 35 = some (.aload 0, 1) := by decide +kernel
theorem c103_36 : cd 103 36 = some (.getfield 1550, 3) := by decide +kernel
theorem c103_39 : cd 103 39 = some (.sipush 0, 1) := by decide +kernel
theorem c103_40 : cd 103 40 = some (.invokestatic 221, 3) := by decide +kernel
theorem c103_43 : cd 103 43 = some (.sipush 0, 1) := by decide +kernel
theorem c103_44 : cd 103 44 = some (.istore 2, 1) := by decide +kernel
theorem c103_45 : cd 103 45 = some (.iload 2, 1) := by decide +kernel
theorem c103_46 : cd 103 46 = some (.sipush 10, 2) := by decide +kernel
theorem c103_48 : cd 103 48 = some (.if_icmp .ge 64, 3) := by decide +kernel
theorem c103_51 : cd 103 51 = some (.aload 0, 1) := by decide +kernel
theorem c103_52 : cd 103 52 = some (.getfield 1554, 3) := by decide +kernel
theorem c103_55 : cd 103 55 = some (.iload 2, 1) := by decide +kernel
theorem c103_56 : cd 103 56 = some (.iload 2, 1) := by decide +kernel
theorem c103_57 : cd 103 57 = some (.iastore, 1) := by decide +kernel
theorem c103_58 : cd 103 58 = some (.iinc 2 1, 3) := by decide +kernel
theorem c103_61 : cd 103 61 = some (.goto 45, 3) := by decide +kernel
theorem c103_64 : cd 103 64 = some (.return_, 1) := by decide +kernel
theorem g103_0 {d : Nat} {r0 : Nat} {x2 : Option aV} {w : aW} {Q : Option aV → aW → Prop} : T (d + 1) 103 0 [some (vr r0), some (vr 69), x2] [] w Q = ((lay r0 = (6, 0)) ∧ ((lay r0 = (6, 0)) ∧ (lay r0 = (6, 0) ∧ (((lay 72).1 = 100 ∧ (lay (rfA r0 2)).1 = 100 ∧ (0 : Int) ≤ 0 ∧ (0 : Int) ≤ 0 ∧ (0 : Int) ≤ 16 ∧ 0 + 16 ≤ ((lay 72).2 : Int) ∧ 0 + 16 ≤ ((lay (rfA r0 2)).2 : Int)) ∧ (lay r0 = (6, 0) ∧ T d 221 0 [some (vr (rfA r0 3)), some (vi 0), none, none] [] (wcp (iup (iup w r0 0 (w 69 3)) r0 1 (w32 ((jshl 1 ((iup w r0 0 (w 69 3)) 69 2)) - 1))) 72 (rfA r0 2) 0 0 16) (fun r w1 => T (d + 1) 103 43 [some (vr r0), some (vr 69), x2] (r.toList ++ []) w1 Q)))))) := by
  rw [T_aload_0 c103_0, T_aload_1 c103_1, T_getI 8 3 3 c103_2 rfl rfl rfl rfl, T_putI 6 0 0 c103_5 rfl rfl rfl rfl, T_aload_0 c103_8, T_sipush c103_9, T_aload_1 c103_10, T_getI 8 2 2 c103_11 rfl rfl rfl rfl, T_ishl c103_14, T_sipush c103_15, T_isub c103_16, T_putI 6 1 1 c103_17 rfl rfl rfl rfl, T_aload_1 c103_20, T_getR 8 8 8 c103_21 rfl rfl rfl rfl, rf_69_8, T_sipush c103_24, T_aload_0 c103_25, T_getR 6 2 2 c103_26 rfl rfl rfl rfl, T_sipush c103_29, T_sipush c103_30, T_copy (st := []) c103_32 (Nat.le_of_ble_eq_true rfl), T_aload_0 c103_35, T_getR 6 3 3 c103_36 rfl rfl rfl rfl, T_sipush c103_39, T_inv (es := [some (vr (rfA r0 3)), some (vi 0), none, none]) (st := [vi 0, vr (rfA r0 3)]) (ks := [2, 0]) (n := 4) (as := [vr (rfA r0 3), vi 0]) (rest := []) c103_40 (by decide +kernel) (by decide +kernel) rfl rfl (Nat.le_of_ble_eq_true rfl)]
  all_goals try simp only [lay_69, true_and, Nat.reduceAdd, eq_self_iff_true]
theorem g103_43 {d : Nat} {x0 x1 x2 : Option aV} {w : aW} {Q : Option aV → aW → Prop} : T d 103 43 [x0, x1, x2] [] w Q = T d 103 45 [x0, x1, some (vi 0)] [] w Q := by
  rw [T_sipush c103_43, T_istore_2 c103_44]
  all_goals try simp only [true_and, Nat.reduceAdd, eq_self_iff_true]
theorem g103_45 {d : Nat} {a2 : Int} {r0 : Nat} {x1 : Option aV} {w : aW} {Q : Option aV → aW → Prop} : T d 103 45 [some (vr r0), x1, some (vi a2)] [] w Q = ((10 ≤ a2 → Q none w) ∧ (¬ (10 ≤ a2) → (lay r0 = (6, 0) ∧ (inA (rfA r0 4) 0 a2 = true ∧ T d 103 45 [some (vr r0), x1, some (vi (w32 (a2 + 1)))] [] (iup w (rfA r0 4) a2 a2) Q)))) := by
  rw [T_iload_2 c103_45, T_sipush c103_46, T_icmp_ge 64 c103_48 rfl, T_vret c103_64 (by decide +kernel), T_aload_0 c103_51, T_getR 6 4 4 c103_52 rfl rfl rfl rfl, T_iload_2 c103_55, T_iload_2 c103_56, T_iast c103_57, T_iinc_2 c103_58, T_goto 45 c103_61 rfl]
  all_goals try simp only [Int.reduceToNat, true_and, Nat.reduceAdd, eq_self_iff_true]
/-! 104: StringHands$Follow.forget.()V -/
theorem c104_0 : cd 104 0 = some (.aload 0, 1) := by decide +kernel
theorem c104_1 : cd 104 1 = some (.sipush 0, 1) := by decide +kernel
theorem c104_2 : cd 104 2 = some (.putfield 35, 3) := by decide +kernel
theorem c104_5 : cd 104 5 = some (.return_, 1) := by decide +kernel
theorem g104_0 {d : Nat} {w : aW} {Q : Option aV → aW → Prop} : T d 104 0 [some (vr 19)] [] w Q = Q none (iup w 19 8 0) := by
  rw [T_aload_0 c104_0, T_sipush c104_1, T_putZ 0 8 8 c104_2 rfl rfl rfl rfl, T_vret c104_5 (by decide +kernel)]
  all_goals try simp only [Int.reduceEq, and_true, lay_19, or_true, true_or, true_and, Nat.reduceAdd, eq_self_iff_true]
/-! 105: StringHandsModel.within.(JJJ)Z -/
theorem c105_0 : cd 105 0 = some (.lload 0, 1) := by decide +kernel
theorem c105_1 : cd 105 1 = some (.lload 2, 1) := by decide +kernel
theorem c105_2 : cd 105 2 = some (.lcmp, 1) := by decide +kernel
theorem c105_3 : cd 105 3 = some (.ifCond .lt 17, 3) := by decide +kernel
theorem c105_6 : cd 105 6 = some (.lload 0, 1) := by decide +kernel
theorem c105_7 : cd 105 7 = some (.lload 4, 2) := by decide +kernel
theorem c105_9 : cd 105 9 = some (.lcmp, 1) := by decide +kernel
theorem c105_10 : cd 105 10 = some (.ifCond .gt 17, 3) := by decide +kernel
theorem c105_13 : cd 105 13 = some (.sipush 1, 1) := by decide +kernel
theorem c105_14 : cd 105 14 = some (.goto 18, 3) := by decide +kernel
theorem c105_17 : cd 105 17 = some (.sipush 0, 1) := by decide +kernel
theorem c105_18 : cd 105 18 = some (.ireturn, 1) := by decide +kernel
theorem g105_0 {d : Nat} {b0 b2 b4 : Int} {w : aW} {Q : Option aV → aW → Prop} : T d 105 0 [some (vl b0), none, some (vl b2), none, some (vl b4), none] [] w Q = ((kcmp b0 b2 < 0 → T d 105 17 [some (vl b0), none, some (vl b2), none, some (vl b4), none] [] w Q) ∧ (¬ (kcmp b0 b2 < 0) → ((0 < kcmp b0 b4 → T d 105 17 [some (vl b0), none, some (vl b2), none, some (vl b4), none] [] w Q) ∧ (¬ (0 < kcmp b0 b4) → T d 105 18 [some (vl b0), none, some (vl b2), none, some (vl b4), none] [vi 1] w Q)))) := by
  rw [T_lload_0 c105_0, T_lload_2 c105_1, T_lcmp c105_2, T_if_lt 17 c105_3 rfl, T_lload_0 c105_6, T_lload_4 c105_7, T_lcmp c105_9, T_if_gt 17 c105_10 rfl, T_sipush c105_13, T_goto 18 c105_14 rfl]
  all_goals try simp only [Int.reduceToNat, true_and, Nat.reduceAdd, eq_self_iff_true]
theorem g105_17 {d : Nat} {x0 x1 x2 x3 x4 x5 : Option aV} {w : aW} {Q : Option aV → aW → Prop} : T d 105 17 [x0, x1, x2, x3, x4, x5] [] w Q = T d 105 18 [x0, x1, x2, x3, x4, x5] [vi 0] w Q := by
  rw [T_sipush c105_17]
  all_goals try simp only [true_and, Nat.reduceAdd, eq_self_iff_true]
theorem g105_18 {d : Nat} {s0 : Int} {x0 x1 x2 x3 x4 x5 : Option aV} {w : aW} {Q : Option aV → aW → Prop} : T d 105 18 [x0, x1, x2, x3, x4, x5] [vi s0] w Q = ((s0 = 0 ∨ s0 = 1) ∧ Q (some (vi s0)) w) := by
  rw [T_iretz c105_18 (by decide +kernel)]
  all_goals try simp only [true_and, Nat.reduceAdd, eq_self_iff_true]
/-! 106: StringHandsModel.next.()V -/
theorem c106_0 : cd 106 0 = some (.aload 0, 1) := by decide +kernel
theorem c106_1 : cd 106 1 = some (.aload 0, 1) := by decide +kernel
theorem c106_2 : cd 106 2 = some (.getfield 3100, 3) := by decide +kernel
theorem c106_5 : cd 106 5 = some (.putfield 3096, 3) := by decide +kernel
theorem c106_8 : cd 106 8 = some (.aload 0, 1) := by decide +kernel
theorem c106_9 : cd 106 9 = some (.aload 0, 1) := by decide +kernel
theorem c106_10 : cd 106 10 = some (.getfield 3096, 3) := by decide +kernel
theorem c106_13 : cd 106 13 = some (.invokevirtual 222, 3) := by decide +kernel
theorem c106_16 : cd 106 16 = some (.sipush 10, 2) := by decide +kernel
theorem c106_18 : cd 106 18 = some (.if_icmp .eq 34, 3) := by decide +kernel
theorem c106_21 : cd 106 21 = some (.aload 0, 1) := by decide +kernel
theorem c106_22 : cd 106 22 = some (.aload 0, 1) := by decide +kernel
theorem c106_23 : cd 106 23 = some (.getfield 3096, 3) := by decide +kernel
theorem c106_26 : cd 106 26 = some (.invokevirtual 222, 3) := by decide +kernel
theorem c106_29 : cd 106 29 = some (.sipush 32, 2) := by decide +kernel
theorem c106_31 : cd 106 31 = some (.if_icmp .ne 47, 3) := by decide +kernel
theorem c106_34 : cd 106 34 = some (.aload 0, 1) := by decide +kernel
theorem c106_35 : cd 106 35 = some (.dup, 1) := by decide +kernel
theorem c106_36 : cd 106 36 = some (.getfield 3096, 3) := by decide +kernel
theorem c106_39 : cd 106 39 = some (.sipush 1, 1) := by decide +kernel
theorem c106_40 : cd 106 40 = some (.iadd, 1) := by decide +kernel
theorem c106_41 : cd 106 41 = some (.putfield 3096, 3) := by decide +kernel
theorem c106_44 : cd 106 44 = some (.goto 8, 3) := by decide +kernel
theorem c106_47 : cd 106 47 = some (.aload 0, 1) := by decide +kernel
theorem c106_48 : cd 106 48 = some (.aload 0, 1) := by decide +kernel
theorem c106_49 : cd 106 49 = some (.getfield 3096, 3) := by decide +kernel
theorem c106_52 : cd 106 52 = some (.putfield 3100, 3) := by decide +kernel
theorem c106_55 : cd 106 55 = some (.aload 0, 1) := by decide +kernel
theorem c106_56 : cd 106 56 = some (.getfield 3096, 3) := by decide +kernel
theorem c106_59 : cd 106 59 = some (.aload 0, 1) := by decide +kernel
theorem c106_60 : cd 106 60 = some (.getfield 3104, 3) := by decide +kernel
theorem c106_63 : cd 106 63 = some (.if_icmp .lt 75, 3) := by decide +kernel
theorem c106_66 : cd 106 66 = some (.aload 0, 1) := by decide +kernel
theorem c106_67 : cd 106 67 = some (.sipush 16, 2) := by decide +kernel
theorem c106_69 : cd 106 69 = some (.putfield 3108, 3) := by decide +kernel
theorem c106_72 : cd 106 72 = some (.goto 294, 3) := by decide +kernel
theorem c106_75 : cd 106 75 = some (.aload 0, 1) := by decide +kernel
theorem c106_76 : cd 106 76 = some (.aload 0, 1) := by decide +kernel
theorem c106_77 : cd 106 77 = some (.getfield 3096, 3) := by decide +kernel
theorem c106_80 : cd 106 80 = some (.invokevirtual 222, 3) := by decide +kernel
theorem c106_83 : cd 106 83 = some (.invokestatic 223, 3) := by decide +kernel
theorem c106_86 : cd 106 86 = some (.ifCond .eq 127, 3) := by decide +kernel
theorem c106_89 : cd 106 89 = some (.aload 0, 1) := by decide +kernel
theorem c106_90 : cd 106 90 = some (.aload 0, 1) := by decide +kernel
theorem c106_91 : cd 106 91 = some (.getfield 3100, 3) := by decide +kernel
theorem c106_94 : cd 106 94 = some (.invokevirtual 222, 3) := by decide +kernel
theorem c106_97 : cd 106 97 = some (.invokestatic 223, 3) := by decide +kernel
theorem c106_100 : cd 106 100 = some (.ifCond .eq 116, 3) := by decide +kernel
theorem c106_103 : cd 106 103 = some (.aload 0, 1) := by decide +kernel
theorem c106_104 : cd 106 104 = some (.dup, 1) := by decide +kernel
theorem c106_105 : cd 106 105 = some (.getfield 3100, 3) := by decide +kernel
theorem c106_108 : cd 106 108 = some (.sipush 1, 1) := by decide +kernel
theorem c106_109 : cd 106 109 = some (.iadd, 1) := by decide +kernel
theorem c106_110 : cd 106 110 = some (.putfield 3100, 3) := by decide +kernel
theorem c106_113 : cd 106 113 = some (.goto 89, 3) := by decide +kernel
theorem c106_116 : cd 106 116 = some (.aload 0, 1) := by decide +kernel
theorem c106_117 : cd 106 117 = some (.aload 0, 1) := by decide +kernel
theorem c106_118 : cd 106 118 = some (.invokevirtual 224, 3) := by decide +kernel
theorem c106_121 : cd 106 121 = some (.putfield 3108, 3) := by decide +kernel
theorem c106_124 : cd 106 124 = some (.goto 294, 3) := by decide +kernel
theorem c106_127 : cd 106 127 = some (.aload 0, 1) := by decide +kernel
theorem c106_128 : cd 106 128 = some (.aload 0, 1) := by decide +kernel
theorem c106_129 : cd 106 129 = some (.getfield 3096, 3) := by decide +kernel
theorem c106_132 : cd 106 132 = some (.invokevirtual 222, 3) := by decide +kernel
theorem c106_135 : cd 106 135 = some (.invokestatic 225, 3) := by decide +kernel
theorem c106_138 : cd 106 138 = some (.ifCond .eq 236, 3) := by decide +kernel
theorem c106_141 : cd 106 141 = some (.aload 0, 1) := by decide +kernel
theorem c106_142 : cd 106 142 = some (.sipush 0, 1) := by decide +kernel
theorem c106_143 : cd 106 143 = some (.putfield 3112, 3) := by decide +kernel
theorem c106_146 : cd 106 146 = some (.aload 0, 1) := by decide +kernel
theorem c106_147 : cd 106 147 = some (.aload 0, 1) := by decide +kernel
theorem c106_148 : cd 106 148 = some (.getfield 3100, 3) := by decide +kernel
theorem c106_151 : cd 106 151 = some (.invokevirtual 222, 3) := by decide +kernel
theorem c106_154 : cd 106 154 = some (.invokestatic 225, 3) := by decide +kernel
theorem c106_157 : cd 106 157 = some (.ifCond .eq 209, 3) := by decide +kernel
theorem c106_160 : cd 106 160 = some (.aload 0, 1) := by decide +kernel
theorem c106_161 : cd 106 161 = some (.getfield 3100, 3) := by decide +kernel
theorem c106_164 : cd 106 164 = some (.aload 0, 1) := by decide +kernel
theorem c106_165 : cd 106 165 = some (.getfield 3096, 3) := by decide +kernel
theorem c106_168 : cd 106 168 = some (.isub, 1) := by decide +kernel
theorem c106_169 : cd 106 169 = some (.sipush 3, 1) := by decide +kernel
theorem c106_170 : cd 106 170 = some (.if_icmp .ge 196, 3) := by decide +kernel
theorem c106_173 : cd 106 173 = some (.aload 0, 1) := by decide +kernel
theorem c106_174 : cd 106 174 = some (.sipush 10, 2) := by decide +kernel
theorem c106_176 : cd 106 176 = some (.aload 0, 1) := by decide +kernel
theorem c106_177 : cd 106 177 = some (.getfield 3112, 3) := by decide +kernel
theorem c106_180 : cd 106 180 = some (.imul, 1) := by decide +kernel
theorem c106_181 : cd 106 181 = some (.aload 0, 1) := by decide +kernel
theorem c106_182 : cd 106 182 = some (.aload 0, 1) := by decide +kernel
theorem c106_183 : cd 106 183 = some (.getfield 3100, 3) := by decide +kernel
theorem c106_186 : cd 106 186 = some (.invokevirtual 222, 3) := by decide +kernel
theorem c106_189 : cd 106 189 = some (.iadd, 1) := by decide +kernel
theorem c106_190 : cd 106 190 = some (.sipush 48, 2) := by decide +kernel
theorem c106_192 : cd 106 192 = some (.isub, 1) := by decide +kernel
theorem c106_193 : cd 106 193 = some (.putfield 3112, 3) := by decide +kernel
theorem c106_196 : cd 106 196 = some (.aload 0, 1) := by decide +kernel
theorem c106_197 : cd 106 197 = some (.dup, 1) := by decide +kernel
theorem c106_198 : cd 106 198 = some (.getfield 3100, 3) := by decide +kernel
theorem c106_201 : cd 106 201 = some (.sipush 1, 1) := by decide +kernel
theorem c106_202 : cd 106 202 = some (.iadd, 1) := by decide +kernel
theorem c106_203 : cd 106 203 = some (.putfield 3100, 3) := by decide +kernel
theorem c106_206 : cd 106 206 = some (.goto 146, 3) := by decide +kernel
theorem c106_209 : cd 106 209 = some (.aload 0, 1) := by decide +kernel
theorem c106_210 : cd 106 210 = some (.aload 0, 1) := by decide +kernel
theorem c106_211 : cd 106 211 = some (.getfield 3100, 3) := by decide +kernel
theorem c106_214 : cd 106 214 = some (.aload 0, 1) := by decide +kernel
theorem c106_215 : cd 106 215 = some (.getfield 3096, 3) := by decide +kernel
theorem c106_218 : cd 106 218 = some (.isub, 1) := by decide +kernel
theorem c106_219 : cd 106 219 = some (.sipush 3, 1) := by decide +kernel
theorem c106_220 : cd 106 220 = some (.if_icmp .le 228, 3) := by decide +kernel
theorem c106_223 : cd 106 223 = some (.sipush 17, 2) := by decide +kernel
theorem c106_225 : cd 106 225 = some (.goto 230, 3) := by decide +kernel
theorem c106_228 : cd 106 228 = some (.sipush 15, 2) := by decide +kernel
theorem c106_230 : cd 106 230 = some (.putfield 3108, 3) := by decide +kernel
theorem c106_233 : cd 106 233 = some (.goto 294, 3) := by decide +kernel
theorem c106_236 : cd 106 236 = some (.aload 0, 1) := by decide +kernel
theorem c106_237 : cd 106 237 = some (.dup, 1) := by decide +kernel
theorem c106_238 : cd 106 238 = some (.getfield 3100, 3) := by decide +kernel
theorem c106_241 : cd 106 241 = some (.sipush 1, 1) := by decide +kernel
theorem c106_242 : cd 106 242 = some (.iadd, 1) := by decide +kernel
theorem c106_243 : cd 106 243 = some (.putfield 3100, 3) := by decide +kernel
theorem c106_246 : cd 106 246 = some (.aload 0, 1) := by decide +kernel
theorem c106_247 : cd 106 247 = some (.sipush 17, 2) := by decide +kernel
theorem c106_249 : cd 106 249 = some (.putfield 3108, 3) := by decide +kernel
theorem c106_252 : cd 106 252 = some (.sipush 0, 1) := by decide +kernel
theorem c106_253 : cd 106 253 = some (.istore 1, 1) := by decide +kernel
theorem c106_254 : cd 106 254 = some (.iload 1, 1) := by decide +kernel
theorem c106_255 : cd 106 255 = some (.ldc 1, 2) := by decide +kernel
theorem c106_257 : cd 106 257 = some (.invokevirtual 226, 3) := by decide +kernel
theorem c106_260 : cd 106 260 = some (.if_icmp .ge 294, 3) := by decide +kernel
theorem c106_263 : cd 106 263 = some (.aload 0, 1) := by decide +kernel
theorem c106_264 : cd 106 264 = some (.aload 0, 1) := by decide +kernel
theorem c106_265 : cd 106 265 = some (.getfield 3096, 3) := by decide +kernel
theorem c106_268 : cd 106 268 = some (.invokevirtual 222, 3) := by decide +kernel
theorem c106_271 : cd 106 271 = some (.ldc 1, 2) := by decide +kernel
theorem c106_273 : cd 106 273 = some (.iload 1, 1) := by decide +kernel
theorem c106_274 : cd 106 274 = some (.invokevirtual 227, 3) := by decide +kernel
theorem c106_277 : cd 106 277 = some (.if_icmp .ne 288, 3) := by decide +kernel
theorem c106_280 : cd 106 280 = some (.aload 0, 1) := by decide +kernel
theorem c106_281 : cd 106 281 = some (.sipush 20, 2) := by decide +kernel
theorem c106_283 : cd 106 283 = some (.iload 1, 1) := by decide +kernel
theorem c106_284 : cd 106 284 = some (.iadd, 1) := by decide +kernel
theorem c106_285 : cd 106 285 = some (.putfield 3108, 3) := by decide +kernel
theorem c106_288 : cd 106 288 = some (.iinc 1 1, 3) := by decide +kernel
theorem c106_291 : cd 106 291 = some (.goto 254, 3) := by decide +kernel
theorem c106_294 : cd 106 294 = some (.return_, 1) := by decide +kernel
theorem g106_0 {d : Nat} {x1 : Option aV} {w : aW} {Q : Option aV → aW → Prop} : T d 106 0 [some (vr 167), x1] [] w Q = T d 106 8 [some (vr 167), x1] [] (iup w 167 6 (w 167 7)) Q := by
  rw [T_aload_0 c106_0, T_aload_0 c106_1, T_getI 12 7 7 c106_2 rfl rfl rfl rfl, T_putI 12 6 6 c106_5 rfl rfl rfl rfl]
  all_goals try simp only [lay_167, true_and, Nat.reduceAdd, eq_self_iff_true]
theorem g106_8 {d : Nat} {x1 : Option aV} {w : aW} {Q : Option aV → aW → Prop} : T (d + 1) 106 8 [some (vr 167), x1] [] w Q = T d 222 0 [some (vr 167), some (vi (w 167 6))] [] w (fun r w1 => T (d + 1) 106 16 [some (vr 167), x1] (r.toList ++ []) w1 Q) := by
  rw [T_aload_0 c106_8, T_aload_0 c106_9, T_getI 12 6 6 c106_10 rfl rfl rfl rfl, T_invv (es := [some (vr 167), some (vi (w 167 6))]) (st := [vi (w 167 6), vr 167]) (ks := [2, 0]) (n := 2) (c := 12) (k := 167) (as := [vi (w 167 6)]) (rest := []) c106_13 (by decide +kernel) (by decide +kernel) (by decide +kernel) (by decide) rfl rfl (Nat.le_of_ble_eq_true rfl)]
  all_goals try simp only [lay_167, true_and, Nat.reduceAdd, eq_self_iff_true]
theorem g106_16 {d : Nat} {s0 : Int} {x1 : Option aV} {w : aW} {Q : Option aV → aW → Prop} : T (d + 1) 106 16 [some (vr 167), x1] [vi s0] w Q = ((s0 = 10 → T (d + 1) 106 34 [some (vr 167), x1] [] w Q) ∧ (¬ (s0 = 10) → T d 222 0 [some (vr 167), some (vi (w 167 6))] [] w (fun r w1 => T (d + 1) 106 29 [some (vr 167), x1] (r.toList ++ []) w1 Q))) := by
  rw [T_sipush c106_16, T_icmp_eq 34 c106_18 rfl, T_aload_0 c106_21, T_aload_0 c106_22, T_getI 12 6 6 c106_23 rfl rfl rfl rfl, T_invv (es := [some (vr 167), some (vi (w 167 6))]) (st := [vi (w 167 6), vr 167]) (ks := [2, 0]) (n := 2) (c := 12) (k := 167) (as := [vi (w 167 6)]) (rest := []) c106_26 (by decide +kernel) (by decide +kernel) (by decide +kernel) (by decide) rfl rfl (Nat.le_of_ble_eq_true rfl)]
  all_goals try simp only [Int.reduceToNat, lay_167, true_and, Nat.reduceAdd, eq_self_iff_true]
theorem g106_29 {d : Nat} {s0 : Int} {x1 : Option aV} {w : aW} {Q : Option aV → aW → Prop} : T (d + 1) 106 29 [some (vr 167), x1] [vi s0] w Q = ((¬ s0 = 32 → (((iup w 167 7 (w 167 6)) 167 6 < (iup w 167 7 (w 167 6)) 167 8 → T d 222 0 [some (vr 167), some (vi ((iup w 167 7 (w 167 6)) 167 6))] [] (iup w 167 7 (w 167 6)) (fun r w1 => T (d + 1) 106 83 [some (vr 167), x1] (r.toList ++ []) w1 Q)) ∧ (¬ ((iup w 167 7 (w 167 6)) 167 6 < (iup w 167 7 (w 167 6)) 167 8) → T (d + 1) 106 294 [some (vr 167), x1] [] (iup (iup w 167 7 (w 167 6)) 167 9 16) Q))) ∧ (¬ (¬ s0 = 32) → T (d + 1) 106 34 [some (vr 167), x1] [] w Q)) := by
  rw [T_sipush c106_29, T_icmp_ne 47 c106_31 rfl, T_aload_0 c106_47, T_aload_0 c106_48, T_getI 12 6 6 c106_49 rfl rfl rfl rfl, T_putI 12 7 7 c106_52 rfl rfl rfl rfl, T_aload_0 c106_55, T_getI 12 6 6 c106_56 rfl rfl rfl rfl, T_aload_0 c106_59, T_getI 12 8 8 c106_60 rfl rfl rfl rfl, T_icmp_lt 75 c106_63 rfl, T_aload_0 c106_75, T_aload_0 c106_76, T_getI 12 6 6 c106_77 rfl rfl rfl rfl, T_invv (es := [some (vr 167), some (vi ((iup w 167 7 (w 167 6)) 167 6))]) (st := [vi ((iup w 167 7 (w 167 6)) 167 6), vr 167]) (ks := [2, 0]) (n := 2) (c := 12) (k := 167) (as := [vi ((iup w 167 7 (w 167 6)) 167 6)]) (rest := []) c106_80 (by decide +kernel) (by decide +kernel) (by decide +kernel) (by decide) rfl rfl (Nat.le_of_ble_eq_true rfl), T_aload_0 c106_66, T_sipush c106_67, T_putI 12 9 9 c106_69 rfl rfl rfl rfl, T_goto 294 c106_72 rfl]
  all_goals try simp only [Int.reduceToNat, lay_167, true_and, Nat.reduceAdd, eq_self_iff_true]
theorem g106_34 {d : Nat} {x1 : Option aV} {w : aW} {Q : Option aV → aW → Prop} : T d 106 34 [some (vr 167), x1] [] w Q = T d 106 8 [some (vr 167), x1] [] (iup w 167 6 (w32 ((w 167 6) + 1))) Q := by
  rw [T_aload_0 c106_34, T_dup_r c106_35, T_getI 12 6 6 c106_36 rfl rfl rfl rfl, T_sipush c106_39, T_iadd c106_40, T_putI 12 6 6 c106_41 rfl rfl rfl rfl, T_goto 8 c106_44 rfl]
  all_goals try simp only [lay_167, true_and, Nat.reduceAdd, eq_self_iff_true]
theorem g106_83 {d : Nat} {s0 : Int} {x0 x1 : Option aV} {w : aW} {Q : Option aV → aW → Prop} : T (d + 1) 106 83 [x0, x1] [vi s0] w Q = T d 223 0 [some (vi s0)] [] w (fun r w1 => T (d + 1) 106 86 [x0, x1] (r.toList ++ []) w1 Q) := by
  rw [T_inv (es := [some (vi s0)]) (st := [vi s0]) (ks := [0]) (n := 1) (as := [vi s0]) (rest := []) c106_83 (by decide +kernel) (by decide +kernel) rfl rfl (Nat.le_of_ble_eq_true rfl)]
  all_goals try simp only [true_and, Nat.reduceAdd, eq_self_iff_true]
theorem g106_86 {d : Nat} {s0 : Int} {x1 : Option aV} {w : aW} {Q : Option aV → aW → Prop} : T (d + 1) 106 86 [some (vr 167), x1] [vi s0] w Q = ((s0 = 0 → T d 222 0 [some (vr 167), some (vi (w 167 6))] [] w (fun r w1 => T (d + 1) 106 135 [some (vr 167), x1] (r.toList ++ []) w1 Q)) ∧ (¬ (s0 = 0) → T (d + 1) 106 89 [some (vr 167), x1] [] w Q)) := by
  rw [T_if_eq 127 c106_86 rfl, T_aload_0 c106_127, T_aload_0 c106_128, T_getI 12 6 6 c106_129 rfl rfl rfl rfl, T_invv (es := [some (vr 167), some (vi (w 167 6))]) (st := [vi (w 167 6), vr 167]) (ks := [2, 0]) (n := 2) (c := 12) (k := 167) (as := [vi (w 167 6)]) (rest := []) c106_132 (by decide +kernel) (by decide +kernel) (by decide +kernel) (by decide) rfl rfl (Nat.le_of_ble_eq_true rfl)]
  all_goals try simp only [Int.reduceToNat, lay_167, true_and, Nat.reduceAdd, eq_self_iff_true]
theorem g106_89 {d : Nat} {x1 : Option aV} {w : aW} {Q : Option aV → aW → Prop} : T (d + 1) 106 89 [some (vr 167), x1] [] w Q = T d 222 0 [some (vr 167), some (vi (w 167 7))] [] w (fun r w1 => T (d + 1) 106 97 [some (vr 167), x1] (r.toList ++ []) w1 Q) := by
  rw [T_aload_0 c106_89, T_aload_0 c106_90, T_getI 12 7 7 c106_91 rfl rfl rfl rfl, T_invv (es := [some (vr 167), some (vi (w 167 7))]) (st := [vi (w 167 7), vr 167]) (ks := [2, 0]) (n := 2) (c := 12) (k := 167) (as := [vi (w 167 7)]) (rest := []) c106_94 (by decide +kernel) (by decide +kernel) (by decide +kernel) (by decide) rfl rfl (Nat.le_of_ble_eq_true rfl)]
  all_goals try simp only [lay_167, true_and, Nat.reduceAdd, eq_self_iff_true]
theorem g106_97 {d : Nat} {s0 : Int} {x0 x1 : Option aV} {w : aW} {Q : Option aV → aW → Prop} : T (d + 1) 106 97 [x0, x1] [vi s0] w Q = T d 223 0 [some (vi s0)] [] w (fun r w1 => T (d + 1) 106 100 [x0, x1] (r.toList ++ []) w1 Q) := by
  rw [T_inv (es := [some (vi s0)]) (st := [vi s0]) (ks := [0]) (n := 1) (as := [vi s0]) (rest := []) c106_97 (by decide +kernel) (by decide +kernel) rfl rfl (Nat.le_of_ble_eq_true rfl)]
  all_goals try simp only [true_and, Nat.reduceAdd, eq_self_iff_true]
theorem g106_100 {d : Nat} {s0 : Int} {x1 : Option aV} {w : aW} {Q : Option aV → aW → Prop} : T (d + 1) 106 100 [some (vr 167), x1] [vi s0] w Q = ((s0 = 0 → T d 224 0 [some (vr 167), none, none, none] [] w (fun r w1 => T (d + 1) 106 121 [some (vr 167), x1] (r.toList ++ [vr 167]) w1 Q)) ∧ (¬ (s0 = 0) → T (d + 1) 106 89 [some (vr 167), x1] [] (iup w 167 7 (w32 ((w 167 7) + 1))) Q)) := by
  rw [T_if_eq 116 c106_100 rfl, T_aload_0 c106_116, T_aload_0 c106_117, T_invv (es := [some (vr 167), none, none, none]) (st := [vr 167, vr 167]) (ks := [2]) (n := 4) (c := 12) (k := 167) (as := []) (rest := [vr 167]) c106_118 (by decide +kernel) (by decide +kernel) (by decide +kernel) (by decide) rfl rfl (Nat.le_of_ble_eq_true rfl), T_aload_0 c106_103, T_dup_r c106_104, T_getI 12 7 7 c106_105 rfl rfl rfl rfl, T_sipush c106_108, T_iadd c106_109, T_putI 12 7 7 c106_110 rfl rfl rfl rfl, T_goto 89 c106_113 rfl]
  all_goals try simp only [Int.reduceToNat, lay_167, true_and, Nat.reduceAdd, eq_self_iff_true]
theorem g106_121 {d : Nat} {s1 : Int} {s0 : Nat} {x0 x1 : Option aV} {w : aW} {Q : Option aV → aW → Prop} : T d 106 121 [x0, x1] [vi s1, vr s0] w Q = ((lay s0 = (12, 0)) ∧ T d 106 294 [x0, x1] [] (iup w s0 9 s1) Q) := by
  rw [T_putI 12 9 9 c106_121 rfl rfl rfl rfl, T_goto 294 c106_124 rfl]
  all_goals try simp only [true_and, Nat.reduceAdd, eq_self_iff_true]
theorem g106_135 {d : Nat} {s0 : Int} {x0 x1 : Option aV} {w : aW} {Q : Option aV → aW → Prop} : T (d + 1) 106 135 [x0, x1] [vi s0] w Q = T d 225 0 [some (vi s0)] [] w (fun r w1 => T (d + 1) 106 138 [x0, x1] (r.toList ++ []) w1 Q) := by
  rw [T_inv (es := [some (vi s0)]) (st := [vi s0]) (ks := [0]) (n := 1) (as := [vi s0]) (rest := []) c106_135 (by decide +kernel) (by decide +kernel) rfl rfl (Nat.le_of_ble_eq_true rfl)]
  all_goals try simp only [true_and, Nat.reduceAdd, eq_self_iff_true]
theorem g106_138 {d : Nat} {s0 : Int} {x1 : Option aV} {w : aW} {Q : Option aV → aW → Prop} : T d 106 138 [some (vr 167), x1] [vi s0] w Q = ((s0 = 0 → T d 106 254 [some (vr 167), some (vi 0)] [] (iup (iup w 167 7 (w32 ((w 167 7) + 1))) 167 9 17) Q) ∧ (¬ (s0 = 0) → T d 106 146 [some (vr 167), x1] [] (iup w 167 10 0) Q)) := by
  rw [T_if_eq 236 c106_138 rfl, T_aload_0 c106_236, T_dup_r c106_237, T_getI 12 7 7 c106_238 rfl rfl rfl rfl, T_sipush c106_241, T_iadd c106_242, T_putI 12 7 7 c106_243 rfl rfl rfl rfl, T_aload_0 c106_246, T_sipush c106_247, T_putI 12 9 9 c106_249 rfl rfl rfl rfl, T_sipush c106_252, T_istore_1 c106_253, T_aload_0 c106_141, T_sipush c106_142, T_putI 12 10 10 c106_143 rfl rfl rfl rfl]
  all_goals try simp only [Int.reduceToNat, lay_167, true_and, Nat.reduceAdd, eq_self_iff_true]
theorem g106_146 {d : Nat} {x1 : Option aV} {w : aW} {Q : Option aV → aW → Prop} : T (d + 1) 106 146 [some (vr 167), x1] [] w Q = T d 222 0 [some (vr 167), some (vi (w 167 7))] [] w (fun r w1 => T (d + 1) 106 154 [some (vr 167), x1] (r.toList ++ []) w1 Q) := by
  rw [T_aload_0 c106_146, T_aload_0 c106_147, T_getI 12 7 7 c106_148 rfl rfl rfl rfl, T_invv (es := [some (vr 167), some (vi (w 167 7))]) (st := [vi (w 167 7), vr 167]) (ks := [2, 0]) (n := 2) (c := 12) (k := 167) (as := [vi (w 167 7)]) (rest := []) c106_151 (by decide +kernel) (by decide +kernel) (by decide +kernel) (by decide) rfl rfl (Nat.le_of_ble_eq_true rfl)]
  all_goals try simp only [lay_167, true_and, Nat.reduceAdd, eq_self_iff_true]
theorem g106_154 {d : Nat} {s0 : Int} {x0 x1 : Option aV} {w : aW} {Q : Option aV → aW → Prop} : T (d + 1) 106 154 [x0, x1] [vi s0] w Q = T d 225 0 [some (vi s0)] [] w (fun r w1 => T (d + 1) 106 157 [x0, x1] (r.toList ++ []) w1 Q) := by
  rw [T_inv (es := [some (vi s0)]) (st := [vi s0]) (ks := [0]) (n := 1) (as := [vi s0]) (rest := []) c106_154 (by decide +kernel) (by decide +kernel) rfl rfl (Nat.le_of_ble_eq_true rfl)]
  all_goals try simp only [true_and, Nat.reduceAdd, eq_self_iff_true]
theorem g106_157 {d : Nat} {s0 : Int} {x1 : Option aV} {w : aW} {Q : Option aV → aW → Prop} : T (d + 1) 106 157 [some (vr 167), x1] [vi s0] w Q = ((s0 = 0 → ((w32 ((w 167 7) - (w 167 6)) ≤ 3 → T (d + 1) 106 230 [some (vr 167), x1] [vi 15, vr 167] w Q) ∧ (¬ (w32 ((w 167 7) - (w 167 6)) ≤ 3) → T (d + 1) 106 230 [some (vr 167), x1] [vi 17, vr 167] w Q))) ∧ (¬ (s0 = 0) → ((3 ≤ w32 ((w 167 7) - (w 167 6)) → T (d + 1) 106 196 [some (vr 167), x1] [] w Q) ∧ (¬ (3 ≤ w32 ((w 167 7) - (w 167 6))) → T d 222 0 [some (vr 167), some (vi (w 167 7))] [] w (fun r w1 => T (d + 1) 106 189 [some (vr 167), x1] (r.toList ++ [vi (w32 (10 * (w 167 10))), vr 167]) w1 Q))))) := by
  rw [T_if_eq 209 c106_157 rfl, T_aload_0 c106_209, T_aload_0 c106_210, T_getI 12 7 7 c106_211 rfl rfl rfl rfl, T_aload_0 c106_214, T_getI 12 6 6 c106_215 rfl rfl rfl rfl, T_isub c106_218, T_sipush c106_219, T_icmp_le 228 c106_220 rfl, T_sipush c106_228, T_sipush c106_223, T_goto 230 c106_225 rfl, T_aload_0 c106_160, T_getI 12 7 7 c106_161 rfl rfl rfl rfl, T_aload_0 c106_164, T_getI 12 6 6 c106_165 rfl rfl rfl rfl, T_isub c106_168, T_sipush c106_169, T_icmp_ge 196 c106_170 rfl, T_aload_0 c106_173, T_sipush c106_174, T_aload_0 c106_176, T_getI 12 10 10 c106_177 rfl rfl rfl rfl, T_imul c106_180, T_aload_0 c106_181, T_aload_0 c106_182, T_getI 12 7 7 c106_183 rfl rfl rfl rfl, T_invv (es := [some (vr 167), some (vi (w 167 7))]) (st := [vi (w 167 7), vr 167, vi (w32 (10 * (w 167 10))), vr 167]) (ks := [2, 0]) (n := 2) (c := 12) (k := 167) (as := [vi (w 167 7)]) (rest := [vi (w32 (10 * (w 167 10))), vr 167]) c106_186 (by decide +kernel) (by decide +kernel) (by decide +kernel) (by decide) rfl rfl (Nat.le_of_ble_eq_true rfl)]
  all_goals try simp only [Int.reduceToNat, lay_167, true_and, Nat.reduceAdd, eq_self_iff_true]
theorem g106_189 {d : Nat} {s1 s2 : Int} {s0 : Nat} {x0 x1 : Option aV} {w : aW} {Q : Option aV → aW → Prop} : T d 106 189 [x0, x1] [vi s2, vi s1, vr s0] w Q = ((lay s0 = (12, 0)) ∧ T d 106 196 [x0, x1] [] (iup w s0 10 (w32 ((w32 (s1 + s2)) - 48))) Q) := by
  rw [T_iadd c106_189, T_sipush c106_190, T_isub c106_192, T_putI 12 10 10 c106_193 rfl rfl rfl rfl]
  all_goals try simp only [true_and, Nat.reduceAdd, eq_self_iff_true]
theorem g106_196 {d : Nat} {x1 : Option aV} {w : aW} {Q : Option aV → aW → Prop} : T d 106 196 [some (vr 167), x1] [] w Q = T d 106 146 [some (vr 167), x1] [] (iup w 167 7 (w32 ((w 167 7) + 1))) Q := by
  rw [T_aload_0 c106_196, T_dup_r c106_197, T_getI 12 7 7 c106_198 rfl rfl rfl rfl, T_sipush c106_201, T_iadd c106_202, T_putI 12 7 7 c106_203 rfl rfl rfl rfl, T_goto 146 c106_206 rfl]
  all_goals try simp only [lay_167, true_and, Nat.reduceAdd, eq_self_iff_true]
theorem g106_230 {d : Nat} {s1 : Int} {s0 : Nat} {x0 x1 : Option aV} {w : aW} {Q : Option aV → aW → Prop} : T d 106 230 [x0, x1] [vi s1, vr s0] w Q = ((lay s0 = (12, 0)) ∧ T d 106 294 [x0, x1] [] (iup w s0 9 s1) Q) := by
  rw [T_putI 12 9 9 c106_230 rfl rfl rfl rfl, T_goto 294 c106_233 rfl]
  all_goals try simp only [true_and, Nat.reduceAdd, eq_self_iff_true]
theorem g106_254 {d : Nat} {a1 : Int} {x0 : Option aV} {w : aW} {Q : Option aV → aW → Prop} : T (d + 1) 106 254 [x0, some (vi a1)] [] w Q = ((1000 ≤ 1001 ∧ 1001 < 1003) ∧ T d 226 0 [some (vr 1001)] [] w (fun r w1 => T (d + 1) 106 260 [x0, some (vi a1)] (r.toList ++ [vi a1]) w1 Q)) := by
  rw [T_iload_1 c106_254, T_ldc (n := 1001) c106_255 rfl, T_invs (es := [some (vr 1001)]) (st := [vr 1001, vi a1]) (ks := [2]) (n := 1) (k := 1001) (as := []) (rest := [vi a1]) c106_257 (by decide +kernel) (by decide +kernel) (by decide +kernel) rfl rfl (Nat.le_of_ble_eq_true rfl)]
  all_goals try simp only [true_and, Nat.reduceAdd, eq_self_iff_true]
theorem g106_260 {d : Nat} {s0 s1 : Int} {x1 : Option aV} {w : aW} {Q : Option aV → aW → Prop} : T (d + 1) 106 260 [some (vr 167), x1] [vi s1, vi s0] w Q = ((s1 ≤ s0 → T (d + 1) 106 294 [some (vr 167), x1] [] w Q) ∧ (¬ (s1 ≤ s0) → T d 222 0 [some (vr 167), some (vi (w 167 6))] [] w (fun r w1 => T (d + 1) 106 271 [some (vr 167), x1] (r.toList ++ []) w1 Q))) := by
  rw [T_icmp_ge 294 c106_260 rfl, T_aload_0 c106_263, T_aload_0 c106_264, T_getI 12 6 6 c106_265 rfl rfl rfl rfl, T_invv (es := [some (vr 167), some (vi (w 167 6))]) (st := [vi (w 167 6), vr 167]) (ks := [2, 0]) (n := 2) (c := 12) (k := 167) (as := [vi (w 167 6)]) (rest := []) c106_268 (by decide +kernel) (by decide +kernel) (by decide +kernel) (by decide) rfl rfl (Nat.le_of_ble_eq_true rfl)]
  all_goals try simp only [Int.reduceToNat, lay_167, true_and, Nat.reduceAdd, eq_self_iff_true]
theorem g106_271 {d : Nat} {a1 s0 : Int} {x0 : Option aV} {w : aW} {Q : Option aV → aW → Prop} : T (d + 1) 106 271 [x0, some (vi a1)] [vi s0] w Q = ((1000 ≤ 1001 ∧ 1001 < 1003) ∧ T d 227 0 [some (vr 1001), some (vi a1)] [] w (fun r w1 => T (d + 1) 106 277 [x0, some (vi a1)] (r.toList ++ [vi s0]) w1 Q)) := by
  rw [T_ldc (n := 1001) c106_271 rfl, T_iload_1 c106_273, T_invs (es := [some (vr 1001), some (vi a1)]) (st := [vi a1, vr 1001, vi s0]) (ks := [2, 0]) (n := 2) (k := 1001) (as := [vi a1]) (rest := [vi s0]) c106_274 (by decide +kernel) (by decide +kernel) (by decide +kernel) rfl rfl (Nat.le_of_ble_eq_true rfl)]
  all_goals try simp only [true_and, Nat.reduceAdd, eq_self_iff_true]
theorem g106_277 {d : Nat} {a1 s0 s1 : Int} {w : aW} {Q : Option aV → aW → Prop} : T d 106 277 [some (vr 167), some (vi a1)] [vi s1, vi s0] w Q = ((¬ s0 = s1 → T d 106 288 [some (vr 167), some (vi a1)] [] w Q) ∧ (¬ (¬ s0 = s1) → T d 106 288 [some (vr 167), some (vi a1)] [] (iup w 167 9 (w32 (20 + a1))) Q)) := by
  rw [T_icmp_ne 288 c106_277 rfl, T_aload_0 c106_280, T_sipush c106_281, T_iload_1 c106_283, T_iadd c106_284, T_putI 12 9 9 c106_285 rfl rfl rfl rfl]
  all_goals try simp only [Int.reduceToNat, lay_167, true_and, Nat.reduceAdd, eq_self_iff_true]
theorem g106_288 {d : Nat} {a1 : Int} {x0 : Option aV} {w : aW} {Q : Option aV → aW → Prop} : T d 106 288 [x0, some (vi a1)] [] w Q = T d 106 254 [x0, some (vi (w32 (a1 + 1)))] [] w Q := by
  rw [T_iinc_1 c106_288, T_goto 254 c106_291 rfl]
  all_goals try simp only [true_and, Nat.reduceAdd, eq_self_iff_true]
theorem g106_294 {d : Nat} {x0 x1 : Option aV} {w : aW} {Q : Option aV → aW → Prop} : T d 106 294 [x0, x1] [] w Q = Q none w := by
  rw [T_vret c106_294 (by decide +kernel)]
  all_goals try simp only [true_and, Nat.reduceAdd, eq_self_iff_true]
