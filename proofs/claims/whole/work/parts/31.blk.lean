/-! 295: StringHands$Reader.isWord.(IIII)Z -/
theorem c295_0 : cd 295 0 = some (.iload 2, 1) := by decide +kernel
theorem c295_1 : cd 295 1 = some (.iload 1, 1) := by decide +kernel
theorem c295_2 : cd 295 2 = some (.isub, 1) := by decide +kernel
theorem c295_3 : cd 295 3 = some (.iload 4, 2) := by decide +kernel
theorem c295_5 : cd 295 5 = some (.iload 3, 1) := by decide +kernel
theorem c295_6 : cd 295 6 = some (.isub, 1) := by decide +kernel
theorem c295_7 : cd 295 7 = some (.if_icmp .eq 12, 3) := by decide +kernel
theorem c295_10 : cd 295 10 = some (.sipush 0, 1) := by decide +kernel
theorem c295_11 : cd 295 11 = some (.ireturn, 1) := by decide +kernel
theorem c295_12 : cd 295 12 = some (.sipush 0, 1) := by decide +kernel
theorem c295_13 : cd 295 13 = some (.istore 5, 2) := by decide +kernel
theorem c295_15 : cd 295 15 = some (.iload 5, 2) := by decide +kernel
theorem c295_17 : cd 295 17 = some (.iload 2, 1) := by decide +kernel
theorem c295_18 : cd 295 18 = some (.iload 1, 1) := by decide +kernel
theorem c295_19 : cd 295 19 = some (.isub, 1) := by decide +kernel
theorem c295_20 : cd 295 20 = some (.if_icmp .ge 52, 3) := by decide +kernel
theorem c295_23 : cd 295 23 = some (.ldc 0, 2) := by decide +kernel
theorem c295_25 : cd 295 25 = some (.iload 3, 1) := by decide +kernel
theorem c295_26 : cd 295 26 = some (.iload 5, 2) := by decide +kernel
theorem c295_28 : cd 295 28 = some (.iadd, 1) := by decide +kernel
theorem c295_29 : cd 295 29 = some (.invokevirtual 227, 3) := by decide +kernel
theorem c295_32 : cd 295 32 = some (.aload 0, 1) := by decide +kernel
theorem c295_33 : cd 295 33 = some (.getfield 1026, 3) := by decide +kernel
theorem c295_36 : cd 295 36 = some (.iload 1, 1) := by decide +kernel
theorem c295_37 : cd 295 37 = some (.iload 5, 2) := by decide +kernel
theorem c295_39 : cd 295 39 = some (.iadd, 1) := by decide +kernel
theorem c295_40 : cd 295 40 = some (.baload, 1) := by decide +kernel
theorem c295_41 : cd 295 41 = some (.if_icmp .eq 46, 3) := by decide +kernel
theorem c295_44 : cd 295 44 = some (.sipush 0, 1) := by decide +kernel
theorem c295_45 : cd 295 45 = some (.ireturn, 1) := by decide +kernel
theorem c295_46 : cd 295 46 = some (.iinc 5 1, 3) := by decide +kernel
theorem c295_49 : cd 295 49 = some (.goto 15, 3) := by decide +kernel
theorem c295_52 : cd 295 52 = some (.sipush 1, 1) := by decide +kernel
theorem c295_53 : cd 295 53 = some (.ireturn, 1) := by decide +kernel
theorem g295_0 {d : Nat} {a1 a2 a3 a4 : Int} {x0 x5 : Option aV} {w : aW} {Q : Option aV → aW → Prop} : T d 295 0 [x0, some (vi a1), some (vi a2), some (vi a3), some (vi a4), x5] [] w Q = ((w32 (a2 - a1) = w32 (a4 - a3) → T d 295 15 [x0, some (vi a1), some (vi a2), some (vi a3), some (vi a4), some (vi 0)] [] w Q) ∧ (¬ (w32 (a2 - a1) = w32 (a4 - a3)) → Q (some (vi 0)) w)) := by
  rw [T_iload_2 c295_0, T_iload_1 c295_1, T_isub c295_2, T_iload_4 c295_3, T_iload_3 c295_5, T_isub c295_6, T_icmp_eq 12 c295_7 rfl, T_sipush c295_12, T_istore_5 c295_13, T_sipush c295_10, T_iretz c295_11 (by decide +kernel)]
  all_goals try simp only [Int.reduceToNat, true_and, Nat.reduceAdd, eq_self_iff_true, zero_eq_1, one_eq_0, true_or, or_true]
theorem g295_15 {d : Nat} {a1 a2 a3 a5 : Int} {x0 x4 : Option aV} {w : aW} {Q : Option aV → aW → Prop} : T (d + 1) 295 15 [x0, some (vi a1), some (vi a2), some (vi a3), x4, some (vi a5)] [] w Q = ((w32 (a2 - a1) ≤ a5 → Q (some (vi 1)) w) ∧ (¬ (w32 (a2 - a1) ≤ a5) → ((1000 ≤ 1000 ∧ 1000 < 1003) ∧ T d 227 0 [some (vr 1000), some (vi (w32 (a3 + a5)))] [] w (fun r w1 => T (d + 1) 295 32 [x0, some (vi a1), some (vi a2), some (vi a3), x4, some (vi a5)] (r.toList ++ []) w1 Q)))) := by
  rw [T_iload_5 c295_15, T_iload_2 c295_17, T_iload_1 c295_18, T_isub c295_19, T_icmp_ge 52 c295_20 rfl, T_sipush c295_52, T_iretz c295_53 (by decide +kernel), T_ldc (n := 1000) c295_23 rfl, T_iload_3 c295_25, T_iload_5 c295_26, T_iadd c295_28, T_invs (es := [some (vr 1000), some (vi (w32 (a3 + a5)))]) (st := [vi (w32 (a3 + a5)), vr 1000]) (ks := [2, 0]) (n := 2) (k := 1000) (as := [vi (w32 (a3 + a5))]) (rest := []) c295_29 (by decide +kernel) (by decide +kernel) (by decide +kernel) rfl rfl (Nat.le_of_ble_eq_true rfl)]
  all_goals try simp only [Int.reduceToNat, true_and, Nat.reduceAdd, eq_self_iff_true, zero_eq_1, one_eq_0, true_or, or_true]
theorem g295_32 {d : Nat} {a1 a5 s0 : Int} {x2 x3 x4 : Option aV} {w : aW} {Q : Option aV → aW → Prop} : T d 295 32 [some (vr 1), some (vi a1), x2, x3, x4, some (vi a5)] [vi s0] w Q = ((0 ≤ w32 (a1 + a5) ∧ w32 (a1 + a5) < 900) ∧ ((s0 = w 2 (w32 (a1 + a5)) → T d 295 15 [some (vr 1), some (vi a1), x2, x3, x4, some (vi (w32 (a5 + 1)))] [] w Q) ∧ (¬ (s0 = w 2 (w32 (a1 + a5))) → Q (some (vi 0)) w))) := by
  rw [T_aload_0 c295_32, T_getR 4 0 0 c295_33 rfl rfl rfl rfl, rf_1_0, T_iload_1 c295_36, T_iload_5 c295_37, T_iadd c295_39, T_bald c295_40, lbv_2, T_icmp_eq 46 c295_41 rfl, T_iinc_5 c295_46, T_goto 15 c295_49 rfl, T_sipush c295_44, T_iretz c295_45 (by decide +kernel)]
  all_goals try simp only [Int.reduceToNat, lay_1, lb_2, lbv_2, true_and, Nat.reduceAdd, eq_self_iff_true, zero_eq_1, one_eq_0, true_or, or_true]
/-! 296: java/lang/String.indexOf.(I)I -/
theorem c296_0 : cd 296 0 = some (.aload 0, 1) := by decide +kernel
theorem c296_1 : cd 296 1 = some (.iload 1, 1) := by decide +kernel
theorem c296_2 : cd 296 2 = some (.sipush 0, 1) := by decide +kernel
theorem c296_3 : cd 296 3 = some (.invokevirtual 305, 3) := by decide +kernel
theorem c296_6 : cd 296 6 = some (.ireturn, 1) := by decide +kernel
theorem g296_0 {d : Nat} {a1 : Int} {r0 : Nat} {w : aW} {Q : Option aV → aW → Prop} : T (d + 1) 296 0 [some (vr r0), some (vi a1)] [] w Q = ((1000 ≤ r0 ∧ r0 < 1003) ∧ T d 305 0 [some (vr r0), some (vi a1), some (vi 0)] [] w (fun r w1 => T (d + 1) 296 6 [some (vr r0), some (vi a1)] (r.toList ++ []) w1 Q)) := by
  rw [T_aload_0 c296_0, T_iload_1 c296_1, T_sipush c296_2, T_invs (es := [some (vr r0), some (vi a1), some (vi 0)]) (st := [vi 0, vi a1, vr r0]) (ks := [2, 0, 0]) (n := 3) (k := r0) (as := [vi a1, vi 0]) (rest := []) c296_3 (by decide +kernel) (by decide +kernel) (by decide +kernel) rfl rfl (Nat.le_of_ble_eq_true rfl)]
  all_goals try simp only [true_and, Nat.reduceAdd, eq_self_iff_true]
theorem g296_6 {d : Nat} {s0 : Int} {x0 x1 : Option aV} {w : aW} {Q : Option aV → aW → Prop} : T d 296 6 [x0, x1] [vi s0] w Q = Q (some (vi s0)) w := by
  rw [T_ireti c296_6 (by decide +kernel)]
  all_goals try simp only [true_and, Nat.reduceAdd, eq_self_iff_true]
/-! 297: StringHands$Reader.readBoth.(I)Z -/
theorem c297_0 : cd 297 0 = some (.aload 0, 1) := by decide +kernel
theorem c297_1 : cd 297 1 = some (.iload 1, 1) := by decide +kernel
theorem c297_2 : cd 297 2 = some (.invokevirtual 306, 3) := by decide +kernel
theorem c297_5 : cd 297 5 = some (.ifCond .ne 10, 3) := by decide +kernel
theorem c297_8 : cd 297 8 = some (.sipush 0, 1) := by decide +kernel
theorem c297_9 : cd 297 9 = some (.ireturn, 1) := by decide +kernel
theorem c297_10 : cd 297 10 = some (.sipush 0, 1) := by decide +kernel
theorem c297_11 : cd 297 11 = some (.istore 2, 1) := by decide +kernel
theorem c297_12 : cd 297 12 = some (.iload 2, 1) := by decide +kernel
theorem c297_13 : cd 297 13 = some (.sipush 900, 3) := by decide +kernel
theorem c297_16 : cd 297 16 = some (.if_icmp .ge 61, 3) := by decide +kernel
theorem c297_19 : cd 297 19 = some (.aload 0, 1) := by decide +kernel
theorem c297_20 : cd 297 20 = some (.getfield 1064, 3) := by decide +kernel
theorem c297_23 : cd 297 23 = some (.sipush 211, 3) := by decide +kernel
theorem c297_26 : cd 297 26 = some (.if_icmp .ne 61, 3) := by decide +kernel
theorem c297_29 : cd 297 29 = some (.aload 0, 1) := by decide +kernel
theorem c297_30 : cd 297 30 = some (.invokevirtual 212, 3) := by decide +kernel
theorem c297_33 : cd 297 33 = some (.ifCond .eq 44, 3) := by decide +kernel
theorem c297_36 : cd 297 36 = some (.aload 0, 1) := by decide +kernel
theorem c297_37 : cd 297 37 = some (.iload 1, 1) := by decide +kernel
theorem c297_38 : cd 297 38 = some (.invokevirtual 306, 3) := by decide +kernel
theorem c297_41 : cd 297 41 = some (.ifCond .ne 46, 3) := by decide +kernel
theorem c297_44 : cd 297 44 = some (.sipush 0, 1) := by decide +kernel
theorem c297_45 : cd 297 45 = some (.ireturn, 1) := by decide +kernel
theorem c297_46 : cd 297 46 = some (.aload 0, 1) := by decide +kernel
theorem c297_47 : cd 297 47 = some (.getfield 1042, 3) := by decide +kernel
theorem c297_50 : cd 297 50 = some (.sipush 5, 1) := by decide +kernel
theorem c297_51 : cd 297 51 = some (.sipush 0, 1) := by decide +kernel
theorem c297_52 : cd 297 52 = some (.invokevirtual 298, 3) := by decide +kernel
theorem c297_55 : cd 297 55 = some (.iinc 2 1, 3) := by decide +kernel
theorem c297_58 : cd 297 58 = some (.goto 12, 3) := by decide +kernel
theorem c297_61 : cd 297 61 = some (.sipush 1, 1) := by decide +kernel
theorem c297_62 : cd 297 62 = some (.ireturn, 1) := by decide +kernel
theorem g297_0 {d : Nat} {a1 : Int} {x2 : Option aV} {w : aW} {Q : Option aV → aW → Prop} : T (d + 1) 297 0 [some (vr 1), some (vi a1), x2] [] w Q = T d 306 0 [some (vr 1), some (vi a1)] [] w (fun r w1 => T (d + 1) 297 5 [some (vr 1), some (vi a1), x2] (r.toList ++ []) w1 Q) := by
  rw [T_aload_0 c297_0, T_iload_1 c297_1, T_invv (es := [some (vr 1), some (vi a1)]) (st := [vi a1, vr 1]) (ks := [2, 0]) (n := 2) (c := 4) (k := 1) (as := [vi a1]) (rest := []) c297_2 (by decide +kernel) (by decide +kernel) (by decide +kernel) (by decide) rfl rfl (Nat.le_of_ble_eq_true rfl)]
  all_goals try simp only [lay_1, true_and, Nat.reduceAdd, eq_self_iff_true]
theorem g297_5 {d : Nat} {s0 : Int} {x0 x1 x2 : Option aV} {w : aW} {Q : Option aV → aW → Prop} : T d 297 5 [x0, x1, x2] [vi s0] w Q = ((¬ s0 = 0 → T d 297 12 [x0, x1, some (vi 0)] [] w Q) ∧ (¬ (¬ s0 = 0) → Q (some (vi 0)) w)) := by
  rw [T_if_ne 10 c297_5 rfl, T_sipush c297_10, T_istore_2 c297_11, T_sipush c297_8, T_iretz c297_9 (by decide +kernel)]
  all_goals try simp only [Int.reduceToNat, true_and, Nat.reduceAdd, eq_self_iff_true, zero_eq_1, one_eq_0, true_or, or_true]
theorem g297_12 {d : Nat} {a2 : Int} {x1 : Option aV} {w : aW} {Q : Option aV → aW → Prop} : T (d + 1) 297 12 [some (vr 1), x1, some (vi a2)] [] w Q = ((900 ≤ a2 → T (d + 1) 297 61 [some (vr 1), x1, some (vi a2)] [] w Q) ∧ (¬ (900 ≤ a2) → ((¬ w 1 10 = 211 → T (d + 1) 297 61 [some (vr 1), x1, some (vi a2)] [] w Q) ∧ (¬ (¬ w 1 10 = 211) → T d 212 0 [some (vr 1)] [] w (fun r w1 => T (d + 1) 297 33 [some (vr 1), x1, some (vi a2)] (r.toList ++ []) w1 Q))))) := by
  rw [T_iload_2 c297_12, T_sipush c297_13, T_icmp_ge 61 c297_16 rfl, T_aload_0 c297_19, T_getI 4 10 10 c297_20 rfl rfl rfl rfl, T_sipush c297_23, T_icmp_ne 61 c297_26 rfl, T_aload_0 c297_29, T_invv (es := [some (vr 1)]) (st := [vr 1]) (ks := [2]) (n := 1) (c := 4) (k := 1) (as := []) (rest := []) c297_30 (by decide +kernel) (by decide +kernel) (by decide +kernel) (by decide) rfl rfl (Nat.le_of_ble_eq_true rfl)]
  all_goals try simp only [Int.reduceToNat, lay_1, true_and, Nat.reduceAdd, eq_self_iff_true]
theorem g297_33 {d : Nat} {a1 s0 : Int} {x2 : Option aV} {w : aW} {Q : Option aV → aW → Prop} : T (d + 1) 297 33 [some (vr 1), some (vi a1), x2] [vi s0] w Q = ((s0 = 0 → T (d + 1) 297 44 [some (vr 1), some (vi a1), x2] [] w Q) ∧ (¬ (s0 = 0) → T d 306 0 [some (vr 1), some (vi a1)] [] w (fun r w1 => T (d + 1) 297 41 [some (vr 1), some (vi a1), x2] (r.toList ++ []) w1 Q))) := by
  rw [T_if_eq 44 c297_33 rfl, T_aload_0 c297_36, T_iload_1 c297_37, T_invv (es := [some (vr 1), some (vi a1)]) (st := [vi a1, vr 1]) (ks := [2, 0]) (n := 2) (c := 4) (k := 1) (as := [vi a1]) (rest := []) c297_38 (by decide +kernel) (by decide +kernel) (by decide +kernel) (by decide) rfl rfl (Nat.le_of_ble_eq_true rfl)]
  all_goals try simp only [Int.reduceToNat, lay_1, true_and, Nat.reduceAdd, eq_self_iff_true]
theorem g297_41 {d : Nat} {s0 : Int} {x1 x2 : Option aV} {w : aW} {Q : Option aV → aW → Prop} : T (d + 1) 297 41 [some (vr 1), x1, x2] [vi s0] w Q = ((¬ s0 = 0 → T d 298 0 [some (vr 3), some (vi 5), some (vi 0)] [] w (fun r w1 => T (d + 1) 297 55 [some (vr 1), x1, x2] (r.toList ++ []) w1 Q)) ∧ (¬ (¬ s0 = 0) → T (d + 1) 297 44 [some (vr 1), x1, x2] [] w Q)) := by
  rw [T_if_ne 46 c297_41 rfl, T_aload_0 c297_46, T_getR 4 4 4 c297_47 rfl rfl rfl rfl, rf_1_4, T_sipush c297_50, T_sipush c297_51, T_invv (es := [some (vr 3), some (vi 5), some (vi 0)]) (st := [vi 0, vi 5, vr 3]) (ks := [2, 0, 0]) (n := 3) (c := 8) (k := 3) (as := [vi 5, vi 0]) (rest := []) c297_52 (by decide +kernel) (by decide +kernel) (by decide +kernel) (by decide) rfl rfl (Nat.le_of_ble_eq_true rfl)]
  all_goals try simp only [Int.reduceToNat, lay_1, lay_3, true_and, Nat.reduceAdd, eq_self_iff_true]
theorem g297_44 {d : Nat} {x0 x1 x2 : Option aV} {w : aW} {Q : Option aV → aW → Prop} : T d 297 44 [x0, x1, x2] [] w Q = Q (some (vi 0)) w := by
  rw [T_sipush c297_44, T_iretz c297_45 (by decide +kernel)]
  all_goals try simp only [true_and, Nat.reduceAdd, eq_self_iff_true, zero_eq_1, one_eq_0, true_or, or_true]
theorem g297_55 {d : Nat} {a2 : Int} {x0 x1 : Option aV} {w : aW} {Q : Option aV → aW → Prop} : T d 297 55 [x0, x1, some (vi a2)] [] w Q = T d 297 12 [x0, x1, some (vi (w32 (a2 + 1)))] [] w Q := by
  rw [T_iinc_2 c297_55, T_goto 12 c297_58 rfl]
  all_goals try simp only [true_and, Nat.reduceAdd, eq_self_iff_true]
theorem g297_61 {d : Nat} {x0 x1 x2 : Option aV} {w : aW} {Q : Option aV → aW → Prop} : T d 297 61 [x0, x1, x2] [] w Q = Q (some (vi 1)) w := by
  rw [T_sipush c297_61, T_iretz c297_62 (by decide +kernel)]
  all_goals try simp only [true_and, Nat.reduceAdd, eq_self_iff_true, zero_eq_1, one_eq_0, true_or, or_true]
/-! 298: StringHands$Troupe.emit.(II)V -/
theorem c298_0 : cd 298 0 = some (.aload 0, 1) := by decide +kernel
theorem c298_1 : cd 298 1 = some (.getfield 2120, 3) := by decide +kernel
theorem c298_4 : cd 298 4 = some (.sipush 900, 3) := by decide +kernel
theorem c298_7 : cd 298 7 = some (.if_icmp .ge 36, 3) := by decide +kernel
theorem c298_10 : cd 298 10 = some (.aload 0, 1) := by decide +kernel
theorem c298_11 : cd 298 11 = some (.getfield 2118, 3) := by decide +kernel
theorem c298_14 : cd 298 14 = some (.aload 0, 1) := by decide +kernel
theorem c298_15 : cd 298 15 = some (.getfield 2120, 3) := by decide +kernel
theorem c298_18 : cd 298 18 = some (.iload 1, 1) := by decide +kernel
theorem c298_19 : cd 298 19 = some (.sipush 1024, 3) := by decide +kernel
theorem c298_22 : cd 298 22 = some (.imul, 1) := by decide +kernel
theorem c298_23 : cd 298 23 = some (.iload 2, 1) := by decide +kernel
theorem c298_24 : cd 298 24 = some (.iadd, 1) := by decide +kernel
theorem c298_25 : cd 298 25 = some (.iastore, 1) := by decide +kernel
theorem c298_26 : cd 298 26 = some (.aload 0, 1) := by decide +kernel
theorem c298_27 : cd 298 27 = some (.dup, 1) := by decide +kernel
theorem c298_28 : cd 298 28 = some (.getfield 2120, 3) := by decide +kernel
theorem c298_31 : cd 298 31 = some (.sipush 1, 1) := by decide +kernel
theorem c298_32 : cd 298 32 = some (.iadd, 1) := by decide +kernel
theorem c298_33 : cd 298 33 = some (.putfield 2120, 3) := by decide +kernel
theorem c298_36 : cd 298 36 = some (.return_, 1) := by decide +kernel
theorem g298_0 {d : Nat} {a1 a2 : Int} {r0 : Nat} {w : aW} {Q : Option aV → aW → Prop} : T d 298 0 [some (vr r0), some (vi a1), some (vi a2)] [] w Q = (lay r0 = (8, 0) ∧ ((900 ≤ w r0 18 → T d 298 36 [some (vr r0), some (vi a1), some (vi a2)] [] w Q) ∧ (¬ (900 ≤ w r0 18) → (lay r0 = (8, 0) ∧ (lay r0 = (8, 0) ∧ (inA (rfA r0 17) 0 (w r0 18) = true ∧ (lay r0 = (8, 0) ∧ ((lay r0 = (8, 0)) ∧ T d 298 36 [some (vr r0), some (vi a1), some (vi a2)] [] (iup (iup w (rfA r0 17) (w r0 18) (w32 ((w32 (a1 * 1024)) + a2))) r0 18 (w32 (((iup w (rfA r0 17) (w r0 18) (w32 ((w32 (a1 * 1024)) + a2))) r0 18) + 1))) Q)))))))) := by
  rw [T_aload_0 c298_0, T_getI 8 18 18 c298_1 rfl rfl rfl rfl, T_sipush c298_4, T_icmp_ge 36 c298_7 rfl, T_aload_0 c298_10, T_getR 8 17 17 c298_11 rfl rfl rfl rfl, T_aload_0 c298_14, T_getI 8 18 18 c298_15 rfl rfl rfl rfl, T_iload_1 c298_18, T_sipush c298_19, T_imul c298_22, T_iload_2 c298_23, T_iadd c298_24, T_iast c298_25, T_aload_0 c298_26, T_dup_r c298_27, T_getI 8 18 18 c298_28 rfl rfl rfl rfl, T_sipush c298_31, T_iadd c298_32, T_putI 8 18 18 c298_33 rfl rfl rfl rfl]
  all_goals try simp only [Int.reduceToNat, true_and, Nat.reduceAdd, eq_self_iff_true]
theorem g298_36 {d : Nat} {x0 x1 x2 : Option aV} {w : aW} {Q : Option aV → aW → Prop} : T d 298 36 [x0, x1, x2] [] w Q = Q none w := by
  rw [T_vret c298_36 (by decide +kernel)]
  all_goals try simp only [true_and, Nat.reduceAdd, eq_self_iff_true]
/-! 299: java/lang/String.checkIndex.(II)V -/
theorem c299_0 : cd 299 0 = some (.iload 0, 1) := by decide +kernel
theorem c299_1 : cd 299 1 = some (.iload 1, 1) := by decide +kernel
theorem c299_2 : cd 299 2 = some (.getstatic 3, 3) := by decide +kernel
theorem c299_5 : cd 299 5 = some (.invokestatic 307, 3) := by decide +kernel
theorem c299_8 : cd 299 8 = some (.pop, 1) := by decide +kernel
theorem c299_9 : cd 299 9 = some (.return_, 1) := by decide +kernel
theorem g299_0 {d : Nat} {a0 a1 : Int} {w : aW} {Q : Option aV → aW → Prop} : T (d + 1) 299 0 [some (vi a0), some (vi a1)] [] w Q = T d 307 0 [some (vi a0), some (vi a1), some (vr 1200)] [] w (fun r w1 => T (d + 1) 299 8 [some (vi a0), some (vi a1)] (r.toList ++ []) w1 Q) := by
  rw [T_iload_0 c299_0, T_iload_1 c299_1, T_gs3 c299_2, T_inv (es := [some (vi a0), some (vi a1), some (vr 1200)]) (st := [vr 1200, vi a1, vi a0]) (ks := [0, 0, 2]) (n := 3) (as := [vi a0, vi a1, vr 1200]) (rest := []) c299_5 (by decide +kernel) (by decide +kernel) rfl rfl (Nat.le_of_ble_eq_true rfl)]
  all_goals try simp only [true_and, Nat.reduceAdd, eq_self_iff_true]
theorem g299_8 {d : Nat} {s0 : Int} {x0 x1 : Option aV} {w : aW} {Q : Option aV → aW → Prop} : T d 299 8 [x0, x1] [vi s0] w Q = Q none w := by
  rw [T_pop_i c299_8, T_vret c299_9 (by decide +kernel)]
  all_goals try simp only [true_and, Nat.reduceAdd, eq_self_iff_true]
/-! 300: StringHandsModel.readUnit.(I)V -/
theorem c300_0 : cd 300 0 = some (.aload 0, 1) := by decide +kernel
theorem c300_1 : cd 300 1 = some (.sipush 11, 2) := by decide +kernel
theorem c300_3 : cd 300 3 = some (.invokevirtual 109, 3) := by decide +kernel
theorem c300_6 : cd 300 6 = some (.ifCond .eq 33, 3) := by decide +kernel
theorem c300_9 : cd 300 9 = some (.aload 0, 1) := by decide +kernel
theorem c300_10 : cd 300 10 = some (.iload 1, 1) := by decide +kernel
theorem c300_11 : cd 300 11 = some (.invokevirtual 308, 3) := by decide +kernel
theorem c300_14 : cd 300 14 = some (.ifCond .ne 18, 3) := by decide +kernel
theorem c300_17 : cd 300 17 = some (.return_, 1) := by decide +kernel
theorem c300_18 : cd 300 18 = some (.aload 0, 1) := by decide +kernel
theorem c300_19 : cd 300 19 = some (.iload 1, 1) := by decide +kernel
theorem c300_20 : cd 300 20 = some (.sipush 1, 1) := by decide +kernel
theorem c300_21 : cd 300 21 = some (.iadd, 1) := by decide +kernel
theorem c300_22 : cd 300 22 = some (.invokevirtual 300, 3) := by decide +kernel
theorem c300_25 : cd 300 25 = some (.aload 0, 1) := by decide +kernel
theorem c300_26 : cd 300 26 = some (.sipush 3008, 3) := by decide +kernel
theorem c300_29 : cd 300 29 = some (.invokevirtual 281, 3) := by decide +kernel
theorem c300_32 : cd 300 32 = some (.return_, 1) := by decide +kernel
theorem c300_33 : cd 300 33 = some (.aload 0, 1) := by decide +kernel
theorem c300_34 : cd 300 34 = some (.sipush 27, 2) := by decide +kernel
theorem c300_36 : cd 300 36 = some (.invokevirtual 109, 3) := by decide +kernel
theorem c300_39 : cd 300 39 = some (.ifCond .eq 73, 3) := by decide +kernel
theorem c300_42 : cd 300 42 = some (.aload 0, 1) := by decide +kernel
theorem c300_43 : cd 300 43 = some (.iload 1, 1) := by decide +kernel
theorem c300_44 : cd 300 44 = some (.invokevirtual 308, 3) := by decide +kernel
theorem c300_47 : cd 300 47 = some (.ifCond .ne 51, 3) := by decide +kernel
theorem c300_50 : cd 300 50 = some (.return_, 1) := by decide +kernel
theorem c300_51 : cd 300 51 = some (.aload 0, 1) := by decide +kernel
theorem c300_52 : cd 300 52 = some (.iload 1, 1) := by decide +kernel
theorem c300_53 : cd 300 53 = some (.sipush 1, 1) := by decide +kernel
theorem c300_54 : cd 300 54 = some (.iadd, 1) := by decide +kernel
theorem c300_55 : cd 300 55 = some (.invokevirtual 228, 3) := by decide +kernel
theorem c300_58 : cd 300 58 = some (.aload 0, 1) := by decide +kernel
theorem c300_59 : cd 300 59 = some (.sipush 28, 2) := by decide +kernel
theorem c300_61 : cd 300 61 = some (.invokevirtual 107, 3) := by decide +kernel
theorem c300_64 : cd 300 64 = some (.ifCond .ne 72, 3) := by decide +kernel
theorem c300_67 : cd 300 67 = some (.aload 0, 1) := by decide +kernel
theorem c300_68 : cd 300 68 = some (.sipush 2, 1) := by decide +kernel
theorem c300_69 : cd 300 69 = some (.invokevirtual 115, 3) := by decide +kernel
theorem c300_72 : cd 300 72 = some (.return_, 1) := by decide +kernel
theorem c300_73 : cd 300 73 = some (.aload 0, 1) := by decide +kernel
theorem c300_74 : cd 300 74 = some (.iload 1, 1) := by decide +kernel
theorem c300_75 : cd 300 75 = some (.invokevirtual 309, 3) := by decide +kernel
theorem c300_78 : cd 300 78 = some (.aload 0, 1) := by decide +kernel
theorem c300_79 : cd 300 79 = some (.sipush 29, 2) := by decide +kernel
theorem c300_81 : cd 300 81 = some (.invokevirtual 109, 3) := by decide +kernel
theorem c300_84 : cd 300 84 = some (.ifCond .eq 93, 3) := by decide +kernel
theorem c300_87 : cd 300 87 = some (.sipush 3003, 3) := by decide +kernel
theorem c300_90 : cd 300 90 = some (.goto 111, 3) := by decide +kernel
theorem c300_93 : cd 300 93 = some (.aload 0, 1) := by decide +kernel
theorem c300_94 : cd 300 94 = some (.sipush 30, 2) := by decide +kernel
theorem c300_96 : cd 300 96 = some (.invokevirtual 109, 3) := by decide +kernel
theorem c300_99 : cd 300 99 = some (.ifCond .eq 108, 3) := by decide +kernel
theorem c300_102 : cd 300 102 = some (.sipush 3004, 3) := by decide +kernel
theorem c300_105 : cd 300 105 = some (.goto 111, 3) := by decide +kernel
theorem c300_108 : cd 300 108 = some (.sipush 3005, 3) := by decide +kernel
theorem c300_111 : cd 300 111 = some (.istore 2, 1) := by decide +kernel
theorem c300_112 : cd 300 112 = some (.aload 0, 1) := by decide +kernel
theorem c300_113 : cd 300 113 = some (.sipush 29, 2) := by decide +kernel
theorem c300_115 : cd 300 115 = some (.invokevirtual 109, 3) := by decide +kernel
theorem c300_118 : cd 300 118 = some (.ifCond .ne 139, 3) := by decide +kernel
theorem c300_121 : cd 300 121 = some (.aload 0, 1) := by decide +kernel
theorem c300_122 : cd 300 122 = some (.sipush 30, 2) := by decide +kernel
theorem c300_124 : cd 300 124 = some (.invokevirtual 109, 3) := by decide +kernel
theorem c300_127 : cd 300 127 = some (.ifCond .ne 139, 3) := by decide +kernel
theorem c300_130 : cd 300 130 = some (.aload 0, 1) := by decide +kernel
theorem c300_131 : cd 300 131 = some (.sipush 31, 2) := by decide +kernel
theorem c300_133 : cd 300 133 = some (.invokevirtual 109, 3) := by decide +kernel
theorem c300_136 : cd 300 136 = some (.ifCond .eq 146, 3) := by decide +kernel
theorem c300_139 : cd 300 139 = some (.aload 0, 1) := by decide +kernel
theorem c300_140 : cd 300 140 = some (.invokevirtual 106, 3) := by decide +kernel
theorem c300_143 : cd 300 143 = some (.goto 151, 3) := by decide +kernel
theorem c300_146 : cd 300 146 = some (.aload 0, 1) := by decide +kernel
theorem c300_147 : cd 300 147 = some (.sipush 2, 1) := by decide +kernel
theorem c300_148 : cd 300 148 = some (.invokevirtual 115, 3) := by decide +kernel
theorem c300_151 : cd 300 151 = some (.aload 0, 1) := by decide +kernel
theorem c300_152 : cd 300 152 = some (.iload 1, 1) := by decide +kernel
theorem c300_153 : cd 300 153 = some (.invokevirtual 309, 3) := by decide +kernel
theorem c300_156 : cd 300 156 = some (.aload 0, 1) := by decide +kernel
theorem c300_157 : cd 300 157 = some (.iload 2, 1) := by decide +kernel
theorem c300_158 : cd 300 158 = some (.invokevirtual 281, 3) := by decide +kernel
theorem c300_161 : cd 300 161 = some (.return_, 1) := by decide +kernel
theorem g300_0 {d : Nat} {x1 x2 : Option aV} {w : aW} {Q : Option aV → aW → Prop} : T (d + 1) 300 0 [some (vr 167), x1, x2] [] w Q = T d 109 0 [some (vr 167), some (vi 11)] [] w (fun r w1 => T (d + 1) 300 6 [some (vr 167), x1, x2] (r.toList ++ []) w1 Q) := by
  rw [T_aload_0 c300_0, T_sipush c300_1, T_invv (es := [some (vr 167), some (vi 11)]) (st := [vi 11, vr 167]) (ks := [2, 0]) (n := 2) (c := 12) (k := 167) (as := [vi 11]) (rest := []) c300_3 (by decide +kernel) (by decide +kernel) (by decide +kernel) (by decide) rfl rfl (Nat.le_of_ble_eq_true rfl)]
  all_goals try simp only [lay_167, true_and, Nat.reduceAdd, eq_self_iff_true]
theorem g300_6 {d : Nat} {a1 s0 : Int} {x2 : Option aV} {w : aW} {Q : Option aV → aW → Prop} : T (d + 1) 300 6 [some (vr 167), some (vi a1), x2] [vi s0] w Q = ((s0 = 0 → T d 109 0 [some (vr 167), some (vi 27)] [] w (fun r w1 => T (d + 1) 300 39 [some (vr 167), some (vi a1), x2] (r.toList ++ []) w1 Q)) ∧ (¬ (s0 = 0) → T d 308 0 [some (vr 167), some (vi a1)] [] w (fun r w1 => T (d + 1) 300 14 [some (vr 167), some (vi a1), x2] (r.toList ++ []) w1 Q))) := by
  rw [T_if_eq 33 c300_6 rfl, T_aload_0 c300_33, T_sipush c300_34, T_invv (es := [some (vr 167), some (vi 27)]) (st := [vi 27, vr 167]) (ks := [2, 0]) (n := 2) (c := 12) (k := 167) (as := [vi 27]) (rest := []) c300_36 (by decide +kernel) (by decide +kernel) (by decide +kernel) (by decide) rfl rfl (Nat.le_of_ble_eq_true rfl), T_aload_0 c300_9, T_iload_1 c300_10, T_invv (es := [some (vr 167), some (vi a1)]) (st := [vi a1, vr 167]) (ks := [2, 0]) (n := 2) (c := 12) (k := 167) (as := [vi a1]) (rest := []) c300_11 (by decide +kernel) (by decide +kernel) (by decide +kernel) (by decide) rfl rfl (Nat.le_of_ble_eq_true rfl)]
  all_goals try simp only [Int.reduceToNat, lay_167, true_and, Nat.reduceAdd, eq_self_iff_true]
theorem g300_14 {d : Nat} {a1 s0 : Int} {x2 : Option aV} {w : aW} {Q : Option aV → aW → Prop} : T (d + 1) 300 14 [some (vr 167), some (vi a1), x2] [vi s0] w Q = ((¬ s0 = 0 → T d 300 0 [some (vr 167), some (vi (w32 (a1 + 1))), none] [] w (fun r w1 => T (d + 1) 300 25 [some (vr 167), some (vi a1), x2] (r.toList ++ []) w1 Q)) ∧ (¬ (¬ s0 = 0) → Q none w)) := by
  rw [T_if_ne 18 c300_14 rfl, T_aload_0 c300_18, T_iload_1 c300_19, T_sipush c300_20, T_iadd c300_21, T_invv (es := [some (vr 167), some (vi (w32 (a1 + 1))), none]) (st := [vi (w32 (a1 + 1)), vr 167]) (ks := [2, 0]) (n := 3) (c := 12) (k := 167) (as := [vi (w32 (a1 + 1))]) (rest := []) c300_22 (by decide +kernel) (by decide +kernel) (by decide +kernel) (by decide) rfl rfl (Nat.le_of_ble_eq_true rfl), T_vret c300_17 (by decide +kernel)]
  all_goals try simp only [Int.reduceToNat, lay_167, true_and, Nat.reduceAdd, eq_self_iff_true]
theorem g300_25 {d : Nat} {x1 x2 : Option aV} {w : aW} {Q : Option aV → aW → Prop} : T (d + 1) 300 25 [some (vr 167), x1, x2] [] w Q = T d 281 0 [some (vr 167), some (vi 3008)] [] w (fun r w1 => T (d + 1) 300 32 [some (vr 167), x1, x2] (r.toList ++ []) w1 Q) := by
  rw [T_aload_0 c300_25, T_sipush c300_26, T_invv (es := [some (vr 167), some (vi 3008)]) (st := [vi 3008, vr 167]) (ks := [2, 0]) (n := 2) (c := 12) (k := 167) (as := [vi 3008]) (rest := []) c300_29 (by decide +kernel) (by decide +kernel) (by decide +kernel) (by decide) rfl rfl (Nat.le_of_ble_eq_true rfl)]
  all_goals try simp only [lay_167, true_and, Nat.reduceAdd, eq_self_iff_true]
theorem g300_32 {d : Nat} {x0 x1 x2 : Option aV} {w : aW} {Q : Option aV → aW → Prop} : T d 300 32 [x0, x1, x2] [] w Q = Q none w := by
  rw [T_vret c300_32 (by decide +kernel)]
  all_goals try simp only [true_and, Nat.reduceAdd, eq_self_iff_true]
theorem g300_39 {d : Nat} {a1 s0 : Int} {x2 : Option aV} {w : aW} {Q : Option aV → aW → Prop} : T (d + 1) 300 39 [some (vr 167), some (vi a1), x2] [vi s0] w Q = ((s0 = 0 → T d 309 0 [some (vr 167), some (vi a1), none] [] w (fun r w1 => T (d + 1) 300 78 [some (vr 167), some (vi a1), x2] (r.toList ++ []) w1 Q)) ∧ (¬ (s0 = 0) → T d 308 0 [some (vr 167), some (vi a1)] [] w (fun r w1 => T (d + 1) 300 47 [some (vr 167), some (vi a1), x2] (r.toList ++ []) w1 Q))) := by
  rw [T_if_eq 73 c300_39 rfl, T_aload_0 c300_73, T_iload_1 c300_74, T_invv (es := [some (vr 167), some (vi a1), none]) (st := [vi a1, vr 167]) (ks := [2, 0]) (n := 3) (c := 12) (k := 167) (as := [vi a1]) (rest := []) c300_75 (by decide +kernel) (by decide +kernel) (by decide +kernel) (by decide) rfl rfl (Nat.le_of_ble_eq_true rfl), T_aload_0 c300_42, T_iload_1 c300_43, T_invv (es := [some (vr 167), some (vi a1)]) (st := [vi a1, vr 167]) (ks := [2, 0]) (n := 2) (c := 12) (k := 167) (as := [vi a1]) (rest := []) c300_44 (by decide +kernel) (by decide +kernel) (by decide +kernel) (by decide) rfl rfl (Nat.le_of_ble_eq_true rfl)]
  all_goals try simp only [Int.reduceToNat, lay_167, true_and, Nat.reduceAdd, eq_self_iff_true]
theorem g300_47 {d : Nat} {a1 s0 : Int} {x2 : Option aV} {w : aW} {Q : Option aV → aW → Prop} : T (d + 1) 300 47 [some (vr 167), some (vi a1), x2] [vi s0] w Q = ((¬ s0 = 0 → T d 228 0 [some (vr 167), some (vi (w32 (a1 + 1)))] [] w (fun r w1 => T (d + 1) 300 58 [some (vr 167), some (vi a1), x2] (r.toList ++ []) w1 Q)) ∧ (¬ (¬ s0 = 0) → Q none w)) := by
  rw [T_if_ne 51 c300_47 rfl, T_aload_0 c300_51, T_iload_1 c300_52, T_sipush c300_53, T_iadd c300_54, T_invv (es := [some (vr 167), some (vi (w32 (a1 + 1)))]) (st := [vi (w32 (a1 + 1)), vr 167]) (ks := [2, 0]) (n := 2) (c := 12) (k := 167) (as := [vi (w32 (a1 + 1))]) (rest := []) c300_55 (by decide +kernel) (by decide +kernel) (by decide +kernel) (by decide) rfl rfl (Nat.le_of_ble_eq_true rfl), T_vret c300_50 (by decide +kernel)]
  all_goals try simp only [Int.reduceToNat, lay_167, true_and, Nat.reduceAdd, eq_self_iff_true]
theorem g300_58 {d : Nat} {x1 x2 : Option aV} {w : aW} {Q : Option aV → aW → Prop} : T (d + 1) 300 58 [some (vr 167), x1, x2] [] w Q = T d 107 0 [some (vr 167), some (vi 28)] [] w (fun r w1 => T (d + 1) 300 64 [some (vr 167), x1, x2] (r.toList ++ []) w1 Q) := by
  rw [T_aload_0 c300_58, T_sipush c300_59, T_invv (es := [some (vr 167), some (vi 28)]) (st := [vi 28, vr 167]) (ks := [2, 0]) (n := 2) (c := 12) (k := 167) (as := [vi 28]) (rest := []) c300_61 (by decide +kernel) (by decide +kernel) (by decide +kernel) (by decide) rfl rfl (Nat.le_of_ble_eq_true rfl)]
  all_goals try simp only [lay_167, true_and, Nat.reduceAdd, eq_self_iff_true]
theorem g300_64 {d : Nat} {s0 : Int} {x1 x2 : Option aV} {w : aW} {Q : Option aV → aW → Prop} : T (d + 1) 300 64 [some (vr 167), x1, x2] [vi s0] w Q = ((¬ s0 = 0 → T (d + 1) 300 72 [some (vr 167), x1, x2] [] w Q) ∧ (¬ (¬ s0 = 0) → T d 115 0 [some (vr 167), some (vi 2)] [] w (fun r w1 => T (d + 1) 300 72 [some (vr 167), x1, x2] (r.toList ++ []) w1 Q))) := by
  rw [T_if_ne 72 c300_64 rfl, T_aload_0 c300_67, T_sipush c300_68, T_invv (es := [some (vr 167), some (vi 2)]) (st := [vi 2, vr 167]) (ks := [2, 0]) (n := 2) (c := 12) (k := 167) (as := [vi 2]) (rest := []) c300_69 (by decide +kernel) (by decide +kernel) (by decide +kernel) (by decide) rfl rfl (Nat.le_of_ble_eq_true rfl)]
  all_goals try simp only [Int.reduceToNat, lay_167, true_and, Nat.reduceAdd, eq_self_iff_true]
theorem g300_72 {d : Nat} {x0 x1 x2 : Option aV} {w : aW} {Q : Option aV → aW → Prop} : T d 300 72 [x0, x1, x2] [] w Q = Q none w := by
  rw [T_vret c300_72 (by decide +kernel)]
  all_goals try simp only [true_and, Nat.reduceAdd, eq_self_iff_true]
theorem g300_78 {d : Nat} {x1 x2 : Option aV} {w : aW} {Q : Option aV → aW → Prop} : T (d + 1) 300 78 [some (vr 167), x1, x2] [] w Q = T d 109 0 [some (vr 167), some (vi 29)] [] w (fun r w1 => T (d + 1) 300 84 [some (vr 167), x1, x2] (r.toList ++ []) w1 Q) := by
  rw [T_aload_0 c300_78, T_sipush c300_79, T_invv (es := [some (vr 167), some (vi 29)]) (st := [vi 29, vr 167]) (ks := [2, 0]) (n := 2) (c := 12) (k := 167) (as := [vi 29]) (rest := []) c300_81 (by decide +kernel) (by decide +kernel) (by decide +kernel) (by decide) rfl rfl (Nat.le_of_ble_eq_true rfl)]
  all_goals try simp only [lay_167, true_and, Nat.reduceAdd, eq_self_iff_true]
theorem g300_84 {d : Nat} {s0 : Int} {x1 x2 : Option aV} {w : aW} {Q : Option aV → aW → Prop} : T (d + 1) 300 84 [some (vr 167), x1, x2] [vi s0] w Q = ((s0 = 0 → T d 109 0 [some (vr 167), some (vi 30)] [] w (fun r w1 => T (d + 1) 300 99 [some (vr 167), x1, x2] (r.toList ++ []) w1 Q)) ∧ (¬ (s0 = 0) → T (d + 1) 300 111 [some (vr 167), x1, x2] [vi 3003] w Q)) := by
  rw [T_if_eq 93 c300_84 rfl, T_aload_0 c300_93, T_sipush c300_94, T_invv (es := [some (vr 167), some (vi 30)]) (st := [vi 30, vr 167]) (ks := [2, 0]) (n := 2) (c := 12) (k := 167) (as := [vi 30]) (rest := []) c300_96 (by decide +kernel) (by decide +kernel) (by decide +kernel) (by decide) rfl rfl (Nat.le_of_ble_eq_true rfl), T_sipush c300_87, T_goto 111 c300_90 rfl]
  all_goals try simp only [Int.reduceToNat, lay_167, true_and, Nat.reduceAdd, eq_self_iff_true]
theorem g300_99 {d : Nat} {s0 : Int} {x0 x1 x2 : Option aV} {w : aW} {Q : Option aV → aW → Prop} : T d 300 99 [x0, x1, x2] [vi s0] w Q = ((s0 = 0 → T d 300 111 [x0, x1, x2] [vi 3005] w Q) ∧ (¬ (s0 = 0) → T d 300 111 [x0, x1, x2] [vi 3004] w Q)) := by
  rw [T_if_eq 108 c300_99 rfl, T_sipush c300_108, T_sipush c300_102, T_goto 111 c300_105 rfl]
  all_goals try simp only [Int.reduceToNat, true_and, Nat.reduceAdd, eq_self_iff_true]
theorem g300_111 {d : Nat} {s0 : Int} {x1 x2 : Option aV} {w : aW} {Q : Option aV → aW → Prop} : T (d + 1) 300 111 [some (vr 167), x1, x2] [vi s0] w Q = T d 109 0 [some (vr 167), some (vi 29)] [] w (fun r w1 => T (d + 1) 300 118 [some (vr 167), x1, some (vi s0)] (r.toList ++ []) w1 Q) := by
  rw [T_istore_2 c300_111, T_aload_0 c300_112, T_sipush c300_113, T_invv (es := [some (vr 167), some (vi 29)]) (st := [vi 29, vr 167]) (ks := [2, 0]) (n := 2) (c := 12) (k := 167) (as := [vi 29]) (rest := []) c300_115 (by decide +kernel) (by decide +kernel) (by decide +kernel) (by decide) rfl rfl (Nat.le_of_ble_eq_true rfl)]
  all_goals try simp only [lay_167, true_and, Nat.reduceAdd, eq_self_iff_true]
theorem g300_118 {d : Nat} {s0 : Int} {x1 x2 : Option aV} {w : aW} {Q : Option aV → aW → Prop} : T (d + 1) 300 118 [some (vr 167), x1, x2] [vi s0] w Q = ((¬ s0 = 0 → T (d + 1) 300 139 [some (vr 167), x1, x2] [] w Q) ∧ (¬ (¬ s0 = 0) → T d 109 0 [some (vr 167), some (vi 30)] [] w (fun r w1 => T (d + 1) 300 127 [some (vr 167), x1, x2] (r.toList ++ []) w1 Q))) := by
  rw [T_if_ne 139 c300_118 rfl, T_aload_0 c300_121, T_sipush c300_122, T_invv (es := [some (vr 167), some (vi 30)]) (st := [vi 30, vr 167]) (ks := [2, 0]) (n := 2) (c := 12) (k := 167) (as := [vi 30]) (rest := []) c300_124 (by decide +kernel) (by decide +kernel) (by decide +kernel) (by decide) rfl rfl (Nat.le_of_ble_eq_true rfl)]
  all_goals try simp only [Int.reduceToNat, lay_167, true_and, Nat.reduceAdd, eq_self_iff_true]
theorem g300_127 {d : Nat} {s0 : Int} {x1 x2 : Option aV} {w : aW} {Q : Option aV → aW → Prop} : T (d + 1) 300 127 [some (vr 167), x1, x2] [vi s0] w Q = ((¬ s0 = 0 → T (d + 1) 300 139 [some (vr 167), x1, x2] [] w Q) ∧ (¬ (¬ s0 = 0) → T d 109 0 [some (vr 167), some (vi 31)] [] w (fun r w1 => T (d + 1) 300 136 [some (vr 167), x1, x2] (r.toList ++ []) w1 Q))) := by
  rw [T_if_ne 139 c300_127 rfl, T_aload_0 c300_130, T_sipush c300_131, T_invv (es := [some (vr 167), some (vi 31)]) (st := [vi 31, vr 167]) (ks := [2, 0]) (n := 2) (c := 12) (k := 167) (as := [vi 31]) (rest := []) c300_133 (by decide +kernel) (by decide +kernel) (by decide +kernel) (by decide) rfl rfl (Nat.le_of_ble_eq_true rfl)]
  all_goals try simp only [Int.reduceToNat, lay_167, true_and, Nat.reduceAdd, eq_self_iff_true]
theorem g300_136 {d : Nat} {s0 : Int} {x1 x2 : Option aV} {w : aW} {Q : Option aV → aW → Prop} : T (d + 1) 300 136 [some (vr 167), x1, x2] [vi s0] w Q = ((s0 = 0 → T d 115 0 [some (vr 167), some (vi 2)] [] w (fun r w1 => T (d + 1) 300 151 [some (vr 167), x1, x2] (r.toList ++ []) w1 Q)) ∧ (¬ (s0 = 0) → T (d + 1) 300 139 [some (vr 167), x1, x2] [] w Q)) := by
  rw [T_if_eq 146 c300_136 rfl, T_aload_0 c300_146, T_sipush c300_147, T_invv (es := [some (vr 167), some (vi 2)]) (st := [vi 2, vr 167]) (ks := [2, 0]) (n := 2) (c := 12) (k := 167) (as := [vi 2]) (rest := []) c300_148 (by decide +kernel) (by decide +kernel) (by decide +kernel) (by decide) rfl rfl (Nat.le_of_ble_eq_true rfl)]
  all_goals try simp only [Int.reduceToNat, lay_167, true_and, Nat.reduceAdd, eq_self_iff_true]
theorem g300_139 {d : Nat} {x1 x2 : Option aV} {w : aW} {Q : Option aV → aW → Prop} : T (d + 1) 300 139 [some (vr 167), x1, x2] [] w Q = T d 106 0 [some (vr 167), none] [] w (fun r w1 => T (d + 1) 300 143 [some (vr 167), x1, x2] (r.toList ++ []) w1 Q) := by
  rw [T_aload_0 c300_139, T_invv (es := [some (vr 167), none]) (st := [vr 167]) (ks := [2]) (n := 2) (c := 12) (k := 167) (as := []) (rest := []) c300_140 (by decide +kernel) (by decide +kernel) (by decide +kernel) (by decide) rfl rfl (Nat.le_of_ble_eq_true rfl)]
  all_goals try simp only [lay_167, true_and, Nat.reduceAdd, eq_self_iff_true]
theorem g300_143 {d : Nat} {x0 x1 x2 : Option aV} {w : aW} {Q : Option aV → aW → Prop} : T d 300 143 [x0, x1, x2] [] w Q = T d 300 151 [x0, x1, x2] [] w Q := by
  rw [T_goto 151 c300_143 rfl]
  all_goals try simp only [true_and, Nat.reduceAdd, eq_self_iff_true]
theorem g300_151 {d : Nat} {a1 : Int} {x2 : Option aV} {w : aW} {Q : Option aV → aW → Prop} : T (d + 1) 300 151 [some (vr 167), some (vi a1), x2] [] w Q = T d 309 0 [some (vr 167), some (vi a1), none] [] w (fun r w1 => T (d + 1) 300 156 [some (vr 167), some (vi a1), x2] (r.toList ++ []) w1 Q) := by
  rw [T_aload_0 c300_151, T_iload_1 c300_152, T_invv (es := [some (vr 167), some (vi a1), none]) (st := [vi a1, vr 167]) (ks := [2, 0]) (n := 3) (c := 12) (k := 167) (as := [vi a1]) (rest := []) c300_153 (by decide +kernel) (by decide +kernel) (by decide +kernel) (by decide) rfl rfl (Nat.le_of_ble_eq_true rfl)]
  all_goals try simp only [lay_167, true_and, Nat.reduceAdd, eq_self_iff_true]
theorem g300_156 {d : Nat} {a2 : Int} {x1 : Option aV} {w : aW} {Q : Option aV → aW → Prop} : T (d + 1) 300 156 [some (vr 167), x1, some (vi a2)] [] w Q = T d 281 0 [some (vr 167), some (vi a2)] [] w (fun r w1 => T (d + 1) 300 161 [some (vr 167), x1, some (vi a2)] (r.toList ++ []) w1 Q) := by
  rw [T_aload_0 c300_156, T_iload_2 c300_157, T_invv (es := [some (vr 167), some (vi a2)]) (st := [vi a2, vr 167]) (ks := [2, 0]) (n := 2) (c := 12) (k := 167) (as := [vi a2]) (rest := []) c300_158 (by decide +kernel) (by decide +kernel) (by decide +kernel) (by decide) rfl rfl (Nat.le_of_ble_eq_true rfl)]
  all_goals try simp only [lay_167, true_and, Nat.reduceAdd, eq_self_iff_true]
theorem g300_161 {d : Nat} {x0 x1 x2 : Option aV} {w : aW} {Q : Option aV → aW → Prop} : T d 300 161 [x0, x1, x2] [] w Q = Q none w := by
  rw [T_vret c300_161 (by decide +kernel)]
  all_goals try simp only [true_and, Nat.reduceAdd, eq_self_iff_true]
/-! 301: StringHands$Mover.valueOf.(IIIII)I -/
theorem c301_0 : cd 301 0 = some (.iload 0, 1) := by decide +kernel
theorem c301_1 : cd 301 1 = some (.tableswitch 43 1 3 #[28, 34, 40], 27) := by decide +kernel
theorem c301_28 : cd 301 28 = some (.iload 2, 1) := by decide +kernel
theorem c301_29 : cd 301 29 = some (.iload 1, 1) := by decide +kernel
theorem c301_30 : cd 301 30 = some (.ishr, 1) := by decide +kernel
theorem c301_31 : cd 301 31 = some (.sipush 1, 1) := by decide +kernel
theorem c301_32 : cd 301 32 = some (.iand, 1) := by decide +kernel
theorem c301_33 : cd 301 33 = some (.ireturn, 1) := by decide +kernel
theorem c301_34 : cd 301 34 = some (.iload 2, 1) := by decide +kernel
theorem c301_35 : cd 301 35 = some (.iload 3, 1) := by decide +kernel
theorem c301_36 : cd 301 36 = some (.ishr, 1) := by decide +kernel
theorem c301_37 : cd 301 37 = some (.sipush 1, 1) := by decide +kernel
theorem c301_38 : cd 301 38 = some (.iand, 1) := by decide +kernel
theorem c301_39 : cd 301 39 = some (.ireturn, 1) := by decide +kernel
theorem c301_40 : cd 301 40 = some (.iload 4, 2) := by decide +kernel
theorem c301_42 : cd 301 42 = some (.ireturn, 1) := by decide +kernel
theorem c301_43 : cd 301 43 = some (.iload 1, 1) := by decide +kernel
theorem c301_44 : cd 301 44 = some (.ireturn, 1) := by decide +kernel
theorem sw301_1 {d : Nat} {ls : List (Option aV)} {st : List aV} {w : aW} {Q : Option aV → aW → Prop} {x : Int} : T d 301 1 ls (vi x :: st) w Q = ((x = 1 → T d 301 28 ls st w Q) ∧ (x = 2 → T d 301 34 ls st w Q) ∧ (x = 3 → T d 301 40 ls st w Q) ∧ (¬ x = 1 ∧ ¬ x = 2 ∧ ¬ x = 3 → T d 301 43 ls st w Q)) := by
  rw [T_tab c301_1]
  apply propext
  constructor
  · intro h
    refine ⟨fun q => by subst q; exact h, fun q => by subst q; exact h, fun q => by subst q; exact h, fun q => ?_⟩
    · have e : (if x < 1 ∨ 3 < x then (43 : Int).toNat else ((#[28, 34, 40] : Array Int).toList.getD (x - 1).toNat 43).toNat) = 43 := by rw [if_pos (by omega)]; rfl
      rw [e] at h; exact h
  · rintro ⟨h0, h1, h2, hd⟩
    by_cases n0 : x = 1
    · subst n0; exact h0 rfl
    by_cases n1 : x = 2
    · subst n1; exact h1 rfl
    by_cases n2 : x = 3
    · subst n2; exact h2 rfl
    · have e : (if x < 1 ∨ 3 < x then (43 : Int).toNat else ((#[28, 34, 40] : Array Int).toList.getD (x - 1).toNat 43).toNat) = 43 := by rw [if_pos (by omega)]; rfl
      rw [e]; exact hd ⟨n0, n1, n2⟩
theorem g301_0 {d : Nat} {a0 a1 a2 a3 a4 : Int} {w : aW} {Q : Option aV → aW → Prop} : T d 301 0 [some (vi a0), some (vi a1), some (vi a2), some (vi a3), some (vi a4)] [] w Q = ((a0 = 1 → Q (some (vi (jand (jshr a2 a1) 1))) w) ∧ (a0 = 2 → Q (some (vi (jand (jshr a2 a3) 1))) w) ∧ (a0 = 3 → Q (some (vi a4)) w) ∧ (¬ a0 = 1 ∧ ¬ a0 = 2 ∧ ¬ a0 = 3 → Q (some (vi a1)) w)) := by
  rw [T_iload_0 c301_0, sw301_1, T_iload_2 c301_28, T_iload_1 c301_29, T_ishr c301_30, T_sipush c301_31, T_iand c301_32, T_ireti c301_33 (by decide +kernel), T_iload_2 c301_34, T_iload_3 c301_35, T_ishr c301_36, T_sipush c301_37, T_iand c301_38, T_ireti c301_39 (by decide +kernel), T_iload_4 c301_40, T_ireti c301_42 (by decide +kernel), T_iload_1 c301_43, T_ireti c301_44 (by decide +kernel)]
  all_goals try simp only [true_and, Nat.reduceAdd, eq_self_iff_true]
/-! 302: StringHands$Mover.joined.(III)I -/
theorem c302_0 : cd 302 0 = some (.iload 0, 1) := by decide +kernel
theorem c302_1 : cd 302 1 = some (.tableswitch 77 5 9 #[36, 40, 44, 55, 66], 35) := by decide +kernel
theorem c302_36 : cd 302 36 = some (.iload 1, 1) := by decide +kernel
theorem c302_37 : cd 302 37 = some (.iload 2, 1) := by decide +kernel
theorem c302_38 : cd 302 38 = some (.iand, 1) := by decide +kernel
theorem c302_39 : cd 302 39 = some (.ireturn, 1) := by decide +kernel
theorem c302_40 : cd 302 40 = some (.iload 1, 1) := by decide +kernel
theorem c302_41 : cd 302 41 = some (.iload 2, 1) := by decide +kernel
theorem c302_42 : cd 302 42 = some (.ior, 1) := by decide +kernel
theorem c302_43 : cd 302 43 = some (.ireturn, 1) := by decide +kernel
theorem c302_44 : cd 302 44 = some (.iload 1, 1) := by decide +kernel
theorem c302_45 : cd 302 45 = some (.iload 2, 1) := by decide +kernel
theorem c302_46 : cd 302 46 = some (.if_icmp .ne 53, 3) := by decide +kernel
theorem c302_49 : cd 302 49 = some (.sipush 1, 1) := by decide +kernel
theorem c302_50 : cd 302 50 = some (.goto 54, 3) := by decide +kernel
theorem c302_53 : cd 302 53 = some (.sipush 0, 1) := by decide +kernel
theorem c302_54 : cd 302 54 = some (.ireturn, 1) := by decide +kernel
theorem c302_55 : cd 302 55 = some (.iload 1, 1) := by decide +kernel
theorem c302_56 : cd 302 56 = some (.iload 2, 1) := by decide +kernel
theorem c302_57 : cd 302 57 = some (.if_icmp .ge 64, 3) := by decide +kernel
theorem c302_60 : cd 302 60 = some (.sipush 1, 1) := by decide +kernel
theorem c302_61 : cd 302 61 = some (.goto 65, 3) := by decide +kernel
theorem c302_64 : cd 302 64 = some (.sipush 0, 1) := by decide +kernel
theorem c302_65 : cd 302 65 = some (.ireturn, 1) := by decide +kernel
theorem c302_66 : cd 302 66 = some (.iload 1, 1) := by decide +kernel
theorem c302_67 : cd 302 67 = some (.iload 2, 1) := by decide +kernel
theorem c302_68 : cd 302 68 = some (.if_icmp .le 75, 3) := by decide +kernel
theorem c302_71 : cd 302 71 = some (.sipush 1, 1) := by decide +kernel
theorem c302_72 : cd 302 72 = some (.goto 76, 3) := by decide +kernel
theorem c302_75 : cd 302 75 = some (.sipush 0, 1) := by decide +kernel
theorem c302_76 : cd 302 76 = some (.ireturn, 1) := by decide +kernel
theorem c302_77 : cd 302 77 = some (.iload 0, 1) := by decide +kernel
theorem c302_78 : cd 302 78 = some (.sipush 10, 2) := by decide +kernel
theorem c302_80 : cd 302 80 = some (.if_icmp .ne 91, 3) := by decide +kernel
theorem c302_83 : cd 302 83 = some (.iload 1, 1) := by decide +kernel
theorem c302_84 : cd 302 84 = some (.i2l, 1) := by decide +kernel
theorem c302_85 : cd 302 85 = some (.iload 2, 1) := by decide +kernel
theorem c302_86 : cd 302 86 = some (.i2l, 1) := by decide +kernel
theorem c302_87 : cd 302 87 = some (.ladd, 1) := by decide +kernel
theorem c302_88 : cd 302 88 = some (.goto 110, 3) := by decide +kernel
theorem c302_91 : cd 302 91 = some (.iload 0, 1) := by decide +kernel
theorem c302_92 : cd 302 92 = some (.sipush 11, 2) := by decide +kernel
theorem c302_94 : cd 302 94 = some (.if_icmp .ne 105, 3) := by decide +kernel
theorem c302_97 : cd 302 97 = some (.iload 1, 1) := by decide +kernel
theorem c302_98 : cd 302 98 = some (.i2l, 1) := by decide +kernel
theorem c302_99 : cd 302 99 = some (.iload 2, 1) := by decide +kernel
theorem c302_100 : cd 302 100 = some (.i2l, 1) := by decide +kernel
theorem c302_101 : cd 302 101 = some (.lsub, 1) := by decide +kernel
theorem c302_102 : cd 302 102 = some (.goto 110, 3) := by decide +kernel
theorem c302_105 : cd 302 105 = some (.iload 1, 1) := by decide +kernel
theorem c302_106 : cd 302 106 = some (.i2l, 1) := by decide +kernel
theorem c302_107 : cd 302 107 = some (.iload 2, 1) := by decide +kernel
theorem c302_108 : cd 302 108 = some (.i2l, 1) := by decide +kernel
theorem c302_109 : cd 302 109 = some (.lmul, 1) := by decide +kernel
theorem c302_110 : cd 302 110 = some (.lstore 3, 1) := by decide +kernel
theorem c302_111 : cd 302 111 = some (.lload 3, 1) := by decide +kernel
theorem c302_112 : cd 302 112 = some (.bipush 1000000, 3) := by decide +kernel
theorem c302_115 : cd 302 115 = some (.lcmp, 1) := by decide +kernel
theorem c302_116 : cd 302 116 = some (.ifCond .le 124, 3) := by decide +kernel
theorem c302_119 : cd 302 119 = some (.sipush 1000000, 2) := by decide +kernel
theorem c302_121 : cd 302 121 = some (.goto 139, 3) := by decide +kernel
theorem c302_124 : cd 302 124 = some (.lload 3, 1) := by decide +kernel
theorem c302_125 : cd 302 125 = some (.bipush (-1000000), 3) := by decide +kernel
theorem c302_128 : cd 302 128 = some (.lcmp, 1) := by decide +kernel
theorem c302_129 : cd 302 129 = some (.ifCond .ge 137, 3) := by decide +kernel
theorem c302_132 : cd 302 132 = some (.sipush (-1000000), 2) := by decide +kernel
theorem c302_134 : cd 302 134 = some (.goto 139, 3) := by decide +kernel
theorem c302_137 : cd 302 137 = some (.lload 3, 1) := by decide +kernel
theorem c302_138 : cd 302 138 = some (.l2i, 1) := by decide +kernel
theorem c302_139 : cd 302 139 = some (.ireturn, 1) := by decide +kernel
theorem sw302_1 {d : Nat} {ls : List (Option aV)} {st : List aV} {w : aW} {Q : Option aV → aW → Prop} {x : Int} : T d 302 1 ls (vi x :: st) w Q = ((x = 5 → T d 302 36 ls st w Q) ∧ (x = 6 → T d 302 40 ls st w Q) ∧ (x = 7 → T d 302 44 ls st w Q) ∧ (x = 8 → T d 302 55 ls st w Q) ∧ (x = 9 → T d 302 66 ls st w Q) ∧ (¬ x = 5 ∧ ¬ x = 6 ∧ ¬ x = 7 ∧ ¬ x = 8 ∧ ¬ x = 9 → T d 302 77 ls st w Q)) := by
  rw [T_tab c302_1]
  apply propext
  constructor
  · intro h
    refine ⟨fun q => by subst q; exact h, fun q => by subst q; exact h, fun q => by subst q; exact h, fun q => by subst q; exact h, fun q => by subst q; exact h, fun q => ?_⟩
    · have e : (if x < 5 ∨ 9 < x then (77 : Int).toNat else ((#[36, 40, 44, 55, 66] : Array Int).toList.getD (x - 5).toNat 77).toNat) = 77 := by rw [if_pos (by omega)]; rfl
      rw [e] at h; exact h
  · rintro ⟨h0, h1, h2, h3, h4, hd⟩
    by_cases n0 : x = 5
    · subst n0; exact h0 rfl
    by_cases n1 : x = 6
    · subst n1; exact h1 rfl
    by_cases n2 : x = 7
    · subst n2; exact h2 rfl
    by_cases n3 : x = 8
    · subst n3; exact h3 rfl
    by_cases n4 : x = 9
    · subst n4; exact h4 rfl
    · have e : (if x < 5 ∨ 9 < x then (77 : Int).toNat else ((#[36, 40, 44, 55, 66] : Array Int).toList.getD (x - 5).toNat 77).toNat) = 77 := by rw [if_pos (by omega)]; rfl
      rw [e]; exact hd ⟨n0, n1, n2, n3, n4⟩
theorem g302_0 {d : Nat} {a0 a1 a2 : Int} {x3 x4 : Option aV} {w : aW} {Q : Option aV → aW → Prop} : T d 302 0 [some (vi a0), some (vi a1), some (vi a2), x3, x4] [] w Q = ((a0 = 5 → Q (some (vi (jand a1 a2))) w) ∧ (a0 = 6 → Q (some (vi (jor a1 a2))) w) ∧ (a0 = 7 → ((¬ a1 = a2 → T d 302 54 [some (vi a0), some (vi a1), some (vi a2), x3, x4] [vi 0] w Q) ∧ (¬ (¬ a1 = a2) → T d 302 54 [some (vi a0), some (vi a1), some (vi a2), x3, x4] [vi 1] w Q))) ∧ (a0 = 8 → ((a2 ≤ a1 → T d 302 65 [some (vi a0), some (vi a1), some (vi a2), x3, x4] [vi 0] w Q) ∧ (¬ (a2 ≤ a1) → T d 302 65 [some (vi a0), some (vi a1), some (vi a2), x3, x4] [vi 1] w Q))) ∧ (a0 = 9 → ((a1 ≤ a2 → T d 302 76 [some (vi a0), some (vi a1), some (vi a2), x3, x4] [vi 0] w Q) ∧ (¬ (a1 ≤ a2) → T d 302 76 [some (vi a0), some (vi a1), some (vi a2), x3, x4] [vi 1] w Q))) ∧ (¬ a0 = 5 ∧ ¬ a0 = 6 ∧ ¬ a0 = 7 ∧ ¬ a0 = 8 ∧ ¬ a0 = 9 → ((¬ a0 = 10 → ((¬ a0 = 11 → T d 302 110 [some (vi a0), some (vi a1), some (vi a2), x3, x4] [vl (w64 (a1 * a2))] w Q) ∧ (¬ (¬ a0 = 11) → T d 302 110 [some (vi a0), some (vi a1), some (vi a2), x3, x4] [vl (w64 (a1 - a2))] w Q))) ∧ (¬ (¬ a0 = 10) → T d 302 110 [some (vi a0), some (vi a1), some (vi a2), x3, x4] [vl (w64 (a1 + a2))] w Q)))) := by
  rw [T_iload_0 c302_0, sw302_1, T_iload_1 c302_36, T_iload_2 c302_37, T_iand c302_38, T_ireti c302_39 (by decide +kernel), T_iload_1 c302_40, T_iload_2 c302_41, T_ior c302_42, T_ireti c302_43 (by decide +kernel), T_iload_1 c302_44, T_iload_2 c302_45, T_icmp_ne 53 c302_46 rfl, T_sipush c302_53, T_sipush c302_49, T_goto 54 c302_50 rfl, T_iload_1 c302_55, T_iload_2 c302_56, T_icmp_ge 64 c302_57 rfl, T_sipush c302_64, T_sipush c302_60, T_goto 65 c302_61 rfl, T_iload_1 c302_66, T_iload_2 c302_67, T_icmp_le 75 c302_68 rfl, T_sipush c302_75, T_sipush c302_71, T_goto 76 c302_72 rfl, T_iload_0 c302_77, T_sipush c302_78, T_icmp_ne 91 c302_80 rfl, T_iload_0 c302_91, T_sipush c302_92, T_icmp_ne 105 c302_94 rfl, T_iload_1 c302_105, T_i2l c302_106, T_iload_2 c302_107, T_i2l c302_108, T_lmul c302_109, T_iload_1 c302_97, T_i2l c302_98, T_iload_2 c302_99, T_i2l c302_100, T_lsub c302_101, T_goto 110 c302_102 rfl, T_iload_1 c302_83, T_i2l c302_84, T_iload_2 c302_85, T_i2l c302_86, T_ladd c302_87, T_goto 110 c302_88 rfl]
  all_goals try simp only [Int.reduceToNat, true_and, Nat.reduceAdd, eq_self_iff_true]
theorem g302_54 {d : Nat} {s0 : Int} {x0 x1 x2 x3 x4 : Option aV} {w : aW} {Q : Option aV → aW → Prop} : T d 302 54 [x0, x1, x2, x3, x4] [vi s0] w Q = Q (some (vi s0)) w := by
  rw [T_ireti c302_54 (by decide +kernel)]
  all_goals try simp only [true_and, Nat.reduceAdd, eq_self_iff_true]
theorem g302_65 {d : Nat} {s0 : Int} {x0 x1 x2 x3 x4 : Option aV} {w : aW} {Q : Option aV → aW → Prop} : T d 302 65 [x0, x1, x2, x3, x4] [vi s0] w Q = Q (some (vi s0)) w := by
  rw [T_ireti c302_65 (by decide +kernel)]
  all_goals try simp only [true_and, Nat.reduceAdd, eq_self_iff_true]
theorem g302_76 {d : Nat} {s0 : Int} {x0 x1 x2 x3 x4 : Option aV} {w : aW} {Q : Option aV → aW → Prop} : T d 302 76 [x0, x1, x2, x3, x4] [vi s0] w Q = Q (some (vi s0)) w := by
  rw [T_ireti c302_76 (by decide +kernel)]
  all_goals try simp only [true_and, Nat.reduceAdd, eq_self_iff_true]
theorem g302_110 {d : Nat} {s0 : Int} {x0 x1 x2 x3 x4 : Option aV} {w : aW} {Q : Option aV → aW → Prop} : T d 302 110 [x0, x1, x2, x3, x4] [vl s0] w Q = ((kcmp s0 1000000 ≤ 0 → ((0 ≤ kcmp s0 (-1000000) → T d 302 139 [x0, x1, x2, some (vl s0), none] [vi (w32 s0)] w Q) ∧ (¬ (0 ≤ kcmp s0 (-1000000)) → T d 302 139 [x0, x1, x2, some (vl s0), none] [vi (-1000000)] w Q))) ∧ (¬ (kcmp s0 1000000 ≤ 0) → T d 302 139 [x0, x1, x2, some (vl s0), none] [vi 1000000] w Q)) := by
  rw [T_lstore_3 c302_110, T_lload_3 c302_111, T_bipush c302_112, T_lcmp c302_115, T_if_le 124 c302_116 rfl, T_lload_3 c302_124, T_bipush c302_125, T_lcmp c302_128, T_if_ge 137 c302_129 rfl, T_lload_3 c302_137, T_l2i c302_138, T_sipush c302_132, T_goto 139 c302_134 rfl, T_sipush c302_119, T_goto 139 c302_121 rfl]
  all_goals try simp only [Int.reduceToNat, true_and, Nat.reduceAdd, eq_self_iff_true]
theorem g302_139 {d : Nat} {s0 : Int} {x0 x1 x2 x3 x4 : Option aV} {w : aW} {Q : Option aV → aW → Prop} : T d 302 139 [x0, x1, x2, x3, x4] [vi s0] w Q = Q (some (vi s0)) w := by
  rw [T_ireti c302_139 (by decide +kernel)]
  all_goals try simp only [true_and, Nat.reduceAdd, eq_self_iff_true]
/-! 303: StringHands$Follow.closeRing.(II)V -/
theorem c303_0 : cd 303 0 = some (.aload 0, 1) := by decide +kernel
theorem c303_1 : cd 303 1 = some (.getfield 22, 3) := by decide +kernel
theorem c303_4 : cd 303 4 = some (.iload 1, 1) := by decide +kernel
theorem c303_5 : cd 303 5 = some (.iaload, 1) := by decide +kernel
theorem c303_6 : cd 303 6 = some (.istore 3, 1) := by decide +kernel
theorem c303_7 : cd 303 7 = some (.iload 1, 1) := by decide +kernel
theorem c303_8 : cd 303 8 = some (.istore 4, 2) := by decide +kernel
theorem c303_10 : cd 303 10 = some (.iload 4, 2) := by decide +kernel
theorem c303_12 : cd 303 12 = some (.iload 2, 1) := by decide +kernel
theorem c303_13 : cd 303 13 = some (.if_icmp .ge 34, 3) := by decide +kernel
theorem c303_16 : cd 303 16 = some (.iload 3, 1) := by decide +kernel
theorem c303_17 : cd 303 17 = some (.aload 0, 1) := by decide +kernel
theorem c303_18 : cd 303 18 = some (.getfield 22, 3) := by decide +kernel
theorem c303_21 : cd 303 21 = some (.iload 4, 2) := by decide +kernel
theorem c303_23 : cd 303 23 = some (.iaload, 1) := by decide +kernel
theorem c303_24 : cd 303 24 = some (.invokedynamic 1, 3) := by decide +kernel
theorem c303_27 : cd 303 27 = some (.istore 3, 1) := by decide +kernel
theorem c303_28 : cd 303 28 = some (.iinc 4 1, 3) := by decide +kernel
theorem c303_31 : cd 303 31 = some (.goto 10, 3) := by decide +kernel
theorem c303_34 : cd 303 34 = some (.iload 1, 1) := by decide +kernel
theorem c303_35 : cd 303 35 = some (.istore 4, 2) := by decide +kernel
theorem c303_37 : cd 303 37 = some (.iload 4, 2) := by decide +kernel
theorem c303_39 : cd 303 39 = some (.iload 2, 1) := by decide +kernel
theorem c303_40 : cd 303 40 = some (.if_icmp .ge 84, 3) := by decide +kernel
theorem c303_43 : cd 303 43 = some (.aload 0, 1) := by decide +kernel
theorem c303_44 : cd 303 44 = some (.getfield 22, 3) := by decide +kernel
theorem c303_47 : cd 303 47 = some (.iload 4, 2) := by decide +kernel
theorem c303_49 : cd 303 49 = some (.iaload, 1) := by decide +kernel
theorem c303_50 : cd 303 50 = some (.istore 5, 2) := by decide +kernel
theorem c303_52 : cd 303 52 = some (.aload 0, 1) := by decide +kernel
theorem c303_53 : cd 303 53 = some (.getfield 10, 3) := by decide +kernel
theorem c303_56 : cd 303 56 = some (.iload 5, 2) := by decide +kernel
theorem c303_58 : cd 303 58 = some (.sipush 0, 1) := by decide +kernel
theorem c303_59 : cd 303 59 = some (.iastore, 1) := by decide +kernel
theorem c303_60 : cd 303 60 = some (.aload 0, 1) := by decide +kernel
theorem c303_61 : cd 303 61 = some (.getfield 14, 3) := by decide +kernel
theorem c303_64 : cd 303 64 = some (.iload 5, 2) := by decide +kernel
theorem c303_66 : cd 303 66 = some (.iload 2, 1) := by decide +kernel
theorem c303_67 : cd 303 67 = some (.iload 1, 1) := by decide +kernel
theorem c303_68 : cd 303 68 = some (.isub, 1) := by decide +kernel
theorem c303_69 : cd 303 69 = some (.iastore, 1) := by decide +kernel
theorem c303_70 : cd 303 70 = some (.aload 0, 1) := by decide +kernel
theorem c303_71 : cd 303 71 = some (.getfield 18, 3) := by decide +kernel
theorem c303_74 : cd 303 74 = some (.iload 5, 2) := by decide +kernel
theorem c303_76 : cd 303 76 = some (.iload 3, 1) := by decide +kernel
theorem c303_77 : cd 303 77 = some (.iastore, 1) := by decide +kernel
theorem c303_78 : cd 303 78 = some (.iinc 4 1, 3) := by decide +kernel
theorem c303_81 : cd 303 81 = some (.goto 37, 3) := by decide +kernel
theorem c303_84 : cd 303 84 = some (.return_, 1) := by decide +kernel
theorem g303_0 {d : Nat} {a1 : Int} {x2 x3 x4 x5 : Option aV} {w : aW} {Q : Option aV → aW → Prop} : T d 303 0 [some (vr 19), some (vi a1), x2, x3, x4, x5] [] w Q = ((0 ≤ a1 ∧ a1 < 1024) ∧ T d 303 10 [some (vr 19), some (vi a1), x2, some (vi (w 24 a1)), some (vi a1), x5] [] w Q) := by
  rw [T_aload_0 c303_0, T_getR 0 5 5 c303_1 rfl rfl rfl rfl, rf_19_5, T_iload_1 c303_4, T_iald c303_5, T_istore_3 c303_6, T_iload_1 c303_7, T_istore_4 c303_8]
  all_goals try simp only [lay_19, ld_24, true_and, Nat.reduceAdd, eq_self_iff_true]
theorem g303_10 {d : Nat} {a1 a2 a3 a4 : Int} {x5 : Option aV} {w : aW} {Q : Option aV → aW → Prop} : T d 303 10 [some (vr 19), some (vi a1), some (vi a2), some (vi a3), some (vi a4), x5] [] w Q = ((a2 ≤ a4 → T d 303 37 [some (vr 19), some (vi a1), some (vi a2), some (vi a3), some (vi a1), x5] [] w Q) ∧ (¬ (a2 ≤ a4) → ((0 ≤ a4 ∧ a4 < 1024) ∧ T d 303 10 [some (vr 19), some (vi a1), some (vi a2), some (vi (if w 24 a4 < a3 then w 24 a4 else a3)), some (vi (w32 (a4 + 1))), x5] [] w Q))) := by
  rw [T_iload_4 c303_10, T_iload_2 c303_12, T_icmp_ge 34 c303_13 rfl, T_iload_1 c303_34, T_istore_4 c303_35, T_iload_3 c303_16, T_aload_0 c303_17, T_getR 0 5 5 c303_18 rfl rfl rfl rfl, rf_19_5, T_iload_4 c303_21, T_iald c303_23, T_min (st := []) c303_24 (Nat.le_of_ble_eq_true rfl), T_istore_3 c303_27, T_iinc_4 c303_28, T_goto 10 c303_31 rfl]
  all_goals try simp only [Int.reduceToNat, lay_19, ld_24, true_and, Nat.reduceAdd, eq_self_iff_true]
theorem g303_37 {d : Nat} {a1 a2 a3 a4 : Int} {x5 : Option aV} {w : aW} {Q : Option aV → aW → Prop} : T d 303 37 [some (vr 19), some (vi a1), some (vi a2), some (vi a3), some (vi a4), x5] [] w Q = ((a2 ≤ a4 → Q none w) ∧ (¬ (a2 ≤ a4) → ((0 ≤ a4 ∧ a4 < 1024) ∧ ((0 ≤ w 24 a4 ∧ w 24 a4 < 1024) ∧ ((0 ≤ w 24 a4 ∧ w 24 a4 < 1024) ∧ ((0 ≤ w 24 a4 ∧ w 24 a4 < 1024) ∧ T d 303 37 [some (vr 19), some (vi a1), some (vi a2), some (vi a3), some (vi (w32 (a4 + 1))), some (vi (w 24 a4))] [] (iup (iup (iup w 21 (w 24 a4) 0) 22 (w 24 a4) (w32 (a2 - a1))) 23 (w 24 a4) a3) Q)))))) := by
  rw [T_iload_4 c303_37, T_iload_2 c303_39, T_icmp_ge 84 c303_40 rfl, T_vret c303_84 (by decide +kernel), T_aload_0 c303_43, T_getR 0 5 5 c303_44 rfl rfl rfl rfl, rf_19_5, T_iload_4 c303_47, T_iald c303_49, T_istore_5 c303_50, T_aload_0 c303_52, T_getR 0 2 2 c303_53 rfl rfl rfl rfl, rf_19_2, T_iload_5 c303_56, T_sipush c303_58, T_iast c303_59, T_aload_0 c303_60, T_getR 0 3 3 c303_61 rfl rfl rfl rfl, rf_19_3, T_iload_5 c303_64, T_iload_2 c303_66, T_iload_1 c303_67, T_isub c303_68, T_iast c303_69, T_aload_0 c303_70, T_getR 0 4 4 c303_71 rfl rfl rfl rfl, rf_19_4, T_iload_5 c303_74, T_iload_3 c303_76, T_iast c303_77, T_iinc_4 c303_78, T_goto 37 c303_81 rfl]
  all_goals try simp only [Int.reduceToNat, ia0_21, ia0_22, ia0_23, lay_19, ld_24, true_and, Nat.reduceAdd, eq_self_iff_true]
/-! 304: StringHands$Tangler.turn.(IIJJ)V -/
theorem c304_0 : cd 304 0 = some (.iload 1, 1) := by decide +kernel
theorem c304_1 : cd 304 1 = some (.iload 2, 1) := by decide +kernel
theorem c304_2 : cd 304 2 = some (.invokestatic 293, 3) := by decide +kernel
theorem c304_5 : cd 304 5 = some (.istore 7, 2) := by decide +kernel
theorem c304_7 : cd 304 7 = some (.aload 0, 1) := by decide +kernel
theorem c304_8 : cd 304 8 = some (.getfield 1802, 3) := by decide +kernel
theorem c304_11 : cd 304 11 = some (.iload 7, 2) := by decide +kernel
theorem c304_13 : cd 304 13 = some (.dup2, 1) := by decide +kernel
theorem c304_14 : cd 304 14 = some (.laload, 1) := by decide +kernel
theorem c304_15 : cd 304 15 = some (.lload 3, 1) := by decide +kernel
theorem c304_16 : cd 304 16 = some (.lxor, 1) := by decide +kernel
theorem c304_17 : cd 304 17 = some (.lastore, 1) := by decide +kernel
theorem c304_18 : cd 304 18 = some (.aload 0, 1) := by decide +kernel
theorem c304_19 : cd 304 19 = some (.getfield 1806, 3) := by decide +kernel
theorem c304_22 : cd 304 22 = some (.iload 7, 2) := by decide +kernel
theorem c304_24 : cd 304 24 = some (.dup2, 1) := by decide +kernel
theorem c304_25 : cd 304 25 = some (.laload, 1) := by decide +kernel
theorem c304_26 : cd 304 26 = some (.lload 5, 2) := by decide +kernel
theorem c304_28 : cd 304 28 = some (.lxor, 1) := by decide +kernel
theorem c304_29 : cd 304 29 = some (.lastore, 1) := by decide +kernel
theorem c304_30 : cd 304 30 = some (.return_, 1) := by decide +kernel
theorem g304_0 {d : Nat} {a1 a2 : Int} {x0 x3 x4 x5 x6 x7 : Option aV} {w : aW} {Q : Option aV → aW → Prop} : T (d + 1) 304 0 [x0, some (vi a1), some (vi a2), x3, x4, x5, x6, x7] [] w Q = T d 293 0 [some (vi a1), some (vi a2)] [] w (fun r w1 => T (d + 1) 304 5 [x0, some (vi a1), some (vi a2), x3, x4, x5, x6, x7] (r.toList ++ []) w1 Q) := by
  rw [T_iload_1 c304_0, T_iload_2 c304_1, T_inv (es := [some (vi a1), some (vi a2)]) (st := [vi a2, vi a1]) (ks := [0, 0]) (n := 2) (as := [vi a1, vi a2]) (rest := []) c304_2 (by decide +kernel) (by decide +kernel) rfl rfl (Nat.le_of_ble_eq_true rfl)]
  all_goals try simp only [true_and, Nat.reduceAdd, eq_self_iff_true]
theorem g304_5 {d : Nat} {b3 b5 s0 : Int} {x1 x2 x7 : Option aV} {w : aW} {Q : Option aV → aW → Prop} : T d 304 5 [some (vr 52), x1, x2, some (vl b3), none, some (vl b5), none, x7] [vi s0] w Q = ((0 ≤ s0 ∧ s0 < 49) ∧ ((0 ≤ s0 ∧ s0 < 49) ∧ ((0 ≤ s0 ∧ s0 < 49) ∧ ((0 ≤ s0 ∧ s0 < 49) ∧ Q none (iup (iup w 55 s0 (kxor (w 55 s0) b3)) 56 s0 (kxor ((iup w 55 s0 (kxor (w 55 s0) b3)) 56 s0) b5)))))) := by
  rw [T_istore_7 c304_5, T_aload_0 c304_7, T_getR 7 2 2 c304_8 rfl rfl rfl rfl, rf_52_2, T_iload_7 c304_11, T_dup2 c304_13, T_lald c304_14, T_lload_3 c304_15, T_lxor c304_16, T_last c304_17, T_aload_0 c304_18, T_getR 7 3 3 c304_19 rfl rfl rfl rfl, rf_52_3, T_iload_7 c304_22, T_dup2 c304_24, T_lald c304_25, T_lload_5 c304_26, T_lxor c304_28, T_last c304_29, T_vret c304_30 (by decide +kernel)]
  all_goals try simp only [ia1_55, ia1_56, lay_52, true_and, Nat.reduceAdd, eq_self_iff_true]
/-! 305: java/lang/String.indexOf.(II)I -/
theorem c305_0 : cd 305 0 = some (.aload 0, 1) := by decide +kernel
theorem c305_1 : cd 305 1 = some (.invokevirtual 278, 3) := by decide +kernel
theorem c305_4 : cd 305 4 = some (.ifCond .eq 23, 3) := by decide +kernel
theorem c305_7 : cd 305 7 = some (.aload 0, 1) := by decide +kernel
theorem c305_8 : cd 305 8 = some (.getstatic 0, 3) := by decide +kernel
theorem c305_11 : cd 305 11 = some (.iload 1, 1) := by decide +kernel
theorem c305_12 : cd 305 12 = some (.iload 2, 1) := by decide +kernel
theorem c305_13 : cd 305 13 = some (.aload 0, 1) := by decide +kernel
theorem c305_14 : cd 305 14 = some (.invokevirtual 226, 3) := by decide +kernel
theorem c305_17 : cd 305 17 = some (.invokestatic 310, 3) := by decide +kernel
theorem c305_20 : cd 305 20 = some (.goto 36, 3) := by decide +kernel
theorem c305_23 : cd 305 23 = some (.aload 0, 1) := by decide +kernel
theorem c305_24 : cd 305 24 = some (.getstatic 0, 3) := by decide +kernel
theorem c305_27 : cd 305 27 = some (.iload 1, 1) := by decide +kernel
theorem c305_28 : cd 305 28 = some (.iload 2, 1) := by decide +kernel
theorem c305_29 : cd 305 29 = some (.aload 0, 1) := by decide +kernel
theorem c305_30 : cd 305 30 = some (.invokevirtual 226, 3) := by decide +kernel
theorem c305_36 : cd 305 36 = some (.ireturn, 1) := by decide +kernel
theorem g305_0 {d : Nat} {r0 : Nat} {x1 x2 : Option aV} {w : aW} {Q : Option aV → aW → Prop} : T (d + 1) 305 0 [some (vr r0), x1, x2] [] w Q = ((1000 ≤ r0 ∧ r0 < 1003) ∧ T d 278 0 [some (vr r0)] [] w (fun r w1 => T (d + 1) 305 4 [some (vr r0), x1, x2] (r.toList ++ []) w1 Q)) := by
  rw [T_aload_0 c305_0, T_invs (es := [some (vr r0)]) (st := [vr r0]) (ks := [2]) (n := 1) (k := r0) (as := []) (rest := []) c305_1 (by decide +kernel) (by decide +kernel) (by decide +kernel) rfl rfl (Nat.le_of_ble_eq_true rfl)]
  all_goals try simp only [true_and, Nat.reduceAdd, eq_self_iff_true]
theorem g305_4 {d : Nat} {a1 a2 s0 : Int} {r0 : Nat} {w : aW} {Q : Option aV → aW → Prop} : T (d + 1) 305 4 [some (vr r0), some (vi a1), some (vi a2)] [vi s0] w Q = ((s0 = 0 → ((1000 ≤ r0 ∧ r0 < 1003) ∧ ((1000 ≤ r0 ∧ r0 < 1003) ∧ T d 226 0 [some (vr r0)] [] w (fun r w1 => T (d + 1) 305 33 [some (vr r0), some (vi a1), some (vi a2)] (r.toList ++ [vi a2, vi a1, vr (r0 + 100)]) w1 Q)))) ∧ (¬ (s0 = 0) → ((1000 ≤ r0 ∧ r0 < 1003) ∧ ((1000 ≤ r0 ∧ r0 < 1003) ∧ T d 226 0 [some (vr r0)] [] w (fun r w1 => T (d + 1) 305 17 [some (vr r0), some (vi a1), some (vi a2)] (r.toList ++ [vi a2, vi a1, vr (r0 + 100)]) w1 Q))))) := by
  rw [T_if_eq 23 c305_4 rfl, T_aload_0 c305_23, T_gs0 c305_24, T_iload_1 c305_27, T_iload_2 c305_28, T_aload_0 c305_29, T_invs (es := [some (vr r0)]) (st := [vr r0, vi a2, vi a1, vr (r0 + 100)]) (ks := [2]) (n := 1) (k := r0) (as := []) (rest := [vi a2, vi a1, vr (r0 + 100)]) c305_30 (by decide +kernel) (by decide +kernel) (by decide +kernel) rfl rfl (Nat.le_of_ble_eq_true rfl), T_aload_0 c305_7, T_gs0 c305_8, T_iload_1 c305_11, T_iload_2 c305_12, T_aload_0 c305_13, T_invs (es := [some (vr r0)]) (st := [vr r0, vi a2, vi a1, vr (r0 + 100)]) (ks := [2]) (n := 1) (k := r0) (as := []) (rest := [vi a2, vi a1, vr (r0 + 100)]) c305_14 (by decide +kernel) (by decide +kernel) (by decide +kernel) rfl rfl (Nat.le_of_ble_eq_true rfl)]
  all_goals try simp only [Int.reduceToNat, true_and, Nat.reduceAdd, eq_self_iff_true]
theorem g305_17 {d : Nat} {s1 s2 s3 : Int} {s0 : Nat} {x0 x1 x2 : Option aV} {w : aW} {Q : Option aV → aW → Prop} : T (d + 1) 305 17 [x0, x1, x2] [vi s3, vi s2, vi s1, vr s0] w Q = T d 310 0 [some (vr s0), some (vi s1), some (vi s2), some (vi s3)] [] w (fun r w1 => T (d + 1) 305 20 [x0, x1, x2] (r.toList ++ []) w1 Q) := by
  rw [T_inv (es := [some (vr s0), some (vi s1), some (vi s2), some (vi s3)]) (st := [vi s3, vi s2, vi s1, vr s0]) (ks := [2, 0, 0, 0]) (n := 4) (as := [vr s0, vi s1, vi s2, vi s3]) (rest := []) c305_17 (by decide +kernel) (by decide +kernel) rfl rfl (Nat.le_of_ble_eq_true rfl)]
  all_goals try simp only [true_and, Nat.reduceAdd, eq_self_iff_true]
theorem g305_20 {d : Nat} {s0 : Int} {x0 x1 x2 : Option aV} {w : aW} {Q : Option aV → aW → Prop} : T d 305 20 [x0, x1, x2] [vi s0] w Q = Q (some (vi s0)) w := by
  rw [T_goto 36 c305_20 rfl, T_ireti c305_36 (by decide +kernel)]
  all_goals try simp only [true_and, Nat.reduceAdd, eq_self_iff_true]
/-! 306: StringHands$Reader.readUnit.(I)Z -/
theorem c306_0 : cd 306 0 = some (.aload 0, 1) := by decide +kernel
theorem c306_1 : cd 306 1 = some (.getfield 1064, 3) := by decide +kernel
theorem c306_4 : cd 306 4 = some (.sipush 212, 3) := by decide +kernel
theorem c306_7 : cd 306 7 = some (.if_icmp .eq 25, 3) := by decide +kernel
theorem c306_10 : cd 306 10 = some (.aload 0, 1) := by decide +kernel
theorem c306_11 : cd 306 11 = some (.getfield 1064, 3) := by decide +kernel
theorem c306_14 : cd 306 14 = some (.sipush 91, 2) := by decide +kernel
theorem c306_16 : cd 306 16 = some (.if_icmp .eq 25, 3) := by decide +kernel
theorem c306_19 : cd 306 19 = some (.aload 0, 1) := by decide +kernel
theorem c306_20 : cd 306 20 = some (.iload 1, 1) := by decide +kernel
theorem c306_21 : cd 306 21 = some (.invokevirtual 311, 3) := by decide +kernel
theorem c306_24 : cd 306 24 = some (.ireturn, 1) := by decide +kernel
theorem c306_25 : cd 306 25 = some (.iload 1, 1) := by decide +kernel
theorem c306_26 : cd 306 26 = some (.sipush 6, 2) := by decide +kernel
theorem c306_28 : cd 306 28 = some (.if_icmp .lt 37, 3) := by decide +kernel
theorem c306_31 : cd 306 31 = some (.aload 0, 1) := by decide +kernel
theorem c306_32 : cd 306 32 = some (.sipush 4, 1) := by decide +kernel
theorem c306_33 : cd 306 33 = some (.invokevirtual 219, 3) := by decide +kernel
theorem c306_36 : cd 306 36 = some (.ireturn, 1) := by decide +kernel
theorem c306_37 : cd 306 37 = some (.aload 0, 1) := by decide +kernel
theorem c306_38 : cd 306 38 = some (.getfield 1064, 3) := by decide +kernel
theorem c306_41 : cd 306 41 = some (.sipush 91, 2) := by decide +kernel
theorem c306_43 : cd 306 43 = some (.if_icmp .ne 85, 3) := by decide +kernel
theorem c306_46 : cd 306 46 = some (.aload 0, 1) := by decide +kernel
theorem c306_47 : cd 306 47 = some (.invokevirtual 212, 3) := by decide +kernel
theorem c306_50 : cd 306 50 = some (.ifCond .eq 83, 3) := by decide +kernel
theorem c306_53 : cd 306 53 = some (.aload 0, 1) := by decide +kernel
theorem c306_54 : cd 306 54 = some (.iload 1, 1) := by decide +kernel
theorem c306_55 : cd 306 55 = some (.sipush 1, 1) := by decide +kernel
theorem c306_56 : cd 306 56 = some (.iadd, 1) := by decide +kernel
theorem c306_57 : cd 306 57 = some (.invokevirtual 276, 3) := by decide +kernel
theorem c306_60 : cd 306 60 = some (.ifCond .eq 83, 3) := by decide +kernel
theorem c306_63 : cd 306 63 = some (.aload 0, 1) := by decide +kernel
theorem c306_64 : cd 306 64 = some (.sipush 93, 2) := by decide +kernel
theorem c306_66 : cd 306 66 = some (.invokevirtual 220, 3) := by decide +kernel
theorem c306_69 : cd 306 69 = some (.ifCond .eq 83, 3) := by decide +kernel
theorem c306_72 : cd 306 72 = some (.aload 0, 1) := by decide +kernel
theorem c306_73 : cd 306 73 = some (.invokevirtual 212, 3) := by decide +kernel
theorem c306_76 : cd 306 76 = some (.ifCond .eq 83, 3) := by decide +kernel
theorem c306_79 : cd 306 79 = some (.sipush 1, 1) := by decide +kernel
theorem c306_80 : cd 306 80 = some (.goto 84, 3) := by decide +kernel
theorem c306_83 : cd 306 83 = some (.sipush 0, 1) := by decide +kernel
theorem c306_84 : cd 306 84 = some (.ireturn, 1) := by decide +kernel
theorem c306_85 : cd 306 85 = some (.aload 0, 1) := by decide +kernel
theorem c306_86 : cd 306 86 = some (.invokevirtual 212, 3) := by decide +kernel
theorem c306_89 : cd 306 89 = some (.ifCond .eq 102, 3) := by decide +kernel
theorem c306_92 : cd 306 92 = some (.aload 0, 1) := by decide +kernel
theorem c306_93 : cd 306 93 = some (.iload 1, 1) := by decide +kernel
theorem c306_94 : cd 306 94 = some (.sipush 1, 1) := by decide +kernel
theorem c306_95 : cd 306 95 = some (.iadd, 1) := by decide +kernel
theorem c306_96 : cd 306 96 = some (.invokevirtual 306, 3) := by decide +kernel
theorem c306_99 : cd 306 99 = some (.ifCond .ne 104, 3) := by decide +kernel
theorem c306_102 : cd 306 102 = some (.sipush 0, 1) := by decide +kernel
theorem c306_103 : cd 306 103 = some (.ireturn, 1) := by decide +kernel
theorem c306_104 : cd 306 104 = some (.aload 0, 1) := by decide +kernel
theorem c306_105 : cd 306 105 = some (.getfield 1042, 3) := by decide +kernel
theorem c306_108 : cd 306 108 = some (.sipush 4, 1) := by decide +kernel
theorem c306_109 : cd 306 109 = some (.sipush 0, 1) := by decide +kernel
theorem c306_110 : cd 306 110 = some (.invokevirtual 298, 3) := by decide +kernel
theorem c306_113 : cd 306 113 = some (.sipush 1, 1) := by decide +kernel
theorem c306_114 : cd 306 114 = some (.ireturn, 1) := by decide +kernel
theorem g306_0 {d : Nat} {a1 : Int} {w : aW} {Q : Option aV → aW → Prop} : T (d + 1) 306 0 [some (vr 1), some (vi a1)] [] w Q = ((w 1 10 = 212 → T (d + 1) 306 25 [some (vr 1), some (vi a1)] [] w Q) ∧ (¬ (w 1 10 = 212) → ((w 1 10 = 91 → T (d + 1) 306 25 [some (vr 1), some (vi a1)] [] w Q) ∧ (¬ (w 1 10 = 91) → T d 311 0 [some (vr 1), some (vi a1), none] [] w (fun r w1 => T (d + 1) 306 24 [some (vr 1), some (vi a1)] (r.toList ++ []) w1 Q))))) := by
  rw [T_aload_0 c306_0, T_getI 4 10 10 c306_1 rfl rfl rfl rfl, T_sipush c306_4, T_icmp_eq 25 c306_7 rfl, T_aload_0 c306_10, T_getI 4 10 10 c306_11 rfl rfl rfl rfl, T_sipush c306_14, T_icmp_eq 25 c306_16 rfl, T_aload_0 c306_19, T_iload_1 c306_20, T_invv (es := [some (vr 1), some (vi a1), none]) (st := [vi a1, vr 1]) (ks := [2, 0]) (n := 3) (c := 4) (k := 1) (as := [vi a1]) (rest := []) c306_21 (by decide +kernel) (by decide +kernel) (by decide +kernel) (by decide) rfl rfl (Nat.le_of_ble_eq_true rfl)]
  all_goals try simp only [Int.reduceToNat, lay_1, true_and, Nat.reduceAdd, eq_self_iff_true]
theorem g306_24 {d : Nat} {s0 : Int} {x0 x1 : Option aV} {w : aW} {Q : Option aV → aW → Prop} : T d 306 24 [x0, x1] [vi s0] w Q = ((s0 = 0 ∨ s0 = 1) ∧ Q (some (vi s0)) w) := by
  rw [T_iretz c306_24 (by decide +kernel)]
  all_goals try simp only [true_and, Nat.reduceAdd, eq_self_iff_true]
theorem g306_25 {d : Nat} {a1 : Int} {w : aW} {Q : Option aV → aW → Prop} : T (d + 1) 306 25 [some (vr 1), some (vi a1)] [] w Q = ((a1 < 6 → ((¬ w 1 10 = 91 → T d 212 0 [some (vr 1)] [] w (fun r w1 => T (d + 1) 306 89 [some (vr 1), some (vi a1)] (r.toList ++ []) w1 Q)) ∧ (¬ (¬ w 1 10 = 91) → T d 212 0 [some (vr 1)] [] w (fun r w1 => T (d + 1) 306 50 [some (vr 1), some (vi a1)] (r.toList ++ []) w1 Q)))) ∧ (¬ (a1 < 6) → T d 219 0 [some (vr 1), some (vi 4)] [] w (fun r w1 => T (d + 1) 306 36 [some (vr 1), some (vi a1)] (r.toList ++ []) w1 Q))) := by
  rw [T_iload_1 c306_25, T_sipush c306_26, T_icmp_lt 37 c306_28 rfl, T_aload_0 c306_37, T_getI 4 10 10 c306_38 rfl rfl rfl rfl, T_sipush c306_41, T_icmp_ne 85 c306_43 rfl, T_aload_0 c306_85, T_invv (es := [some (vr 1)]) (st := [vr 1]) (ks := [2]) (n := 1) (c := 4) (k := 1) (as := []) (rest := []) c306_86 (by decide +kernel) (by decide +kernel) (by decide +kernel) (by decide) rfl rfl (Nat.le_of_ble_eq_true rfl), T_aload_0 c306_46, T_invv (es := [some (vr 1)]) (st := [vr 1]) (ks := [2]) (n := 1) (c := 4) (k := 1) (as := []) (rest := []) c306_47 (by decide +kernel) (by decide +kernel) (by decide +kernel) (by decide) rfl rfl (Nat.le_of_ble_eq_true rfl), T_aload_0 c306_31, T_sipush c306_32, T_invv (es := [some (vr 1), some (vi 4)]) (st := [vi 4, vr 1]) (ks := [2, 0]) (n := 2) (c := 4) (k := 1) (as := [vi 4]) (rest := []) c306_33 (by decide +kernel) (by decide +kernel) (by decide +kernel) (by decide) rfl rfl (Nat.le_of_ble_eq_true rfl)]
  all_goals try simp only [Int.reduceToNat, lay_1, true_and, Nat.reduceAdd, eq_self_iff_true]
theorem g306_36 {d : Nat} {s0 : Int} {x0 x1 : Option aV} {w : aW} {Q : Option aV → aW → Prop} : T d 306 36 [x0, x1] [vi s0] w Q = ((s0 = 0 ∨ s0 = 1) ∧ Q (some (vi s0)) w) := by
  rw [T_iretz c306_36 (by decide +kernel)]
  all_goals try simp only [true_and, Nat.reduceAdd, eq_self_iff_true]
theorem g306_50 {d : Nat} {a1 s0 : Int} {w : aW} {Q : Option aV → aW → Prop} : T (d + 1) 306 50 [some (vr 1), some (vi a1)] [vi s0] w Q = ((s0 = 0 → T (d + 1) 306 83 [some (vr 1), some (vi a1)] [] w Q) ∧ (¬ (s0 = 0) → T d 276 0 [some (vr 1), some (vi (w32 (a1 + 1))), none] [] w (fun r w1 => T (d + 1) 306 60 [some (vr 1), some (vi a1)] (r.toList ++ []) w1 Q))) := by
  rw [T_if_eq 83 c306_50 rfl, T_aload_0 c306_53, T_iload_1 c306_54, T_sipush c306_55, T_iadd c306_56, T_invv (es := [some (vr 1), some (vi (w32 (a1 + 1))), none]) (st := [vi (w32 (a1 + 1)), vr 1]) (ks := [2, 0]) (n := 3) (c := 4) (k := 1) (as := [vi (w32 (a1 + 1))]) (rest := []) c306_57 (by decide +kernel) (by decide +kernel) (by decide +kernel) (by decide) rfl rfl (Nat.le_of_ble_eq_true rfl)]
  all_goals try simp only [Int.reduceToNat, lay_1, true_and, Nat.reduceAdd, eq_self_iff_true]
theorem g306_60 {d : Nat} {s0 : Int} {x1 : Option aV} {w : aW} {Q : Option aV → aW → Prop} : T (d + 1) 306 60 [some (vr 1), x1] [vi s0] w Q = ((s0 = 0 → T (d + 1) 306 83 [some (vr 1), x1] [] w Q) ∧ (¬ (s0 = 0) → T d 220 0 [some (vr 1), some (vi 93)] [] w (fun r w1 => T (d + 1) 306 69 [some (vr 1), x1] (r.toList ++ []) w1 Q))) := by
  rw [T_if_eq 83 c306_60 rfl, T_aload_0 c306_63, T_sipush c306_64, T_invv (es := [some (vr 1), some (vi 93)]) (st := [vi 93, vr 1]) (ks := [2, 0]) (n := 2) (c := 4) (k := 1) (as := [vi 93]) (rest := []) c306_66 (by decide +kernel) (by decide +kernel) (by decide +kernel) (by decide) rfl rfl (Nat.le_of_ble_eq_true rfl)]
  all_goals try simp only [Int.reduceToNat, lay_1, true_and, Nat.reduceAdd, eq_self_iff_true]
theorem g306_69 {d : Nat} {s0 : Int} {x1 : Option aV} {w : aW} {Q : Option aV → aW → Prop} : T (d + 1) 306 69 [some (vr 1), x1] [vi s0] w Q = ((s0 = 0 → T (d + 1) 306 83 [some (vr 1), x1] [] w Q) ∧ (¬ (s0 = 0) → T d 212 0 [some (vr 1)] [] w (fun r w1 => T (d + 1) 306 76 [some (vr 1), x1] (r.toList ++ []) w1 Q))) := by
  rw [T_if_eq 83 c306_69 rfl, T_aload_0 c306_72, T_invv (es := [some (vr 1)]) (st := [vr 1]) (ks := [2]) (n := 1) (c := 4) (k := 1) (as := []) (rest := []) c306_73 (by decide +kernel) (by decide +kernel) (by decide +kernel) (by decide) rfl rfl (Nat.le_of_ble_eq_true rfl)]
  all_goals try simp only [Int.reduceToNat, lay_1, true_and, Nat.reduceAdd, eq_self_iff_true]
theorem g306_76 {d : Nat} {s0 : Int} {x0 x1 : Option aV} {w : aW} {Q : Option aV → aW → Prop} : T d 306 76 [x0, x1] [vi s0] w Q = ((s0 = 0 → T d 306 83 [x0, x1] [] w Q) ∧ (¬ (s0 = 0) → T d 306 84 [x0, x1] [vi 1] w Q)) := by
  rw [T_if_eq 83 c306_76 rfl, T_sipush c306_79, T_goto 84 c306_80 rfl]
  all_goals try simp only [Int.reduceToNat, true_and, Nat.reduceAdd, eq_self_iff_true]
theorem g306_83 {d : Nat} {x0 x1 : Option aV} {w : aW} {Q : Option aV → aW → Prop} : T d 306 83 [x0, x1] [] w Q = T d 306 84 [x0, x1] [vi 0] w Q := by
  rw [T_sipush c306_83]
  all_goals try simp only [true_and, Nat.reduceAdd, eq_self_iff_true]
theorem g306_84 {d : Nat} {s0 : Int} {x0 x1 : Option aV} {w : aW} {Q : Option aV → aW → Prop} : T d 306 84 [x0, x1] [vi s0] w Q = ((s0 = 0 ∨ s0 = 1) ∧ Q (some (vi s0)) w) := by
  rw [T_iretz c306_84 (by decide +kernel)]
  all_goals try simp only [true_and, Nat.reduceAdd, eq_self_iff_true]
theorem g306_89 {d : Nat} {a1 s0 : Int} {w : aW} {Q : Option aV → aW → Prop} : T (d + 1) 306 89 [some (vr 1), some (vi a1)] [vi s0] w Q = ((s0 = 0 → T (d + 1) 306 102 [some (vr 1), some (vi a1)] [] w Q) ∧ (¬ (s0 = 0) → T d 306 0 [some (vr 1), some (vi (w32 (a1 + 1)))] [] w (fun r w1 => T (d + 1) 306 99 [some (vr 1), some (vi a1)] (r.toList ++ []) w1 Q))) := by
  rw [T_if_eq 102 c306_89 rfl, T_aload_0 c306_92, T_iload_1 c306_93, T_sipush c306_94, T_iadd c306_95, T_invv (es := [some (vr 1), some (vi (w32 (a1 + 1)))]) (st := [vi (w32 (a1 + 1)), vr 1]) (ks := [2, 0]) (n := 2) (c := 4) (k := 1) (as := [vi (w32 (a1 + 1))]) (rest := []) c306_96 (by decide +kernel) (by decide +kernel) (by decide +kernel) (by decide) rfl rfl (Nat.le_of_ble_eq_true rfl)]
  all_goals try simp only [Int.reduceToNat, lay_1, true_and, Nat.reduceAdd, eq_self_iff_true]
theorem g306_99 {d : Nat} {s0 : Int} {x1 : Option aV} {w : aW} {Q : Option aV → aW → Prop} : T (d + 1) 306 99 [some (vr 1), x1] [vi s0] w Q = ((¬ s0 = 0 → T d 298 0 [some (vr 3), some (vi 4), some (vi 0)] [] w (fun r w1 => T (d + 1) 306 113 [some (vr 1), x1] (r.toList ++ []) w1 Q)) ∧ (¬ (¬ s0 = 0) → T (d + 1) 306 102 [some (vr 1), x1] [] w Q)) := by
  rw [T_if_ne 104 c306_99 rfl, T_aload_0 c306_104, T_getR 4 4 4 c306_105 rfl rfl rfl rfl, rf_1_4, T_sipush c306_108, T_sipush c306_109, T_invv (es := [some (vr 3), some (vi 4), some (vi 0)]) (st := [vi 0, vi 4, vr 3]) (ks := [2, 0, 0]) (n := 3) (c := 8) (k := 3) (as := [vi 4, vi 0]) (rest := []) c306_110 (by decide +kernel) (by decide +kernel) (by decide +kernel) (by decide) rfl rfl (Nat.le_of_ble_eq_true rfl)]
  all_goals try simp only [Int.reduceToNat, lay_1, lay_3, true_and, Nat.reduceAdd, eq_self_iff_true]
theorem g306_102 {d : Nat} {x0 x1 : Option aV} {w : aW} {Q : Option aV → aW → Prop} : T d 306 102 [x0, x1] [] w Q = Q (some (vi 0)) w := by
  rw [T_sipush c306_102, T_iretz c306_103 (by decide +kernel)]
  all_goals try simp only [true_and, Nat.reduceAdd, eq_self_iff_true, zero_eq_1, one_eq_0, true_or, or_true]
theorem g306_113 {d : Nat} {x0 x1 : Option aV} {w : aW} {Q : Option aV → aW → Prop} : T d 306 113 [x0, x1] [] w Q = Q (some (vi 1)) w := by
  rw [T_sipush c306_113, T_iretz c306_114 (by decide +kernel)]
  all_goals try simp only [true_and, Nat.reduceAdd, eq_self_iff_true, zero_eq_1, one_eq_0, true_or, or_true]
/-! 307: jdk/internal/util/Preconditions.checkIndex.(IILjava/util/function/BiFunction;)I -/
theorem c307_0 : cd 307 0 = some (.iload 0, 1) := by decide +kernel
theorem c307_1 : cd 307 1 = some (.ifCond .lt 9, 3) := by decide +kernel
theorem c307_4 : cd 307 4 = some (.iload 0, 1) := by decide +kernel
theorem c307_5 : cd 307 5 = some (.iload 1, 1) := by decide +kernel
theorem c307_6 : cd 307 6 = some (.if_icmp .lt 16, 3) := by decide +kernel
theorem c307_9 : cd 307 9 = some (.aload 2, 1) := by decide +kernel
theorem c307_10 : cd 307 10 = some (.iload 0, 1) := by decide +kernel
theorem c307_11 : cd 307 11 = some (.iload 1, 1) := by decide +kernel
theorem c307_16 : cd 307 16 = some (.iload 0, 1) := by decide +kernel
theorem c307_17 : cd 307 17 = some (.ireturn, 1) := by decide +kernel
theorem g307_0 {d : Nat} {a0 a1 : Int} {x2 : Option aV} {w : aW} {Q : Option aV → aW → Prop} : T d 307 0 [some (vi a0), some (vi a1), x2] [] w Q = ((a0 < 0 → T d 307 9 [some (vi a0), some (vi a1), x2] [] w Q) ∧ (¬ (a0 < 0) → ((a0 < a1 → Q (some (vi a0)) w) ∧ (¬ (a0 < a1) → T d 307 9 [some (vi a0), some (vi a1), x2] [] w Q)))) := by
  rw [T_iload_0 c307_0, T_if_lt 9 c307_1 rfl, T_iload_0 c307_4, T_iload_1 c307_5, T_icmp_lt 16 c307_6 rfl, T_iload_0 c307_16, T_ireti c307_17 (by decide +kernel)]
  all_goals try simp only [Int.reduceToNat, true_and, Nat.reduceAdd, eq_self_iff_true]
theorem g307_9 {d : Nat} {a0 a1 : Int} {r2 : Nat} {w : aW} {Q : Option aV → aW → Prop} : T d 307 9 [some (vi a0), some (vi a1), some (vr r2)] [] w Q = T d 307 12 [some (vi a0), some (vi a1), some (vr r2)] [vi a1, vi a0, vr r2] w Q := by
  rw [T_aload_2 c307_9, T_iload_0 c307_10, T_iload_1 c307_11]
  all_goals try simp only [true_and, Nat.reduceAdd, eq_self_iff_true]
/-! 308: StringHandsModel.goesIn.(I)Z -/
theorem c308_0 : cd 308 0 = some (.iload 1, 1) := by decide +kernel
theorem c308_1 : cd 308 1 = some (.sipush 6, 2) := by decide +kernel
theorem c308_3 : cd 308 3 = some (.if_icmp .ne 11, 3) := by decide +kernel
theorem c308_6 : cd 308 6 = some (.aload 0, 1) := by decide +kernel
theorem c308_7 : cd 308 7 = some (.sipush 4, 1) := by decide +kernel
theorem c308_8 : cd 308 8 = some (.invokevirtual 115, 3) := by decide +kernel
theorem c308_11 : cd 308 11 = some (.aload 0, 1) := by decide +kernel
theorem c308_12 : cd 308 12 = some (.getfield 3116, 3) := by decide +kernel
theorem c308_15 : cd 308 15 = some (.ifCond .ne 22, 3) := by decide +kernel
theorem c308_18 : cd 308 18 = some (.aload 0, 1) := by decide +kernel
theorem c308_19 : cd 308 19 = some (.invokevirtual 106, 3) := by decide +kernel
theorem c308_22 : cd 308 22 = some (.aload 0, 1) := by decide +kernel
theorem c308_23 : cd 308 23 = some (.getfield 3116, 3) := by decide +kernel
theorem c308_26 : cd 308 26 = some (.ifCond .ne 33, 3) := by decide +kernel
theorem c308_29 : cd 308 29 = some (.sipush 1, 1) := by decide +kernel
theorem c308_30 : cd 308 30 = some (.goto 34, 3) := by decide +kernel
theorem c308_33 : cd 308 33 = some (.sipush 0, 1) := by decide +kernel
theorem c308_34 : cd 308 34 = some (.ireturn, 1) := by decide +kernel
theorem g308_0 {d : Nat} {a1 : Int} {w : aW} {Q : Option aV → aW → Prop} : T (d + 1) 308 0 [some (vr 167), some (vi a1)] [] w Q = ((¬ a1 = 6 → T (d + 1) 308 11 [some (vr 167), some (vi a1)] [] w Q) ∧ (¬ (¬ a1 = 6) → T d 115 0 [some (vr 167), some (vi 4)] [] w (fun r w1 => T (d + 1) 308 11 [some (vr 167), some (vi a1)] (r.toList ++ []) w1 Q))) := by
  rw [T_iload_1 c308_0, T_sipush c308_1, T_icmp_ne 11 c308_3 rfl, T_aload_0 c308_6, T_sipush c308_7, T_invv (es := [some (vr 167), some (vi 4)]) (st := [vi 4, vr 167]) (ks := [2, 0]) (n := 2) (c := 12) (k := 167) (as := [vi 4]) (rest := []) c308_8 (by decide +kernel) (by decide +kernel) (by decide +kernel) (by decide) rfl rfl (Nat.le_of_ble_eq_true rfl)]
  all_goals try simp only [Int.reduceToNat, lay_167, true_and, Nat.reduceAdd, eq_self_iff_true]
theorem g308_11 {d : Nat} {x1 : Option aV} {w : aW} {Q : Option aV → aW → Prop} : T (d + 1) 308 11 [some (vr 167), x1] [] w Q = ((¬ w 167 11 = 0 → T (d + 1) 308 22 [some (vr 167), x1] [] w Q) ∧ (¬ (¬ w 167 11 = 0) → T d 106 0 [some (vr 167), none] [] w (fun r w1 => T (d + 1) 308 22 [some (vr 167), x1] (r.toList ++ []) w1 Q))) := by
  rw [T_aload_0 c308_11, T_getI 12 11 11 c308_12 rfl rfl rfl rfl, T_if_ne 22 c308_15 rfl, T_aload_0 c308_18, T_invv (es := [some (vr 167), none]) (st := [vr 167]) (ks := [2]) (n := 2) (c := 12) (k := 167) (as := []) (rest := []) c308_19 (by decide +kernel) (by decide +kernel) (by decide +kernel) (by decide) rfl rfl (Nat.le_of_ble_eq_true rfl)]
  all_goals try simp only [Int.reduceToNat, lay_167, true_and, Nat.reduceAdd, eq_self_iff_true]
theorem g308_22 {d : Nat} {x1 : Option aV} {w : aW} {Q : Option aV → aW → Prop} : T d 308 22 [some (vr 167), x1] [] w Q = ((¬ w 167 11 = 0 → T d 308 34 [some (vr 167), x1] [vi 0] w Q) ∧ (¬ (¬ w 167 11 = 0) → T d 308 34 [some (vr 167), x1] [vi 1] w Q)) := by
  rw [T_aload_0 c308_22, T_getI 12 11 11 c308_23 rfl rfl rfl rfl, T_if_ne 33 c308_26 rfl, T_sipush c308_33, T_sipush c308_29, T_goto 34 c308_30 rfl]
  all_goals try simp only [Int.reduceToNat, lay_167, true_and, Nat.reduceAdd, eq_self_iff_true]
theorem g308_34 {d : Nat} {s0 : Int} {x0 x1 : Option aV} {w : aW} {Q : Option aV → aW → Prop} : T d 308 34 [x0, x1] [vi s0] w Q = ((s0 = 0 ∨ s0 = 1) ∧ Q (some (vi s0)) w) := by
  rw [T_iretz c308_34 (by decide +kernel)]
  all_goals try simp only [true_and, Nat.reduceAdd, eq_self_iff_true]
/-! 309: StringHandsModel.readSum.(I)V -/
theorem c309_0 : cd 309 0 = some (.aload 0, 1) := by decide +kernel
theorem c309_1 : cd 309 1 = some (.iload 1, 1) := by decide +kernel
theorem c309_2 : cd 309 2 = some (.invokevirtual 312, 3) := by decide +kernel
theorem c309_5 : cd 309 5 = some (.aload 0, 1) := by decide +kernel
theorem c309_6 : cd 309 6 = some (.sipush 22, 2) := by decide +kernel
theorem c309_8 : cd 309 8 = some (.invokevirtual 109, 3) := by decide +kernel
theorem c309_11 : cd 309 11 = some (.ifCond .ne 23, 3) := by decide +kernel
theorem c309_14 : cd 309 14 = some (.aload 0, 1) := by decide +kernel
theorem c309_15 : cd 309 15 = some (.sipush 23, 2) := by decide +kernel
theorem c309_17 : cd 309 17 = some (.invokevirtual 109, 3) := by decide +kernel
theorem c309_20 : cd 309 20 = some (.ifCond .eq 59, 3) := by decide +kernel
theorem c309_23 : cd 309 23 = some (.aload 0, 1) := by decide +kernel
theorem c309_24 : cd 309 24 = some (.getfield 3108, 3) := by decide +kernel
theorem c309_27 : cd 309 27 = some (.sipush 22, 2) := by decide +kernel
theorem c309_29 : cd 309 29 = some (.if_icmp .ne 38, 3) := by decide +kernel
theorem c309_32 : cd 309 32 = some (.sipush 3000, 3) := by decide +kernel
theorem c309_35 : cd 309 35 = some (.goto 41, 3) := by decide +kernel
theorem c309_38 : cd 309 38 = some (.sipush 3001, 3) := by decide +kernel
theorem c309_41 : cd 309 41 = some (.istore 2, 1) := by decide +kernel
theorem c309_42 : cd 309 42 = some (.aload 0, 1) := by decide +kernel
theorem c309_43 : cd 309 43 = some (.invokevirtual 106, 3) := by decide +kernel
theorem c309_46 : cd 309 46 = some (.aload 0, 1) := by decide +kernel
theorem c309_47 : cd 309 47 = some (.iload 1, 1) := by decide +kernel
theorem c309_48 : cd 309 48 = some (.invokevirtual 312, 3) := by decide +kernel
theorem c309_51 : cd 309 51 = some (.aload 0, 1) := by decide +kernel
theorem c309_52 : cd 309 52 = some (.iload 2, 1) := by decide +kernel
theorem c309_53 : cd 309 53 = some (.invokevirtual 281, 3) := by decide +kernel
theorem c309_56 : cd 309 56 = some (.goto 5, 3) := by decide +kernel
theorem c309_59 : cd 309 59 = some (.return_, 1) := by decide +kernel
theorem g309_0 {d : Nat} {a1 : Int} {x2 : Option aV} {w : aW} {Q : Option aV → aW → Prop} : T (d + 1) 309 0 [some (vr 167), some (vi a1), x2] [] w Q = T d 312 0 [some (vr 167), some (vi a1)] [] w (fun r w1 => T (d + 1) 309 5 [some (vr 167), some (vi a1), x2] (r.toList ++ []) w1 Q) := by
  rw [T_aload_0 c309_0, T_iload_1 c309_1, T_invv (es := [some (vr 167), some (vi a1)]) (st := [vi a1, vr 167]) (ks := [2, 0]) (n := 2) (c := 12) (k := 167) (as := [vi a1]) (rest := []) c309_2 (by decide +kernel) (by decide +kernel) (by decide +kernel) (by decide) rfl rfl (Nat.le_of_ble_eq_true rfl)]
  all_goals try simp only [lay_167, true_and, Nat.reduceAdd, eq_self_iff_true]
theorem g309_5 {d : Nat} {x1 x2 : Option aV} {w : aW} {Q : Option aV → aW → Prop} : T (d + 1) 309 5 [some (vr 167), x1, x2] [] w Q = T d 109 0 [some (vr 167), some (vi 22)] [] w (fun r w1 => T (d + 1) 309 11 [some (vr 167), x1, x2] (r.toList ++ []) w1 Q) := by
  rw [T_aload_0 c309_5, T_sipush c309_6, T_invv (es := [some (vr 167), some (vi 22)]) (st := [vi 22, vr 167]) (ks := [2, 0]) (n := 2) (c := 12) (k := 167) (as := [vi 22]) (rest := []) c309_8 (by decide +kernel) (by decide +kernel) (by decide +kernel) (by decide) rfl rfl (Nat.le_of_ble_eq_true rfl)]
  all_goals try simp only [lay_167, true_and, Nat.reduceAdd, eq_self_iff_true]
theorem g309_11 {d : Nat} {s0 : Int} {x1 x2 : Option aV} {w : aW} {Q : Option aV → aW → Prop} : T (d + 1) 309 11 [some (vr 167), x1, x2] [vi s0] w Q = ((¬ s0 = 0 → T (d + 1) 309 23 [some (vr 167), x1, x2] [] w Q) ∧ (¬ (¬ s0 = 0) → T d 109 0 [some (vr 167), some (vi 23)] [] w (fun r w1 => T (d + 1) 309 20 [some (vr 167), x1, x2] (r.toList ++ []) w1 Q))) := by
  rw [T_if_ne 23 c309_11 rfl, T_aload_0 c309_14, T_sipush c309_15, T_invv (es := [some (vr 167), some (vi 23)]) (st := [vi 23, vr 167]) (ks := [2, 0]) (n := 2) (c := 12) (k := 167) (as := [vi 23]) (rest := []) c309_17 (by decide +kernel) (by decide +kernel) (by decide +kernel) (by decide) rfl rfl (Nat.le_of_ble_eq_true rfl)]
  all_goals try simp only [Int.reduceToNat, lay_167, true_and, Nat.reduceAdd, eq_self_iff_true]
theorem g309_20 {d : Nat} {s0 : Int} {x0 x1 x2 : Option aV} {w : aW} {Q : Option aV → aW → Prop} : T d 309 20 [x0, x1, x2] [vi s0] w Q = ((s0 = 0 → Q none w) ∧ (¬ (s0 = 0) → T d 309 23 [x0, x1, x2] [] w Q)) := by
  rw [T_if_eq 59 c309_20 rfl, T_vret c309_59 (by decide +kernel)]
  all_goals try simp only [Int.reduceToNat, true_and, Nat.reduceAdd, eq_self_iff_true]
theorem g309_23 {d : Nat} {x1 x2 : Option aV} {w : aW} {Q : Option aV → aW → Prop} : T d 309 23 [some (vr 167), x1, x2] [] w Q = ((¬ w 167 9 = 22 → T d 309 41 [some (vr 167), x1, x2] [vi 3001] w Q) ∧ (¬ (¬ w 167 9 = 22) → T d 309 41 [some (vr 167), x1, x2] [vi 3000] w Q)) := by
  rw [T_aload_0 c309_23, T_getI 12 9 9 c309_24 rfl rfl rfl rfl, T_sipush c309_27, T_icmp_ne 38 c309_29 rfl, T_sipush c309_38, T_sipush c309_32, T_goto 41 c309_35 rfl]
  all_goals try simp only [Int.reduceToNat, lay_167, true_and, Nat.reduceAdd, eq_self_iff_true]
theorem g309_41 {d : Nat} {s0 : Int} {x1 x2 : Option aV} {w : aW} {Q : Option aV → aW → Prop} : T (d + 1) 309 41 [some (vr 167), x1, x2] [vi s0] w Q = T d 106 0 [some (vr 167), none] [] w (fun r w1 => T (d + 1) 309 46 [some (vr 167), x1, some (vi s0)] (r.toList ++ []) w1 Q) := by
  rw [T_istore_2 c309_41, T_aload_0 c309_42, T_invv (es := [some (vr 167), none]) (st := [vr 167]) (ks := [2]) (n := 2) (c := 12) (k := 167) (as := []) (rest := []) c309_43 (by decide +kernel) (by decide +kernel) (by decide +kernel) (by decide) rfl rfl (Nat.le_of_ble_eq_true rfl)]
  all_goals try simp only [lay_167, true_and, Nat.reduceAdd, eq_self_iff_true]
theorem g309_46 {d : Nat} {a1 : Int} {x2 : Option aV} {w : aW} {Q : Option aV → aW → Prop} : T (d + 1) 309 46 [some (vr 167), some (vi a1), x2] [] w Q = T d 312 0 [some (vr 167), some (vi a1)] [] w (fun r w1 => T (d + 1) 309 51 [some (vr 167), some (vi a1), x2] (r.toList ++ []) w1 Q) := by
  rw [T_aload_0 c309_46, T_iload_1 c309_47, T_invv (es := [some (vr 167), some (vi a1)]) (st := [vi a1, vr 167]) (ks := [2, 0]) (n := 2) (c := 12) (k := 167) (as := [vi a1]) (rest := []) c309_48 (by decide +kernel) (by decide +kernel) (by decide +kernel) (by decide) rfl rfl (Nat.le_of_ble_eq_true rfl)]
  all_goals try simp only [lay_167, true_and, Nat.reduceAdd, eq_self_iff_true]
theorem g309_51 {d : Nat} {a2 : Int} {x1 : Option aV} {w : aW} {Q : Option aV → aW → Prop} : T (d + 1) 309 51 [some (vr 167), x1, some (vi a2)] [] w Q = T d 281 0 [some (vr 167), some (vi a2)] [] w (fun r w1 => T (d + 1) 309 56 [some (vr 167), x1, some (vi a2)] (r.toList ++ []) w1 Q) := by
  rw [T_aload_0 c309_51, T_iload_2 c309_52, T_invv (es := [some (vr 167), some (vi a2)]) (st := [vi a2, vr 167]) (ks := [2, 0]) (n := 2) (c := 12) (k := 167) (as := [vi a2]) (rest := []) c309_53 (by decide +kernel) (by decide +kernel) (by decide +kernel) (by decide) rfl rfl (Nat.le_of_ble_eq_true rfl)]
  all_goals try simp only [lay_167, true_and, Nat.reduceAdd, eq_self_iff_true]
theorem g309_56 {d : Nat} {x0 x1 x2 : Option aV} {w : aW} {Q : Option aV → aW → Prop} : T d 309 56 [x0, x1, x2] [] w Q = T d 309 5 [x0, x1, x2] [] w Q := by
  rw [T_goto 5 c309_56 rfl]
  all_goals try simp only [true_and, Nat.reduceAdd, eq_self_iff_true]
/-! 310: java/lang/StringLatin1.indexOf.([BIII)I -/
theorem c310_0 : cd 310 0 = some (.iload 1, 1) := by decide +kernel
theorem c310_1 : cd 310 1 = some (.invokestatic 313, 3) := by decide +kernel
theorem c310_4 : cd 310 4 = some (.ifCond .ne 9, 3) := by decide +kernel
theorem c310_7 : cd 310 7 = some (.sipush (-1), 1) := by decide +kernel
theorem c310_8 : cd 310 8 = some (.ireturn, 1) := by decide +kernel
theorem c310_9 : cd 310 9 = some (.iload 2, 1) := by decide +kernel
theorem c310_10 : cd 310 10 = some (.sipush 0, 1) := by decide +kernel
theorem c310_11 : cd 310 11 = some (.invokedynamic 2, 3) := by decide +kernel
theorem c310_14 : cd 310 14 = some (.istore 2, 1) := by decide +kernel
theorem c310_15 : cd 310 15 = some (.iload 3, 1) := by decide +kernel
theorem c310_16 : cd 310 16 = some (.aload 0, 1) := by decide +kernel
theorem c310_17 : cd 310 17 = some (.arraylength, 1) := by decide +kernel
theorem c310_18 : cd 310 18 = some (.invokedynamic 1, 3) := by decide +kernel
theorem c310_21 : cd 310 21 = some (.istore 3, 1) := by decide +kernel
theorem c310_22 : cd 310 22 = some (.iload 2, 1) := by decide +kernel
theorem c310_23 : cd 310 23 = some (.iload 3, 1) := by decide +kernel
theorem c310_24 : cd 310 24 = some (.if_icmp .lt 29, 3) := by decide +kernel
theorem c310_27 : cd 310 27 = some (.sipush (-1), 1) := by decide +kernel
theorem c310_28 : cd 310 28 = some (.ireturn, 1) := by decide +kernel
theorem c310_29 : cd 310 29 = some (.aload 0, 1) := by decide +kernel
theorem c310_30 : cd 310 30 = some (.iload 1, 1) := by decide +kernel
theorem c310_31 : cd 310 31 = some (.iload 2, 1) := by decide +kernel
theorem c310_32 : cd 310 32 = some (.iload 3, 1) := by decide +kernel
theorem c310_33 : cd 310 33 = some (.invokestatic 314, 3) := by decide +kernel
theorem c310_36 : cd 310 36 = some (.ireturn, 1) := by decide +kernel
theorem g310_0 {d : Nat} {a1 : Int} {x0 x2 x3 : Option aV} {w : aW} {Q : Option aV → aW → Prop} : T (d + 1) 310 0 [x0, some (vi a1), x2, x3] [] w Q = T d 313 0 [some (vi a1)] [] w (fun r w1 => T (d + 1) 310 4 [x0, some (vi a1), x2, x3] (r.toList ++ []) w1 Q) := by
  rw [T_iload_1 c310_0, T_inv (es := [some (vi a1)]) (st := [vi a1]) (ks := [0]) (n := 1) (as := [vi a1]) (rest := []) c310_1 (by decide +kernel) (by decide +kernel) rfl rfl (Nat.le_of_ble_eq_true rfl)]
  all_goals try simp only [true_and, Nat.reduceAdd, eq_self_iff_true]
theorem g310_4 {d : Nat} {a1 a2 a3 s0 : Int} {r0 : Nat} {w : aW} {Q : Option aV → aW → Prop} : T (d + 1) 310 4 [some (vr r0), some (vi a1), some (vi a2), some (vi a3)] [vi s0] w Q = ((¬ s0 = 0 → (alok r0 ∧ (((if a2 < 0 then 0 else a2) < (if alv w r0 < a3 then alv w r0 else a3) → T d 314 0 [some (vr r0), some (vi a1), some (vi (if a2 < 0 then 0 else a2)), some (vi (if alv w r0 < a3 then alv w r0 else a3)), none, none] [] w (fun r w1 => T (d + 1) 310 36 [some (vr r0), some (vi a1), some (vi (if a2 < 0 then 0 else a2)), some (vi (if alv w r0 < a3 then alv w r0 else a3))] (r.toList ++ []) w1 Q)) ∧ (¬ ((if a2 < 0 then 0 else a2) < (if alv w r0 < a3 then alv w r0 else a3)) → Q (some (vi (-1))) w)))) ∧ (¬ (¬ s0 = 0) → Q (some (vi (-1))) w)) := by
  rw [T_if_ne 9 c310_4 rfl, T_iload_2 c310_9, T_sipush c310_10, T_max (st := []) c310_11 (Nat.le_of_ble_eq_true rfl), T_istore_2 c310_14, T_iload_3 c310_15, T_aload_0 c310_16, T_alen c310_17, T_min (st := []) c310_18 (Nat.le_of_ble_eq_true rfl), T_istore_3 c310_21, T_iload_2 c310_22, T_iload_3 c310_23, T_icmp_lt 29 c310_24 rfl, T_aload_0 c310_29, T_iload_1 c310_30, T_iload_2 c310_31, T_iload_3 c310_32, T_inv (es := [some (vr r0), some (vi a1), some (vi (if a2 < 0 then 0 else a2)), some (vi (if alv w r0 < a3 then alv w r0 else a3)), none, none]) (st := [vi (if alv w r0 < a3 then alv w r0 else a3), vi (if a2 < 0 then 0 else a2), vi a1, vr r0]) (ks := [2, 0, 0, 0]) (n := 6) (as := [vr r0, vi a1, vi (if a2 < 0 then 0 else a2), vi (if alv w r0 < a3 then alv w r0 else a3)]) (rest := []) c310_33 (by decide +kernel) (by decide +kernel) rfl rfl (Nat.le_of_ble_eq_true rfl), T_sipush c310_27, T_ireti c310_28 (by decide +kernel), T_sipush c310_7, T_ireti c310_8 (by decide +kernel)]
  all_goals try simp only [Int.reduceToNat, true_and, Nat.reduceAdd, eq_self_iff_true]
theorem g310_36 {d : Nat} {s0 : Int} {x0 x1 x2 x3 : Option aV} {w : aW} {Q : Option aV → aW → Prop} : T d 310 36 [x0, x1, x2, x3] [vi s0] w Q = Q (some (vi s0)) w := by
  rw [T_ireti c310_36 (by decide +kernel)]
  all_goals try simp only [true_and, Nat.reduceAdd, eq_self_iff_true]
/-! 311: StringHands$Reader.readCompared.(I)Z -/
theorem c311_0 : cd 311 0 = some (.aload 0, 1) := by decide +kernel
theorem c311_1 : cd 311 1 = some (.iload 1, 1) := by decide +kernel
theorem c311_2 : cd 311 2 = some (.invokevirtual 315, 3) := by decide +kernel
theorem c311_5 : cd 311 5 = some (.ifCond .ne 10, 3) := by decide +kernel
theorem c311_8 : cd 311 8 = some (.sipush 0, 1) := by decide +kernel
theorem c311_9 : cd 311 9 = some (.ireturn, 1) := by decide +kernel
theorem c311_10 : cd 311 10 = some (.aload 0, 1) := by decide +kernel
theorem c311_11 : cd 311 11 = some (.getfield 1064, 3) := by decide +kernel
theorem c311_14 : cd 311 14 = some (.sipush 61, 2) := by decide +kernel
theorem c311_16 : cd 311 16 = some (.if_icmp .ne 24, 3) := by decide +kernel
theorem c311_19 : cd 311 19 = some (.sipush 7, 2) := by decide +kernel
theorem c311_21 : cd 311 21 = some (.goto 40, 3) := by decide +kernel
theorem c311_24 : cd 311 24 = some (.aload 0, 1) := by decide +kernel
theorem c311_25 : cd 311 25 = some (.getfield 1064, 3) := by decide +kernel
theorem c311_28 : cd 311 28 = some (.sipush 60, 2) := by decide +kernel
theorem c311_30 : cd 311 30 = some (.if_icmp .ne 38, 3) := by decide +kernel
theorem c311_33 : cd 311 33 = some (.sipush 8, 2) := by decide +kernel
theorem c311_35 : cd 311 35 = some (.goto 40, 3) := by decide +kernel
theorem c311_38 : cd 311 38 = some (.sipush 9, 2) := by decide +kernel
theorem c311_40 : cd 311 40 = some (.istore 2, 1) := by decide +kernel
theorem c311_41 : cd 311 41 = some (.iload 2, 1) := by decide +kernel
theorem c311_42 : cd 311 42 = some (.sipush 9, 2) := by decide +kernel
theorem c311_44 : cd 311 44 = some (.if_icmp .ne 58, 3) := by decide +kernel
theorem c311_47 : cd 311 47 = some (.aload 0, 1) := by decide +kernel
theorem c311_48 : cd 311 48 = some (.sipush 62, 2) := by decide +kernel
theorem c311_50 : cd 311 50 = some (.invokevirtual 220, 3) := by decide +kernel
theorem c311_53 : cd 311 53 = some (.ifCond .ne 58, 3) := by decide +kernel
theorem c311_56 : cd 311 56 = some (.sipush 0, 1) := by decide +kernel
theorem c311_57 : cd 311 57 = some (.ireturn, 1) := by decide +kernel
theorem c311_58 : cd 311 58 = some (.aload 0, 1) := by decide +kernel
theorem c311_59 : cd 311 59 = some (.invokevirtual 212, 3) := by decide +kernel
theorem c311_62 : cd 311 62 = some (.ifCond .eq 73, 3) := by decide +kernel
theorem c311_65 : cd 311 65 = some (.aload 0, 1) := by decide +kernel
theorem c311_66 : cd 311 66 = some (.iload 1, 1) := by decide +kernel
theorem c311_67 : cd 311 67 = some (.invokevirtual 315, 3) := by decide +kernel
theorem c311_70 : cd 311 70 = some (.ifCond .ne 75, 3) := by decide +kernel
theorem c311_73 : cd 311 73 = some (.sipush 0, 1) := by decide +kernel
theorem c311_74 : cd 311 74 = some (.ireturn, 1) := by decide +kernel
theorem c311_75 : cd 311 75 = some (.aload 0, 1) := by decide +kernel
theorem c311_76 : cd 311 76 = some (.getfield 1042, 3) := by decide +kernel
theorem c311_79 : cd 311 79 = some (.iload 2, 1) := by decide +kernel
theorem c311_80 : cd 311 80 = some (.sipush 0, 1) := by decide +kernel
theorem c311_81 : cd 311 81 = some (.invokevirtual 298, 3) := by decide +kernel
theorem c311_84 : cd 311 84 = some (.sipush 1, 1) := by decide +kernel
theorem c311_85 : cd 311 85 = some (.ireturn, 1) := by decide +kernel
theorem g311_0 {d : Nat} {a1 : Int} {x2 : Option aV} {w : aW} {Q : Option aV → aW → Prop} : T (d + 1) 311 0 [some (vr 1), some (vi a1), x2] [] w Q = T d 315 0 [some (vr 1), some (vi a1), none, none] [] w (fun r w1 => T (d + 1) 311 5 [some (vr 1), some (vi a1), x2] (r.toList ++ []) w1 Q) := by
  rw [T_aload_0 c311_0, T_iload_1 c311_1, T_invv (es := [some (vr 1), some (vi a1), none, none]) (st := [vi a1, vr 1]) (ks := [2, 0]) (n := 4) (c := 4) (k := 1) (as := [vi a1]) (rest := []) c311_2 (by decide +kernel) (by decide +kernel) (by decide +kernel) (by decide) rfl rfl (Nat.le_of_ble_eq_true rfl)]
  all_goals try simp only [lay_1, true_and, Nat.reduceAdd, eq_self_iff_true]
theorem g311_5 {d : Nat} {s0 : Int} {x1 x2 : Option aV} {w : aW} {Q : Option aV → aW → Prop} : T d 311 5 [some (vr 1), x1, x2] [vi s0] w Q = ((¬ s0 = 0 → ((¬ w 1 10 = 61 → ((¬ w 1 10 = 60 → T d 311 40 [some (vr 1), x1, x2] [vi 9] w Q) ∧ (¬ (¬ w 1 10 = 60) → T d 311 40 [some (vr 1), x1, x2] [vi 8] w Q))) ∧ (¬ (¬ w 1 10 = 61) → T d 311 40 [some (vr 1), x1, x2] [vi 7] w Q))) ∧ (¬ (¬ s0 = 0) → Q (some (vi 0)) w)) := by
  rw [T_if_ne 10 c311_5 rfl, T_aload_0 c311_10, T_getI 4 10 10 c311_11 rfl rfl rfl rfl, T_sipush c311_14, T_icmp_ne 24 c311_16 rfl, T_aload_0 c311_24, T_getI 4 10 10 c311_25 rfl rfl rfl rfl, T_sipush c311_28, T_icmp_ne 38 c311_30 rfl, T_sipush c311_38, T_sipush c311_33, T_goto 40 c311_35 rfl, T_sipush c311_19, T_goto 40 c311_21 rfl, T_sipush c311_8, T_iretz c311_9 (by decide +kernel)]
  all_goals try simp only [Int.reduceToNat, lay_1, true_and, Nat.reduceAdd, eq_self_iff_true, zero_eq_1, one_eq_0, true_or, or_true]
theorem g311_40 {d : Nat} {s0 : Int} {x1 x2 : Option aV} {w : aW} {Q : Option aV → aW → Prop} : T (d + 1) 311 40 [some (vr 1), x1, x2] [vi s0] w Q = ((¬ s0 = 9 → T (d + 1) 311 58 [some (vr 1), x1, some (vi s0)] [] w Q) ∧ (¬ (¬ s0 = 9) → T d 220 0 [some (vr 1), some (vi 62)] [] w (fun r w1 => T (d + 1) 311 53 [some (vr 1), x1, some (vi s0)] (r.toList ++ []) w1 Q))) := by
  rw [T_istore_2 c311_40, T_iload_2 c311_41, T_sipush c311_42, T_icmp_ne 58 c311_44 rfl, T_aload_0 c311_47, T_sipush c311_48, T_invv (es := [some (vr 1), some (vi 62)]) (st := [vi 62, vr 1]) (ks := [2, 0]) (n := 2) (c := 4) (k := 1) (as := [vi 62]) (rest := []) c311_50 (by decide +kernel) (by decide +kernel) (by decide +kernel) (by decide) rfl rfl (Nat.le_of_ble_eq_true rfl)]
  all_goals try simp only [Int.reduceToNat, lay_1, true_and, Nat.reduceAdd, eq_self_iff_true]
theorem g311_53 {d : Nat} {s0 : Int} {x0 x1 x2 : Option aV} {w : aW} {Q : Option aV → aW → Prop} : T d 311 53 [x0, x1, x2] [vi s0] w Q = ((¬ s0 = 0 → T d 311 58 [x0, x1, x2] [] w Q) ∧ (¬ (¬ s0 = 0) → Q (some (vi 0)) w)) := by
  rw [T_if_ne 58 c311_53 rfl, T_sipush c311_56, T_iretz c311_57 (by decide +kernel)]
  all_goals try simp only [Int.reduceToNat, true_and, Nat.reduceAdd, eq_self_iff_true, zero_eq_1, one_eq_0, true_or, or_true]
theorem g311_58 {d : Nat} {x1 x2 : Option aV} {w : aW} {Q : Option aV → aW → Prop} : T (d + 1) 311 58 [some (vr 1), x1, x2] [] w Q = T d 212 0 [some (vr 1)] [] w (fun r w1 => T (d + 1) 311 62 [some (vr 1), x1, x2] (r.toList ++ []) w1 Q) := by
  rw [T_aload_0 c311_58, T_invv (es := [some (vr 1)]) (st := [vr 1]) (ks := [2]) (n := 1) (c := 4) (k := 1) (as := []) (rest := []) c311_59 (by decide +kernel) (by decide +kernel) (by decide +kernel) (by decide) rfl rfl (Nat.le_of_ble_eq_true rfl)]
  all_goals try simp only [lay_1, true_and, Nat.reduceAdd, eq_self_iff_true]
theorem g311_62 {d : Nat} {a1 s0 : Int} {x2 : Option aV} {w : aW} {Q : Option aV → aW → Prop} : T (d + 1) 311 62 [some (vr 1), some (vi a1), x2] [vi s0] w Q = ((s0 = 0 → T (d + 1) 311 73 [some (vr 1), some (vi a1), x2] [] w Q) ∧ (¬ (s0 = 0) → T d 315 0 [some (vr 1), some (vi a1), none, none] [] w (fun r w1 => T (d + 1) 311 70 [some (vr 1), some (vi a1), x2] (r.toList ++ []) w1 Q))) := by
  rw [T_if_eq 73 c311_62 rfl, T_aload_0 c311_65, T_iload_1 c311_66, T_invv (es := [some (vr 1), some (vi a1), none, none]) (st := [vi a1, vr 1]) (ks := [2, 0]) (n := 4) (c := 4) (k := 1) (as := [vi a1]) (rest := []) c311_67 (by decide +kernel) (by decide +kernel) (by decide +kernel) (by decide) rfl rfl (Nat.le_of_ble_eq_true rfl)]
  all_goals try simp only [Int.reduceToNat, lay_1, true_and, Nat.reduceAdd, eq_self_iff_true]
theorem g311_70 {d : Nat} {a2 s0 : Int} {x1 : Option aV} {w : aW} {Q : Option aV → aW → Prop} : T (d + 1) 311 70 [some (vr 1), x1, some (vi a2)] [vi s0] w Q = ((¬ s0 = 0 → T d 298 0 [some (vr 3), some (vi a2), some (vi 0)] [] w (fun r w1 => T (d + 1) 311 84 [some (vr 1), x1, some (vi a2)] (r.toList ++ []) w1 Q)) ∧ (¬ (¬ s0 = 0) → T (d + 1) 311 73 [some (vr 1), x1, some (vi a2)] [] w Q)) := by
  rw [T_if_ne 75 c311_70 rfl, T_aload_0 c311_75, T_getR 4 4 4 c311_76 rfl rfl rfl rfl, rf_1_4, T_iload_2 c311_79, T_sipush c311_80, T_invv (es := [some (vr 3), some (vi a2), some (vi 0)]) (st := [vi 0, vi a2, vr 3]) (ks := [2, 0, 0]) (n := 3) (c := 8) (k := 3) (as := [vi a2, vi 0]) (rest := []) c311_81 (by decide +kernel) (by decide +kernel) (by decide +kernel) (by decide) rfl rfl (Nat.le_of_ble_eq_true rfl)]
  all_goals try simp only [Int.reduceToNat, lay_1, lay_3, true_and, Nat.reduceAdd, eq_self_iff_true]
theorem g311_73 {d : Nat} {x0 x1 x2 : Option aV} {w : aW} {Q : Option aV → aW → Prop} : T d 311 73 [x0, x1, x2] [] w Q = Q (some (vi 0)) w := by
  rw [T_sipush c311_73, T_iretz c311_74 (by decide +kernel)]
  all_goals try simp only [true_and, Nat.reduceAdd, eq_self_iff_true, zero_eq_1, one_eq_0, true_or, or_true]
theorem g311_84 {d : Nat} {x0 x1 x2 : Option aV} {w : aW} {Q : Option aV → aW → Prop} : T d 311 84 [x0, x1, x2] [] w Q = Q (some (vi 1)) w := by
  rw [T_sipush c311_84, T_iretz c311_85 (by decide +kernel)]
  all_goals try simp only [true_and, Nat.reduceAdd, eq_self_iff_true, zero_eq_1, one_eq_0, true_or, or_true]
/-! 312: StringHandsModel.readTerm.(I)V -/
theorem c312_0 : cd 312 0 = some (.aload 0, 1) := by decide +kernel
theorem c312_1 : cd 312 1 = some (.iload 1, 1) := by decide +kernel
theorem c312_2 : cd 312 2 = some (.invokevirtual 316, 3) := by decide +kernel
theorem c312_5 : cd 312 5 = some (.aload 0, 1) := by decide +kernel
theorem c312_6 : cd 312 6 = some (.sipush 24, 2) := by decide +kernel
theorem c312_8 : cd 312 8 = some (.invokevirtual 107, 3) := by decide +kernel
theorem c312_11 : cd 312 11 = some (.ifCond .eq 29, 3) := by decide +kernel
theorem c312_14 : cd 312 14 = some (.aload 0, 1) := by decide +kernel
theorem c312_15 : cd 312 15 = some (.iload 1, 1) := by decide +kernel
theorem c312_16 : cd 312 16 = some (.invokevirtual 316, 3) := by decide +kernel
theorem c312_19 : cd 312 19 = some (.aload 0, 1) := by decide +kernel
theorem c312_20 : cd 312 20 = some (.sipush 3002, 3) := by decide +kernel
theorem c312_23 : cd 312 23 = some (.invokevirtual 281, 3) := by decide +kernel
theorem c312_26 : cd 312 26 = some (.goto 5, 3) := by decide +kernel
theorem c312_29 : cd 312 29 = some (.return_, 1) := by decide +kernel
theorem g312_0 {d : Nat} {a1 : Int} {w : aW} {Q : Option aV → aW → Prop} : T (d + 1) 312 0 [some (vr 167), some (vi a1)] [] w Q = T d 316 0 [some (vr 167), some (vi a1)] [] w (fun r w1 => T (d + 1) 312 5 [some (vr 167), some (vi a1)] (r.toList ++ []) w1 Q) := by
  rw [T_aload_0 c312_0, T_iload_1 c312_1, T_invv (es := [some (vr 167), some (vi a1)]) (st := [vi a1, vr 167]) (ks := [2, 0]) (n := 2) (c := 12) (k := 167) (as := [vi a1]) (rest := []) c312_2 (by decide +kernel) (by decide +kernel) (by decide +kernel) (by decide) rfl rfl (Nat.le_of_ble_eq_true rfl)]
  all_goals try simp only [lay_167, true_and, Nat.reduceAdd, eq_self_iff_true]
theorem g312_5 {d : Nat} {x1 : Option aV} {w : aW} {Q : Option aV → aW → Prop} : T (d + 1) 312 5 [some (vr 167), x1] [] w Q = T d 107 0 [some (vr 167), some (vi 24)] [] w (fun r w1 => T (d + 1) 312 11 [some (vr 167), x1] (r.toList ++ []) w1 Q) := by
  rw [T_aload_0 c312_5, T_sipush c312_6, T_invv (es := [some (vr 167), some (vi 24)]) (st := [vi 24, vr 167]) (ks := [2, 0]) (n := 2) (c := 12) (k := 167) (as := [vi 24]) (rest := []) c312_8 (by decide +kernel) (by decide +kernel) (by decide +kernel) (by decide) rfl rfl (Nat.le_of_ble_eq_true rfl)]
  all_goals try simp only [lay_167, true_and, Nat.reduceAdd, eq_self_iff_true]
theorem g312_11 {d : Nat} {a1 s0 : Int} {w : aW} {Q : Option aV → aW → Prop} : T (d + 1) 312 11 [some (vr 167), some (vi a1)] [vi s0] w Q = ((s0 = 0 → Q none w) ∧ (¬ (s0 = 0) → T d 316 0 [some (vr 167), some (vi a1)] [] w (fun r w1 => T (d + 1) 312 19 [some (vr 167), some (vi a1)] (r.toList ++ []) w1 Q))) := by
  rw [T_if_eq 29 c312_11 rfl, T_vret c312_29 (by decide +kernel), T_aload_0 c312_14, T_iload_1 c312_15, T_invv (es := [some (vr 167), some (vi a1)]) (st := [vi a1, vr 167]) (ks := [2, 0]) (n := 2) (c := 12) (k := 167) (as := [vi a1]) (rest := []) c312_16 (by decide +kernel) (by decide +kernel) (by decide +kernel) (by decide) rfl rfl (Nat.le_of_ble_eq_true rfl)]
  all_goals try simp only [Int.reduceToNat, lay_167, true_and, Nat.reduceAdd, eq_self_iff_true]
theorem g312_19 {d : Nat} {x1 : Option aV} {w : aW} {Q : Option aV → aW → Prop} : T (d + 1) 312 19 [some (vr 167), x1] [] w Q = T d 281 0 [some (vr 167), some (vi 3002)] [] w (fun r w1 => T (d + 1) 312 26 [some (vr 167), x1] (r.toList ++ []) w1 Q) := by
  rw [T_aload_0 c312_19, T_sipush c312_20, T_invv (es := [some (vr 167), some (vi 3002)]) (st := [vi 3002, vr 167]) (ks := [2, 0]) (n := 2) (c := 12) (k := 167) (as := [vi 3002]) (rest := []) c312_23 (by decide +kernel) (by decide +kernel) (by decide +kernel) (by decide) rfl rfl (Nat.le_of_ble_eq_true rfl)]
  all_goals try simp only [lay_167, true_and, Nat.reduceAdd, eq_self_iff_true]
theorem g312_26 {d : Nat} {x0 x1 : Option aV} {w : aW} {Q : Option aV → aW → Prop} : T d 312 26 [x0, x1] [] w Q = T d 312 5 [x0, x1] [] w Q := by
  rw [T_goto 5 c312_26 rfl]
  all_goals try simp only [true_and, Nat.reduceAdd, eq_self_iff_true]
/-! 313: java/lang/StringLatin1.canEncode.(I)Z -/
theorem c313_0 : cd 313 0 = some (.iload 0, 1) := by decide +kernel
theorem c313_1 : cd 313 1 = some (.ifCond .lt 15, 3) := by decide +kernel
theorem c313_4 : cd 313 4 = some (.iload 0, 1) := by decide +kernel
theorem c313_5 : cd 313 5 = some (.sipush 255, 3) := by decide +kernel
theorem c313_8 : cd 313 8 = some (.if_icmp .gt 15, 3) := by decide +kernel
theorem c313_11 : cd 313 11 = some (.sipush 1, 1) := by decide +kernel
theorem c313_12 : cd 313 12 = some (.goto 16, 3) := by decide +kernel
theorem c313_15 : cd 313 15 = some (.sipush 0, 1) := by decide +kernel
theorem c313_16 : cd 313 16 = some (.ireturn, 1) := by decide +kernel
theorem g313_0 {d : Nat} {a0 : Int} {w : aW} {Q : Option aV → aW → Prop} : T d 313 0 [some (vi a0)] [] w Q = ((a0 < 0 → T d 313 15 [some (vi a0)] [] w Q) ∧ (¬ (a0 < 0) → ((255 < a0 → T d 313 15 [some (vi a0)] [] w Q) ∧ (¬ (255 < a0) → T d 313 16 [some (vi a0)] [vi 1] w Q)))) := by
  rw [T_iload_0 c313_0, T_if_lt 15 c313_1 rfl, T_iload_0 c313_4, T_sipush c313_5, T_icmp_gt 15 c313_8 rfl, T_sipush c313_11, T_goto 16 c313_12 rfl]
  all_goals try simp only [Int.reduceToNat, true_and, Nat.reduceAdd, eq_self_iff_true]
theorem g313_15 {d : Nat} {x0 : Option aV} {w : aW} {Q : Option aV → aW → Prop} : T d 313 15 [x0] [] w Q = T d 313 16 [x0] [vi 0] w Q := by
  rw [T_sipush c313_15]
  all_goals try simp only [true_and, Nat.reduceAdd, eq_self_iff_true]
theorem g313_16 {d : Nat} {s0 : Int} {x0 : Option aV} {w : aW} {Q : Option aV → aW → Prop} : T d 313 16 [x0] [vi s0] w Q = ((s0 = 0 ∨ s0 = 1) ∧ Q (some (vi s0)) w) := by
  rw [T_iretz c313_16 (by decide +kernel)]
  all_goals try simp only [true_and, Nat.reduceAdd, eq_self_iff_true]
/-! 314: java/lang/StringLatin1.indexOfChar.([BIII)I -/
theorem c314_0 : cd 314 0 = some (.iload 1, 1) := by decide +kernel
theorem c314_1 : cd 314 1 = some (.i2b, 1) := by decide +kernel
theorem c314_2 : cd 314 2 = some (.istore 4, 2) := by decide +kernel
theorem c314_4 : cd 314 4 = some (.iload 2, 1) := by decide +kernel
theorem c314_5 : cd 314 5 = some (.istore 5, 2) := by decide +kernel
theorem c314_7 : cd 314 7 = some (.iload 5, 2) := by decide +kernel
theorem c314_9 : cd 314 9 = some (.iload 3, 1) := by decide +kernel
theorem c314_10 : cd 314 10 = some (.if_icmp .ge 31, 3) := by decide +kernel
theorem c314_13 : cd 314 13 = some (.aload 0, 1) := by decide +kernel
theorem c314_14 : cd 314 14 = some (.iload 5, 2) := by decide +kernel
theorem c314_16 : cd 314 16 = some (.baload, 1) := by decide +kernel
theorem c314_17 : cd 314 17 = some (.iload 4, 2) := by decide +kernel
theorem c314_19 : cd 314 19 = some (.if_icmp .ne 25, 3) := by decide +kernel
theorem c314_22 : cd 314 22 = some (.iload 5, 2) := by decide +kernel
theorem c314_24 : cd 314 24 = some (.ireturn, 1) := by decide +kernel
theorem c314_25 : cd 314 25 = some (.iinc 5 1, 3) := by decide +kernel
theorem c314_28 : cd 314 28 = some (.goto 7, 3) := by decide +kernel
theorem c314_31 : cd 314 31 = some (.sipush (-1), 1) := by decide +kernel
theorem c314_32 : cd 314 32 = some (.ireturn, 1) := by decide +kernel
theorem g314_0 {d : Nat} {a1 a2 : Int} {x0 x3 x4 x5 : Option aV} {w : aW} {Q : Option aV → aW → Prop} : T d 314 0 [x0, some (vi a1), some (vi a2), x3, x4, x5] [] w Q = T d 314 7 [x0, some (vi a1), some (vi a2), x3, some (vi (j8 a1)), some (vi a2)] [] w Q := by
  rw [T_iload_1 c314_0, T_i2b c314_1, T_istore_4 c314_2, T_iload_2 c314_4, T_istore_5 c314_5]
  all_goals try simp only [true_and, Nat.reduceAdd, eq_self_iff_true]
theorem g314_7 {d : Nat} {a3 a4 a5 : Int} {r0 : Nat} {x1 x2 : Option aV} {w : aW} {Q : Option aV → aW → Prop} : T d 314 7 [some (vr r0), x1, x2, some (vi a3), some (vi a4), some (vi a5)] [] w Q = ((a3 ≤ a5 → Q (some (vi (-1))) w) ∧ (¬ (a3 ≤ a5) → (ldbk r0 a5 ∧ ((¬ ldbv w r0 a5 = a4 → T d 314 7 [some (vr r0), x1, x2, some (vi a3), some (vi a4), some (vi (w32 (a5 + 1)))] [] w Q) ∧ (¬ (¬ ldbv w r0 a5 = a4) → Q (some (vi a5)) w))))) := by
  rw [T_iload_5 c314_7, T_iload_3 c314_9, T_icmp_ge 31 c314_10 rfl, T_sipush c314_31, T_ireti c314_32 (by decide +kernel), T_aload_0 c314_13, T_iload_5 c314_14, T_bald c314_16, T_iload_4 c314_17, T_icmp_ne 25 c314_19 rfl, T_iinc_5 c314_25, T_goto 7 c314_28 rfl, T_iload_5 c314_22, T_ireti c314_24 (by decide +kernel)]
  all_goals try simp only [Int.reduceToNat, true_and, Nat.reduceAdd, eq_self_iff_true]
/-! 315: StringHands$Reader.readSum.(I)Z -/
theorem c315_0 : cd 315 0 = some (.aload 0, 1) := by decide +kernel
theorem c315_1 : cd 315 1 = some (.iload 1, 1) := by decide +kernel
theorem c315_2 : cd 315 2 = some (.invokevirtual 317, 3) := by decide +kernel
theorem c315_5 : cd 315 5 = some (.ifCond .ne 10, 3) := by decide +kernel
theorem c315_8 : cd 315 8 = some (.sipush 0, 1) := by decide +kernel
theorem c315_9 : cd 315 9 = some (.ireturn, 1) := by decide +kernel
theorem c315_10 : cd 315 10 = some (.sipush 0, 1) := by decide +kernel
theorem c315_11 : cd 315 11 = some (.istore 2, 1) := by decide +kernel
theorem c315_12 : cd 315 12 = some (.iload 2, 1) := by decide +kernel
theorem c315_13 : cd 315 13 = some (.sipush 900, 3) := by decide +kernel
theorem c315_16 : cd 315 16 = some (.if_icmp .ge 86, 3) := by decide +kernel
theorem c315_19 : cd 315 19 = some (.aload 0, 1) := by decide +kernel
theorem c315_20 : cd 315 20 = some (.getfield 1064, 3) := by decide +kernel
theorem c315_23 : cd 315 23 = some (.sipush 43, 2) := by decide +kernel
theorem c315_25 : cd 315 25 = some (.if_icmp .eq 37, 3) := by decide +kernel
theorem c315_28 : cd 315 28 = some (.aload 0, 1) := by decide +kernel
theorem c315_29 : cd 315 29 = some (.getfield 1064, 3) := by decide +kernel
theorem c315_32 : cd 315 32 = some (.sipush 45, 2) := by decide +kernel
theorem c315_34 : cd 315 34 = some (.if_icmp .ne 86, 3) := by decide +kernel
theorem c315_37 : cd 315 37 = some (.aload 0, 1) := by decide +kernel
theorem c315_38 : cd 315 38 = some (.getfield 1064, 3) := by decide +kernel
theorem c315_41 : cd 315 41 = some (.sipush 43, 2) := by decide +kernel
theorem c315_43 : cd 315 43 = some (.if_icmp .ne 51, 3) := by decide +kernel
theorem c315_46 : cd 315 46 = some (.sipush 10, 2) := by decide +kernel
theorem c315_48 : cd 315 48 = some (.goto 53, 3) := by decide +kernel
theorem c315_51 : cd 315 51 = some (.sipush 11, 2) := by decide +kernel
theorem c315_53 : cd 315 53 = some (.istore 3, 1) := by decide +kernel
theorem c315_54 : cd 315 54 = some (.aload 0, 1) := by decide +kernel
theorem c315_55 : cd 315 55 = some (.invokevirtual 212, 3) := by decide +kernel
theorem c315_58 : cd 315 58 = some (.ifCond .eq 69, 3) := by decide +kernel
theorem c315_61 : cd 315 61 = some (.aload 0, 1) := by decide +kernel
theorem c315_62 : cd 315 62 = some (.iload 1, 1) := by decide +kernel
theorem c315_63 : cd 315 63 = some (.invokevirtual 317, 3) := by decide +kernel
theorem c315_66 : cd 315 66 = some (.ifCond .ne 71, 3) := by decide +kernel
theorem c315_69 : cd 315 69 = some (.sipush 0, 1) := by decide +kernel
theorem c315_70 : cd 315 70 = some (.ireturn, 1) := by decide +kernel
theorem c315_71 : cd 315 71 = some (.aload 0, 1) := by decide +kernel
theorem c315_72 : cd 315 72 = some (.getfield 1042, 3) := by decide +kernel
theorem c315_75 : cd 315 75 = some (.iload 3, 1) := by decide +kernel
theorem c315_76 : cd 315 76 = some (.sipush 0, 1) := by decide +kernel
theorem c315_77 : cd 315 77 = some (.invokevirtual 298, 3) := by decide +kernel
theorem c315_80 : cd 315 80 = some (.iinc 2 1, 3) := by decide +kernel
theorem c315_83 : cd 315 83 = some (.goto 12, 3) := by decide +kernel
theorem c315_86 : cd 315 86 = some (.sipush 1, 1) := by decide +kernel
theorem c315_87 : cd 315 87 = some (.ireturn, 1) := by decide +kernel
theorem g315_0 {d : Nat} {a1 : Int} {x2 x3 : Option aV} {w : aW} {Q : Option aV → aW → Prop} : T (d + 1) 315 0 [some (vr 1), some (vi a1), x2, x3] [] w Q = T d 317 0 [some (vr 1), some (vi a1), none] [] w (fun r w1 => T (d + 1) 315 5 [some (vr 1), some (vi a1), x2, x3] (r.toList ++ []) w1 Q) := by
  rw [T_aload_0 c315_0, T_iload_1 c315_1, T_invv (es := [some (vr 1), some (vi a1), none]) (st := [vi a1, vr 1]) (ks := [2, 0]) (n := 3) (c := 4) (k := 1) (as := [vi a1]) (rest := []) c315_2 (by decide +kernel) (by decide +kernel) (by decide +kernel) (by decide) rfl rfl (Nat.le_of_ble_eq_true rfl)]
  all_goals try simp only [lay_1, true_and, Nat.reduceAdd, eq_self_iff_true]
theorem g315_5 {d : Nat} {s0 : Int} {x0 x1 x2 x3 : Option aV} {w : aW} {Q : Option aV → aW → Prop} : T d 315 5 [x0, x1, x2, x3] [vi s0] w Q = ((¬ s0 = 0 → T d 315 12 [x0, x1, some (vi 0), x3] [] w Q) ∧ (¬ (¬ s0 = 0) → Q (some (vi 0)) w)) := by
  rw [T_if_ne 10 c315_5 rfl, T_sipush c315_10, T_istore_2 c315_11, T_sipush c315_8, T_iretz c315_9 (by decide +kernel)]
  all_goals try simp only [Int.reduceToNat, true_and, Nat.reduceAdd, eq_self_iff_true, zero_eq_1, one_eq_0, true_or, or_true]
theorem g315_12 {d : Nat} {a2 : Int} {x1 x3 : Option aV} {w : aW} {Q : Option aV → aW → Prop} : T d 315 12 [some (vr 1), x1, some (vi a2), x3] [] w Q = ((900 ≤ a2 → T d 315 86 [some (vr 1), x1, some (vi a2), x3] [] w Q) ∧ (¬ (900 ≤ a2) → ((w 1 10 = 43 → T d 315 37 [some (vr 1), x1, some (vi a2), x3] [] w Q) ∧ (¬ (w 1 10 = 43) → ((¬ w 1 10 = 45 → T d 315 86 [some (vr 1), x1, some (vi a2), x3] [] w Q) ∧ (¬ (¬ w 1 10 = 45) → T d 315 37 [some (vr 1), x1, some (vi a2), x3] [] w Q)))))) := by
  rw [T_iload_2 c315_12, T_sipush c315_13, T_icmp_ge 86 c315_16 rfl, T_aload_0 c315_19, T_getI 4 10 10 c315_20 rfl rfl rfl rfl, T_sipush c315_23, T_icmp_eq 37 c315_25 rfl, T_aload_0 c315_28, T_getI 4 10 10 c315_29 rfl rfl rfl rfl, T_sipush c315_32, T_icmp_ne 86 c315_34 rfl]
  all_goals try simp only [Int.reduceToNat, lay_1, true_and, Nat.reduceAdd, eq_self_iff_true]
theorem g315_37 {d : Nat} {x1 x2 x3 : Option aV} {w : aW} {Q : Option aV → aW → Prop} : T d 315 37 [some (vr 1), x1, x2, x3] [] w Q = ((¬ w 1 10 = 43 → T d 315 53 [some (vr 1), x1, x2, x3] [vi 11] w Q) ∧ (¬ (¬ w 1 10 = 43) → T d 315 53 [some (vr 1), x1, x2, x3] [vi 10] w Q)) := by
  rw [T_aload_0 c315_37, T_getI 4 10 10 c315_38 rfl rfl rfl rfl, T_sipush c315_41, T_icmp_ne 51 c315_43 rfl, T_sipush c315_51, T_sipush c315_46, T_goto 53 c315_48 rfl]
  all_goals try simp only [Int.reduceToNat, lay_1, true_and, Nat.reduceAdd, eq_self_iff_true]
theorem g315_53 {d : Nat} {s0 : Int} {x1 x2 x3 : Option aV} {w : aW} {Q : Option aV → aW → Prop} : T (d + 1) 315 53 [some (vr 1), x1, x2, x3] [vi s0] w Q = T d 212 0 [some (vr 1)] [] w (fun r w1 => T (d + 1) 315 58 [some (vr 1), x1, x2, some (vi s0)] (r.toList ++ []) w1 Q) := by
  rw [T_istore_3 c315_53, T_aload_0 c315_54, T_invv (es := [some (vr 1)]) (st := [vr 1]) (ks := [2]) (n := 1) (c := 4) (k := 1) (as := []) (rest := []) c315_55 (by decide +kernel) (by decide +kernel) (by decide +kernel) (by decide) rfl rfl (Nat.le_of_ble_eq_true rfl)]
  all_goals try simp only [lay_1, true_and, Nat.reduceAdd, eq_self_iff_true]
theorem g315_58 {d : Nat} {a1 s0 : Int} {x2 x3 : Option aV} {w : aW} {Q : Option aV → aW → Prop} : T (d + 1) 315 58 [some (vr 1), some (vi a1), x2, x3] [vi s0] w Q = ((s0 = 0 → T (d + 1) 315 69 [some (vr 1), some (vi a1), x2, x3] [] w Q) ∧ (¬ (s0 = 0) → T d 317 0 [some (vr 1), some (vi a1), none] [] w (fun r w1 => T (d + 1) 315 66 [some (vr 1), some (vi a1), x2, x3] (r.toList ++ []) w1 Q))) := by
  rw [T_if_eq 69 c315_58 rfl, T_aload_0 c315_61, T_iload_1 c315_62, T_invv (es := [some (vr 1), some (vi a1), none]) (st := [vi a1, vr 1]) (ks := [2, 0]) (n := 3) (c := 4) (k := 1) (as := [vi a1]) (rest := []) c315_63 (by decide +kernel) (by decide +kernel) (by decide +kernel) (by decide) rfl rfl (Nat.le_of_ble_eq_true rfl)]
  all_goals try simp only [Int.reduceToNat, lay_1, true_and, Nat.reduceAdd, eq_self_iff_true]
theorem g315_66 {d : Nat} {a3 s0 : Int} {x1 x2 : Option aV} {w : aW} {Q : Option aV → aW → Prop} : T (d + 1) 315 66 [some (vr 1), x1, x2, some (vi a3)] [vi s0] w Q = ((¬ s0 = 0 → T d 298 0 [some (vr 3), some (vi a3), some (vi 0)] [] w (fun r w1 => T (d + 1) 315 80 [some (vr 1), x1, x2, some (vi a3)] (r.toList ++ []) w1 Q)) ∧ (¬ (¬ s0 = 0) → T (d + 1) 315 69 [some (vr 1), x1, x2, some (vi a3)] [] w Q)) := by
  rw [T_if_ne 71 c315_66 rfl, T_aload_0 c315_71, T_getR 4 4 4 c315_72 rfl rfl rfl rfl, rf_1_4, T_iload_3 c315_75, T_sipush c315_76, T_invv (es := [some (vr 3), some (vi a3), some (vi 0)]) (st := [vi 0, vi a3, vr 3]) (ks := [2, 0, 0]) (n := 3) (c := 8) (k := 3) (as := [vi a3, vi 0]) (rest := []) c315_77 (by decide +kernel) (by decide +kernel) (by decide +kernel) (by decide) rfl rfl (Nat.le_of_ble_eq_true rfl)]
  all_goals try simp only [Int.reduceToNat, lay_1, lay_3, true_and, Nat.reduceAdd, eq_self_iff_true]
theorem g315_69 {d : Nat} {x0 x1 x2 x3 : Option aV} {w : aW} {Q : Option aV → aW → Prop} : T d 315 69 [x0, x1, x2, x3] [] w Q = Q (some (vi 0)) w := by
  rw [T_sipush c315_69, T_iretz c315_70 (by decide +kernel)]
  all_goals try simp only [true_and, Nat.reduceAdd, eq_self_iff_true, zero_eq_1, one_eq_0, true_or, or_true]
theorem g315_80 {d : Nat} {a2 : Int} {x0 x1 x3 : Option aV} {w : aW} {Q : Option aV → aW → Prop} : T d 315 80 [x0, x1, some (vi a2), x3] [] w Q = T d 315 12 [x0, x1, some (vi (w32 (a2 + 1))), x3] [] w Q := by
  rw [T_iinc_2 c315_80, T_goto 12 c315_83 rfl]
  all_goals try simp only [true_and, Nat.reduceAdd, eq_self_iff_true]
theorem g315_86 {d : Nat} {x0 x1 x2 x3 : Option aV} {w : aW} {Q : Option aV → aW → Prop} : T d 315 86 [x0, x1, x2, x3] [] w Q = Q (some (vi 1)) w := by
  rw [T_sipush c315_86, T_iretz c315_87 (by decide +kernel)]
  all_goals try simp only [true_and, Nat.reduceAdd, eq_self_iff_true, zero_eq_1, one_eq_0, true_or, or_true]
/-! 316: StringHandsModel.readAtom.(I)V -/
theorem c316_0 : cd 316 0 = some (.aload 0, 1) := by decide +kernel
theorem c316_1 : cd 316 1 = some (.sipush 15, 2) := by decide +kernel
theorem c316_3 : cd 316 3 = some (.invokevirtual 109, 3) := by decide +kernel
theorem c316_6 : cd 316 6 = some (.ifCond .eq 24, 3) := by decide +kernel
theorem c316_9 : cd 316 9 = some (.aload 0, 1) := by decide +kernel
theorem c316_10 : cd 316 10 = some (.aload 0, 1) := by decide +kernel
theorem c316_11 : cd 316 11 = some (.getfield 3112, 3) := by decide +kernel
theorem c316_14 : cd 316 14 = some (.invokevirtual 281, 3) := by decide +kernel
theorem c316_17 : cd 316 17 = some (.aload 0, 1) := by decide +kernel
theorem c316_18 : cd 316 18 = some (.invokevirtual 106, 3) := by decide +kernel
theorem c316_21 : cd 316 21 = some (.goto 142, 3) := by decide +kernel
theorem c316_24 : cd 316 24 = some (.aload 0, 1) := by decide +kernel
theorem c316_25 : cd 316 25 = some (.sipush 7, 2) := by decide +kernel
theorem c316_27 : cd 316 27 = some (.invokevirtual 107, 3) := by decide +kernel
theorem c316_30 : cd 316 30 = some (.ifCond .eq 57, 3) := by decide +kernel
theorem c316_33 : cd 316 33 = some (.aload 0, 1) := by decide +kernel
theorem c316_34 : cd 316 34 = some (.sipush 1000, 3) := by decide +kernel
theorem c316_37 : cd 316 37 = some (.aload 0, 1) := by decide +kernel
theorem c316_38 : cd 316 38 = some (.sipush 0, 1) := by decide +kernel
theorem c316_39 : cd 316 39 = some (.aload 0, 1) := by decide +kernel
theorem c316_40 : cd 316 40 = some (.getfield 3090, 3) := by decide +kernel
theorem c316_43 : cd 316 43 = some (.sipush 2, 1) := by decide +kernel
theorem c316_44 : cd 316 44 = some (.iaload, 1) := by decide +kernel
theorem c316_45 : cd 316 45 = some (.sipush 1, 1) := by decide +kernel
theorem c316_46 : cd 316 46 = some (.isub, 1) := by decide +kernel
theorem c316_47 : cd 316 47 = some (.invokevirtual 114, 3) := by decide +kernel
theorem c316_50 : cd 316 50 = some (.iadd, 1) := by decide +kernel
theorem c316_51 : cd 316 51 = some (.invokevirtual 281, 3) := by decide +kernel
theorem c316_54 : cd 316 54 = some (.goto 142, 3) := by decide +kernel
theorem c316_57 : cd 316 57 = some (.aload 0, 1) := by decide +kernel
theorem c316_58 : cd 316 58 = some (.sipush 12, 2) := by decide +kernel
theorem c316_60 : cd 316 60 = some (.invokevirtual 107, 3) := by decide +kernel
theorem c316_63 : cd 316 63 = some (.ifCond .eq 76, 3) := by decide +kernel
theorem c316_66 : cd 316 66 = some (.aload 0, 1) := by decide +kernel
theorem c316_67 : cd 316 67 = some (.sipush 1100, 3) := by decide +kernel
theorem c316_70 : cd 316 70 = some (.invokevirtual 281, 3) := by decide +kernel
theorem c316_73 : cd 316 73 = some (.goto 142, 3) := by decide +kernel
theorem c316_76 : cd 316 76 = some (.aload 0, 1) := by decide +kernel
theorem c316_77 : cd 316 77 = some (.sipush 13, 2) := by decide +kernel
theorem c316_79 : cd 316 79 = some (.invokevirtual 107, 3) := by decide +kernel
theorem c316_82 : cd 316 82 = some (.ifCond .eq 95, 3) := by decide +kernel
theorem c316_85 : cd 316 85 = some (.aload 0, 1) := by decide +kernel
theorem c316_86 : cd 316 86 = some (.sipush 1101, 3) := by decide +kernel
theorem c316_89 : cd 316 89 = some (.invokevirtual 281, 3) := by decide +kernel
theorem c316_92 : cd 316 92 = some (.goto 142, 3) := by decide +kernel
theorem c316_95 : cd 316 95 = some (.aload 0, 1) := by decide +kernel
theorem c316_96 : cd 316 96 = some (.sipush 25, 2) := by decide +kernel
theorem c316_98 : cd 316 98 = some (.invokevirtual 109, 3) := by decide +kernel
theorem c316_101 : cd 316 101 = some (.ifCond .eq 137, 3) := by decide +kernel
theorem c316_104 : cd 316 104 = some (.aload 0, 1) := by decide +kernel
theorem c316_105 : cd 316 105 = some (.iload 1, 1) := by decide +kernel
theorem c316_106 : cd 316 106 = some (.invokevirtual 308, 3) := by decide +kernel
theorem c316_109 : cd 316 109 = some (.ifCond .ne 113, 3) := by decide +kernel
theorem c316_112 : cd 316 112 = some (.return_, 1) := by decide +kernel
theorem c316_113 : cd 316 113 = some (.aload 0, 1) := by decide +kernel
theorem c316_114 : cd 316 114 = some (.iload 1, 1) := by decide +kernel
theorem c316_115 : cd 316 115 = some (.sipush 1, 1) := by decide +kernel
theorem c316_116 : cd 316 116 = some (.iadd, 1) := by decide +kernel
theorem c316_117 : cd 316 117 = some (.invokevirtual 309, 3) := by decide +kernel
theorem c316_120 : cd 316 120 = some (.aload 0, 1) := by decide +kernel
theorem c316_121 : cd 316 121 = some (.sipush 26, 2) := by decide +kernel
theorem c316_123 : cd 316 123 = some (.invokevirtual 107, 3) := by decide +kernel
theorem c316_126 : cd 316 126 = some (.ifCond .ne 142, 3) := by decide +kernel
theorem c316_129 : cd 316 129 = some (.aload 0, 1) := by decide +kernel
theorem c316_130 : cd 316 130 = some (.sipush 2, 1) := by decide +kernel
theorem c316_131 : cd 316 131 = some (.invokevirtual 115, 3) := by decide +kernel
theorem c316_134 : cd 316 134 = some (.goto 142, 3) := by decide +kernel
theorem c316_137 : cd 316 137 = some (.aload 0, 1) := by decide +kernel
theorem c316_138 : cd 316 138 = some (.sipush 2, 1) := by decide +kernel
theorem c316_139 : cd 316 139 = some (.invokevirtual 115, 3) := by decide +kernel
theorem c316_142 : cd 316 142 = some (.return_, 1) := by decide +kernel
theorem g316_0 {d : Nat} {x1 : Option aV} {w : aW} {Q : Option aV → aW → Prop} : T (d + 1) 316 0 [some (vr 167), x1] [] w Q = T d 109 0 [some (vr 167), some (vi 15)] [] w (fun r w1 => T (d + 1) 316 6 [some (vr 167), x1] (r.toList ++ []) w1 Q) := by
  rw [T_aload_0 c316_0, T_sipush c316_1, T_invv (es := [some (vr 167), some (vi 15)]) (st := [vi 15, vr 167]) (ks := [2, 0]) (n := 2) (c := 12) (k := 167) (as := [vi 15]) (rest := []) c316_3 (by decide +kernel) (by decide +kernel) (by decide +kernel) (by decide) rfl rfl (Nat.le_of_ble_eq_true rfl)]
  all_goals try simp only [lay_167, true_and, Nat.reduceAdd, eq_self_iff_true]
theorem g316_6 {d : Nat} {s0 : Int} {x1 : Option aV} {w : aW} {Q : Option aV → aW → Prop} : T (d + 1) 316 6 [some (vr 167), x1] [vi s0] w Q = ((s0 = 0 → T d 107 0 [some (vr 167), some (vi 7)] [] w (fun r w1 => T (d + 1) 316 30 [some (vr 167), x1] (r.toList ++ []) w1 Q)) ∧ (¬ (s0 = 0) → T d 281 0 [some (vr 167), some (vi (w 167 10))] [] w (fun r w1 => T (d + 1) 316 17 [some (vr 167), x1] (r.toList ++ []) w1 Q))) := by
  rw [T_if_eq 24 c316_6 rfl, T_aload_0 c316_24, T_sipush c316_25, T_invv (es := [some (vr 167), some (vi 7)]) (st := [vi 7, vr 167]) (ks := [2, 0]) (n := 2) (c := 12) (k := 167) (as := [vi 7]) (rest := []) c316_27 (by decide +kernel) (by decide +kernel) (by decide +kernel) (by decide) rfl rfl (Nat.le_of_ble_eq_true rfl), T_aload_0 c316_9, T_aload_0 c316_10, T_getI 12 10 10 c316_11 rfl rfl rfl rfl, T_invv (es := [some (vr 167), some (vi (w 167 10))]) (st := [vi (w 167 10), vr 167]) (ks := [2, 0]) (n := 2) (c := 12) (k := 167) (as := [vi (w 167 10)]) (rest := []) c316_14 (by decide +kernel) (by decide +kernel) (by decide +kernel) (by decide) rfl rfl (Nat.le_of_ble_eq_true rfl)]
  all_goals try simp only [Int.reduceToNat, lay_167, true_and, Nat.reduceAdd, eq_self_iff_true]
theorem g316_17 {d : Nat} {x1 : Option aV} {w : aW} {Q : Option aV → aW → Prop} : T (d + 1) 316 17 [some (vr 167), x1] [] w Q = T d 106 0 [some (vr 167), none] [] w (fun r w1 => T (d + 1) 316 21 [some (vr 167), x1] (r.toList ++ []) w1 Q) := by
  rw [T_aload_0 c316_17, T_invv (es := [some (vr 167), none]) (st := [vr 167]) (ks := [2]) (n := 2) (c := 12) (k := 167) (as := []) (rest := []) c316_18 (by decide +kernel) (by decide +kernel) (by decide +kernel) (by decide) rfl rfl (Nat.le_of_ble_eq_true rfl)]
  all_goals try simp only [lay_167, true_and, Nat.reduceAdd, eq_self_iff_true]
theorem g316_21 {d : Nat} {x0 x1 : Option aV} {w : aW} {Q : Option aV → aW → Prop} : T d 316 21 [x0, x1] [] w Q = T d 316 142 [x0, x1] [] w Q := by
  rw [T_goto 142 c316_21 rfl]
  all_goals try simp only [true_and, Nat.reduceAdd, eq_self_iff_true]
theorem g316_30 {d : Nat} {s0 : Int} {x1 : Option aV} {w : aW} {Q : Option aV → aW → Prop} : T (d + 1) 316 30 [some (vr 167), x1] [vi s0] w Q = ((s0 = 0 → T d 107 0 [some (vr 167), some (vi 12)] [] w (fun r w1 => T (d + 1) 316 63 [some (vr 167), x1] (r.toList ++ []) w1 Q)) ∧ (¬ (s0 = 0) → T d 114 0 [some (vr 167), some (vi 0), some (vi (w32 ((w 171 2) - 1))), none] [] w (fun r w1 => T (d + 1) 316 50 [some (vr 167), x1] (r.toList ++ [vi 1000, vr 167]) w1 Q))) := by
  rw [T_if_eq 57 c316_30 rfl, T_aload_0 c316_57, T_sipush c316_58, T_invv (es := [some (vr 167), some (vi 12)]) (st := [vi 12, vr 167]) (ks := [2, 0]) (n := 2) (c := 12) (k := 167) (as := [vi 12]) (rest := []) c316_60 (by decide +kernel) (by decide +kernel) (by decide +kernel) (by decide) rfl rfl (Nat.le_of_ble_eq_true rfl), T_aload_0 c316_33, T_sipush c316_34, T_aload_0 c316_37, T_sipush c316_38, T_aload_0 c316_39, T_getR 12 4 4 c316_40 rfl rfl rfl rfl, rf_167_4, T_sipush c316_43, T_iald c316_44, T_sipush c316_45, T_isub c316_46, T_invv (es := [some (vr 167), some (vi 0), some (vi (w32 ((w 171 2) - 1))), none]) (st := [vi (w32 ((w 171 2) - 1)), vi 0, vr 167, vi 1000, vr 167]) (ks := [2, 0, 0]) (n := 4) (c := 12) (k := 167) (as := [vi 0, vi (w32 ((w 171 2) - 1))]) (rest := [vi 1000, vr 167]) c316_47 (by decide +kernel) (by decide +kernel) (by decide +kernel) (by decide) rfl rfl (Nat.le_of_ble_eq_true rfl)]
  all_goals try simp only [Int.reduceLE, Int.reduceLT, Int.reduceToNat, and_self, lay_167, ld_171, true_and, Nat.reduceAdd, eq_self_iff_true]
theorem g316_50 {d : Nat} {s1 s2 : Int} {s0 : Nat} {x0 x1 : Option aV} {w : aW} {Q : Option aV → aW → Prop} : T (d + 1) 316 50 [x0, x1] [vi s2, vi s1, vr s0] w Q = (lay s0 = (12, 0) ∧ T d 281 0 [some (vr s0), some (vi (w32 (s1 + s2)))] [] w (fun r w1 => T (d + 1) 316 54 [x0, x1] (r.toList ++ []) w1 Q)) := by
  rw [T_iadd c316_50, T_invv (es := [some (vr s0), some (vi (w32 (s1 + s2)))]) (st := [vi (w32 (s1 + s2)), vr s0]) (ks := [2, 0]) (n := 2) (c := 12) (k := s0) (as := [vi (w32 (s1 + s2))]) (rest := []) c316_51 (by decide +kernel) (by decide +kernel) (by decide +kernel) (by decide) rfl rfl (Nat.le_of_ble_eq_true rfl)]
  all_goals try simp only [true_and, Nat.reduceAdd, eq_self_iff_true]
theorem g316_54 {d : Nat} {x0 x1 : Option aV} {w : aW} {Q : Option aV → aW → Prop} : T d 316 54 [x0, x1] [] w Q = T d 316 142 [x0, x1] [] w Q := by
  rw [T_goto 142 c316_54 rfl]
  all_goals try simp only [true_and, Nat.reduceAdd, eq_self_iff_true]
theorem g316_63 {d : Nat} {s0 : Int} {x1 : Option aV} {w : aW} {Q : Option aV → aW → Prop} : T (d + 1) 316 63 [some (vr 167), x1] [vi s0] w Q = ((s0 = 0 → T d 107 0 [some (vr 167), some (vi 13)] [] w (fun r w1 => T (d + 1) 316 82 [some (vr 167), x1] (r.toList ++ []) w1 Q)) ∧ (¬ (s0 = 0) → T d 281 0 [some (vr 167), some (vi 1100)] [] w (fun r w1 => T (d + 1) 316 73 [some (vr 167), x1] (r.toList ++ []) w1 Q))) := by
  rw [T_if_eq 76 c316_63 rfl, T_aload_0 c316_76, T_sipush c316_77, T_invv (es := [some (vr 167), some (vi 13)]) (st := [vi 13, vr 167]) (ks := [2, 0]) (n := 2) (c := 12) (k := 167) (as := [vi 13]) (rest := []) c316_79 (by decide +kernel) (by decide +kernel) (by decide +kernel) (by decide) rfl rfl (Nat.le_of_ble_eq_true rfl), T_aload_0 c316_66, T_sipush c316_67, T_invv (es := [some (vr 167), some (vi 1100)]) (st := [vi 1100, vr 167]) (ks := [2, 0]) (n := 2) (c := 12) (k := 167) (as := [vi 1100]) (rest := []) c316_70 (by decide +kernel) (by decide +kernel) (by decide +kernel) (by decide) rfl rfl (Nat.le_of_ble_eq_true rfl)]
  all_goals try simp only [Int.reduceToNat, lay_167, true_and, Nat.reduceAdd, eq_self_iff_true]
theorem g316_73 {d : Nat} {x0 x1 : Option aV} {w : aW} {Q : Option aV → aW → Prop} : T d 316 73 [x0, x1] [] w Q = T d 316 142 [x0, x1] [] w Q := by
  rw [T_goto 142 c316_73 rfl]
  all_goals try simp only [true_and, Nat.reduceAdd, eq_self_iff_true]
theorem g316_82 {d : Nat} {s0 : Int} {x1 : Option aV} {w : aW} {Q : Option aV → aW → Prop} : T (d + 1) 316 82 [some (vr 167), x1] [vi s0] w Q = ((s0 = 0 → T d 109 0 [some (vr 167), some (vi 25)] [] w (fun r w1 => T (d + 1) 316 101 [some (vr 167), x1] (r.toList ++ []) w1 Q)) ∧ (¬ (s0 = 0) → T d 281 0 [some (vr 167), some (vi 1101)] [] w (fun r w1 => T (d + 1) 316 92 [some (vr 167), x1] (r.toList ++ []) w1 Q))) := by
  rw [T_if_eq 95 c316_82 rfl, T_aload_0 c316_95, T_sipush c316_96, T_invv (es := [some (vr 167), some (vi 25)]) (st := [vi 25, vr 167]) (ks := [2, 0]) (n := 2) (c := 12) (k := 167) (as := [vi 25]) (rest := []) c316_98 (by decide +kernel) (by decide +kernel) (by decide +kernel) (by decide) rfl rfl (Nat.le_of_ble_eq_true rfl), T_aload_0 c316_85, T_sipush c316_86, T_invv (es := [some (vr 167), some (vi 1101)]) (st := [vi 1101, vr 167]) (ks := [2, 0]) (n := 2) (c := 12) (k := 167) (as := [vi 1101]) (rest := []) c316_89 (by decide +kernel) (by decide +kernel) (by decide +kernel) (by decide) rfl rfl (Nat.le_of_ble_eq_true rfl)]
  all_goals try simp only [Int.reduceToNat, lay_167, true_and, Nat.reduceAdd, eq_self_iff_true]
theorem g316_92 {d : Nat} {x0 x1 : Option aV} {w : aW} {Q : Option aV → aW → Prop} : T d 316 92 [x0, x1] [] w Q = T d 316 142 [x0, x1] [] w Q := by
  rw [T_goto 142 c316_92 rfl]
  all_goals try simp only [true_and, Nat.reduceAdd, eq_self_iff_true]
theorem g316_101 {d : Nat} {a1 s0 : Int} {w : aW} {Q : Option aV → aW → Prop} : T (d + 1) 316 101 [some (vr 167), some (vi a1)] [vi s0] w Q = ((s0 = 0 → T d 115 0 [some (vr 167), some (vi 2)] [] w (fun r w1 => T (d + 1) 316 142 [some (vr 167), some (vi a1)] (r.toList ++ []) w1 Q)) ∧ (¬ (s0 = 0) → T d 308 0 [some (vr 167), some (vi a1)] [] w (fun r w1 => T (d + 1) 316 109 [some (vr 167), some (vi a1)] (r.toList ++ []) w1 Q))) := by
  rw [T_if_eq 137 c316_101 rfl, T_aload_0 c316_137, T_sipush c316_138, T_invv (es := [some (vr 167), some (vi 2)]) (st := [vi 2, vr 167]) (ks := [2, 0]) (n := 2) (c := 12) (k := 167) (as := [vi 2]) (rest := []) c316_139 (by decide +kernel) (by decide +kernel) (by decide +kernel) (by decide) rfl rfl (Nat.le_of_ble_eq_true rfl), T_aload_0 c316_104, T_iload_1 c316_105, T_invv (es := [some (vr 167), some (vi a1)]) (st := [vi a1, vr 167]) (ks := [2, 0]) (n := 2) (c := 12) (k := 167) (as := [vi a1]) (rest := []) c316_106 (by decide +kernel) (by decide +kernel) (by decide +kernel) (by decide) rfl rfl (Nat.le_of_ble_eq_true rfl)]
  all_goals try simp only [Int.reduceToNat, lay_167, true_and, Nat.reduceAdd, eq_self_iff_true]
theorem g316_109 {d : Nat} {a1 s0 : Int} {w : aW} {Q : Option aV → aW → Prop} : T (d + 1) 316 109 [some (vr 167), some (vi a1)] [vi s0] w Q = ((¬ s0 = 0 → T d 309 0 [some (vr 167), some (vi (w32 (a1 + 1))), none] [] w (fun r w1 => T (d + 1) 316 120 [some (vr 167), some (vi a1)] (r.toList ++ []) w1 Q)) ∧ (¬ (¬ s0 = 0) → Q none w)) := by
  rw [T_if_ne 113 c316_109 rfl, T_aload_0 c316_113, T_iload_1 c316_114, T_sipush c316_115, T_iadd c316_116, T_invv (es := [some (vr 167), some (vi (w32 (a1 + 1))), none]) (st := [vi (w32 (a1 + 1)), vr 167]) (ks := [2, 0]) (n := 3) (c := 12) (k := 167) (as := [vi (w32 (a1 + 1))]) (rest := []) c316_117 (by decide +kernel) (by decide +kernel) (by decide +kernel) (by decide) rfl rfl (Nat.le_of_ble_eq_true rfl), T_vret c316_112 (by decide +kernel)]
  all_goals try simp only [Int.reduceToNat, lay_167, true_and, Nat.reduceAdd, eq_self_iff_true]
theorem g316_120 {d : Nat} {x1 : Option aV} {w : aW} {Q : Option aV → aW → Prop} : T (d + 1) 316 120 [some (vr 167), x1] [] w Q = T d 107 0 [some (vr 167), some (vi 26)] [] w (fun r w1 => T (d + 1) 316 126 [some (vr 167), x1] (r.toList ++ []) w1 Q) := by
  rw [T_aload_0 c316_120, T_sipush c316_121, T_invv (es := [some (vr 167), some (vi 26)]) (st := [vi 26, vr 167]) (ks := [2, 0]) (n := 2) (c := 12) (k := 167) (as := [vi 26]) (rest := []) c316_123 (by decide +kernel) (by decide +kernel) (by decide +kernel) (by decide) rfl rfl (Nat.le_of_ble_eq_true rfl)]
  all_goals try simp only [lay_167, true_and, Nat.reduceAdd, eq_self_iff_true]
theorem g316_126 {d : Nat} {s0 : Int} {x1 : Option aV} {w : aW} {Q : Option aV → aW → Prop} : T (d + 1) 316 126 [some (vr 167), x1] [vi s0] w Q = ((¬ s0 = 0 → T (d + 1) 316 142 [some (vr 167), x1] [] w Q) ∧ (¬ (¬ s0 = 0) → T d 115 0 [some (vr 167), some (vi 2)] [] w (fun r w1 => T (d + 1) 316 134 [some (vr 167), x1] (r.toList ++ []) w1 Q))) := by
  rw [T_if_ne 142 c316_126 rfl, T_aload_0 c316_129, T_sipush c316_130, T_invv (es := [some (vr 167), some (vi 2)]) (st := [vi 2, vr 167]) (ks := [2, 0]) (n := 2) (c := 12) (k := 167) (as := [vi 2]) (rest := []) c316_131 (by decide +kernel) (by decide +kernel) (by decide +kernel) (by decide) rfl rfl (Nat.le_of_ble_eq_true rfl)]
  all_goals try simp only [Int.reduceToNat, lay_167, true_and, Nat.reduceAdd, eq_self_iff_true]
theorem g316_134 {d : Nat} {x0 x1 : Option aV} {w : aW} {Q : Option aV → aW → Prop} : T d 316 134 [x0, x1] [] w Q = T d 316 142 [x0, x1] [] w Q := by
  rw [T_goto 142 c316_134 rfl]
  all_goals try simp only [true_and, Nat.reduceAdd, eq_self_iff_true]
theorem g316_142 {d : Nat} {x0 x1 : Option aV} {w : aW} {Q : Option aV → aW → Prop} : T d 316 142 [x0, x1] [] w Q = Q none w := by
  rw [T_vret c316_142 (by decide +kernel)]
  all_goals try simp only [true_and, Nat.reduceAdd, eq_self_iff_true]
/-! 317: StringHands$Reader.readTerm.(I)Z -/
theorem c317_0 : cd 317 0 = some (.aload 0, 1) := by decide +kernel
theorem c317_1 : cd 317 1 = some (.iload 1, 1) := by decide +kernel
theorem c317_2 : cd 317 2 = some (.invokevirtual 318, 3) := by decide +kernel
theorem c317_5 : cd 317 5 = some (.ifCond .ne 10, 3) := by decide +kernel
theorem c317_8 : cd 317 8 = some (.sipush 0, 1) := by decide +kernel
theorem c317_9 : cd 317 9 = some (.ireturn, 1) := by decide +kernel
theorem c317_10 : cd 317 10 = some (.sipush 0, 1) := by decide +kernel
theorem c317_11 : cd 317 11 = some (.istore 2, 1) := by decide +kernel
theorem c317_12 : cd 317 12 = some (.iload 2, 1) := by decide +kernel
theorem c317_13 : cd 317 13 = some (.sipush 900, 3) := by decide +kernel
theorem c317_16 : cd 317 16 = some (.if_icmp .ge 61, 3) := by decide +kernel
theorem c317_19 : cd 317 19 = some (.aload 0, 1) := by decide +kernel
theorem c317_20 : cd 317 20 = some (.getfield 1064, 3) := by decide +kernel
theorem c317_23 : cd 317 23 = some (.sipush 42, 2) := by decide +kernel
theorem c317_25 : cd 317 25 = some (.if_icmp .ne 61, 3) := by decide +kernel
theorem c317_28 : cd 317 28 = some (.aload 0, 1) := by decide +kernel
theorem c317_29 : cd 317 29 = some (.invokevirtual 212, 3) := by decide +kernel
theorem c317_32 : cd 317 32 = some (.ifCond .eq 43, 3) := by decide +kernel
theorem c317_35 : cd 317 35 = some (.aload 0, 1) := by decide +kernel
theorem c317_36 : cd 317 36 = some (.iload 1, 1) := by decide +kernel
theorem c317_37 : cd 317 37 = some (.invokevirtual 318, 3) := by decide +kernel
theorem c317_40 : cd 317 40 = some (.ifCond .ne 45, 3) := by decide +kernel
theorem c317_43 : cd 317 43 = some (.sipush 0, 1) := by decide +kernel
theorem c317_44 : cd 317 44 = some (.ireturn, 1) := by decide +kernel
theorem c317_45 : cd 317 45 = some (.aload 0, 1) := by decide +kernel
theorem c317_46 : cd 317 46 = some (.getfield 1042, 3) := by decide +kernel
theorem c317_49 : cd 317 49 = some (.sipush 12, 2) := by decide +kernel
theorem c317_51 : cd 317 51 = some (.sipush 0, 1) := by decide +kernel
theorem c317_52 : cd 317 52 = some (.invokevirtual 298, 3) := by decide +kernel
theorem c317_55 : cd 317 55 = some (.iinc 2 1, 3) := by decide +kernel
theorem c317_58 : cd 317 58 = some (.goto 12, 3) := by decide +kernel
theorem c317_61 : cd 317 61 = some (.sipush 1, 1) := by decide +kernel
theorem c317_62 : cd 317 62 = some (.ireturn, 1) := by decide +kernel
theorem g317_0 {d : Nat} {a1 : Int} {x2 : Option aV} {w : aW} {Q : Option aV → aW → Prop} : T (d + 1) 317 0 [some (vr 1), some (vi a1), x2] [] w Q = T d 318 0 [some (vr 1), some (vi a1)] [] w (fun r w1 => T (d + 1) 317 5 [some (vr 1), some (vi a1), x2] (r.toList ++ []) w1 Q) := by
  rw [T_aload_0 c317_0, T_iload_1 c317_1, T_invv (es := [some (vr 1), some (vi a1)]) (st := [vi a1, vr 1]) (ks := [2, 0]) (n := 2) (c := 4) (k := 1) (as := [vi a1]) (rest := []) c317_2 (by decide +kernel) (by decide +kernel) (by decide +kernel) (by decide) rfl rfl (Nat.le_of_ble_eq_true rfl)]
  all_goals try simp only [lay_1, true_and, Nat.reduceAdd, eq_self_iff_true]
theorem g317_5 {d : Nat} {s0 : Int} {x0 x1 x2 : Option aV} {w : aW} {Q : Option aV → aW → Prop} : T d 317 5 [x0, x1, x2] [vi s0] w Q = ((¬ s0 = 0 → T d 317 12 [x0, x1, some (vi 0)] [] w Q) ∧ (¬ (¬ s0 = 0) → Q (some (vi 0)) w)) := by
  rw [T_if_ne 10 c317_5 rfl, T_sipush c317_10, T_istore_2 c317_11, T_sipush c317_8, T_iretz c317_9 (by decide +kernel)]
  all_goals try simp only [Int.reduceToNat, true_and, Nat.reduceAdd, eq_self_iff_true, zero_eq_1, one_eq_0, true_or, or_true]
theorem g317_12 {d : Nat} {a2 : Int} {x1 : Option aV} {w : aW} {Q : Option aV → aW → Prop} : T (d + 1) 317 12 [some (vr 1), x1, some (vi a2)] [] w Q = ((900 ≤ a2 → T (d + 1) 317 61 [some (vr 1), x1, some (vi a2)] [] w Q) ∧ (¬ (900 ≤ a2) → ((¬ w 1 10 = 42 → T (d + 1) 317 61 [some (vr 1), x1, some (vi a2)] [] w Q) ∧ (¬ (¬ w 1 10 = 42) → T d 212 0 [some (vr 1)] [] w (fun r w1 => T (d + 1) 317 32 [some (vr 1), x1, some (vi a2)] (r.toList ++ []) w1 Q))))) := by
  rw [T_iload_2 c317_12, T_sipush c317_13, T_icmp_ge 61 c317_16 rfl, T_aload_0 c317_19, T_getI 4 10 10 c317_20 rfl rfl rfl rfl, T_sipush c317_23, T_icmp_ne 61 c317_25 rfl, T_aload_0 c317_28, T_invv (es := [some (vr 1)]) (st := [vr 1]) (ks := [2]) (n := 1) (c := 4) (k := 1) (as := []) (rest := []) c317_29 (by decide +kernel) (by decide +kernel) (by decide +kernel) (by decide) rfl rfl (Nat.le_of_ble_eq_true rfl)]
  all_goals try simp only [Int.reduceToNat, lay_1, true_and, Nat.reduceAdd, eq_self_iff_true]
theorem g317_32 {d : Nat} {a1 s0 : Int} {x2 : Option aV} {w : aW} {Q : Option aV → aW → Prop} : T (d + 1) 317 32 [some (vr 1), some (vi a1), x2] [vi s0] w Q = ((s0 = 0 → T (d + 1) 317 43 [some (vr 1), some (vi a1), x2] [] w Q) ∧ (¬ (s0 = 0) → T d 318 0 [some (vr 1), some (vi a1)] [] w (fun r w1 => T (d + 1) 317 40 [some (vr 1), some (vi a1), x2] (r.toList ++ []) w1 Q))) := by
  rw [T_if_eq 43 c317_32 rfl, T_aload_0 c317_35, T_iload_1 c317_36, T_invv (es := [some (vr 1), some (vi a1)]) (st := [vi a1, vr 1]) (ks := [2, 0]) (n := 2) (c := 4) (k := 1) (as := [vi a1]) (rest := []) c317_37 (by decide +kernel) (by decide +kernel) (by decide +kernel) (by decide) rfl rfl (Nat.le_of_ble_eq_true rfl)]
  all_goals try simp only [Int.reduceToNat, lay_1, true_and, Nat.reduceAdd, eq_self_iff_true]
theorem g317_40 {d : Nat} {s0 : Int} {x1 x2 : Option aV} {w : aW} {Q : Option aV → aW → Prop} : T (d + 1) 317 40 [some (vr 1), x1, x2] [vi s0] w Q = ((¬ s0 = 0 → T d 298 0 [some (vr 3), some (vi 12), some (vi 0)] [] w (fun r w1 => T (d + 1) 317 55 [some (vr 1), x1, x2] (r.toList ++ []) w1 Q)) ∧ (¬ (¬ s0 = 0) → T (d + 1) 317 43 [some (vr 1), x1, x2] [] w Q)) := by
  rw [T_if_ne 45 c317_40 rfl, T_aload_0 c317_45, T_getR 4 4 4 c317_46 rfl rfl rfl rfl, rf_1_4, T_sipush c317_49, T_sipush c317_51, T_invv (es := [some (vr 3), some (vi 12), some (vi 0)]) (st := [vi 0, vi 12, vr 3]) (ks := [2, 0, 0]) (n := 3) (c := 8) (k := 3) (as := [vi 12, vi 0]) (rest := []) c317_52 (by decide +kernel) (by decide +kernel) (by decide +kernel) (by decide) rfl rfl (Nat.le_of_ble_eq_true rfl)]
  all_goals try simp only [Int.reduceToNat, lay_1, lay_3, true_and, Nat.reduceAdd, eq_self_iff_true]
theorem g317_43 {d : Nat} {x0 x1 x2 : Option aV} {w : aW} {Q : Option aV → aW → Prop} : T d 317 43 [x0, x1, x2] [] w Q = Q (some (vi 0)) w := by
  rw [T_sipush c317_43, T_iretz c317_44 (by decide +kernel)]
  all_goals try simp only [true_and, Nat.reduceAdd, eq_self_iff_true, zero_eq_1, one_eq_0, true_or, or_true]
theorem g317_55 {d : Nat} {a2 : Int} {x0 x1 : Option aV} {w : aW} {Q : Option aV → aW → Prop} : T d 317 55 [x0, x1, some (vi a2)] [] w Q = T d 317 12 [x0, x1, some (vi (w32 (a2 + 1)))] [] w Q := by
  rw [T_iinc_2 c317_55, T_goto 12 c317_58 rfl]
  all_goals try simp only [true_and, Nat.reduceAdd, eq_self_iff_true]
theorem g317_61 {d : Nat} {x0 x1 x2 : Option aV} {w : aW} {Q : Option aV → aW → Prop} : T d 317 61 [x0, x1, x2] [] w Q = Q (some (vi 1)) w := by
  rw [T_sipush c317_61, T_iretz c317_62 (by decide +kernel)]
  all_goals try simp only [true_and, Nat.reduceAdd, eq_self_iff_true, zero_eq_1, one_eq_0, true_or, or_true]
/-! 318: StringHands$Reader.readAtom.(I)Z -/
theorem c318_0 : cd 318 0 = some (.aload 0, 1) := by decide +kernel
theorem c318_1 : cd 318 1 = some (.getfield 1064, 3) := by decide +kernel
theorem c318_4 : cd 318 4 = some (.lookupswitch 215 #[(1, 56), (40, 164), (208, 106), (213, 73), (214, 87)], 52) := by decide +kernel
theorem c318_56 : cd 318 56 = some (.aload 0, 1) := by decide +kernel
theorem c318_57 : cd 318 57 = some (.getfield 1042, 3) := by decide +kernel
theorem c318_60 : cd 318 60 = some (.sipush 0, 1) := by decide +kernel
theorem c318_61 : cd 318 61 = some (.aload 0, 1) := by decide +kernel
theorem c318_62 : cd 318 62 = some (.getfield 1068, 3) := by decide +kernel
theorem c318_65 : cd 318 65 = some (.invokevirtual 298, 3) := by decide +kernel
theorem c318_68 : cd 318 68 = some (.aload 0, 1) := by decide +kernel
theorem c318_69 : cd 318 69 = some (.invokevirtual 212, 3) := by decide +kernel
theorem c318_72 : cd 318 72 = some (.ireturn, 1) := by decide +kernel
theorem c318_73 : cd 318 73 = some (.aload 0, 1) := by decide +kernel
theorem c318_74 : cd 318 74 = some (.getfield 1042, 3) := by decide +kernel
theorem c318_77 : cd 318 77 = some (.sipush 2, 1) := by decide +kernel
theorem c318_78 : cd 318 78 = some (.sipush 0, 1) := by decide +kernel
theorem c318_79 : cd 318 79 = some (.invokevirtual 298, 3) := by decide +kernel
theorem c318_82 : cd 318 82 = some (.aload 0, 1) := by decide +kernel
theorem c318_83 : cd 318 83 = some (.invokevirtual 212, 3) := by decide +kernel
theorem c318_86 : cd 318 86 = some (.ireturn, 1) := by decide +kernel
theorem c318_87 : cd 318 87 = some (.aload 0, 1) := by decide +kernel
theorem c318_88 : cd 318 88 = some (.sipush 1, 1) := by decide +kernel
theorem c318_89 : cd 318 89 = some (.putfield 1079, 3) := by decide +kernel
theorem c318_92 : cd 318 92 = some (.aload 0, 1) := by decide +kernel
theorem c318_93 : cd 318 93 = some (.getfield 1042, 3) := by decide +kernel
theorem c318_96 : cd 318 96 = some (.sipush 3, 1) := by decide +kernel
theorem c318_97 : cd 318 97 = some (.sipush 0, 1) := by decide +kernel
theorem c318_98 : cd 318 98 = some (.invokevirtual 298, 3) := by decide +kernel
theorem c318_101 : cd 318 101 = some (.aload 0, 1) := by decide +kernel
theorem c318_102 : cd 318 102 = some (.invokevirtual 212, 3) := by decide +kernel
theorem c318_105 : cd 318 105 = some (.ireturn, 1) := by decide +kernel
theorem c318_106 : cd 318 106 = some (.aload 0, 1) := by decide +kernel
theorem c318_107 : cd 318 107 = some (.invokevirtual 212, 3) := by decide +kernel
theorem c318_110 : cd 318 110 = some (.ifCond .eq 130, 3) := by decide +kernel
theorem c318_113 : cd 318 113 = some (.aload 0, 1) := by decide +kernel
theorem c318_114 : cd 318 114 = some (.sipush 0, 1) := by decide +kernel
theorem c318_115 : cd 318 115 = some (.aload 0, 1) := by decide +kernel
theorem c318_116 : cd 318 116 = some (.getfield 1042, 3) := by decide +kernel
theorem c318_119 : cd 318 119 = some (.getfield 2052, 3) := by decide +kernel
theorem c318_122 : cd 318 122 = some (.sipush 1, 1) := by decide +kernel
theorem c318_123 : cd 318 123 = some (.isub, 1) := by decide +kernel
theorem c318_124 : cd 318 124 = some (.invokevirtual 272, 3) := by decide +kernel
theorem c318_127 : cd 318 127 = some (.ifCond .ne 132, 3) := by decide +kernel
theorem c318_130 : cd 318 130 = some (.sipush 0, 1) := by decide +kernel
theorem c318_131 : cd 318 131 = some (.ireturn, 1) := by decide +kernel
theorem c318_132 : cd 318 132 = some (.aload 0, 1) := by decide +kernel
theorem c318_133 : cd 318 133 = some (.dup, 1) := by decide +kernel
theorem c318_134 : cd 318 134 = some (.getfield 1072, 3) := by decide +kernel
theorem c318_137 : cd 318 137 = some (.sipush 1, 1) := by decide +kernel
theorem c318_138 : cd 318 138 = some (.aload 0, 1) := by decide +kernel
theorem c318_139 : cd 318 139 = some (.getfield 1068, 3) := by decide +kernel
theorem c318_142 : cd 318 142 = some (.ishl, 1) := by decide +kernel
theorem c318_143 : cd 318 143 = some (.ior, 1) := by decide +kernel
theorem c318_144 : cd 318 144 = some (.putfield 1072, 3) := by decide +kernel
theorem c318_147 : cd 318 147 = some (.aload 0, 1) := by decide +kernel
theorem c318_148 : cd 318 148 = some (.getfield 1042, 3) := by decide +kernel
theorem c318_151 : cd 318 151 = some (.sipush 1, 1) := by decide +kernel
theorem c318_152 : cd 318 152 = some (.aload 0, 1) := by decide +kernel
theorem c318_153 : cd 318 153 = some (.getfield 1068, 3) := by decide +kernel
theorem c318_156 : cd 318 156 = some (.invokevirtual 298, 3) := by decide +kernel
theorem c318_159 : cd 318 159 = some (.aload 0, 1) := by decide +kernel
theorem c318_160 : cd 318 160 = some (.invokevirtual 212, 3) := by decide +kernel
theorem c318_163 : cd 318 163 = some (.ireturn, 1) := by decide +kernel
theorem c318_164 : cd 318 164 = some (.iload 1, 1) := by decide +kernel
theorem c318_165 : cd 318 165 = some (.sipush 6, 2) := by decide +kernel
theorem c318_167 : cd 318 167 = some (.if_icmp .lt 176, 3) := by decide +kernel
theorem c318_170 : cd 318 170 = some (.aload 0, 1) := by decide +kernel
theorem c318_171 : cd 318 171 = some (.sipush 4, 1) := by decide +kernel
theorem c318_172 : cd 318 172 = some (.invokevirtual 219, 3) := by decide +kernel
theorem c318_175 : cd 318 175 = some (.ireturn, 1) := by decide +kernel
theorem c318_176 : cd 318 176 = some (.aload 0, 1) := by decide +kernel
theorem c318_177 : cd 318 177 = some (.invokevirtual 212, 3) := by decide +kernel
theorem c318_180 : cd 318 180 = some (.ifCond .eq 213, 3) := by decide +kernel
theorem c318_183 : cd 318 183 = some (.aload 0, 1) := by decide +kernel
theorem c318_184 : cd 318 184 = some (.iload 1, 1) := by decide +kernel
theorem c318_185 : cd 318 185 = some (.sipush 1, 1) := by decide +kernel
theorem c318_186 : cd 318 186 = some (.iadd, 1) := by decide +kernel
theorem c318_187 : cd 318 187 = some (.invokevirtual 315, 3) := by decide +kernel
theorem c318_190 : cd 318 190 = some (.ifCond .eq 213, 3) := by decide +kernel
theorem c318_193 : cd 318 193 = some (.aload 0, 1) := by decide +kernel
theorem c318_194 : cd 318 194 = some (.sipush 41, 2) := by decide +kernel
theorem c318_196 : cd 318 196 = some (.invokevirtual 220, 3) := by decide +kernel
theorem c318_199 : cd 318 199 = some (.ifCond .eq 213, 3) := by decide +kernel
theorem c318_202 : cd 318 202 = some (.aload 0, 1) := by decide +kernel
theorem c318_203 : cd 318 203 = some (.invokevirtual 212, 3) := by decide +kernel
theorem c318_206 : cd 318 206 = some (.ifCond .eq 213, 3) := by decide +kernel
theorem c318_209 : cd 318 209 = some (.sipush 1, 1) := by decide +kernel
theorem c318_210 : cd 318 210 = some (.goto 214, 3) := by decide +kernel
theorem c318_213 : cd 318 213 = some (.sipush 0, 1) := by decide +kernel
theorem c318_214 : cd 318 214 = some (.ireturn, 1) := by decide +kernel
theorem c318_215 : cd 318 215 = some (.aload 0, 1) := by decide +kernel
theorem c318_216 : cd 318 216 = some (.sipush 2, 1) := by decide +kernel
theorem c318_217 : cd 318 217 = some (.invokevirtual 219, 3) := by decide +kernel
theorem c318_220 : cd 318 220 = some (.ireturn, 1) := by decide +kernel
theorem sw318_4 {d : Nat} {ls : List (Option aV)} {st : List aV} {w : aW} {Q : Option aV → aW → Prop} {x : Int} : T d 318 4 ls (vi x :: st) w Q = ((x = 1 → T d 318 56 ls st w Q) ∧ (x = 40 → T d 318 164 ls st w Q) ∧ (x = 208 → T d 318 106 ls st w Q) ∧ (x = 213 → T d 318 73 ls st w Q) ∧ (x = 214 → T d 318 87 ls st w Q) ∧ (¬ x = 1 ∧ ¬ x = 40 ∧ ¬ x = 208 ∧ ¬ x = 213 ∧ ¬ x = 214 → T d 318 215 ls st w Q)) := by
  rw [T_lkp c318_4]
  apply propext
  constructor
  · intro h
    refine ⟨fun q => by subst q; exact h, fun q => by subst q; exact h, fun q => by subst q; exact h, fun q => by subst q; exact h, fun q => by subst q; exact h, fun q => ?_⟩
    · have e : (lkp (#[(1, 56), (40, 164), (208, 106), (213, 73), (214, 87)] : Array (Int × Int)).toList 215 x).toNat = 215 := by simp [lkp, q]
      rw [e] at h; exact h
  · rintro ⟨h0, h1, h2, h3, h4, hd⟩
    by_cases n0 : x = 1
    · subst n0; exact h0 rfl
    by_cases n1 : x = 40
    · subst n1; exact h1 rfl
    by_cases n2 : x = 208
    · subst n2; exact h2 rfl
    by_cases n3 : x = 213
    · subst n3; exact h3 rfl
    by_cases n4 : x = 214
    · subst n4; exact h4 rfl
    · have e : (lkp (#[(1, 56), (40, 164), (208, 106), (213, 73), (214, 87)] : Array (Int × Int)).toList 215 x).toNat = 215 := by simp [lkp, n0, n1, n2, n3, n4]
      rw [e]; exact hd ⟨n0, n1, n2, n3, n4⟩
theorem g318_0 {d : Nat} {a1 : Int} {w : aW} {Q : Option aV → aW → Prop} : T (d + 1) 318 0 [some (vr 1), some (vi a1)] [] w Q = ((w 1 10 = 1 → T d 298 0 [some (vr 3), some (vi 0), some (vi (w 1 11))] [] w (fun r w1 => T (d + 1) 318 68 [some (vr 1), some (vi a1)] (r.toList ++ []) w1 Q)) ∧ (w 1 10 = 40 → ((a1 < 6 → T d 212 0 [some (vr 1)] [] w (fun r w1 => T (d + 1) 318 180 [some (vr 1), some (vi a1)] (r.toList ++ []) w1 Q)) ∧ (¬ (a1 < 6) → T d 219 0 [some (vr 1), some (vi 4)] [] w (fun r w1 => T (d + 1) 318 175 [some (vr 1), some (vi a1)] (r.toList ++ []) w1 Q)))) ∧ (w 1 10 = 208 → T d 212 0 [some (vr 1)] [] w (fun r w1 => T (d + 1) 318 110 [some (vr 1), some (vi a1)] (r.toList ++ []) w1 Q)) ∧ (w 1 10 = 213 → T d 298 0 [some (vr 3), some (vi 2), some (vi 0)] [] w (fun r w1 => T (d + 1) 318 82 [some (vr 1), some (vi a1)] (r.toList ++ []) w1 Q)) ∧ (w 1 10 = 214 → T d 298 0 [some (vr 3), some (vi 3), some (vi 0)] [] (iup w 1 13 1) (fun r w1 => T (d + 1) 318 101 [some (vr 1), some (vi a1)] (r.toList ++ []) w1 Q)) ∧ (¬ w 1 10 = 1 ∧ ¬ w 1 10 = 40 ∧ ¬ w 1 10 = 208 ∧ ¬ w 1 10 = 213 ∧ ¬ w 1 10 = 214 → T d 219 0 [some (vr 1), some (vi 2)] [] w (fun r w1 => T (d + 1) 318 220 [some (vr 1), some (vi a1)] (r.toList ++ []) w1 Q))) := by
  rw [T_aload_0 c318_0, T_getI 4 10 10 c318_1 rfl rfl rfl rfl, sw318_4, T_aload_0 c318_56, T_getR 4 4 4 c318_57 rfl rfl rfl rfl, rf_1_4, T_sipush c318_60, T_aload_0 c318_61, T_getI 4 11 11 c318_62 rfl rfl rfl rfl, T_invv (es := [some (vr 3), some (vi 0), some (vi (w 1 11))]) (st := [vi (w 1 11), vi 0, vr 3]) (ks := [2, 0, 0]) (n := 3) (c := 8) (k := 3) (as := [vi 0, vi (w 1 11)]) (rest := []) c318_65 (by decide +kernel) (by decide +kernel) (by decide +kernel) (by decide) rfl rfl (Nat.le_of_ble_eq_true rfl), T_iload_1 c318_164, T_sipush c318_165, T_icmp_lt 176 c318_167 rfl, T_aload_0 c318_176, T_invv (es := [some (vr 1)]) (st := [vr 1]) (ks := [2]) (n := 1) (c := 4) (k := 1) (as := []) (rest := []) c318_177 (by decide +kernel) (by decide +kernel) (by decide +kernel) (by decide) rfl rfl (Nat.le_of_ble_eq_true rfl), T_aload_0 c318_170, T_sipush c318_171, T_invv (es := [some (vr 1), some (vi 4)]) (st := [vi 4, vr 1]) (ks := [2, 0]) (n := 2) (c := 4) (k := 1) (as := [vi 4]) (rest := []) c318_172 (by decide +kernel) (by decide +kernel) (by decide +kernel) (by decide) rfl rfl (Nat.le_of_ble_eq_true rfl), T_aload_0 c318_106, T_invv (es := [some (vr 1)]) (st := [vr 1]) (ks := [2]) (n := 1) (c := 4) (k := 1) (as := []) (rest := []) c318_107 (by decide +kernel) (by decide +kernel) (by decide +kernel) (by decide) rfl rfl (Nat.le_of_ble_eq_true rfl), T_aload_0 c318_73, T_getR 4 4 4 c318_74 rfl rfl rfl rfl, rf_1_4, T_sipush c318_77, T_sipush c318_78, T_invv (es := [some (vr 3), some (vi 2), some (vi 0)]) (st := [vi 0, vi 2, vr 3]) (ks := [2, 0, 0]) (n := 3) (c := 8) (k := 3) (as := [vi 2, vi 0]) (rest := []) c318_79 (by decide +kernel) (by decide +kernel) (by decide +kernel) (by decide) rfl rfl (Nat.le_of_ble_eq_true rfl), T_aload_0 c318_87, T_sipush c318_88, T_putZ 4 13 13 c318_89 rfl rfl rfl rfl, T_aload_0 c318_92, T_getR 4 4 4 c318_93 rfl rfl rfl rfl, rf_1_4, T_sipush c318_96, T_sipush c318_97, T_invv (es := [some (vr 3), some (vi 3), some (vi 0)]) (st := [vi 0, vi 3, vr 3]) (ks := [2, 0, 0]) (n := 3) (c := 8) (k := 3) (as := [vi 3, vi 0]) (rest := []) c318_98 (by decide +kernel) (by decide +kernel) (by decide +kernel) (by decide) rfl rfl (Nat.le_of_ble_eq_true rfl), T_aload_0 c318_215, T_sipush c318_216, T_invv (es := [some (vr 1), some (vi 2)]) (st := [vi 2, vr 1]) (ks := [2, 0]) (n := 2) (c := 4) (k := 1) (as := [vi 2]) (rest := []) c318_217 (by decide +kernel) (by decide +kernel) (by decide +kernel) (by decide) rfl rfl (Nat.le_of_ble_eq_true rfl)]
  all_goals try simp only [Int.reduceEq, Int.reduceToNat, and_true, lay_1, lay_3, or_true, true_or, true_and, Nat.reduceAdd, eq_self_iff_true]
theorem g318_68 {d : Nat} {x1 : Option aV} {w : aW} {Q : Option aV → aW → Prop} : T (d + 1) 318 68 [some (vr 1), x1] [] w Q = T d 212 0 [some (vr 1)] [] w (fun r w1 => T (d + 1) 318 72 [some (vr 1), x1] (r.toList ++ []) w1 Q) := by
  rw [T_aload_0 c318_68, T_invv (es := [some (vr 1)]) (st := [vr 1]) (ks := [2]) (n := 1) (c := 4) (k := 1) (as := []) (rest := []) c318_69 (by decide +kernel) (by decide +kernel) (by decide +kernel) (by decide) rfl rfl (Nat.le_of_ble_eq_true rfl)]
  all_goals try simp only [lay_1, true_and, Nat.reduceAdd, eq_self_iff_true]
theorem g318_72 {d : Nat} {s0 : Int} {x0 x1 : Option aV} {w : aW} {Q : Option aV → aW → Prop} : T d 318 72 [x0, x1] [vi s0] w Q = ((s0 = 0 ∨ s0 = 1) ∧ Q (some (vi s0)) w) := by
  rw [T_iretz c318_72 (by decide +kernel)]
  all_goals try simp only [true_and, Nat.reduceAdd, eq_self_iff_true]
theorem g318_82 {d : Nat} {x1 : Option aV} {w : aW} {Q : Option aV → aW → Prop} : T (d + 1) 318 82 [some (vr 1), x1] [] w Q = T d 212 0 [some (vr 1)] [] w (fun r w1 => T (d + 1) 318 86 [some (vr 1), x1] (r.toList ++ []) w1 Q) := by
  rw [T_aload_0 c318_82, T_invv (es := [some (vr 1)]) (st := [vr 1]) (ks := [2]) (n := 1) (c := 4) (k := 1) (as := []) (rest := []) c318_83 (by decide +kernel) (by decide +kernel) (by decide +kernel) (by decide) rfl rfl (Nat.le_of_ble_eq_true rfl)]
  all_goals try simp only [lay_1, true_and, Nat.reduceAdd, eq_self_iff_true]
theorem g318_86 {d : Nat} {s0 : Int} {x0 x1 : Option aV} {w : aW} {Q : Option aV → aW → Prop} : T d 318 86 [x0, x1] [vi s0] w Q = ((s0 = 0 ∨ s0 = 1) ∧ Q (some (vi s0)) w) := by
  rw [T_iretz c318_86 (by decide +kernel)]
  all_goals try simp only [true_and, Nat.reduceAdd, eq_self_iff_true]
theorem g318_101 {d : Nat} {x1 : Option aV} {w : aW} {Q : Option aV → aW → Prop} : T (d + 1) 318 101 [some (vr 1), x1] [] w Q = T d 212 0 [some (vr 1)] [] w (fun r w1 => T (d + 1) 318 105 [some (vr 1), x1] (r.toList ++ []) w1 Q) := by
  rw [T_aload_0 c318_101, T_invv (es := [some (vr 1)]) (st := [vr 1]) (ks := [2]) (n := 1) (c := 4) (k := 1) (as := []) (rest := []) c318_102 (by decide +kernel) (by decide +kernel) (by decide +kernel) (by decide) rfl rfl (Nat.le_of_ble_eq_true rfl)]
  all_goals try simp only [lay_1, true_and, Nat.reduceAdd, eq_self_iff_true]
theorem g318_105 {d : Nat} {s0 : Int} {x0 x1 : Option aV} {w : aW} {Q : Option aV → aW → Prop} : T d 318 105 [x0, x1] [vi s0] w Q = ((s0 = 0 ∨ s0 = 1) ∧ Q (some (vi s0)) w) := by
  rw [T_iretz c318_105 (by decide +kernel)]
  all_goals try simp only [true_and, Nat.reduceAdd, eq_self_iff_true]
theorem g318_110 {d : Nat} {s0 : Int} {x1 : Option aV} {w : aW} {Q : Option aV → aW → Prop} : T (d + 1) 318 110 [some (vr 1), x1] [vi s0] w Q = ((s0 = 0 → T (d + 1) 318 130 [some (vr 1), x1] [] w Q) ∧ (¬ (s0 = 0) → T d 272 0 [some (vr 1), some (vi 0), some (vi (w32 ((w 3 1) - 1)))] [] w (fun r w1 => T (d + 1) 318 127 [some (vr 1), x1] (r.toList ++ []) w1 Q))) := by
  rw [T_if_eq 130 c318_110 rfl, T_aload_0 c318_113, T_sipush c318_114, T_aload_0 c318_115, T_getR 4 4 4 c318_116 rfl rfl rfl rfl, rf_1_4, T_getI 8 1 1 c318_119 rfl rfl rfl rfl, T_sipush c318_122, T_isub c318_123, T_invv (es := [some (vr 1), some (vi 0), some (vi (w32 ((w 3 1) - 1)))]) (st := [vi (w32 ((w 3 1) - 1)), vi 0, vr 1]) (ks := [2, 0, 0]) (n := 3) (c := 4) (k := 1) (as := [vi 0, vi (w32 ((w 3 1) - 1))]) (rest := []) c318_124 (by decide +kernel) (by decide +kernel) (by decide +kernel) (by decide) rfl rfl (Nat.le_of_ble_eq_true rfl)]
  all_goals try simp only [Int.reduceToNat, lay_1, lay_3, true_and, Nat.reduceAdd, eq_self_iff_true]
theorem g318_127 {d : Nat} {s0 : Int} {x1 : Option aV} {w : aW} {Q : Option aV → aW → Prop} : T (d + 1) 318 127 [some (vr 1), x1] [vi s0] w Q = ((¬ s0 = 0 → T d 298 0 [some (vr 3), some (vi 1), some (vi ((iup w 1 12 (jor (w 1 12) (jshl 1 (w 1 11)))) 1 11))] [] (iup w 1 12 (jor (w 1 12) (jshl 1 (w 1 11)))) (fun r w1 => T (d + 1) 318 159 [some (vr 1), x1] (r.toList ++ []) w1 Q)) ∧ (¬ (¬ s0 = 0) → T (d + 1) 318 130 [some (vr 1), x1] [] w Q)) := by
  rw [T_if_ne 132 c318_127 rfl, T_aload_0 c318_132, T_dup_r c318_133, T_getI 4 12 12 c318_134 rfl rfl rfl rfl, T_sipush c318_137, T_aload_0 c318_138, T_getI 4 11 11 c318_139 rfl rfl rfl rfl, T_ishl c318_142, T_ior c318_143, T_putI 4 12 12 c318_144 rfl rfl rfl rfl, T_aload_0 c318_147, T_getR 4 4 4 c318_148 rfl rfl rfl rfl, rf_1_4, T_sipush c318_151, T_aload_0 c318_152, T_getI 4 11 11 c318_153 rfl rfl rfl rfl, T_invv (es := [some (vr 3), some (vi 1), some (vi ((iup w 1 12 (jor (w 1 12) (jshl 1 (w 1 11)))) 1 11))]) (st := [vi ((iup w 1 12 (jor (w 1 12) (jshl 1 (w 1 11)))) 1 11), vi 1, vr 3]) (ks := [2, 0, 0]) (n := 3) (c := 8) (k := 3) (as := [vi 1, vi ((iup w 1 12 (jor (w 1 12) (jshl 1 (w 1 11)))) 1 11)]) (rest := []) c318_156 (by decide +kernel) (by decide +kernel) (by decide +kernel) (by decide) rfl rfl (Nat.le_of_ble_eq_true rfl)]
  all_goals try simp only [Int.reduceToNat, lay_1, lay_3, true_and, Nat.reduceAdd, eq_self_iff_true]
theorem g318_130 {d : Nat} {x0 x1 : Option aV} {w : aW} {Q : Option aV → aW → Prop} : T d 318 130 [x0, x1] [] w Q = Q (some (vi 0)) w := by
  rw [T_sipush c318_130, T_iretz c318_131 (by decide +kernel)]
  all_goals try simp only [true_and, Nat.reduceAdd, eq_self_iff_true, zero_eq_1, one_eq_0, true_or, or_true]
theorem g318_159 {d : Nat} {x1 : Option aV} {w : aW} {Q : Option aV → aW → Prop} : T (d + 1) 318 159 [some (vr 1), x1] [] w Q = T d 212 0 [some (vr 1)] [] w (fun r w1 => T (d + 1) 318 163 [some (vr 1), x1] (r.toList ++ []) w1 Q) := by
  rw [T_aload_0 c318_159, T_invv (es := [some (vr 1)]) (st := [vr 1]) (ks := [2]) (n := 1) (c := 4) (k := 1) (as := []) (rest := []) c318_160 (by decide +kernel) (by decide +kernel) (by decide +kernel) (by decide) rfl rfl (Nat.le_of_ble_eq_true rfl)]
  all_goals try simp only [lay_1, true_and, Nat.reduceAdd, eq_self_iff_true]
theorem g318_163 {d : Nat} {s0 : Int} {x0 x1 : Option aV} {w : aW} {Q : Option aV → aW → Prop} : T d 318 163 [x0, x1] [vi s0] w Q = ((s0 = 0 ∨ s0 = 1) ∧ Q (some (vi s0)) w) := by
  rw [T_iretz c318_163 (by decide +kernel)]
  all_goals try simp only [true_and, Nat.reduceAdd, eq_self_iff_true]
theorem g318_175 {d : Nat} {s0 : Int} {x0 x1 : Option aV} {w : aW} {Q : Option aV → aW → Prop} : T d 318 175 [x0, x1] [vi s0] w Q = ((s0 = 0 ∨ s0 = 1) ∧ Q (some (vi s0)) w) := by
  rw [T_iretz c318_175 (by decide +kernel)]
  all_goals try simp only [true_and, Nat.reduceAdd, eq_self_iff_true]
theorem g318_180 {d : Nat} {a1 s0 : Int} {w : aW} {Q : Option aV → aW → Prop} : T (d + 1) 318 180 [some (vr 1), some (vi a1)] [vi s0] w Q = ((s0 = 0 → T (d + 1) 318 213 [some (vr 1), some (vi a1)] [] w Q) ∧ (¬ (s0 = 0) → T d 315 0 [some (vr 1), some (vi (w32 (a1 + 1))), none, none] [] w (fun r w1 => T (d + 1) 318 190 [some (vr 1), some (vi a1)] (r.toList ++ []) w1 Q))) := by
  rw [T_if_eq 213 c318_180 rfl, T_aload_0 c318_183, T_iload_1 c318_184, T_sipush c318_185, T_iadd c318_186, T_invv (es := [some (vr 1), some (vi (w32 (a1 + 1))), none, none]) (st := [vi (w32 (a1 + 1)), vr 1]) (ks := [2, 0]) (n := 4) (c := 4) (k := 1) (as := [vi (w32 (a1 + 1))]) (rest := []) c318_187 (by decide +kernel) (by decide +kernel) (by decide +kernel) (by decide) rfl rfl (Nat.le_of_ble_eq_true rfl)]
  all_goals try simp only [Int.reduceToNat, lay_1, true_and, Nat.reduceAdd, eq_self_iff_true]
theorem g318_190 {d : Nat} {s0 : Int} {x1 : Option aV} {w : aW} {Q : Option aV → aW → Prop} : T (d + 1) 318 190 [some (vr 1), x1] [vi s0] w Q = ((s0 = 0 → T (d + 1) 318 213 [some (vr 1), x1] [] w Q) ∧ (¬ (s0 = 0) → T d 220 0 [some (vr 1), some (vi 41)] [] w (fun r w1 => T (d + 1) 318 199 [some (vr 1), x1] (r.toList ++ []) w1 Q))) := by
  rw [T_if_eq 213 c318_190 rfl, T_aload_0 c318_193, T_sipush c318_194, T_invv (es := [some (vr 1), some (vi 41)]) (st := [vi 41, vr 1]) (ks := [2, 0]) (n := 2) (c := 4) (k := 1) (as := [vi 41]) (rest := []) c318_196 (by decide +kernel) (by decide +kernel) (by decide +kernel) (by decide) rfl rfl (Nat.le_of_ble_eq_true rfl)]
  all_goals try simp only [Int.reduceToNat, lay_1, true_and, Nat.reduceAdd, eq_self_iff_true]
theorem g318_199 {d : Nat} {s0 : Int} {x1 : Option aV} {w : aW} {Q : Option aV → aW → Prop} : T (d + 1) 318 199 [some (vr 1), x1] [vi s0] w Q = ((s0 = 0 → T (d + 1) 318 213 [some (vr 1), x1] [] w Q) ∧ (¬ (s0 = 0) → T d 212 0 [some (vr 1)] [] w (fun r w1 => T (d + 1) 318 206 [some (vr 1), x1] (r.toList ++ []) w1 Q))) := by
  rw [T_if_eq 213 c318_199 rfl, T_aload_0 c318_202, T_invv (es := [some (vr 1)]) (st := [vr 1]) (ks := [2]) (n := 1) (c := 4) (k := 1) (as := []) (rest := []) c318_203 (by decide +kernel) (by decide +kernel) (by decide +kernel) (by decide) rfl rfl (Nat.le_of_ble_eq_true rfl)]
  all_goals try simp only [Int.reduceToNat, lay_1, true_and, Nat.reduceAdd, eq_self_iff_true]
theorem g318_206 {d : Nat} {s0 : Int} {x0 x1 : Option aV} {w : aW} {Q : Option aV → aW → Prop} : T d 318 206 [x0, x1] [vi s0] w Q = ((s0 = 0 → T d 318 213 [x0, x1] [] w Q) ∧ (¬ (s0 = 0) → T d 318 214 [x0, x1] [vi 1] w Q)) := by
  rw [T_if_eq 213 c318_206 rfl, T_sipush c318_209, T_goto 214 c318_210 rfl]
  all_goals try simp only [Int.reduceToNat, true_and, Nat.reduceAdd, eq_self_iff_true]
theorem g318_213 {d : Nat} {x0 x1 : Option aV} {w : aW} {Q : Option aV → aW → Prop} : T d 318 213 [x0, x1] [] w Q = T d 318 214 [x0, x1] [vi 0] w Q := by
  rw [T_sipush c318_213]
  all_goals try simp only [true_and, Nat.reduceAdd, eq_self_iff_true]
theorem g318_214 {d : Nat} {s0 : Int} {x0 x1 : Option aV} {w : aW} {Q : Option aV → aW → Prop} : T d 318 214 [x0, x1] [vi s0] w Q = ((s0 = 0 ∨ s0 = 1) ∧ Q (some (vi s0)) w) := by
  rw [T_iretz c318_214 (by decide +kernel)]
  all_goals try simp only [true_and, Nat.reduceAdd, eq_self_iff_true]
theorem g318_220 {d : Nat} {s0 : Int} {x0 x1 : Option aV} {w : aW} {Q : Option aV → aW → Prop} : T d 318 220 [x0, x1] [vi s0] w Q = ((s0 = 0 ∨ s0 = 1) ∧ Q (some (vi s0)) w) := by
  rw [T_iretz c318_220 (by decide +kernel)]
  all_goals try simp only [true_and, Nat.reduceAdd, eq_self_iff_true]
