/-! 217: StringHands$Reader.readUp.()Z -/
theorem c217_0 : cd 217 0 = some (.aload 0, 1) := by decide +kernel
theorem c217_1 : cd 217 1 = some (.invokevirtual 212, 3) := by decide +kernel
theorem c217_4 : cd 217 4 = some (.ifCond .eq 24, 3) := by decide +kernel
theorem c217_7 : cd 217 7 = some (.aload 0, 1) := by decide +kernel
theorem c217_8 : cd 217 8 = some (.sipush 0, 1) := by decide +kernel
theorem c217_9 : cd 217 9 = some (.aload 0, 1) := by decide +kernel
theorem c217_10 : cd 217 10 = some (.getfield 1042, 3) := by decide +kernel
theorem c217_13 : cd 217 13 = some (.getfield 2052, 3) := by decide +kernel
theorem c217_16 : cd 217 16 = some (.sipush 1, 1) := by decide +kernel
theorem c217_17 : cd 217 17 = some (.isub, 1) := by decide +kernel
theorem c217_18 : cd 217 18 = some (.invokevirtual 272, 3) := by decide +kernel
theorem c217_21 : cd 217 21 = some (.ifCond .ne 26, 3) := by decide +kernel
theorem c217_24 : cd 217 24 = some (.sipush 0, 1) := by decide +kernel
theorem c217_25 : cd 217 25 = some (.ireturn, 1) := by decide +kernel
theorem c217_26 : cd 217 26 = some (.aload 0, 1) := by decide +kernel
theorem c217_27 : cd 217 27 = some (.getfield 1042, 3) := by decide +kernel
theorem c217_30 : cd 217 30 = some (.dup, 1) := by decide +kernel
theorem c217_31 : cd 217 31 = some (.getfield 2060, 3) := by decide +kernel
theorem c217_34 : cd 217 34 = some (.sipush 1, 1) := by decide +kernel
theorem c217_35 : cd 217 35 = some (.aload 0, 1) := by decide +kernel
theorem c217_36 : cd 217 36 = some (.getfield 1068, 3) := by decide +kernel
theorem c217_39 : cd 217 39 = some (.ishl, 1) := by decide +kernel
theorem c217_40 : cd 217 40 = some (.ior, 1) := by decide +kernel
theorem c217_41 : cd 217 41 = some (.putfield 2060, 3) := by decide +kernel
theorem c217_44 : cd 217 44 = some (.aload 0, 1) := by decide +kernel
theorem c217_45 : cd 217 45 = some (.invokevirtual 212, 3) := by decide +kernel
theorem c217_48 : cd 217 48 = some (.ireturn, 1) := by decide +kernel
theorem g217_0 {d : Nat} {w : aW} {Q : Option aV → aW → Prop} : T (d + 1) 217 0 [some (vr 1)] [] w Q = T d 212 0 [some (vr 1)] [] w (fun r w1 => T (d + 1) 217 4 [some (vr 1)] (r.toList ++ []) w1 Q) := by
  rw [T_aload_0 c217_0, T_invv (es := [some (vr 1)]) (st := [vr 1]) (ks := [2]) (n := 1) (c := 4) (k := 1) (as := []) (rest := []) c217_1 (by decide +kernel) (by decide +kernel) (by decide +kernel) (by decide) rfl rfl (Nat.le_of_ble_eq_true rfl)]
  all_goals try simp only [lay_1, true_and, Nat.reduceAdd, eq_self_iff_true]
theorem g217_4 {d : Nat} {s0 : Int} {w : aW} {Q : Option aV → aW → Prop} : T (d + 1) 217 4 [some (vr 1)] [vi s0] w Q = ((s0 = 0 → T (d + 1) 217 24 [some (vr 1)] [] w Q) ∧ (¬ (s0 = 0) → T d 272 0 [some (vr 1), some (vi 0), some (vi (w32 ((w 3 1) - 1)))] [] w (fun r w1 => T (d + 1) 217 21 [some (vr 1)] (r.toList ++ []) w1 Q))) := by
  rw [T_if_eq 24 c217_4 rfl, T_aload_0 c217_7, T_sipush c217_8, T_aload_0 c217_9, T_getR 4 4 4 c217_10 rfl rfl rfl rfl, rf_1_4, T_getI 8 1 1 c217_13 rfl rfl rfl rfl, T_sipush c217_16, T_isub c217_17, T_invv (es := [some (vr 1), some (vi 0), some (vi (w32 ((w 3 1) - 1)))]) (st := [vi (w32 ((w 3 1) - 1)), vi 0, vr 1]) (ks := [2, 0, 0]) (n := 3) (c := 4) (k := 1) (as := [vi 0, vi (w32 ((w 3 1) - 1))]) (rest := []) c217_18 (by decide +kernel) (by decide +kernel) (by decide +kernel) (by decide) rfl rfl (Nat.le_of_ble_eq_true rfl)]
  all_goals try simp only [Int.reduceToNat, lay_1, lay_3, true_and, Nat.reduceAdd, eq_self_iff_true]
theorem g217_21 {d : Nat} {s0 : Int} {w : aW} {Q : Option aV → aW → Prop} : T (d + 1) 217 21 [some (vr 1)] [vi s0] w Q = ((¬ s0 = 0 → T d 212 0 [some (vr 1)] [] (iup w 3 3 (jor (w 3 3) (jshl 1 (w 1 11)))) (fun r w1 => T (d + 1) 217 48 [some (vr 1)] (r.toList ++ []) w1 Q)) ∧ (¬ (¬ s0 = 0) → T (d + 1) 217 24 [some (vr 1)] [] w Q)) := by
  rw [T_if_ne 26 c217_21 rfl, T_aload_0 c217_26, T_getR 4 4 4 c217_27 rfl rfl rfl rfl, rf_1_4, T_dup_r c217_30, T_getI 8 3 3 c217_31 rfl rfl rfl rfl, T_sipush c217_34, T_aload_0 c217_35, T_getI 4 11 11 c217_36 rfl rfl rfl rfl, T_ishl c217_39, T_ior c217_40, T_putI 8 3 3 c217_41 rfl rfl rfl rfl, T_aload_0 c217_44, T_invv (es := [some (vr 1)]) (st := [vr 1]) (ks := [2]) (n := 1) (c := 4) (k := 1) (as := []) (rest := []) c217_45 (by decide +kernel) (by decide +kernel) (by decide +kernel) (by decide) rfl rfl (Nat.le_of_ble_eq_true rfl)]
  all_goals try simp only [Int.reduceToNat, lay_1, lay_3, true_and, Nat.reduceAdd, eq_self_iff_true]
theorem g217_24 {d : Nat} {x0 : Option aV} {w : aW} {Q : Option aV → aW → Prop} : T d 217 24 [x0] [] w Q = Q (some (vi 0)) w := by
  rw [T_sipush c217_24, T_iretz c217_25 (by decide +kernel)]
  all_goals try simp only [true_and, Nat.reduceAdd, eq_self_iff_true, zero_eq_1, one_eq_0, true_or, or_true]
theorem g217_48 {d : Nat} {s0 : Int} {x0 : Option aV} {w : aW} {Q : Option aV → aW → Prop} : T d 217 48 [x0] [vi s0] w Q = ((s0 = 0 ∨ s0 = 1) ∧ Q (some (vi s0)) w) := by
  rw [T_iretz c217_48 (by decide +kernel)]
  all_goals try simp only [true_and, Nat.reduceAdd, eq_self_iff_true]
/-! 218: StringHands$Reader.readLife.()Z -/
theorem c218_0 : cd 218 0 = some (.aload 0, 1) := by decide +kernel
theorem c218_1 : cd 218 1 = some (.invokevirtual 212, 3) := by decide +kernel
theorem c218_4 : cd 218 4 = some (.ifCond .eq 17, 3) := by decide +kernel
theorem c218_7 : cd 218 7 = some (.aload 0, 1) := by decide +kernel
theorem c218_8 : cd 218 8 = some (.sipush 1, 1) := by decide +kernel
theorem c218_9 : cd 218 9 = some (.sipush 99, 2) := by decide +kernel
theorem c218_11 : cd 218 11 = some (.invokevirtual 272, 3) := by decide +kernel
theorem c218_14 : cd 218 14 = some (.ifCond .ne 19, 3) := by decide +kernel
theorem c218_17 : cd 218 17 = some (.sipush 0, 1) := by decide +kernel
theorem c218_18 : cd 218 18 = some (.ireturn, 1) := by decide +kernel
theorem c218_19 : cd 218 19 = some (.aload 0, 1) := by decide +kernel
theorem c218_20 : cd 218 20 = some (.getfield 1042, 3) := by decide +kernel
theorem c218_23 : cd 218 23 = some (.aload 0, 1) := by decide +kernel
theorem c218_24 : cd 218 24 = some (.getfield 1068, 3) := by decide +kernel
theorem c218_27 : cd 218 27 = some (.putfield 2064, 3) := by decide +kernel
theorem c218_30 : cd 218 30 = some (.aload 0, 1) := by decide +kernel
theorem c218_31 : cd 218 31 = some (.invokevirtual 212, 3) := by decide +kernel
theorem c218_34 : cd 218 34 = some (.ireturn, 1) := by decide +kernel
theorem g218_0 {d : Nat} {w : aW} {Q : Option aV → aW → Prop} : T (d + 1) 218 0 [some (vr 1)] [] w Q = T d 212 0 [some (vr 1)] [] w (fun r w1 => T (d + 1) 218 4 [some (vr 1)] (r.toList ++ []) w1 Q) := by
  rw [T_aload_0 c218_0, T_invv (es := [some (vr 1)]) (st := [vr 1]) (ks := [2]) (n := 1) (c := 4) (k := 1) (as := []) (rest := []) c218_1 (by decide +kernel) (by decide +kernel) (by decide +kernel) (by decide) rfl rfl (Nat.le_of_ble_eq_true rfl)]
  all_goals try simp only [lay_1, true_and, Nat.reduceAdd, eq_self_iff_true]
theorem g218_4 {d : Nat} {s0 : Int} {w : aW} {Q : Option aV → aW → Prop} : T (d + 1) 218 4 [some (vr 1)] [vi s0] w Q = ((s0 = 0 → T (d + 1) 218 17 [some (vr 1)] [] w Q) ∧ (¬ (s0 = 0) → T d 272 0 [some (vr 1), some (vi 1), some (vi 99)] [] w (fun r w1 => T (d + 1) 218 14 [some (vr 1)] (r.toList ++ []) w1 Q))) := by
  rw [T_if_eq 17 c218_4 rfl, T_aload_0 c218_7, T_sipush c218_8, T_sipush c218_9, T_invv (es := [some (vr 1), some (vi 1), some (vi 99)]) (st := [vi 99, vi 1, vr 1]) (ks := [2, 0, 0]) (n := 3) (c := 4) (k := 1) (as := [vi 1, vi 99]) (rest := []) c218_11 (by decide +kernel) (by decide +kernel) (by decide +kernel) (by decide) rfl rfl (Nat.le_of_ble_eq_true rfl)]
  all_goals try simp only [Int.reduceToNat, lay_1, true_and, Nat.reduceAdd, eq_self_iff_true]
theorem g218_14 {d : Nat} {s0 : Int} {w : aW} {Q : Option aV → aW → Prop} : T (d + 1) 218 14 [some (vr 1)] [vi s0] w Q = ((¬ s0 = 0 → T d 212 0 [some (vr 1)] [] (iup w 3 4 (w 1 11)) (fun r w1 => T (d + 1) 218 34 [some (vr 1)] (r.toList ++ []) w1 Q)) ∧ (¬ (¬ s0 = 0) → T (d + 1) 218 17 [some (vr 1)] [] w Q)) := by
  rw [T_if_ne 19 c218_14 rfl, T_aload_0 c218_19, T_getR 4 4 4 c218_20 rfl rfl rfl rfl, rf_1_4, T_aload_0 c218_23, T_getI 4 11 11 c218_24 rfl rfl rfl rfl, T_putI 8 4 4 c218_27 rfl rfl rfl rfl, T_aload_0 c218_30, T_invv (es := [some (vr 1)]) (st := [vr 1]) (ks := [2]) (n := 1) (c := 4) (k := 1) (as := []) (rest := []) c218_31 (by decide +kernel) (by decide +kernel) (by decide +kernel) (by decide) rfl rfl (Nat.le_of_ble_eq_true rfl)]
  all_goals try simp only [Int.reduceToNat, lay_1, lay_3, true_and, Nat.reduceAdd, eq_self_iff_true]
theorem g218_17 {d : Nat} {x0 : Option aV} {w : aW} {Q : Option aV → aW → Prop} : T d 218 17 [x0] [] w Q = Q (some (vi 0)) w := by
  rw [T_sipush c218_17, T_iretz c218_18 (by decide +kernel)]
  all_goals try simp only [true_and, Nat.reduceAdd, eq_self_iff_true, zero_eq_1, one_eq_0, true_or, or_true]
theorem g218_34 {d : Nat} {s0 : Int} {x0 : Option aV} {w : aW} {Q : Option aV → aW → Prop} : T d 218 34 [x0] [vi s0] w Q = ((s0 = 0 ∨ s0 = 1) ∧ Q (some (vi s0)) w) := by
  rw [T_iretz c218_34 (by decide +kernel)]
  all_goals try simp only [true_and, Nat.reduceAdd, eq_self_iff_true]
/-! 219: StringHands$Reader.refuse.(I)Z -/
theorem c219_0 : cd 219 0 = some (.aload 0, 1) := by decide +kernel
theorem c219_1 : cd 219 1 = some (.iload 1, 1) := by decide +kernel
theorem c219_2 : cd 219 2 = some (.putfield 1032, 3) := by decide +kernel
theorem c219_5 : cd 219 5 = some (.aload 0, 1) := by decide +kernel
theorem c219_6 : cd 219 6 = some (.aload 0, 1) := by decide +kernel
theorem c219_7 : cd 219 7 = some (.getfield 1050, 3) := by decide +kernel
theorem c219_10 : cd 219 10 = some (.aload 0, 1) := by decide +kernel
theorem c219_11 : cd 219 11 = some (.getfield 1060, 3) := by decide +kernel
theorem c219_14 : cd 219 14 = some (.iaload, 1) := by decide +kernel
theorem c219_15 : cd 219 15 = some (.putfield 1036, 3) := by decide +kernel
theorem c219_18 : cd 219 18 = some (.sipush 0, 1) := by decide +kernel
theorem c219_19 : cd 219 19 = some (.ireturn, 1) := by decide +kernel
theorem g219_0 {d : Nat} {a1 : Int} {w : aW} {Q : Option aV → aW → Prop} : T d 219 0 [some (vr 1), some (vi a1)] [] w Q = ((0 ≤ (iup w 1 2 a1) 1 9 ∧ (iup w 1 2 a1) 1 9 < 901) ∧ Q (some (vi 0)) (iup (iup w 1 2 a1) 1 3 ((iup w 1 2 a1) 14 ((iup w 1 2 a1) 1 9)))) := by
  rw [T_aload_0 c219_0, T_iload_1 c219_1, T_putI 4 2 2 c219_2 rfl rfl rfl rfl, T_aload_0 c219_5, T_aload_0 c219_6, T_getR 4 6 6 c219_7 rfl rfl rfl rfl, rf_1_6, T_aload_0 c219_10, T_getI 4 9 9 c219_11 rfl rfl rfl rfl, T_iald c219_14, T_putI 4 3 3 c219_15 rfl rfl rfl rfl, T_sipush c219_18, T_iretz c219_19 (by decide +kernel)]
  all_goals try simp only [lay_1, ld_14, true_and, Nat.reduceAdd, eq_self_iff_true, zero_eq_1, one_eq_0, true_or, or_true]
/-! 220: StringHands$Reader.isKind.(I)Z -/
theorem c220_0 : cd 220 0 = some (.aload 0, 1) := by decide +kernel
theorem c220_1 : cd 220 1 = some (.getfield 1064, 3) := by decide +kernel
theorem c220_4 : cd 220 4 = some (.iload 1, 1) := by decide +kernel
theorem c220_5 : cd 220 5 = some (.if_icmp .eq 16, 3) := by decide +kernel
theorem c220_8 : cd 220 8 = some (.aload 0, 1) := by decide +kernel
theorem c220_9 : cd 220 9 = some (.sipush 2, 1) := by decide +kernel
theorem c220_10 : cd 220 10 = some (.invokevirtual 219, 3) := by decide +kernel
theorem c220_13 : cd 220 13 = some (.ifCond .eq 20, 3) := by decide +kernel
theorem c220_16 : cd 220 16 = some (.sipush 1, 1) := by decide +kernel
theorem c220_17 : cd 220 17 = some (.goto 21, 3) := by decide +kernel
theorem c220_20 : cd 220 20 = some (.sipush 0, 1) := by decide +kernel
theorem c220_21 : cd 220 21 = some (.ireturn, 1) := by decide +kernel
theorem g220_0 {d : Nat} {a1 : Int} {w : aW} {Q : Option aV → aW → Prop} : T (d + 1) 220 0 [some (vr 1), some (vi a1)] [] w Q = ((w 1 10 = a1 → T (d + 1) 220 16 [some (vr 1), some (vi a1)] [] w Q) ∧ (¬ (w 1 10 = a1) → T d 219 0 [some (vr 1), some (vi 2)] [] w (fun r w1 => T (d + 1) 220 13 [some (vr 1), some (vi a1)] (r.toList ++ []) w1 Q))) := by
  rw [T_aload_0 c220_0, T_getI 4 10 10 c220_1 rfl rfl rfl rfl, T_iload_1 c220_4, T_icmp_eq 16 c220_5 rfl, T_aload_0 c220_8, T_sipush c220_9, T_invv (es := [some (vr 1), some (vi 2)]) (st := [vi 2, vr 1]) (ks := [2, 0]) (n := 2) (c := 4) (k := 1) (as := [vi 2]) (rest := []) c220_10 (by decide +kernel) (by decide +kernel) (by decide +kernel) (by decide) rfl rfl (Nat.le_of_ble_eq_true rfl)]
  all_goals try simp only [Int.reduceToNat, lay_1, true_and, Nat.reduceAdd, eq_self_iff_true]
theorem g220_13 {d : Nat} {s0 : Int} {x0 x1 : Option aV} {w : aW} {Q : Option aV → aW → Prop} : T d 220 13 [x0, x1] [vi s0] w Q = ((s0 = 0 → T d 220 21 [x0, x1] [vi 0] w Q) ∧ (¬ (s0 = 0) → T d 220 16 [x0, x1] [] w Q)) := by
  rw [T_if_eq 20 c220_13 rfl, T_sipush c220_20]
  all_goals try simp only [Int.reduceToNat, true_and, Nat.reduceAdd, eq_self_iff_true]
theorem g220_16 {d : Nat} {x0 x1 : Option aV} {w : aW} {Q : Option aV → aW → Prop} : T d 220 16 [x0, x1] [] w Q = T d 220 21 [x0, x1] [vi 1] w Q := by
  rw [T_sipush c220_16, T_goto 21 c220_17 rfl]
  all_goals try simp only [true_and, Nat.reduceAdd, eq_self_iff_true]
theorem g220_21 {d : Nat} {s0 : Int} {x0 x1 : Option aV} {w : aW} {Q : Option aV → aW → Prop} : T d 220 21 [x0, x1] [vi s0] w Q = ((s0 = 0 ∨ s0 = 1) ∧ Q (some (vi s0)) w) := by
  rw [T_iretz c220_21 (by decide +kernel)]
  all_goals try simp only [true_and, Nat.reduceAdd, eq_self_iff_true]
/-! 221: java/util/Arrays.fill.([II)V -/
theorem c221_0 : cd 221 0 = some (.sipush 0, 1) := by decide +kernel
theorem c221_1 : cd 221 1 = some (.istore 2, 1) := by decide +kernel
theorem c221_2 : cd 221 2 = some (.aload 0, 1) := by decide +kernel
theorem c221_3 : cd 221 3 = some (.arraylength, 1) := by decide +kernel
theorem c221_4 : cd 221 4 = some (.istore 3, 1) := by decide +kernel
theorem c221_5 : cd 221 5 = some (.iload 2, 1) := by decide +kernel
theorem c221_6 : cd 221 6 = some (.iload 3, 1) := by decide +kernel
theorem c221_7 : cd 221 7 = some (.if_icmp .ge 20, 3) := by decide +kernel
theorem c221_10 : cd 221 10 = some (.aload 0, 1) := by decide +kernel
theorem c221_11 : cd 221 11 = some (.iload 2, 1) := by decide +kernel
theorem c221_12 : cd 221 12 = some (.iload 1, 1) := by decide +kernel
theorem c221_13 : cd 221 13 = some (.iastore, 1) := by decide +kernel
theorem c221_14 : cd 221 14 = some (.iinc 2 1, 3) := by decide +kernel
theorem c221_17 : cd 221 17 = some (.goto 5, 3) := by decide +kernel
theorem c221_20 : cd 221 20 = some (.return_, 1) := by decide +kernel
theorem g221_0 {d : Nat} {r0 : Nat} {x1 x2 x3 : Option aV} {w : aW} {Q : Option aV → aW → Prop} : T d 221 0 [some (vr r0), x1, x2, x3] [] w Q = (alok r0 ∧ T d 221 5 [some (vr r0), x1, some (vi 0), some (vi (alv w r0))] [] w Q) := by
  rw [T_sipush c221_0, T_istore_2 c221_1, T_aload_0 c221_2, T_alen c221_3, T_istore_3 c221_4]
  all_goals try simp only [true_and, Nat.reduceAdd, eq_self_iff_true]
theorem g221_5 {d : Nat} {a1 a2 a3 : Int} {r0 : Nat} {w : aW} {Q : Option aV → aW → Prop} : T d 221 5 [some (vr r0), some (vi a1), some (vi a2), some (vi a3)] [] w Q = ((a3 ≤ a2 → Q none w) ∧ (¬ (a3 ≤ a2) → (inA r0 0 a2 = true ∧ T d 221 5 [some (vr r0), some (vi a1), some (vi (w32 (a2 + 1))), some (vi a3)] [] (iup w r0 a2 a1) Q))) := by
  rw [T_iload_2 c221_5, T_iload_3 c221_6, T_icmp_ge 20 c221_7 rfl, T_vret c221_20 (by decide +kernel), T_aload_0 c221_10, T_iload_2 c221_11, T_iload_1 c221_12, T_iast c221_13, T_iinc_2 c221_14, T_goto 5 c221_17 rfl]
  all_goals try simp only [Int.reduceToNat, true_and, Nat.reduceAdd, eq_self_iff_true]
/-! 222: StringHandsModel.see.(I)I -/
theorem c222_0 : cd 222 0 = some (.iload 1, 1) := by decide +kernel
theorem c222_1 : cd 222 1 = some (.aload 0, 1) := by decide +kernel
theorem c222_2 : cd 222 2 = some (.getfield 3104, 3) := by decide +kernel
theorem c222_5 : cd 222 5 = some (.if_icmp .ge 17, 3) := by decide +kernel
theorem c222_8 : cd 222 8 = some (.aload 0, 1) := by decide +kernel
theorem c222_9 : cd 222 9 = some (.getfield 3086, 3) := by decide +kernel
theorem c222_12 : cd 222 12 = some (.iload 1, 1) := by decide +kernel
theorem c222_13 : cd 222 13 = some (.iaload, 1) := by decide +kernel
theorem c222_14 : cd 222 14 = some (.goto 18, 3) := by decide +kernel
theorem c222_17 : cd 222 17 = some (.sipush (-1), 1) := by decide +kernel
theorem c222_18 : cd 222 18 = some (.ireturn, 1) := by decide +kernel
theorem g222_0 {d : Nat} {a1 : Int} {w : aW} {Q : Option aV → aW → Prop} : T d 222 0 [some (vr 167), some (vi a1)] [] w Q = ((w 167 8 ≤ a1 → T d 222 18 [some (vr 167), some (vi a1)] [vi (-1)] w Q) ∧ (¬ (w 167 8 ≤ a1) → ((0 ≤ a1 ∧ a1 < 900) ∧ T d 222 18 [some (vr 167), some (vi a1)] [vi (w 170 a1)] w Q))) := by
  rw [T_iload_1 c222_0, T_aload_0 c222_1, T_getI 12 8 8 c222_2 rfl rfl rfl rfl, T_icmp_ge 17 c222_5 rfl, T_sipush c222_17, T_aload_0 c222_8, T_getR 12 3 3 c222_9 rfl rfl rfl rfl, rf_167_3, T_iload_1 c222_12, T_iald c222_13, T_goto 18 c222_14 rfl]
  all_goals try simp only [Int.reduceToNat, lay_167, ld_170, true_and, Nat.reduceAdd, eq_self_iff_true]
theorem g222_18 {d : Nat} {s0 : Int} {x0 x1 : Option aV} {w : aW} {Q : Option aV → aW → Prop} : T d 222 18 [x0, x1] [vi s0] w Q = Q (some (vi s0)) w := by
  rw [T_ireti c222_18 (by decide +kernel)]
  all_goals try simp only [true_and, Nat.reduceAdd, eq_self_iff_true]
/-! 223: StringHandsModel.isSmall.(I)Z -/
theorem c223_0 : cd 223 0 = some (.iload 0, 1) := by decide +kernel
theorem c223_1 : cd 223 1 = some (.sipush 97, 2) := by decide +kernel
theorem c223_3 : cd 223 3 = some (.if_icmp .lt 16, 3) := by decide +kernel
theorem c223_6 : cd 223 6 = some (.iload 0, 1) := by decide +kernel
theorem c223_7 : cd 223 7 = some (.sipush 122, 2) := by decide +kernel
theorem c223_9 : cd 223 9 = some (.if_icmp .gt 16, 3) := by decide +kernel
theorem c223_12 : cd 223 12 = some (.sipush 1, 1) := by decide +kernel
theorem c223_13 : cd 223 13 = some (.goto 17, 3) := by decide +kernel
theorem c223_16 : cd 223 16 = some (.sipush 0, 1) := by decide +kernel
theorem c223_17 : cd 223 17 = some (.ireturn, 1) := by decide +kernel
theorem g223_0 {d : Nat} {a0 : Int} {w : aW} {Q : Option aV → aW → Prop} : T d 223 0 [some (vi a0)] [] w Q = ((a0 < 97 → T d 223 16 [some (vi a0)] [] w Q) ∧ (¬ (a0 < 97) → ((122 < a0 → T d 223 16 [some (vi a0)] [] w Q) ∧ (¬ (122 < a0) → T d 223 17 [some (vi a0)] [vi 1] w Q)))) := by
  rw [T_iload_0 c223_0, T_sipush c223_1, T_icmp_lt 16 c223_3 rfl, T_iload_0 c223_6, T_sipush c223_7, T_icmp_gt 16 c223_9 rfl, T_sipush c223_12, T_goto 17 c223_13 rfl]
  all_goals try simp only [Int.reduceToNat, true_and, Nat.reduceAdd, eq_self_iff_true]
theorem g223_16 {d : Nat} {x0 : Option aV} {w : aW} {Q : Option aV → aW → Prop} : T d 223 16 [x0] [] w Q = T d 223 17 [x0] [vi 0] w Q := by
  rw [T_sipush c223_16]
  all_goals try simp only [true_and, Nat.reduceAdd, eq_self_iff_true]
theorem g223_17 {d : Nat} {s0 : Int} {x0 : Option aV} {w : aW} {Q : Option aV → aW → Prop} : T d 223 17 [x0] [vi s0] w Q = ((s0 = 0 ∨ s0 = 1) ∧ Q (some (vi s0)) w) := by
  rw [T_iretz c223_17 (by decide +kernel)]
  all_goals try simp only [true_and, Nat.reduceAdd, eq_self_iff_true]
/-! 224: StringHandsModel.keyAt.()I -/
theorem c224_0 : cd 224 0 = some (.sipush 0, 1) := by decide +kernel
theorem c224_1 : cd 224 1 = some (.istore 1, 1) := by decide +kernel
theorem c224_2 : cd 224 2 = some (.sipush 1, 1) := by decide +kernel
theorem c224_3 : cd 224 3 = some (.istore 2, 1) := by decide +kernel
theorem c224_4 : cd 224 4 = some (.iload 2, 1) := by decide +kernel
theorem c224_5 : cd 224 5 = some (.ldc 2, 2) := by decide +kernel
theorem c224_7 : cd 224 7 = some (.invokevirtual 226, 3) := by decide +kernel
theorem c224_10 : cd 224 10 = some (.if_icmp .ge 123, 3) := by decide +kernel
theorem c224_13 : cd 224 13 = some (.sipush 0, 1) := by decide +kernel
theorem c224_14 : cd 224 14 = some (.istore 3, 1) := by decide +kernel
theorem c224_15 : cd 224 15 = some (.ldc 2, 2) := by decide +kernel
theorem c224_17 : cd 224 17 = some (.iload 2, 1) := by decide +kernel
theorem c224_18 : cd 224 18 = some (.iload 3, 1) := by decide +kernel
theorem c224_19 : cd 224 19 = some (.iadd, 1) := by decide +kernel
theorem c224_20 : cd 224 20 = some (.invokevirtual 227, 3) := by decide +kernel
theorem c224_23 : cd 224 23 = some (.sipush 32, 2) := by decide +kernel
theorem c224_25 : cd 224 25 = some (.if_icmp .eq 69, 3) := by decide +kernel
theorem c224_28 : cd 224 28 = some (.aload 0, 1) := by decide +kernel
theorem c224_29 : cd 224 29 = some (.getfield 3096, 3) := by decide +kernel
theorem c224_32 : cd 224 32 = some (.iload 3, 1) := by decide +kernel
theorem c224_33 : cd 224 33 = some (.iadd, 1) := by decide +kernel
theorem c224_34 : cd 224 34 = some (.aload 0, 1) := by decide +kernel
theorem c224_35 : cd 224 35 = some (.getfield 3100, 3) := by decide +kernel
theorem c224_38 : cd 224 38 = some (.if_icmp .ge 69, 3) := by decide +kernel
theorem c224_41 : cd 224 41 = some (.aload 0, 1) := by decide +kernel
theorem c224_42 : cd 224 42 = some (.getfield 3086, 3) := by decide +kernel
theorem c224_45 : cd 224 45 = some (.aload 0, 1) := by decide +kernel
theorem c224_46 : cd 224 46 = some (.getfield 3096, 3) := by decide +kernel
theorem c224_49 : cd 224 49 = some (.iload 3, 1) := by decide +kernel
theorem c224_50 : cd 224 50 = some (.iadd, 1) := by decide +kernel
theorem c224_51 : cd 224 51 = some (.iaload, 1) := by decide +kernel
theorem c224_52 : cd 224 52 = some (.ldc 2, 2) := by decide +kernel
theorem c224_54 : cd 224 54 = some (.iload 2, 1) := by decide +kernel
theorem c224_55 : cd 224 55 = some (.iload 3, 1) := by decide +kernel
theorem c224_56 : cd 224 56 = some (.iadd, 1) := by decide +kernel
theorem c224_57 : cd 224 57 = some (.invokevirtual 227, 3) := by decide +kernel
theorem c224_60 : cd 224 60 = some (.if_icmp .ne 69, 3) := by decide +kernel
theorem c224_63 : cd 224 63 = some (.iinc 3 1, 3) := by decide +kernel
theorem c224_66 : cd 224 66 = some (.goto 15, 3) := by decide +kernel
theorem c224_69 : cd 224 69 = some (.ldc 2, 2) := by decide +kernel
theorem c224_71 : cd 224 71 = some (.iload 2, 1) := by decide +kernel
theorem c224_72 : cd 224 72 = some (.iload 3, 1) := by decide +kernel
theorem c224_73 : cd 224 73 = some (.iadd, 1) := by decide +kernel
theorem c224_74 : cd 224 74 = some (.invokevirtual 227, 3) := by decide +kernel
theorem c224_77 : cd 224 77 = some (.sipush 32, 2) := by decide +kernel
theorem c224_79 : cd 224 79 = some (.if_icmp .ne 97, 3) := by decide +kernel
theorem c224_82 : cd 224 82 = some (.aload 0, 1) := by decide +kernel
theorem c224_83 : cd 224 83 = some (.getfield 3096, 3) := by decide +kernel
theorem c224_86 : cd 224 86 = some (.iload 3, 1) := by decide +kernel
theorem c224_87 : cd 224 87 = some (.iadd, 1) := by decide +kernel
theorem c224_88 : cd 224 88 = some (.aload 0, 1) := by decide +kernel
theorem c224_89 : cd 224 89 = some (.getfield 3100, 3) := by decide +kernel
theorem c224_92 : cd 224 92 = some (.if_icmp .ne 97, 3) := by decide +kernel
theorem c224_95 : cd 224 95 = some (.iload 1, 1) := by decide +kernel
theorem c224_96 : cd 224 96 = some (.ireturn, 1) := by decide +kernel
theorem c224_97 : cd 224 97 = some (.ldc 2, 2) := by decide +kernel
theorem c224_99 : cd 224 99 = some (.iload 2, 1) := by decide +kernel
theorem c224_100 : cd 224 100 = some (.invokevirtual 227, 3) := by decide +kernel
theorem c224_103 : cd 224 103 = some (.sipush 32, 2) := by decide +kernel
theorem c224_105 : cd 224 105 = some (.if_icmp .eq 114, 3) := by decide +kernel
theorem c224_108 : cd 224 108 = some (.iinc 2 1, 3) := by decide +kernel
theorem c224_111 : cd 224 111 = some (.goto 97, 3) := by decide +kernel
theorem c224_114 : cd 224 114 = some (.iinc 2 1, 3) := by decide +kernel
theorem c224_117 : cd 224 117 = some (.iinc 1 1, 3) := by decide +kernel
theorem c224_120 : cd 224 120 = some (.goto 4, 3) := by decide +kernel
theorem c224_123 : cd 224 123 = some (.sipush 14, 2) := by decide +kernel
theorem c224_125 : cd 224 125 = some (.ireturn, 1) := by decide +kernel
theorem g224_0 {d : Nat} {x0 x1 x2 x3 : Option aV} {w : aW} {Q : Option aV → aW → Prop} : T d 224 0 [x0, x1, x2, x3] [] w Q = T d 224 4 [x0, some (vi 0), some (vi 1), x3] [] w Q := by
  rw [T_sipush c224_0, T_istore_1 c224_1, T_sipush c224_2, T_istore_2 c224_3]
  all_goals try simp only [true_and, Nat.reduceAdd, eq_self_iff_true]
theorem g224_4 {d : Nat} {a2 : Int} {x0 x1 x3 : Option aV} {w : aW} {Q : Option aV → aW → Prop} : T (d + 1) 224 4 [x0, x1, some (vi a2), x3] [] w Q = ((1000 ≤ 1002 ∧ 1002 < 1003) ∧ T d 226 0 [some (vr 1002)] [] w (fun r w1 => T (d + 1) 224 10 [x0, x1, some (vi a2), x3] (r.toList ++ [vi a2]) w1 Q)) := by
  rw [T_iload_2 c224_4, T_ldc (n := 1002) c224_5 rfl, T_invs (es := [some (vr 1002)]) (st := [vr 1002, vi a2]) (ks := [2]) (n := 1) (k := 1002) (as := []) (rest := [vi a2]) c224_7 (by decide +kernel) (by decide +kernel) (by decide +kernel) rfl rfl (Nat.le_of_ble_eq_true rfl)]
  all_goals try simp only [true_and, Nat.reduceAdd, eq_self_iff_true]
theorem g224_10 {d : Nat} {s0 s1 : Int} {x0 x1 x2 x3 : Option aV} {w : aW} {Q : Option aV → aW → Prop} : T d 224 10 [x0, x1, x2, x3] [vi s1, vi s0] w Q = ((s1 ≤ s0 → Q (some (vi 14)) w) ∧ (¬ (s1 ≤ s0) → T d 224 15 [x0, x1, x2, some (vi 0)] [] w Q)) := by
  rw [T_icmp_ge 123 c224_10 rfl, T_sipush c224_123, T_ireti c224_125 (by decide +kernel), T_sipush c224_13, T_istore_3 c224_14]
  all_goals try simp only [Int.reduceToNat, true_and, Nat.reduceAdd, eq_self_iff_true]
theorem g224_15 {d : Nat} {a2 a3 : Int} {x0 x1 : Option aV} {w : aW} {Q : Option aV → aW → Prop} : T (d + 1) 224 15 [x0, x1, some (vi a2), some (vi a3)] [] w Q = ((1000 ≤ 1002 ∧ 1002 < 1003) ∧ T d 227 0 [some (vr 1002), some (vi (w32 (a2 + a3)))] [] w (fun r w1 => T (d + 1) 224 23 [x0, x1, some (vi a2), some (vi a3)] (r.toList ++ []) w1 Q)) := by
  rw [T_ldc (n := 1002) c224_15 rfl, T_iload_2 c224_17, T_iload_3 c224_18, T_iadd c224_19, T_invs (es := [some (vr 1002), some (vi (w32 (a2 + a3)))]) (st := [vi (w32 (a2 + a3)), vr 1002]) (ks := [2, 0]) (n := 2) (k := 1002) (as := [vi (w32 (a2 + a3))]) (rest := []) c224_20 (by decide +kernel) (by decide +kernel) (by decide +kernel) rfl rfl (Nat.le_of_ble_eq_true rfl)]
  all_goals try simp only [true_and, Nat.reduceAdd, eq_self_iff_true]
theorem g224_23 {d : Nat} {a2 a3 s0 : Int} {x1 : Option aV} {w : aW} {Q : Option aV → aW → Prop} : T (d + 1) 224 23 [some (vr 167), x1, some (vi a2), some (vi a3)] [vi s0] w Q = ((s0 = 32 → T (d + 1) 224 69 [some (vr 167), x1, some (vi a2), some (vi a3)] [] w Q) ∧ (¬ (s0 = 32) → ((w 167 7 ≤ w32 ((w 167 6) + a3) → T (d + 1) 224 69 [some (vr 167), x1, some (vi a2), some (vi a3)] [] w Q) ∧ (¬ (w 167 7 ≤ w32 ((w 167 6) + a3)) → ((0 ≤ w32 ((w 167 6) + a3) ∧ w32 ((w 167 6) + a3) < 900) ∧ ((1000 ≤ 1002 ∧ 1002 < 1003) ∧ T d 227 0 [some (vr 1002), some (vi (w32 (a2 + a3)))] [] w (fun r w1 => T (d + 1) 224 60 [some (vr 167), x1, some (vi a2), some (vi a3)] (r.toList ++ [vi (w 170 (w32 ((w 167 6) + a3)))]) w1 Q))))))) := by
  rw [T_sipush c224_23, T_icmp_eq 69 c224_25 rfl, T_aload_0 c224_28, T_getI 12 6 6 c224_29 rfl rfl rfl rfl, T_iload_3 c224_32, T_iadd c224_33, T_aload_0 c224_34, T_getI 12 7 7 c224_35 rfl rfl rfl rfl, T_icmp_ge 69 c224_38 rfl, T_aload_0 c224_41, T_getR 12 3 3 c224_42 rfl rfl rfl rfl, rf_167_3, T_aload_0 c224_45, T_getI 12 6 6 c224_46 rfl rfl rfl rfl, T_iload_3 c224_49, T_iadd c224_50, T_iald c224_51, T_ldc (n := 1002) c224_52 rfl, T_iload_2 c224_54, T_iload_3 c224_55, T_iadd c224_56, T_invs (es := [some (vr 1002), some (vi (w32 (a2 + a3)))]) (st := [vi (w32 (a2 + a3)), vr 1002, vi (w 170 (w32 ((w 167 6) + a3)))]) (ks := [2, 0]) (n := 2) (k := 1002) (as := [vi (w32 (a2 + a3))]) (rest := [vi (w 170 (w32 ((w 167 6) + a3)))]) c224_57 (by decide +kernel) (by decide +kernel) (by decide +kernel) rfl rfl (Nat.le_of_ble_eq_true rfl)]
  all_goals try simp only [Int.reduceToNat, lay_167, ld_170, true_and, Nat.reduceAdd, eq_self_iff_true]
theorem g224_60 {d : Nat} {a3 s0 s1 : Int} {x0 x1 x2 : Option aV} {w : aW} {Q : Option aV → aW → Prop} : T d 224 60 [x0, x1, x2, some (vi a3)] [vi s1, vi s0] w Q = ((¬ s0 = s1 → T d 224 69 [x0, x1, x2, some (vi a3)] [] w Q) ∧ (¬ (¬ s0 = s1) → T d 224 15 [x0, x1, x2, some (vi (w32 (a3 + 1)))] [] w Q)) := by
  rw [T_icmp_ne 69 c224_60 rfl, T_iinc_3 c224_63, T_goto 15 c224_66 rfl]
  all_goals try simp only [Int.reduceToNat, true_and, Nat.reduceAdd, eq_self_iff_true]
theorem g224_69 {d : Nat} {a2 a3 : Int} {x0 x1 : Option aV} {w : aW} {Q : Option aV → aW → Prop} : T (d + 1) 224 69 [x0, x1, some (vi a2), some (vi a3)] [] w Q = ((1000 ≤ 1002 ∧ 1002 < 1003) ∧ T d 227 0 [some (vr 1002), some (vi (w32 (a2 + a3)))] [] w (fun r w1 => T (d + 1) 224 77 [x0, x1, some (vi a2), some (vi a3)] (r.toList ++ []) w1 Q)) := by
  rw [T_ldc (n := 1002) c224_69 rfl, T_iload_2 c224_71, T_iload_3 c224_72, T_iadd c224_73, T_invs (es := [some (vr 1002), some (vi (w32 (a2 + a3)))]) (st := [vi (w32 (a2 + a3)), vr 1002]) (ks := [2, 0]) (n := 2) (k := 1002) (as := [vi (w32 (a2 + a3))]) (rest := []) c224_74 (by decide +kernel) (by decide +kernel) (by decide +kernel) rfl rfl (Nat.le_of_ble_eq_true rfl)]
  all_goals try simp only [true_and, Nat.reduceAdd, eq_self_iff_true]
theorem g224_77 {d : Nat} {a1 a3 s0 : Int} {x2 : Option aV} {w : aW} {Q : Option aV → aW → Prop} : T d 224 77 [some (vr 167), some (vi a1), x2, some (vi a3)] [vi s0] w Q = ((¬ s0 = 32 → T d 224 97 [some (vr 167), some (vi a1), x2, some (vi a3)] [] w Q) ∧ (¬ (¬ s0 = 32) → ((¬ w32 ((w 167 6) + a3) = w 167 7 → T d 224 97 [some (vr 167), some (vi a1), x2, some (vi a3)] [] w Q) ∧ (¬ (¬ w32 ((w 167 6) + a3) = w 167 7) → Q (some (vi a1)) w)))) := by
  rw [T_sipush c224_77, T_icmp_ne 97 c224_79 rfl, T_aload_0 c224_82, T_getI 12 6 6 c224_83 rfl rfl rfl rfl, T_iload_3 c224_86, T_iadd c224_87, T_aload_0 c224_88, T_getI 12 7 7 c224_89 rfl rfl rfl rfl, T_icmp_ne 97 c224_92 rfl, T_iload_1 c224_95, T_ireti c224_96 (by decide +kernel)]
  all_goals try simp only [Int.reduceToNat, lay_167, true_and, Nat.reduceAdd, eq_self_iff_true]
theorem g224_97 {d : Nat} {a2 : Int} {x0 x1 x3 : Option aV} {w : aW} {Q : Option aV → aW → Prop} : T (d + 1) 224 97 [x0, x1, some (vi a2), x3] [] w Q = ((1000 ≤ 1002 ∧ 1002 < 1003) ∧ T d 227 0 [some (vr 1002), some (vi a2)] [] w (fun r w1 => T (d + 1) 224 103 [x0, x1, some (vi a2), x3] (r.toList ++ []) w1 Q)) := by
  rw [T_ldc (n := 1002) c224_97 rfl, T_iload_2 c224_99, T_invs (es := [some (vr 1002), some (vi a2)]) (st := [vi a2, vr 1002]) (ks := [2, 0]) (n := 2) (k := 1002) (as := [vi a2]) (rest := []) c224_100 (by decide +kernel) (by decide +kernel) (by decide +kernel) rfl rfl (Nat.le_of_ble_eq_true rfl)]
  all_goals try simp only [true_and, Nat.reduceAdd, eq_self_iff_true]
theorem g224_103 {d : Nat} {a1 a2 s0 : Int} {x0 x3 : Option aV} {w : aW} {Q : Option aV → aW → Prop} : T d 224 103 [x0, some (vi a1), some (vi a2), x3] [vi s0] w Q = ((s0 = 32 → T d 224 4 [x0, some (vi (w32 (a1 + 1))), some (vi (w32 (a2 + 1))), x3] [] w Q) ∧ (¬ (s0 = 32) → T d 224 97 [x0, some (vi a1), some (vi (w32 (a2 + 1))), x3] [] w Q)) := by
  rw [T_sipush c224_103, T_icmp_eq 114 c224_105 rfl, T_iinc_2 c224_114, T_iinc_1 c224_117, T_goto 4 c224_120 rfl, T_iinc_2 c224_108, T_goto 97 c224_111 rfl]
  all_goals try simp only [Int.reduceToNat, true_and, Nat.reduceAdd, eq_self_iff_true]
/-! 225: StringHandsModel.isDigit.(I)Z -/
theorem c225_0 : cd 225 0 = some (.iload 0, 1) := by decide +kernel
theorem c225_1 : cd 225 1 = some (.sipush 48, 2) := by decide +kernel
theorem c225_3 : cd 225 3 = some (.if_icmp .lt 16, 3) := by decide +kernel
theorem c225_6 : cd 225 6 = some (.iload 0, 1) := by decide +kernel
theorem c225_7 : cd 225 7 = some (.sipush 57, 2) := by decide +kernel
theorem c225_9 : cd 225 9 = some (.if_icmp .gt 16, 3) := by decide +kernel
theorem c225_12 : cd 225 12 = some (.sipush 1, 1) := by decide +kernel
theorem c225_13 : cd 225 13 = some (.goto 17, 3) := by decide +kernel
theorem c225_16 : cd 225 16 = some (.sipush 0, 1) := by decide +kernel
theorem c225_17 : cd 225 17 = some (.ireturn, 1) := by decide +kernel
theorem g225_0 {d : Nat} {a0 : Int} {w : aW} {Q : Option aV → aW → Prop} : T d 225 0 [some (vi a0)] [] w Q = ((a0 < 48 → T d 225 16 [some (vi a0)] [] w Q) ∧ (¬ (a0 < 48) → ((57 < a0 → T d 225 16 [some (vi a0)] [] w Q) ∧ (¬ (57 < a0) → T d 225 17 [some (vi a0)] [vi 1] w Q)))) := by
  rw [T_iload_0 c225_0, T_sipush c225_1, T_icmp_lt 16 c225_3 rfl, T_iload_0 c225_6, T_sipush c225_7, T_icmp_gt 16 c225_9 rfl, T_sipush c225_12, T_goto 17 c225_13 rfl]
  all_goals try simp only [Int.reduceToNat, true_and, Nat.reduceAdd, eq_self_iff_true]
theorem g225_16 {d : Nat} {x0 : Option aV} {w : aW} {Q : Option aV → aW → Prop} : T d 225 16 [x0] [] w Q = T d 225 17 [x0] [vi 0] w Q := by
  rw [T_sipush c225_16]
  all_goals try simp only [true_and, Nat.reduceAdd, eq_self_iff_true]
theorem g225_17 {d : Nat} {s0 : Int} {x0 : Option aV} {w : aW} {Q : Option aV → aW → Prop} : T d 225 17 [x0] [vi s0] w Q = ((s0 = 0 ∨ s0 = 1) ∧ Q (some (vi s0)) w) := by
  rw [T_iretz c225_17 (by decide +kernel)]
  all_goals try simp only [true_and, Nat.reduceAdd, eq_self_iff_true]
/-! 226: java/lang/String.length.()I -/
theorem c226_0 : cd 226 0 = some (.aload 0, 1) := by decide +kernel
theorem c226_1 : cd 226 1 = some (.getstatic 0, 3) := by decide +kernel
theorem c226_4 : cd 226 4 = some (.arraylength, 1) := by decide +kernel
theorem c226_5 : cd 226 5 = some (.aload 0, 1) := by decide +kernel
theorem c226_6 : cd 226 6 = some (.invokevirtual 277, 3) := by decide +kernel
theorem c226_9 : cd 226 9 = some (.ishr, 1) := by decide +kernel
theorem c226_10 : cd 226 10 = some (.ireturn, 1) := by decide +kernel
theorem g226_0 {d : Nat} {r0 : Nat} {w : aW} {Q : Option aV → aW → Prop} : T (d + 1) 226 0 [some (vr r0)] [] w Q = ((1000 ≤ r0 ∧ r0 < 1003) ∧ (alok (r0 + 100) ∧ ((1000 ≤ r0 ∧ r0 < 1003) ∧ T d 277 0 [some (vr r0)] [] w (fun r w1 => T (d + 1) 226 9 [some (vr r0)] (r.toList ++ [vi (alv w (r0 + 100))]) w1 Q)))) := by
  rw [T_aload_0 c226_0, T_gs0 c226_1, T_alen c226_4, T_aload_0 c226_5, T_invs (es := [some (vr r0)]) (st := [vr r0, vi (alv w (r0 + 100))]) (ks := [2]) (n := 1) (k := r0) (as := []) (rest := [vi (alv w (r0 + 100))]) c226_6 (by decide +kernel) (by decide +kernel) (by decide +kernel) rfl rfl (Nat.le_of_ble_eq_true rfl)]
  all_goals try simp only [true_and, Nat.reduceAdd, eq_self_iff_true]
theorem g226_9 {d : Nat} {s0 s1 : Int} {x0 : Option aV} {w : aW} {Q : Option aV → aW → Prop} : T d 226 9 [x0] [vi s1, vi s0] w Q = Q (some (vi (jshr s0 s1))) w := by
  rw [T_ishr c226_9, T_ireti c226_10 (by decide +kernel)]
  all_goals try simp only [true_and, Nat.reduceAdd, eq_self_iff_true]
/-! 227: java/lang/String.charAt.(I)C -/
theorem c227_0 : cd 227 0 = some (.aload 0, 1) := by decide +kernel
theorem c227_1 : cd 227 1 = some (.invokevirtual 278, 3) := by decide +kernel
theorem c227_4 : cd 227 4 = some (.ifCond .eq 16, 3) := by decide +kernel
theorem c227_7 : cd 227 7 = some (.aload 0, 1) := by decide +kernel
theorem c227_8 : cd 227 8 = some (.getstatic 0, 3) := by decide +kernel
theorem c227_11 : cd 227 11 = some (.iload 1, 1) := by decide +kernel
theorem c227_12 : cd 227 12 = some (.invokestatic 279, 3) := by decide +kernel
theorem c227_15 : cd 227 15 = some (.ireturn, 1) := by decide +kernel
theorem c227_16 : cd 227 16 = some (.aload 0, 1) := by decide +kernel
theorem c227_17 : cd 227 17 = some (.getstatic 0, 3) := by decide +kernel
theorem c227_20 : cd 227 20 = some (.iload 1, 1) := by decide +kernel
theorem g227_0 {d : Nat} {r0 : Nat} {x1 : Option aV} {w : aW} {Q : Option aV → aW → Prop} : T (d + 1) 227 0 [some (vr r0), x1] [] w Q = ((1000 ≤ r0 ∧ r0 < 1003) ∧ T d 278 0 [some (vr r0)] [] w (fun r w1 => T (d + 1) 227 4 [some (vr r0), x1] (r.toList ++ []) w1 Q)) := by
  rw [T_aload_0 c227_0, T_invs (es := [some (vr r0)]) (st := [vr r0]) (ks := [2]) (n := 1) (k := r0) (as := []) (rest := []) c227_1 (by decide +kernel) (by decide +kernel) (by decide +kernel) rfl rfl (Nat.le_of_ble_eq_true rfl)]
  all_goals try simp only [true_and, Nat.reduceAdd, eq_self_iff_true]
theorem g227_4 {d : Nat} {a1 s0 : Int} {r0 : Nat} {w : aW} {Q : Option aV → aW → Prop} : T (d + 1) 227 4 [some (vr r0), some (vi a1)] [vi s0] w Q = ((s0 = 0 → ((1000 ≤ r0 ∧ r0 < 1003) ∧ T (d + 1) 227 21 [some (vr r0), some (vi a1)] [vi a1, vr (r0 + 100)] w Q)) ∧ (¬ (s0 = 0) → ((1000 ≤ r0 ∧ r0 < 1003) ∧ T d 279 0 [some (vr (r0 + 100)), some (vi a1)] [] w (fun r w1 => T (d + 1) 227 15 [some (vr r0), some (vi a1)] (r.toList ++ []) w1 Q)))) := by
  rw [T_if_eq 16 c227_4 rfl, T_aload_0 c227_16, T_gs0 c227_17, T_iload_1 c227_20, T_aload_0 c227_7, T_gs0 c227_8, T_iload_1 c227_11, T_inv (es := [some (vr (r0 + 100)), some (vi a1)]) (st := [vi a1, vr (r0 + 100)]) (ks := [2, 0]) (n := 2) (as := [vr (r0 + 100), vi a1]) (rest := []) c227_12 (by decide +kernel) (by decide +kernel) rfl rfl (Nat.le_of_ble_eq_true rfl)]
  all_goals try simp only [Int.reduceToNat, true_and, Nat.reduceAdd, eq_self_iff_true]
theorem g227_15 {d : Nat} {s0 : Int} {x0 x1 : Option aV} {w : aW} {Q : Option aV → aW → Prop} : T d 227 15 [x0, x1] [vi s0] w Q = ((0 ≤ s0 ∧ s0 < 65536) ∧ Q (some (vi s0)) w) := by
  rw [T_iretc c227_15 (by decide +kernel)]
  all_goals try simp only [true_and, Nat.reduceAdd, eq_self_iff_true]
/-! 228: StringHandsModel.readTruth.(I)V -/
theorem c228_0 : cd 228 0 = some (.aload 0, 1) := by decide +kernel
theorem c228_1 : cd 228 1 = some (.iload 1, 1) := by decide +kernel
theorem c228_2 : cd 228 2 = some (.invokevirtual 280, 3) := by decide +kernel
theorem c228_5 : cd 228 5 = some (.aload 0, 1) := by decide +kernel
theorem c228_6 : cd 228 6 = some (.sipush 9, 2) := by decide +kernel
theorem c228_8 : cd 228 8 = some (.invokevirtual 107, 3) := by decide +kernel
theorem c228_11 : cd 228 11 = some (.ifCond .eq 29, 3) := by decide +kernel
theorem c228_14 : cd 228 14 = some (.aload 0, 1) := by decide +kernel
theorem c228_15 : cd 228 15 = some (.iload 1, 1) := by decide +kernel
theorem c228_16 : cd 228 16 = some (.invokevirtual 280, 3) := by decide +kernel
theorem c228_19 : cd 228 19 = some (.aload 0, 1) := by decide +kernel
theorem c228_20 : cd 228 20 = some (.sipush 3007, 3) := by decide +kernel
theorem c228_23 : cd 228 23 = some (.invokevirtual 281, 3) := by decide +kernel
theorem c228_26 : cd 228 26 = some (.goto 5, 3) := by decide +kernel
theorem c228_29 : cd 228 29 = some (.return_, 1) := by decide +kernel
theorem g228_0 {d : Nat} {a1 : Int} {w : aW} {Q : Option aV → aW → Prop} : T (d + 1) 228 0 [some (vr 167), some (vi a1)] [] w Q = T d 280 0 [some (vr 167), some (vi a1)] [] w (fun r w1 => T (d + 1) 228 5 [some (vr 167), some (vi a1)] (r.toList ++ []) w1 Q) := by
  rw [T_aload_0 c228_0, T_iload_1 c228_1, T_invv (es := [some (vr 167), some (vi a1)]) (st := [vi a1, vr 167]) (ks := [2, 0]) (n := 2) (c := 12) (k := 167) (as := [vi a1]) (rest := []) c228_2 (by decide +kernel) (by decide +kernel) (by decide +kernel) (by decide) rfl rfl (Nat.le_of_ble_eq_true rfl)]
  all_goals try simp only [lay_167, true_and, Nat.reduceAdd, eq_self_iff_true]
theorem g228_5 {d : Nat} {x1 : Option aV} {w : aW} {Q : Option aV → aW → Prop} : T (d + 1) 228 5 [some (vr 167), x1] [] w Q = T d 107 0 [some (vr 167), some (vi 9)] [] w (fun r w1 => T (d + 1) 228 11 [some (vr 167), x1] (r.toList ++ []) w1 Q) := by
  rw [T_aload_0 c228_5, T_sipush c228_6, T_invv (es := [some (vr 167), some (vi 9)]) (st := [vi 9, vr 167]) (ks := [2, 0]) (n := 2) (c := 12) (k := 167) (as := [vi 9]) (rest := []) c228_8 (by decide +kernel) (by decide +kernel) (by decide +kernel) (by decide) rfl rfl (Nat.le_of_ble_eq_true rfl)]
  all_goals try simp only [lay_167, true_and, Nat.reduceAdd, eq_self_iff_true]
theorem g228_11 {d : Nat} {a1 s0 : Int} {w : aW} {Q : Option aV → aW → Prop} : T (d + 1) 228 11 [some (vr 167), some (vi a1)] [vi s0] w Q = ((s0 = 0 → Q none w) ∧ (¬ (s0 = 0) → T d 280 0 [some (vr 167), some (vi a1)] [] w (fun r w1 => T (d + 1) 228 19 [some (vr 167), some (vi a1)] (r.toList ++ []) w1 Q))) := by
  rw [T_if_eq 29 c228_11 rfl, T_vret c228_29 (by decide +kernel), T_aload_0 c228_14, T_iload_1 c228_15, T_invv (es := [some (vr 167), some (vi a1)]) (st := [vi a1, vr 167]) (ks := [2, 0]) (n := 2) (c := 12) (k := 167) (as := [vi a1]) (rest := []) c228_16 (by decide +kernel) (by decide +kernel) (by decide +kernel) (by decide) rfl rfl (Nat.le_of_ble_eq_true rfl)]
  all_goals try simp only [Int.reduceToNat, lay_167, true_and, Nat.reduceAdd, eq_self_iff_true]
theorem g228_19 {d : Nat} {x1 : Option aV} {w : aW} {Q : Option aV → aW → Prop} : T (d + 1) 228 19 [some (vr 167), x1] [] w Q = T d 281 0 [some (vr 167), some (vi 3007)] [] w (fun r w1 => T (d + 1) 228 26 [some (vr 167), x1] (r.toList ++ []) w1 Q) := by
  rw [T_aload_0 c228_19, T_sipush c228_20, T_invv (es := [some (vr 167), some (vi 3007)]) (st := [vi 3007, vr 167]) (ks := [2, 0]) (n := 2) (c := 12) (k := 167) (as := [vi 3007]) (rest := []) c228_23 (by decide +kernel) (by decide +kernel) (by decide +kernel) (by decide) rfl rfl (Nat.le_of_ble_eq_true rfl)]
  all_goals try simp only [lay_167, true_and, Nat.reduceAdd, eq_self_iff_true]
theorem g228_26 {d : Nat} {x0 x1 : Option aV} {w : aW} {Q : Option aV → aW → Prop} : T d 228 26 [x0, x1] [] w Q = T d 228 5 [x0, x1] [] w Q := by
  rw [T_goto 5 c228_26 rfl]
  all_goals try simp only [true_and, Nat.reduceAdd, eq_self_iff_true]
/-! 229: StringHands$Mover.isUpThen.(LStringHands$Troupe;IIIZ)Z -/
theorem c229_0 : cd 229 0 = some (.aload 1, 1) := by decide +kernel
theorem c229_1 : cd 229 1 = some (.getfield 2096, 3) := by decide +kernel
theorem c229_4 : cd 229 4 = some (.iload 2, 1) := by decide +kernel
theorem c229_5 : cd 229 5 = some (.invokestatic 117, 3) := by decide +kernel
theorem c229_8 : cd 229 8 = some (.sipush 1, 1) := by decide +kernel
theorem c229_9 : cd 229 9 = some (.if_icmp .ne 22, 3) := by decide +kernel
theorem c229_12 : cd 229 12 = some (.aload 0, 1) := by decide +kernel
theorem c229_13 : cd 229 13 = some (.aload 1, 1) := by decide +kernel
theorem c229_14 : cd 229 14 = some (.iload 2, 1) := by decide +kernel
theorem c229_15 : cd 229 15 = some (.iload 3, 1) := by decide +kernel
theorem c229_16 : cd 229 16 = some (.iload 4, 2) := by decide +kernel
theorem c229_18 : cd 229 18 = some (.invokevirtual 282, 3) := by decide +kernel
theorem c229_21 : cd 229 21 = some (.ireturn, 1) := by decide +kernel
theorem c229_22 : cd 229 22 = some (.iload 5, 2) := by decide +kernel
theorem c229_24 : cd 229 24 = some (.ifCond .eq 46, 3) := by decide +kernel
theorem c229_27 : cd 229 27 = some (.iload 4, 2) := by decide +kernel
theorem c229_29 : cd 229 29 = some (.aload 1, 1) := by decide +kernel
theorem c229_30 : cd 229 30 = some (.getfield 2078, 3) := by decide +kernel
theorem c229_33 : cd 229 33 = some (.iload 2, 1) := by decide +kernel
theorem c229_34 : cd 229 34 = some (.iaload, 1) := by decide +kernel
theorem c229_35 : cd 229 35 = some (.if_icmp .lt 42, 3) := by decide +kernel
theorem c229_38 : cd 229 38 = some (.sipush 1, 1) := by decide +kernel
theorem c229_39 : cd 229 39 = some (.goto 60, 3) := by decide +kernel
theorem c229_42 : cd 229 42 = some (.sipush 0, 1) := by decide +kernel
theorem c229_43 : cd 229 43 = some (.goto 60, 3) := by decide +kernel
theorem c229_46 : cd 229 46 = some (.iload 3, 1) := by decide +kernel
theorem c229_47 : cd 229 47 = some (.iload 2, 1) := by decide +kernel
theorem c229_48 : cd 229 48 = some (.invokestatic 117, 3) := by decide +kernel
theorem c229_51 : cd 229 51 = some (.sipush 1, 1) := by decide +kernel
theorem c229_52 : cd 229 52 = some (.if_icmp .ne 59, 3) := by decide +kernel
theorem c229_55 : cd 229 55 = some (.sipush 1, 1) := by decide +kernel
theorem c229_56 : cd 229 56 = some (.goto 60, 3) := by decide +kernel
theorem c229_59 : cd 229 59 = some (.sipush 0, 1) := by decide +kernel
theorem c229_60 : cd 229 60 = some (.ireturn, 1) := by decide +kernel
theorem g229_0 {d : Nat} {a2 : Int} {x0 x3 x4 x5 : Option aV} {w : aW} {Q : Option aV → aW → Prop} : T (d + 1) 229 0 [x0, some (vr 69), some (vi a2), x3, x4, x5] [] w Q = T d 117 0 [some (vi (w 69 12)), some (vi a2)] [] w (fun r w1 => T (d + 1) 229 8 [x0, some (vr 69), some (vi a2), x3, x4, x5] (r.toList ++ []) w1 Q) := by
  rw [T_aload_1 c229_0, T_getI 8 12 12 c229_1 rfl rfl rfl rfl, T_iload_2 c229_4, T_inv (es := [some (vi (w 69 12)), some (vi a2)]) (st := [vi a2, vi (w 69 12)]) (ks := [0, 0]) (n := 2) (as := [vi (w 69 12), vi a2]) (rest := []) c229_5 (by decide +kernel) (by decide +kernel) rfl rfl (Nat.le_of_ble_eq_true rfl)]
  all_goals try simp only [lay_69, true_and, Nat.reduceAdd, eq_self_iff_true]
theorem g229_8 {d : Nat} {a2 a3 a4 a5 s0 : Int} {w : aW} {Q : Option aV → aW → Prop} : T (d + 1) 229 8 [some (vr 16), some (vr 69), some (vi a2), some (vi a3), some (vi a4), some (vi a5)] [vi s0] w Q = ((¬ s0 = 1 → ((a5 = 0 → T d 117 0 [some (vi a3), some (vi a2)] [] w (fun r w1 => T (d + 1) 229 51 [some (vr 16), some (vr 69), some (vi a2), some (vi a3), some (vi a4), some (vi a5)] (r.toList ++ []) w1 Q)) ∧ (¬ (a5 = 0) → ((0 ≤ a2 ∧ a2 < 10) ∧ ((a4 < w 71 a2 → T (d + 1) 229 60 [some (vr 16), some (vr 69), some (vi a2), some (vi a3), some (vi a4), some (vi a5)] [vi 0] w Q) ∧ (¬ (a4 < w 71 a2) → T (d + 1) 229 60 [some (vr 16), some (vr 69), some (vi a2), some (vi a3), some (vi a4), some (vi a5)] [vi 1] w Q)))))) ∧ (¬ (¬ s0 = 1) → T d 282 0 [some (vr 16), some (vr 69), some (vi a2), some (vi a3), some (vi a4), none, none, none, none] [] w (fun r w1 => T (d + 1) 229 21 [some (vr 16), some (vr 69), some (vi a2), some (vi a3), some (vi a4), some (vi a5)] (r.toList ++ []) w1 Q))) := by
  rw [T_sipush c229_8, T_icmp_ne 22 c229_9 rfl, T_iload_5 c229_22, T_if_eq 46 c229_24 rfl, T_iload_3 c229_46, T_iload_2 c229_47, T_inv (es := [some (vi a3), some (vi a2)]) (st := [vi a2, vi a3]) (ks := [0, 0]) (n := 2) (as := [vi a3, vi a2]) (rest := []) c229_48 (by decide +kernel) (by decide +kernel) rfl rfl (Nat.le_of_ble_eq_true rfl), T_iload_4 c229_27, T_aload_1 c229_29, T_getR 8 7 7 c229_30 rfl rfl rfl rfl, rf_69_7, T_iload_2 c229_33, T_iald c229_34, T_icmp_lt 42 c229_35 rfl, T_sipush c229_42, T_goto 60 c229_43 rfl, T_sipush c229_38, T_goto 60 c229_39 rfl, T_aload_0 c229_12, T_aload_1 c229_13, T_iload_2 c229_14, T_iload_3 c229_15, T_iload_4 c229_16, T_invv (es := [some (vr 16), some (vr 69), some (vi a2), some (vi a3), some (vi a4), none, none, none, none]) (st := [vi a4, vi a3, vi a2, vr 69, vr 16]) (ks := [2, 2, 0, 0, 0]) (n := 9) (c := 2) (k := 16) (as := [vr 69, vi a2, vi a3, vi a4]) (rest := []) c229_18 (by decide +kernel) (by decide +kernel) (by decide +kernel) (by decide) rfl rfl (Nat.le_of_ble_eq_true rfl)]
  all_goals try simp only [Int.reduceToNat, lay_16, lay_69, ld_71, true_and, Nat.reduceAdd, eq_self_iff_true]
theorem g229_21 {d : Nat} {s0 : Int} {x0 x1 x2 x3 x4 x5 : Option aV} {w : aW} {Q : Option aV → aW → Prop} : T d 229 21 [x0, x1, x2, x3, x4, x5] [vi s0] w Q = ((s0 = 0 ∨ s0 = 1) ∧ Q (some (vi s0)) w) := by
  rw [T_iretz c229_21 (by decide +kernel)]
  all_goals try simp only [true_and, Nat.reduceAdd, eq_self_iff_true]
theorem g229_51 {d : Nat} {s0 : Int} {x0 x1 x2 x3 x4 x5 : Option aV} {w : aW} {Q : Option aV → aW → Prop} : T d 229 51 [x0, x1, x2, x3, x4, x5] [vi s0] w Q = ((¬ s0 = 1 → T d 229 60 [x0, x1, x2, x3, x4, x5] [vi 0] w Q) ∧ (¬ (¬ s0 = 1) → T d 229 60 [x0, x1, x2, x3, x4, x5] [vi 1] w Q)) := by
  rw [T_sipush c229_51, T_icmp_ne 59 c229_52 rfl, T_sipush c229_59, T_sipush c229_55, T_goto 60 c229_56 rfl]
  all_goals try simp only [Int.reduceToNat, true_and, Nat.reduceAdd, eq_self_iff_true]
theorem g229_60 {d : Nat} {s0 : Int} {x0 x1 x2 x3 x4 x5 : Option aV} {w : aW} {Q : Option aV → aW → Prop} : T d 229 60 [x0, x1, x2, x3, x4, x5] [vi s0] w Q = ((s0 = 0 ∨ s0 = 1) ∧ Q (some (vi s0)) w) := by
  rw [T_iretz c229_60 (by decide +kernel)]
  all_goals try simp only [true_and, Nat.reduceAdd, eq_self_iff_true]
/-! 230: StringHandsModel.isIn.(JI)Z -/
theorem c230_0 : cd 230 0 = some (.lload 0, 1) := by decide +kernel
theorem c230_1 : cd 230 1 = some (.iload 2, 1) := by decide +kernel
theorem c230_2 : cd 230 2 = some (.lshr, 1) := by decide +kernel
theorem c230_3 : cd 230 3 = some (.bipush 1, 1) := by decide +kernel
theorem c230_4 : cd 230 4 = some (.land, 1) := by decide +kernel
theorem c230_5 : cd 230 5 = some (.bipush 1, 1) := by decide +kernel
theorem c230_6 : cd 230 6 = some (.lcmp, 1) := by decide +kernel
theorem c230_7 : cd 230 7 = some (.ifCond .ne 14, 3) := by decide +kernel
theorem c230_10 : cd 230 10 = some (.sipush 1, 1) := by decide +kernel
theorem c230_11 : cd 230 11 = some (.goto 15, 3) := by decide +kernel
theorem c230_14 : cd 230 14 = some (.sipush 0, 1) := by decide +kernel
theorem c230_15 : cd 230 15 = some (.ireturn, 1) := by decide +kernel
theorem g230_0 {d : Nat} {b0 a2 : Int} {w : aW} {Q : Option aV → aW → Prop} : T d 230 0 [some (vl b0), none, some (vi a2)] [] w Q = ((¬ kcmp (kand (kshr b0 a2) 1) 1 = 0 → T d 230 15 [some (vl b0), none, some (vi a2)] [vi 0] w Q) ∧ (¬ (¬ kcmp (kand (kshr b0 a2) 1) 1 = 0) → T d 230 15 [some (vl b0), none, some (vi a2)] [vi 1] w Q)) := by
  rw [T_lload_0 c230_0, T_iload_2 c230_1, T_lshr c230_2, T_bipush c230_3, T_land c230_4, T_bipush c230_5, T_lcmp c230_6, T_if_ne 14 c230_7 rfl, T_sipush c230_14, T_sipush c230_10, T_goto 15 c230_11 rfl]
  all_goals try simp only [Int.reduceToNat, true_and, Nat.reduceAdd, eq_self_iff_true]
theorem g230_15 {d : Nat} {s0 : Int} {x0 x1 x2 : Option aV} {w : aW} {Q : Option aV → aW → Prop} : T d 230 15 [x0, x1, x2] [vi s0] w Q = ((s0 = 0 ∨ s0 = 1) ∧ Q (some (vi s0)) w) := by
  rw [T_iretz c230_15 (by decide +kernel)]
  all_goals try simp only [true_and, Nat.reduceAdd, eq_self_iff_true]
/-! 231: StringHandsModel.holds.(III)Z -/
theorem c231_0 : cd 231 0 = some (.sipush 0, 1) := by decide +kernel
theorem c231_1 : cd 231 1 = some (.istore 4, 2) := by decide +kernel
theorem c231_3 : cd 231 3 = some (.sipush 0, 1) := by decide +kernel
theorem c231_4 : cd 231 4 = some (.istore 5, 2) := by decide +kernel
theorem c231_6 : cd 231 6 = some (.iload 5, 2) := by decide +kernel
theorem c231_8 : cd 231 8 = some (.aload 0, 1) := by decide +kernel
theorem c231_9 : cd 231 9 = some (.getfield 3078, 3) := by decide +kernel
theorem c231_12 : cd 231 12 = some (.sipush 142, 3) := by decide +kernel
theorem c231_15 : cd 231 15 = some (.iload 1, 1) := by decide +kernel
theorem c231_16 : cd 231 16 = some (.iadd, 1) := by decide +kernel
theorem c231_17 : cd 231 17 = some (.iaload, 1) := by decide +kernel
theorem c231_18 : cd 231 18 = some (.if_icmp .ge 198, 3) := by decide +kernel
theorem c231_21 : cd 231 21 = some (.aload 0, 1) := by decide +kernel
theorem c231_22 : cd 231 22 = some (.getfield 3078, 3) := by decide +kernel
theorem c231_25 : cd 231 25 = some (.sipush 744, 3) := by decide +kernel
theorem c231_28 : cd 231 28 = some (.aload 0, 1) := by decide +kernel
theorem c231_29 : cd 231 29 = some (.getfield 3078, 3) := by decide +kernel
theorem c231_32 : cd 231 32 = some (.sipush 132, 3) := by decide +kernel
theorem c231_35 : cd 231 35 = some (.iload 1, 1) := by decide +kernel
theorem c231_36 : cd 231 36 = some (.iadd, 1) := by decide +kernel
theorem c231_37 : cd 231 37 = some (.iaload, 1) := by decide +kernel
theorem c231_38 : cd 231 38 = some (.iadd, 1) := by decide +kernel
theorem c231_39 : cd 231 39 = some (.iload 5, 2) := by decide +kernel
theorem c231_41 : cd 231 41 = some (.iadd, 1) := by decide +kernel
theorem c231_42 : cd 231 42 = some (.iaload, 1) := by decide +kernel
theorem c231_43 : cd 231 43 = some (.istore 6, 2) := by decide +kernel
theorem c231_45 : cd 231 45 = some (.iload 6, 2) := by decide +kernel
theorem c231_47 : cd 231 47 = some (.sipush 3000, 3) := by decide +kernel
theorem c231_50 : cd 231 50 = some (.if_icmp .ge 128, 3) := by decide +kernel
theorem c231_53 : cd 231 53 = some (.aload 0, 1) := by decide +kernel
theorem c231_54 : cd 231 54 = some (.getfield 3134, 3) := by decide +kernel
theorem c231_57 : cd 231 57 = some (.iload 4, 2) := by decide +kernel
theorem c231_59 : cd 231 59 = some (.iload 6, 2) := by decide +kernel
theorem c231_61 : cd 231 61 = some (.sipush 1000, 3) := by decide +kernel
theorem c231_64 : cd 231 64 = some (.if_icmp .ge 72, 3) := by decide +kernel
theorem c231_67 : cd 231 67 = some (.iload 6, 2) := by decide +kernel
theorem c231_69 : cd 231 69 = some (.goto 121, 3) := by decide +kernel
theorem c231_72 : cd 231 72 = some (.iload 6, 2) := by decide +kernel
theorem c231_74 : cd 231 74 = some (.sipush 1101, 3) := by decide +kernel
theorem c231_77 : cd 231 77 = some (.if_icmp .ne 90, 3) := by decide +kernel
theorem c231_80 : cd 231 80 = some (.aload 0, 1) := by decide +kernel
theorem c231_81 : cd 231 81 = some (.iload 1, 1) := by decide +kernel
theorem c231_82 : cd 231 82 = some (.iload 2, 1) := by decide +kernel
theorem c231_83 : cd 231 83 = some (.iload 3, 1) := by decide +kernel
theorem c231_84 : cd 231 84 = some (.invokevirtual 124, 3) := by decide +kernel
theorem c231_87 : cd 231 87 = some (.goto 121, 3) := by decide +kernel
theorem c231_90 : cd 231 90 = some (.iload 2, 1) := by decide +kernel
theorem c231_91 : cd 231 91 = some (.i2l, 1) := by decide +kernel
theorem c231_92 : cd 231 92 = some (.iload 6, 2) := by decide +kernel
theorem c231_94 : cd 231 94 = some (.sipush 1100, 3) := by decide +kernel
theorem c231_97 : cd 231 97 = some (.if_icmp .ne 104, 3) := by decide +kernel
theorem c231_100 : cd 231 100 = some (.iload 1, 1) := by decide +kernel
theorem c231_101 : cd 231 101 = some (.goto 110, 3) := by decide +kernel
theorem c231_104 : cd 231 104 = some (.iload 6, 2) := by decide +kernel
theorem c231_106 : cd 231 106 = some (.sipush 1000, 3) := by decide +kernel
theorem c231_109 : cd 231 109 = some (.isub, 1) := by decide +kernel
theorem c231_110 : cd 231 110 = some (.invokestatic 230, 3) := by decide +kernel
theorem c231_113 : cd 231 113 = some (.ifCond .eq 120, 3) := by decide +kernel
theorem c231_116 : cd 231 116 = some (.sipush 1, 1) := by decide +kernel
theorem c231_117 : cd 231 117 = some (.goto 121, 3) := by decide +kernel
theorem c231_120 : cd 231 120 = some (.sipush 0, 1) := by decide +kernel
theorem c231_121 : cd 231 121 = some (.iastore, 1) := by decide +kernel
theorem c231_122 : cd 231 122 = some (.iinc 4 1, 3) := by decide +kernel
theorem c231_125 : cd 231 125 = some (.goto 192, 3) := by decide +kernel
theorem c231_128 : cd 231 128 = some (.iload 6, 2) := by decide +kernel
theorem c231_130 : cd 231 130 = some (.sipush 3008, 3) := by decide +kernel
theorem c231_133 : cd 231 133 = some (.if_icmp .ne 159, 3) := by decide +kernel
theorem c231_136 : cd 231 136 = some (.aload 0, 1) := by decide +kernel
theorem c231_137 : cd 231 137 = some (.getfield 3134, 3) := by decide +kernel
theorem c231_140 : cd 231 140 = some (.iload 4, 2) := by decide +kernel
theorem c231_142 : cd 231 142 = some (.sipush 1, 1) := by decide +kernel
theorem c231_143 : cd 231 143 = some (.isub, 1) := by decide +kernel
theorem c231_144 : cd 231 144 = some (.sipush 1, 1) := by decide +kernel
theorem c231_145 : cd 231 145 = some (.aload 0, 1) := by decide +kernel
theorem c231_146 : cd 231 146 = some (.getfield 3134, 3) := by decide +kernel
theorem c231_149 : cd 231 149 = some (.iload 4, 2) := by decide +kernel
theorem c231_151 : cd 231 151 = some (.sipush 1, 1) := by decide +kernel
theorem c231_152 : cd 231 152 = some (.isub, 1) := by decide +kernel
theorem c231_153 : cd 231 153 = some (.iaload, 1) := by decide +kernel
theorem c231_154 : cd 231 154 = some (.isub, 1) := by decide +kernel
theorem c231_155 : cd 231 155 = some (.iastore, 1) := by decide +kernel
theorem c231_156 : cd 231 156 = some (.goto 192, 3) := by decide +kernel
theorem c231_159 : cd 231 159 = some (.iinc 4 (-1), 3) := by decide +kernel
theorem c231_162 : cd 231 162 = some (.aload 0, 1) := by decide +kernel
theorem c231_163 : cd 231 163 = some (.getfield 3134, 3) := by decide +kernel
theorem c231_166 : cd 231 166 = some (.iload 4, 2) := by decide +kernel
theorem c231_168 : cd 231 168 = some (.sipush 1, 1) := by decide +kernel
theorem c231_169 : cd 231 169 = some (.isub, 1) := by decide +kernel
theorem c231_170 : cd 231 170 = some (.iload 6, 2) := by decide +kernel
theorem c231_172 : cd 231 172 = some (.aload 0, 1) := by decide +kernel
theorem c231_173 : cd 231 173 = some (.getfield 3134, 3) := by decide +kernel
theorem c231_176 : cd 231 176 = some (.iload 4, 2) := by decide +kernel
theorem c231_178 : cd 231 178 = some (.sipush 1, 1) := by decide +kernel
theorem c231_179 : cd 231 179 = some (.isub, 1) := by decide +kernel
theorem c231_180 : cd 231 180 = some (.iaload, 1) := by decide +kernel
theorem c231_181 : cd 231 181 = some (.aload 0, 1) := by decide +kernel
theorem c231_182 : cd 231 182 = some (.getfield 3134, 3) := by decide +kernel
theorem c231_185 : cd 231 185 = some (.iload 4, 2) := by decide +kernel
theorem c231_187 : cd 231 187 = some (.iaload, 1) := by decide +kernel
theorem c231_188 : cd 231 188 = some (.invokestatic 283, 3) := by decide +kernel
theorem c231_191 : cd 231 191 = some (.iastore, 1) := by decide +kernel
theorem c231_192 : cd 231 192 = some (.iinc 5 1, 3) := by decide +kernel
theorem c231_195 : cd 231 195 = some (.goto 6, 3) := by decide +kernel
theorem c231_198 : cd 231 198 = some (.aload 0, 1) := by decide +kernel
theorem c231_199 : cd 231 199 = some (.getfield 3134, 3) := by decide +kernel
theorem c231_202 : cd 231 202 = some (.sipush 0, 1) := by decide +kernel
theorem c231_203 : cd 231 203 = some (.iaload, 1) := by decide +kernel
theorem c231_204 : cd 231 204 = some (.sipush 1, 1) := by decide +kernel
theorem c231_205 : cd 231 205 = some (.if_icmp .ne 212, 3) := by decide +kernel
theorem c231_208 : cd 231 208 = some (.sipush 1, 1) := by decide +kernel
theorem c231_209 : cd 231 209 = some (.goto 213, 3) := by decide +kernel
theorem c231_212 : cd 231 212 = some (.sipush 0, 1) := by decide +kernel
theorem c231_213 : cd 231 213 = some (.ireturn, 1) := by decide +kernel
theorem g231_0 {d : Nat} {x0 x1 x2 x3 x4 x5 x6 : Option aV} {w : aW} {Q : Option aV → aW → Prop} : T d 231 0 [x0, x1, x2, x3, x4, x5, x6] [] w Q = T d 231 6 [x0, x1, x2, x3, some (vi 0), some (vi 0), x6] [] w Q := by
  rw [T_sipush c231_0, T_istore_4 c231_1, T_sipush c231_3, T_istore_5 c231_4]
  all_goals try simp only [true_and, Nat.reduceAdd, eq_self_iff_true]
theorem g231_6 {d : Nat} {a1 a2 a3 a4 a5 : Int} {x6 : Option aV} {w : aW} {Q : Option aV → aW → Prop} : T (d + 1) 231 6 [some (vr 167), some (vi a1), some (vi a2), some (vi a3), some (vi a4), some (vi a5), x6] [] w Q = ((0 ≤ w32 (142 + a1) ∧ w32 (142 + a1) < 4932) ∧ ((w 168 (w32 (142 + a1)) ≤ a5 → ((¬ w 172 0 = 1 → T (d + 1) 231 213 [some (vr 167), some (vi a1), some (vi a2), some (vi a3), some (vi a4), some (vi a5), x6] [vi 0] w Q) ∧ (¬ (¬ w 172 0 = 1) → T (d + 1) 231 213 [some (vr 167), some (vi a1), some (vi a2), some (vi a3), some (vi a4), some (vi a5), x6] [vi 1] w Q))) ∧ (¬ (w 168 (w32 (142 + a1)) ≤ a5) → ((0 ≤ w32 (132 + a1) ∧ w32 (132 + a1) < 4932) ∧ ((0 ≤ w32 ((w32 (744 + (w 168 (w32 (132 + a1))))) + a5) ∧ w32 ((w32 (744 + (w 168 (w32 (132 + a1))))) + a5) < 4932) ∧ ((3000 ≤ w 168 (w32 ((w32 (744 + (w 168 (w32 (132 + a1))))) + a5)) → ((¬ w 168 (w32 ((w32 (744 + (w 168 (w32 (132 + a1))))) + a5)) = 3008 → ((0 ≤ w32 ((w32 (a4 + (-1))) - 1) ∧ w32 ((w32 (a4 + (-1))) - 1) < 900) ∧ ((0 ≤ w32 (a4 + (-1)) ∧ w32 (a4 + (-1)) < 900) ∧ T d 283 0 [some (vi (w 168 (w32 ((w32 (744 + (w 168 (w32 (132 + a1))))) + a5)))), some (vi (w 172 (w32 ((w32 (a4 + (-1))) - 1)))), some (vi (w 172 (w32 (a4 + (-1))))), none, none] [] w (fun r w1 => T (d + 1) 231 191 [some (vr 167), some (vi a1), some (vi a2), some (vi a3), some (vi (w32 (a4 + (-1)))), some (vi a5), some (vi (w 168 (w32 ((w32 (744 + (w 168 (w32 (132 + a1))))) + a5))))] (r.toList ++ [vi (w32 ((w32 (a4 + (-1))) - 1)), vr 172]) w1 Q)))) ∧ (¬ (¬ w 168 (w32 ((w32 (744 + (w 168 (w32 (132 + a1))))) + a5)) = 3008) → ((0 ≤ w32 (a4 - 1) ∧ w32 (a4 - 1) < 900) ∧ ((0 ≤ w32 (a4 - 1) ∧ w32 (a4 - 1) < 900) ∧ T (d + 1) 231 192 [some (vr 167), some (vi a1), some (vi a2), some (vi a3), some (vi a4), some (vi a5), some (vi (w 168 (w32 ((w32 (744 + (w 168 (w32 (132 + a1))))) + a5))))] [] (iup w 172 (w32 (a4 - 1)) (w32 (1 - (w 172 (w32 (a4 - 1)))))) Q))))) ∧ (¬ (3000 ≤ w 168 (w32 ((w32 (744 + (w 168 (w32 (132 + a1))))) + a5))) → ((1000 ≤ w 168 (w32 ((w32 (744 + (w 168 (w32 (132 + a1))))) + a5)) → ((¬ w 168 (w32 ((w32 (744 + (w 168 (w32 (132 + a1))))) + a5)) = 1101 → ((¬ w 168 (w32 ((w32 (744 + (w 168 (w32 (132 + a1))))) + a5)) = 1100 → T (d + 1) 231 110 [some (vr 167), some (vi a1), some (vi a2), some (vi a3), some (vi a4), some (vi a5), some (vi (w 168 (w32 ((w32 (744 + (w 168 (w32 (132 + a1))))) + a5))))] [vi (w32 ((w 168 (w32 ((w32 (744 + (w 168 (w32 (132 + a1))))) + a5))) - 1000)), vl a2, vi a4, vr 172] w Q) ∧ (¬ (¬ w 168 (w32 ((w32 (744 + (w 168 (w32 (132 + a1))))) + a5)) = 1100) → T (d + 1) 231 110 [some (vr 167), some (vi a1), some (vi a2), some (vi a3), some (vi a4), some (vi a5), some (vi (w 168 (w32 ((w32 (744 + (w 168 (w32 (132 + a1))))) + a5))))] [vi a1, vl a2, vi a4, vr 172] w Q))) ∧ (¬ (¬ w 168 (w32 ((w32 (744 + (w 168 (w32 (132 + a1))))) + a5)) = 1101) → T d 124 0 [some (vr 167), some (vi a1), some (vi a2), some (vi a3), none, none] [] w (fun r w1 => T (d + 1) 231 87 [some (vr 167), some (vi a1), some (vi a2), some (vi a3), some (vi a4), some (vi a5), some (vi (w 168 (w32 ((w32 (744 + (w 168 (w32 (132 + a1))))) + a5))))] (r.toList ++ [vi a4, vr 172]) w1 Q)))) ∧ (¬ (1000 ≤ w 168 (w32 ((w32 (744 + (w 168 (w32 (132 + a1))))) + a5))) → T (d + 1) 231 121 [some (vr 167), some (vi a1), some (vi a2), some (vi a3), some (vi a4), some (vi a5), some (vi (w 168 (w32 ((w32 (744 + (w 168 (w32 (132 + a1))))) + a5))))] [vi (w 168 (w32 ((w32 (744 + (w 168 (w32 (132 + a1))))) + a5))), vi a4, vr 172] w Q))))))))) := by
  rw [T_iload_5 c231_6, T_aload_0 c231_8, T_getR 12 1 1 c231_9 rfl rfl rfl rfl, rf_167_1, T_sipush c231_12, T_iload_1 c231_15, T_iadd c231_16, T_iald c231_17, T_icmp_ge 198 c231_18 rfl, T_aload_0 c231_198, T_getR 12 15 15 c231_199 rfl rfl rfl rfl, rf_167_15, T_sipush c231_202, T_iald c231_203, T_sipush c231_204, T_icmp_ne 212 c231_205 rfl, T_sipush c231_212, T_sipush c231_208, T_goto 213 c231_209 rfl, T_aload_0 c231_21, T_getR 12 1 1 c231_22 rfl rfl rfl rfl, rf_167_1, T_sipush c231_25, T_aload_0 c231_28, T_getR 12 1 1 c231_29 rfl rfl rfl rfl, rf_167_1, T_sipush c231_32, T_iload_1 c231_35, T_iadd c231_36, T_iald c231_37, T_iadd c231_38, T_iload_5 c231_39, T_iadd c231_41, T_iald c231_42, T_istore_6 c231_43, T_iload_6 c231_45, T_sipush c231_47, T_icmp_ge 128 c231_50 rfl, T_iload_6 c231_128, T_sipush c231_130, T_icmp_ne 159 c231_133 rfl, T_iinc_4 c231_159, T_aload_0 c231_162, T_getR 12 15 15 c231_163 rfl rfl rfl rfl, rf_167_15, T_iload_4 c231_166, T_sipush c231_168, T_isub c231_169, T_iload_6 c231_170, T_aload_0 c231_172, T_getR 12 15 15 c231_173 rfl rfl rfl rfl, rf_167_15, T_iload_4 c231_176, T_sipush c231_178, T_isub c231_179, T_iald c231_180, T_aload_0 c231_181, T_getR 12 15 15 c231_182 rfl rfl rfl rfl, rf_167_15, T_iload_4 c231_185, T_iald c231_187, T_inv (es := [some (vi (w 168 (w32 ((w32 (744 + (w 168 (w32 (132 + a1))))) + a5)))), some (vi (w 172 (w32 ((w32 (a4 + (-1))) - 1)))), some (vi (w 172 (w32 (a4 + (-1))))), none, none]) (st := [vi (w 172 (w32 (a4 + (-1)))), vi (w 172 (w32 ((w32 (a4 + (-1))) - 1))), vi (w 168 (w32 ((w32 (744 + (w 168 (w32 (132 + a1))))) + a5))), vi (w32 ((w32 (a4 + (-1))) - 1)), vr 172]) (ks := [0, 0, 0]) (n := 5) (as := [vi (w 168 (w32 ((w32 (744 + (w 168 (w32 (132 + a1))))) + a5))), vi (w 172 (w32 ((w32 (a4 + (-1))) - 1))), vi (w 172 (w32 (a4 + (-1))))]) (rest := [vi (w32 ((w32 (a4 + (-1))) - 1)), vr 172]) c231_188 (by decide +kernel) (by decide +kernel) rfl rfl (Nat.le_of_ble_eq_true rfl), T_aload_0 c231_136, T_getR 12 15 15 c231_137 rfl rfl rfl rfl, rf_167_15, T_iload_4 c231_140, T_sipush c231_142, T_isub c231_143, T_sipush c231_144, T_aload_0 c231_145, T_getR 12 15 15 c231_146 rfl rfl rfl rfl, rf_167_15, T_iload_4 c231_149, T_sipush c231_151, T_isub c231_152, T_iald c231_153, T_isub c231_154, T_iast c231_155, T_goto 192 c231_156 rfl, T_aload_0 c231_53, T_getR 12 15 15 c231_54 rfl rfl rfl rfl, rf_167_15, T_iload_4 c231_57, T_iload_6 c231_59, T_sipush c231_61, T_icmp_ge 72 c231_64 rfl, T_iload_6 c231_72, T_sipush c231_74, T_icmp_ne 90 c231_77 rfl, T_iload_2 c231_90, T_i2l c231_91, T_iload_6 c231_92, T_sipush c231_94, T_icmp_ne 104 c231_97 rfl, T_iload_6 c231_104, T_sipush c231_106, T_isub c231_109, T_iload_1 c231_100, T_goto 110 c231_101 rfl, T_aload_0 c231_80, T_iload_1 c231_81, T_iload_2 c231_82, T_iload_3 c231_83, T_invv (es := [some (vr 167), some (vi a1), some (vi a2), some (vi a3), none, none]) (st := [vi a3, vi a2, vi a1, vr 167, vi a4, vr 172]) (ks := [2, 0, 0, 0]) (n := 6) (c := 12) (k := 167) (as := [vi a1, vi a2, vi a3]) (rest := [vi a4, vr 172]) c231_84 (by decide +kernel) (by decide +kernel) (by decide +kernel) (by decide) rfl rfl (Nat.le_of_ble_eq_true rfl), T_iload_6 c231_67, T_goto 121 c231_69 rfl]
  all_goals try simp only [Int.reduceLE, Int.reduceLT, Int.reduceToNat, and_self, ia0_172, lay_167, ld_168, ld_172, true_and, Nat.reduceAdd, eq_self_iff_true]
theorem g231_87 {d : Nat} {s1 s2 : Int} {s0 : Nat} {x0 x1 x2 x3 x4 x5 x6 : Option aV} {w : aW} {Q : Option aV → aW → Prop} : T d 231 87 [x0, x1, x2, x3, x4, x5, x6] [vi s2, vi s1, vr s0] w Q = T d 231 121 [x0, x1, x2, x3, x4, x5, x6] [vi s2, vi s1, vr s0] w Q := by
  rw [T_goto 121 c231_87 rfl]
  all_goals try simp only [true_and, Nat.reduceAdd, eq_self_iff_true]
theorem g231_110 {d : Nat} {s1 s2 s3 : Int} {s0 : Nat} {x0 x1 x2 x3 x4 x5 x6 : Option aV} {w : aW} {Q : Option aV → aW → Prop} : T (d + 1) 231 110 [x0, x1, x2, x3, x4, x5, x6] [vi s3, vl s2, vi s1, vr s0] w Q = T d 230 0 [some (vl s2), none, some (vi s3)] [] w (fun r w1 => T (d + 1) 231 113 [x0, x1, x2, x3, x4, x5, x6] (r.toList ++ [vi s1, vr s0]) w1 Q) := by
  rw [T_inv (es := [some (vl s2), none, some (vi s3)]) (st := [vi s3, vl s2, vi s1, vr s0]) (ks := [1, 0]) (n := 3) (as := [vl s2, vi s3]) (rest := [vi s1, vr s0]) c231_110 (by decide +kernel) (by decide +kernel) rfl rfl (Nat.le_of_ble_eq_true rfl)]
  all_goals try simp only [true_and, Nat.reduceAdd, eq_self_iff_true]
theorem g231_113 {d : Nat} {s1 s2 : Int} {s0 : Nat} {x0 x1 x2 x3 x4 x5 x6 : Option aV} {w : aW} {Q : Option aV → aW → Prop} : T d 231 113 [x0, x1, x2, x3, x4, x5, x6] [vi s2, vi s1, vr s0] w Q = ((s2 = 0 → T d 231 121 [x0, x1, x2, x3, x4, x5, x6] [vi 0, vi s1, vr s0] w Q) ∧ (¬ (s2 = 0) → T d 231 121 [x0, x1, x2, x3, x4, x5, x6] [vi 1, vi s1, vr s0] w Q)) := by
  rw [T_if_eq 120 c231_113 rfl, T_sipush c231_120, T_sipush c231_116, T_goto 121 c231_117 rfl]
  all_goals try simp only [Int.reduceToNat, true_and, Nat.reduceAdd, eq_self_iff_true]
theorem g231_121 {d : Nat} {a4 s1 s2 : Int} {s0 : Nat} {x0 x1 x2 x3 x5 x6 : Option aV} {w : aW} {Q : Option aV → aW → Prop} : T d 231 121 [x0, x1, x2, x3, some (vi a4), x5, x6] [vi s2, vi s1, vr s0] w Q = (inA s0 0 s1 = true ∧ T d 231 192 [x0, x1, x2, x3, some (vi (w32 (a4 + 1))), x5, x6] [] (iup w s0 s1 s2) Q) := by
  rw [T_iast c231_121, T_iinc_4 c231_122, T_goto 192 c231_125 rfl]
  all_goals try simp only [true_and, Nat.reduceAdd, eq_self_iff_true]
theorem g231_191 {d : Nat} {s1 s2 : Int} {s0 : Nat} {x0 x1 x2 x3 x4 x5 x6 : Option aV} {w : aW} {Q : Option aV → aW → Prop} : T d 231 191 [x0, x1, x2, x3, x4, x5, x6] [vi s2, vi s1, vr s0] w Q = (inA s0 0 s1 = true ∧ T d 231 192 [x0, x1, x2, x3, x4, x5, x6] [] (iup w s0 s1 s2) Q) := by
  rw [T_iast c231_191]
  all_goals try simp only [true_and, Nat.reduceAdd, eq_self_iff_true]
theorem g231_192 {d : Nat} {a5 : Int} {x0 x1 x2 x3 x4 x6 : Option aV} {w : aW} {Q : Option aV → aW → Prop} : T d 231 192 [x0, x1, x2, x3, x4, some (vi a5), x6] [] w Q = T d 231 6 [x0, x1, x2, x3, x4, some (vi (w32 (a5 + 1))), x6] [] w Q := by
  rw [T_iinc_5 c231_192, T_goto 6 c231_195 rfl]
  all_goals try simp only [true_and, Nat.reduceAdd, eq_self_iff_true]
theorem g231_213 {d : Nat} {s0 : Int} {x0 x1 x2 x3 x4 x5 x6 : Option aV} {w : aW} {Q : Option aV → aW → Prop} : T d 231 213 [x0, x1, x2, x3, x4, x5, x6] [vi s0] w Q = ((s0 = 0 ∨ s0 = 1) ∧ Q (some (vi s0)) w) := by
  rw [T_iretz c231_213 (by decide +kernel)]
  all_goals try simp only [true_and, Nat.reduceAdd, eq_self_iff_true]
/-! 232: StringHands$Tangler.isAhead.(LStringHands$Troupe;LStringHands$Stage;II)Z -/
theorem c232_0 : cd 232 0 = some (.aload 1, 1) := by decide +kernel
theorem c232_1 : cd 232 1 = some (.getfield 1554, 3) := by decide +kernel
theorem c232_4 : cd 232 4 = some (.aload 1, 1) := by decide +kernel
theorem c232_5 : cd 232 5 = some (.getfield 1546, 3) := by decide +kernel
theorem c232_8 : cd 232 8 = some (.iload 2, 1) := by decide +kernel
theorem c232_9 : cd 232 9 = some (.iaload, 1) := by decide +kernel
theorem c232_10 : cd 232 10 = some (.iaload, 1) := by decide +kernel
theorem c232_11 : cd 232 11 = some (.aload 1, 1) := by decide +kernel
theorem c232_12 : cd 232 12 = some (.getfield 1554, 3) := by decide +kernel
theorem c232_15 : cd 232 15 = some (.aload 1, 1) := by decide +kernel
theorem c232_16 : cd 232 16 = some (.getfield 1546, 3) := by decide +kernel
theorem c232_19 : cd 232 19 = some (.iload 3, 1) := by decide +kernel
theorem c232_20 : cd 232 20 = some (.iaload, 1) := by decide +kernel
theorem c232_21 : cd 232 21 = some (.iaload, 1) := by decide +kernel
theorem c232_22 : cd 232 22 = some (.if_icmp .ge 54, 3) := by decide +kernel
theorem c232_25 : cd 232 25 = some (.aload 1, 1) := by decide +kernel
theorem c232_26 : cd 232 26 = some (.getfield 1554, 3) := by decide +kernel
theorem c232_29 : cd 232 29 = some (.aload 0, 1) := by decide +kernel
theorem c232_30 : cd 232 30 = some (.getfield 2086, 3) := by decide +kernel
theorem c232_33 : cd 232 33 = some (.iload 2, 1) := by decide +kernel
theorem c232_34 : cd 232 34 = some (.iaload, 1) := by decide +kernel
theorem c232_35 : cd 232 35 = some (.iaload, 1) := by decide +kernel
theorem c232_36 : cd 232 36 = some (.aload 1, 1) := by decide +kernel
theorem c232_37 : cd 232 37 = some (.getfield 1554, 3) := by decide +kernel
theorem c232_40 : cd 232 40 = some (.aload 0, 1) := by decide +kernel
theorem c232_41 : cd 232 41 = some (.getfield 2086, 3) := by decide +kernel
theorem c232_44 : cd 232 44 = some (.iload 3, 1) := by decide +kernel
theorem c232_45 : cd 232 45 = some (.iaload, 1) := by decide +kernel
theorem c232_46 : cd 232 46 = some (.iaload, 1) := by decide +kernel
theorem c232_47 : cd 232 47 = some (.if_icmp .le 54, 3) := by decide +kernel
theorem c232_50 : cd 232 50 = some (.sipush 1, 1) := by decide +kernel
theorem c232_51 : cd 232 51 = some (.goto 55, 3) := by decide +kernel
theorem c232_54 : cd 232 54 = some (.sipush 0, 1) := by decide +kernel
theorem c232_55 : cd 232 55 = some (.ireturn, 1) := by decide +kernel
theorem g232_0 {d : Nat} {a2 a3 : Int} {r1 : Nat} {w : aW} {Q : Option aV → aW → Prop} : T d 232 0 [some (vr 69), some (vr r1), some (vi a2), some (vi a3)] [] w Q = (lay r1 = (6, 0) ∧ (lay r1 = (6, 0) ∧ (ldok (rfA r1 2) a2 w ∧ (ldok (rfA r1 4) (w (rfA r1 2) a2) w ∧ (lay r1 = (6, 0) ∧ (lay r1 = (6, 0) ∧ (ldok (rfA r1 2) a3 w ∧ (ldok (rfA r1 4) (w (rfA r1 2) a3) w ∧ ((w (rfA r1 4) (w (rfA r1 2) a3) ≤ w (rfA r1 4) (w (rfA r1 2) a2) → T d 232 54 [some (vr 69), some (vr r1), some (vi a2), some (vi a3)] [] w Q) ∧ (¬ (w (rfA r1 4) (w (rfA r1 2) a3) ≤ w (rfA r1 4) (w (rfA r1 2) a2)) → (lay r1 = (6, 0) ∧ ((0 ≤ a2 ∧ a2 < 16) ∧ (ldok (rfA r1 4) (w 73 a2) w ∧ (lay r1 = (6, 0) ∧ ((0 ≤ a3 ∧ a3 < 16) ∧ (ldok (rfA r1 4) (w 73 a3) w ∧ ((w (rfA r1 4) (w 73 a2) ≤ w (rfA r1 4) (w 73 a3) → T d 232 54 [some (vr 69), some (vr r1), some (vi a2), some (vi a3)] [] w Q) ∧ (¬ (w (rfA r1 4) (w 73 a2) ≤ w (rfA r1 4) (w 73 a3)) → T d 232 55 [some (vr 69), some (vr r1), some (vi a2), some (vi a3)] [vi 1] w Q)))))))))))))))))) := by
  rw [T_aload_1 c232_0, T_getR 6 4 4 c232_1 rfl rfl rfl rfl, T_aload_1 c232_4, T_getR 6 2 2 c232_5 rfl rfl rfl rfl, T_iload_2 c232_8, T_iald c232_9, T_iald c232_10, T_aload_1 c232_11, T_getR 6 4 4 c232_12 rfl rfl rfl rfl, T_aload_1 c232_15, T_getR 6 2 2 c232_16 rfl rfl rfl rfl, T_iload_3 c232_19, T_iald c232_20, T_iald c232_21, T_icmp_ge 54 c232_22 rfl, T_aload_1 c232_25, T_getR 6 4 4 c232_26 rfl rfl rfl rfl, T_aload_0 c232_29, T_getR 8 9 9 c232_30 rfl rfl rfl rfl, rf_69_9, T_iload_2 c232_33, T_iald c232_34, T_iald c232_35, T_aload_1 c232_36, T_getR 6 4 4 c232_37 rfl rfl rfl rfl, T_aload_0 c232_40, T_getR 8 9 9 c232_41 rfl rfl rfl rfl, rf_69_9, T_iload_3 c232_44, T_iald c232_45, T_iald c232_46, T_icmp_le 54 c232_47 rfl, T_sipush c232_50, T_goto 55 c232_51 rfl]
  all_goals try simp only [Int.reduceToNat, lay_69, ld_73, true_and, Nat.reduceAdd, eq_self_iff_true]
theorem g232_54 {d : Nat} {x0 x1 x2 x3 : Option aV} {w : aW} {Q : Option aV → aW → Prop} : T d 232 54 [x0, x1, x2, x3] [] w Q = T d 232 55 [x0, x1, x2, x3] [vi 0] w Q := by
  rw [T_sipush c232_54]
  all_goals try simp only [true_and, Nat.reduceAdd, eq_self_iff_true]
theorem g232_55 {d : Nat} {s0 : Int} {x0 x1 x2 x3 : Option aV} {w : aW} {Q : Option aV → aW → Prop} : T d 232 55 [x0, x1, x2, x3] [vi s0] w Q = ((s0 = 0 ∨ s0 = 1) ∧ Q (some (vi s0)) w) := by
  rw [T_iretz c232_55 (by decide +kernel)]
  all_goals try simp only [true_and, Nat.reduceAdd, eq_self_iff_true]
/-! 233: StringHandsModel.tanglesNow.()I -/
theorem c233_0 : cd 233 0 = some (.sipush 0, 1) := by decide +kernel
theorem c233_1 : cd 233 1 = some (.istore 1, 1) := by decide +kernel
theorem c233_2 : cd 233 2 = some (.sipush 0, 1) := by decide +kernel
theorem c233_3 : cd 233 3 = some (.istore 2, 1) := by decide +kernel
theorem c233_4 : cd 233 4 = some (.iload 2, 1) := by decide +kernel
theorem c233_5 : cd 233 5 = some (.aload 0, 1) := by decide +kernel
theorem c233_6 : cd 233 6 = some (.getfield 3078, 3) := by decide +kernel
theorem c233_9 : cd 233 9 = some (.sipush 3, 1) := by decide +kernel
theorem c233_10 : cd 233 10 = some (.iaload, 1) := by decide +kernel
theorem c233_11 : cd 233 11 = some (.if_icmp .ge 71, 3) := by decide +kernel
theorem c233_14 : cd 233 14 = some (.sipush 0, 1) := by decide +kernel
theorem c233_15 : cd 233 15 = some (.istore 3, 1) := by decide +kernel
theorem c233_16 : cd 233 16 = some (.iload 3, 1) := by decide +kernel
theorem c233_17 : cd 233 17 = some (.aload 0, 1) := by decide +kernel
theorem c233_18 : cd 233 18 = some (.getfield 3078, 3) := by decide +kernel
theorem c233_21 : cd 233 21 = some (.sipush 3, 1) := by decide +kernel
theorem c233_22 : cd 233 22 = some (.iaload, 1) := by decide +kernel
theorem c233_23 : cd 233 23 = some (.if_icmp .ge 65, 3) := by decide +kernel
theorem c233_26 : cd 233 26 = some (.iload 1, 1) := by decide +kernel
theorem c233_27 : cd 233 27 = some (.aload 0, 1) := by decide +kernel
theorem c233_28 : cd 233 28 = some (.iload 2, 1) := by decide +kernel
theorem c233_29 : cd 233 29 = some (.invokevirtual 138, 3) := by decide +kernel
theorem c233_32 : cd 233 32 = some (.ifCond .eq 56, 3) := by decide +kernel
theorem c233_35 : cd 233 35 = some (.aload 0, 1) := by decide +kernel
theorem c233_36 : cd 233 36 = some (.iload 3, 1) := by decide +kernel
theorem c233_37 : cd 233 37 = some (.invokevirtual 138, 3) := by decide +kernel
theorem c233_40 : cd 233 40 = some (.ifCond .eq 56, 3) := by decide +kernel
theorem c233_43 : cd 233 43 = some (.aload 0, 1) := by decide +kernel
theorem c233_44 : cd 233 44 = some (.iload 2, 1) := by decide +kernel
theorem c233_45 : cd 233 45 = some (.iload 3, 1) := by decide +kernel
theorem c233_46 : cd 233 46 = some (.invokevirtual 284, 3) := by decide +kernel
theorem c233_49 : cd 233 49 = some (.ifCond .eq 56, 3) := by decide +kernel
theorem c233_52 : cd 233 52 = some (.sipush 1, 1) := by decide +kernel
theorem c233_53 : cd 233 53 = some (.goto 57, 3) := by decide +kernel
theorem c233_56 : cd 233 56 = some (.sipush 0, 1) := by decide +kernel
theorem c233_57 : cd 233 57 = some (.iadd, 1) := by decide +kernel
theorem c233_58 : cd 233 58 = some (.istore 1, 1) := by decide +kernel
theorem c233_59 : cd 233 59 = some (.iinc 3 1, 3) := by decide +kernel
theorem c233_62 : cd 233 62 = some (.goto 16, 3) := by decide +kernel
theorem c233_65 : cd 233 65 = some (.iinc 2 1, 3) := by decide +kernel
theorem c233_68 : cd 233 68 = some (.goto 4, 3) := by decide +kernel
theorem c233_71 : cd 233 71 = some (.iload 1, 1) := by decide +kernel
theorem c233_72 : cd 233 72 = some (.ireturn, 1) := by decide +kernel
theorem g233_0 {d : Nat} {x0 x1 x2 x3 : Option aV} {w : aW} {Q : Option aV → aW → Prop} : T d 233 0 [x0, x1, x2, x3] [] w Q = T d 233 4 [x0, some (vi 0), some (vi 0), x3] [] w Q := by
  rw [T_sipush c233_0, T_istore_1 c233_1, T_sipush c233_2, T_istore_2 c233_3]
  all_goals try simp only [true_and, Nat.reduceAdd, eq_self_iff_true]
theorem g233_4 {d : Nat} {a1 a2 : Int} {x3 : Option aV} {w : aW} {Q : Option aV → aW → Prop} : T d 233 4 [some (vr 167), some (vi a1), some (vi a2), x3] [] w Q = ((w 168 3 ≤ a2 → Q (some (vi a1)) w) ∧ (¬ (w 168 3 ≤ a2) → T d 233 16 [some (vr 167), some (vi a1), some (vi a2), some (vi 0)] [] w Q)) := by
  rw [T_iload_2 c233_4, T_aload_0 c233_5, T_getR 12 1 1 c233_6 rfl rfl rfl rfl, rf_167_1, T_sipush c233_9, T_iald c233_10, T_icmp_ge 71 c233_11 rfl, T_iload_1 c233_71, T_ireti c233_72 (by decide +kernel), T_sipush c233_14, T_istore_3 c233_15]
  all_goals try simp only [Int.reduceLE, Int.reduceLT, Int.reduceToNat, and_self, lay_167, ld_168, true_and, Nat.reduceAdd, eq_self_iff_true]
theorem g233_16 {d : Nat} {a1 a2 a3 : Int} {w : aW} {Q : Option aV → aW → Prop} : T (d + 1) 233 16 [some (vr 167), some (vi a1), some (vi a2), some (vi a3)] [] w Q = ((w 168 3 ≤ a3 → T (d + 1) 233 4 [some (vr 167), some (vi a1), some (vi (w32 (a2 + 1))), some (vi a3)] [] w Q) ∧ (¬ (w 168 3 ≤ a3) → T d 138 0 [some (vr 167), some (vi a2)] [] w (fun r w1 => T (d + 1) 233 32 [some (vr 167), some (vi a1), some (vi a2), some (vi a3)] (r.toList ++ [vi a1]) w1 Q))) := by
  rw [T_iload_3 c233_16, T_aload_0 c233_17, T_getR 12 1 1 c233_18 rfl rfl rfl rfl, rf_167_1, T_sipush c233_21, T_iald c233_22, T_icmp_ge 65 c233_23 rfl, T_iinc_2 c233_65, T_goto 4 c233_68 rfl, T_iload_1 c233_26, T_aload_0 c233_27, T_iload_2 c233_28, T_invv (es := [some (vr 167), some (vi a2)]) (st := [vi a2, vr 167, vi a1]) (ks := [2, 0]) (n := 2) (c := 12) (k := 167) (as := [vi a2]) (rest := [vi a1]) c233_29 (by decide +kernel) (by decide +kernel) (by decide +kernel) (by decide) rfl rfl (Nat.le_of_ble_eq_true rfl)]
  all_goals try simp only [Int.reduceLE, Int.reduceLT, Int.reduceToNat, and_self, lay_167, ld_168, true_and, Nat.reduceAdd, eq_self_iff_true]
theorem g233_32 {d : Nat} {a3 s0 s1 : Int} {x1 x2 : Option aV} {w : aW} {Q : Option aV → aW → Prop} : T (d + 1) 233 32 [some (vr 167), x1, x2, some (vi a3)] [vi s1, vi s0] w Q = ((s1 = 0 → T (d + 1) 233 56 [some (vr 167), x1, x2, some (vi a3)] [vi s0] w Q) ∧ (¬ (s1 = 0) → T d 138 0 [some (vr 167), some (vi a3)] [] w (fun r w1 => T (d + 1) 233 40 [some (vr 167), x1, x2, some (vi a3)] (r.toList ++ [vi s0]) w1 Q))) := by
  rw [T_if_eq 56 c233_32 rfl, T_aload_0 c233_35, T_iload_3 c233_36, T_invv (es := [some (vr 167), some (vi a3)]) (st := [vi a3, vr 167, vi s0]) (ks := [2, 0]) (n := 2) (c := 12) (k := 167) (as := [vi a3]) (rest := [vi s0]) c233_37 (by decide +kernel) (by decide +kernel) (by decide +kernel) (by decide) rfl rfl (Nat.le_of_ble_eq_true rfl)]
  all_goals try simp only [Int.reduceToNat, lay_167, true_and, Nat.reduceAdd, eq_self_iff_true]
theorem g233_40 {d : Nat} {a2 a3 s0 s1 : Int} {x1 : Option aV} {w : aW} {Q : Option aV → aW → Prop} : T (d + 1) 233 40 [some (vr 167), x1, some (vi a2), some (vi a3)] [vi s1, vi s0] w Q = ((s1 = 0 → T (d + 1) 233 56 [some (vr 167), x1, some (vi a2), some (vi a3)] [vi s0] w Q) ∧ (¬ (s1 = 0) → T d 284 0 [some (vr 167), some (vi a2), some (vi a3)] [] w (fun r w1 => T (d + 1) 233 49 [some (vr 167), x1, some (vi a2), some (vi a3)] (r.toList ++ [vi s0]) w1 Q))) := by
  rw [T_if_eq 56 c233_40 rfl, T_aload_0 c233_43, T_iload_2 c233_44, T_iload_3 c233_45, T_invv (es := [some (vr 167), some (vi a2), some (vi a3)]) (st := [vi a3, vi a2, vr 167, vi s0]) (ks := [2, 0, 0]) (n := 3) (c := 12) (k := 167) (as := [vi a2, vi a3]) (rest := [vi s0]) c233_46 (by decide +kernel) (by decide +kernel) (by decide +kernel) (by decide) rfl rfl (Nat.le_of_ble_eq_true rfl)]
  all_goals try simp only [Int.reduceToNat, lay_167, true_and, Nat.reduceAdd, eq_self_iff_true]
theorem g233_49 {d : Nat} {s0 s1 : Int} {x0 x1 x2 x3 : Option aV} {w : aW} {Q : Option aV → aW → Prop} : T d 233 49 [x0, x1, x2, x3] [vi s1, vi s0] w Q = ((s1 = 0 → T d 233 56 [x0, x1, x2, x3] [vi s0] w Q) ∧ (¬ (s1 = 0) → T d 233 57 [x0, x1, x2, x3] [vi 1, vi s0] w Q)) := by
  rw [T_if_eq 56 c233_49 rfl, T_sipush c233_52, T_goto 57 c233_53 rfl]
  all_goals try simp only [Int.reduceToNat, true_and, Nat.reduceAdd, eq_self_iff_true]
theorem g233_56 {d : Nat} {s0 : Int} {x0 x1 x2 x3 : Option aV} {w : aW} {Q : Option aV → aW → Prop} : T d 233 56 [x0, x1, x2, x3] [vi s0] w Q = T d 233 57 [x0, x1, x2, x3] [vi 0, vi s0] w Q := by
  rw [T_sipush c233_56]
  all_goals try simp only [true_and, Nat.reduceAdd, eq_self_iff_true]
theorem g233_57 {d : Nat} {a3 s0 s1 : Int} {x0 x1 x2 : Option aV} {w : aW} {Q : Option aV → aW → Prop} : T d 233 57 [x0, x1, x2, some (vi a3)] [vi s1, vi s0] w Q = T d 233 16 [x0, some (vi (w32 (s0 + s1))), x2, some (vi (w32 (a3 + 1)))] [] w Q := by
  rw [T_iadd c233_57, T_istore_1 c233_58, T_iinc_3 c233_59, T_goto 16 c233_62 rfl]
  all_goals try simp only [true_and, Nat.reduceAdd, eq_self_iff_true]
/-! 234: StringHands$Mover.doDeed.(LStringHands$Troupe;LStringHands$Stage;J)I -/
theorem c234_0 : cd 234 0 = some (.lload 3, 1) := by decide +kernel
theorem c234_1 : cd 234 1 = some (.bipush (-1), 3) := by decide +kernel
theorem c234_4 : cd 234 4 = some (.lcmp, 1) := by decide +kernel
theorem c234_5 : cd 234 5 = some (.ifCond .ne 17, 3) := by decide +kernel
theorem c234_8 : cd 234 8 = some (.aload 0, 1) := by decide +kernel
theorem c234_9 : cd 234 9 = some (.aload 1, 1) := by decide +kernel
theorem c234_10 : cd 234 10 = some (.aload 2, 1) := by decide +kernel
theorem c234_11 : cd 234 11 = some (.invokevirtual 135, 3) := by decide +kernel
theorem c234_14 : cd 234 14 = some (.pop, 1) := by decide +kernel
theorem c234_15 : cd 234 15 = some (.sipush 0, 1) := by decide +kernel
theorem c234_16 : cd 234 16 = some (.ireturn, 1) := by decide +kernel
theorem c234_17 : cd 234 17 = some (.lload 3, 1) := by decide +kernel
theorem c234_18 : cd 234 18 = some (.bipush 0, 1) := by decide +kernel
theorem c234_19 : cd 234 19 = some (.lcmp, 1) := by decide +kernel
theorem c234_20 : cd 234 20 = some (.ifCond .ge 25, 3) := by decide +kernel
theorem c234_23 : cd 234 23 = some (.sipush 1, 1) := by decide +kernel
theorem c234_24 : cd 234 24 = some (.ireturn, 1) := by decide +kernel
theorem c234_25 : cd 234 25 = some (.lload 3, 1) := by decide +kernel
theorem c234_26 : cd 234 26 = some (.bipush 100, 3) := by decide +kernel
theorem c234_29 : cd 234 29 = some (.lcmp, 1) := by decide +kernel
theorem c234_30 : cd 234 30 = some (.ifCond .ge 60, 3) := by decide +kernel
theorem c234_33 : cd 234 33 = some (.lload 3, 1) := by decide +kernel
theorem c234_34 : cd 234 34 = some (.aload 1, 1) := by decide +kernel
theorem c234_35 : cd 234 35 = some (.getfield 2052, 3) := by decide +kernel
theorem c234_38 : cd 234 38 = some (.i2l, 1) := by decide +kernel
theorem c234_39 : cd 234 39 = some (.lcmp, 1) := by decide +kernel
theorem c234_40 : cd 234 40 = some (.ifCond .lt 45, 3) := by decide +kernel
theorem c234_43 : cd 234 43 = some (.sipush 1, 1) := by decide +kernel
theorem c234_44 : cd 234 44 = some (.ireturn, 1) := by decide +kernel
theorem c234_45 : cd 234 45 = some (.aload 2, 1) := by decide +kernel
theorem c234_46 : cd 234 46 = some (.dup, 1) := by decide +kernel
theorem c234_47 : cd 234 47 = some (.getfield 1536, 3) := by decide +kernel
theorem c234_50 : cd 234 50 = some (.sipush 1, 1) := by decide +kernel
theorem c234_51 : cd 234 51 = some (.lload 3, 1) := by decide +kernel
theorem c234_52 : cd 234 52 = some (.l2i, 1) := by decide +kernel
theorem c234_53 : cd 234 53 = some (.ishl, 1) := by decide +kernel
theorem c234_54 : cd 234 54 = some (.ixor, 1) := by decide +kernel
theorem c234_55 : cd 234 55 = some (.putfield 1536, 3) := by decide +kernel
theorem c234_58 : cd 234 58 = some (.sipush 0, 1) := by decide +kernel
theorem c234_59 : cd 234 59 = some (.ireturn, 1) := by decide +kernel
theorem c234_60 : cd 234 60 = some (.lload 3, 1) := by decide +kernel
theorem c234_61 : cd 234 61 = some (.bipush 200, 3) := by decide +kernel
theorem c234_64 : cd 234 64 = some (.lcmp, 1) := by decide +kernel
theorem c234_65 : cd 234 65 = some (.ifCond .lt 72, 3) := by decide +kernel
theorem c234_68 : cd 234 68 = some (.sipush 1, 1) := by decide +kernel
theorem c234_69 : cd 234 69 = some (.goto 73, 3) := by decide +kernel
theorem c234_72 : cd 234 72 = some (.sipush 0, 1) := by decide +kernel
theorem c234_73 : cd 234 73 = some (.istore 5, 2) := by decide +kernel
theorem c234_75 : cd 234 75 = some (.lload 3, 1) := by decide +kernel
theorem c234_76 : cd 234 76 = some (.iload 5, 2) := by decide +kernel
theorem c234_78 : cd 234 78 = some (.ifCond .eq 87, 3) := by decide +kernel
theorem c234_81 : cd 234 81 = some (.sipush 200, 3) := by decide +kernel
theorem c234_84 : cd 234 84 = some (.goto 89, 3) := by decide +kernel
theorem c234_87 : cd 234 87 = some (.sipush 100, 2) := by decide +kernel
theorem c234_89 : cd 234 89 = some (.i2l, 1) := by decide +kernel
theorem c234_90 : cd 234 90 = some (.lsub, 1) := by decide +kernel
theorem c234_91 : cd 234 91 = some (.lstore 6, 2) := by decide +kernel
theorem c234_93 : cd 234 93 = some (.lload 6, 2) := by decide +kernel
theorem c234_95 : cd 234 95 = some (.aload 1, 1) := by decide +kernel
theorem c234_96 : cd 234 96 = some (.getfield 2056, 3) := by decide +kernel
theorem c234_99 : cd 234 99 = some (.i2l, 1) := by decide +kernel
theorem c234_100 : cd 234 100 = some (.lcmp, 1) := by decide +kernel
theorem c234_101 : cd 234 101 = some (.ifCond .lt 108, 3) := by decide +kernel
theorem c234_104 : cd 234 104 = some (.sipush 1, 1) := by decide +kernel
theorem c234_105 : cd 234 105 = some (.goto 117, 3) := by decide +kernel
theorem c234_108 : cd 234 108 = some (.aload 2, 1) := by decide +kernel
theorem c234_109 : cd 234 109 = some (.lload 6, 2) := by decide +kernel
theorem c234_111 : cd 234 111 = some (.l2i, 1) := by decide +kernel
theorem c234_112 : cd 234 112 = some (.iload 5, 2) := by decide +kernel
theorem c234_114 : cd 234 114 = some (.invokestatic 237, 3) := by decide +kernel
theorem c234_117 : cd 234 117 = some (.ireturn, 1) := by decide +kernel
theorem g234_0 {d : Nat} {b3 : Int} {r2 : Nat} {x5 x6 x7 : Option aV} {w : aW} {Q : Option aV → aW → Prop} : T (d + 1) 234 0 [some (vr 16), some (vr 69), some (vr r2), some (vl b3), none, x5, x6, x7] [] w Q = ((¬ kcmp b3 (-1) = 0 → ((0 ≤ kcmp b3 0 → ((0 ≤ kcmp b3 100 → ((kcmp b3 200 < 0 → T (d + 1) 234 73 [some (vr 16), some (vr 69), some (vr r2), some (vl b3), none, x5, x6, x7] [vi 0] w Q) ∧ (¬ (kcmp b3 200 < 0) → T (d + 1) 234 73 [some (vr 16), some (vr 69), some (vr r2), some (vl b3), none, x5, x6, x7] [vi 1] w Q))) ∧ (¬ (0 ≤ kcmp b3 100) → ((kcmp b3 (w 69 1) < 0 → (lay r2 = (6, 0) ∧ ((lay r2 = (6, 0)) ∧ Q (some (vi 0)) (iup w r2 0 (jxor (w r2 0) (jshl 1 (w32 b3))))))) ∧ (¬ (kcmp b3 (w 69 1) < 0) → Q (some (vi 1)) w))))) ∧ (¬ (0 ≤ kcmp b3 0) → Q (some (vi 1)) w))) ∧ (¬ (¬ kcmp b3 (-1) = 0) → T d 135 0 [some (vr 16), some (vr 69), some (vr r2), none, none, none] [] w (fun r w1 => T (d + 1) 234 14 [some (vr 16), some (vr 69), some (vr r2), some (vl b3), none, x5, x6, x7] (r.toList ++ []) w1 Q))) := by
  rw [T_lload_3 c234_0, T_bipush c234_1, T_lcmp c234_4, T_if_ne 17 c234_5 rfl, T_lload_3 c234_17, T_bipush c234_18, T_lcmp c234_19, T_if_ge 25 c234_20 rfl, T_lload_3 c234_25, T_bipush c234_26, T_lcmp c234_29, T_if_ge 60 c234_30 rfl, T_lload_3 c234_60, T_bipush c234_61, T_lcmp c234_64, T_if_lt 72 c234_65 rfl, T_sipush c234_72, T_sipush c234_68, T_goto 73 c234_69 rfl, T_lload_3 c234_33, T_aload_1 c234_34, T_getI 8 1 1 c234_35 rfl rfl rfl rfl, T_i2l c234_38, T_lcmp c234_39, T_if_lt 45 c234_40 rfl, T_aload_2 c234_45, T_dup_r c234_46, T_getI 6 0 0 c234_47 rfl rfl rfl rfl, T_sipush c234_50, T_lload_3 c234_51, T_l2i c234_52, T_ishl c234_53, T_ixor c234_54, T_putI 6 0 0 c234_55 rfl rfl rfl rfl, T_sipush c234_58, T_ireti c234_59 (by decide +kernel), T_sipush c234_43, T_ireti c234_44 (by decide +kernel), T_sipush c234_23, T_ireti c234_24 (by decide +kernel), T_aload_0 c234_8, T_aload_1 c234_9, T_aload_2 c234_10, T_invv (es := [some (vr 16), some (vr 69), some (vr r2), none, none, none]) (st := [vr r2, vr 69, vr 16]) (ks := [2, 2, 2]) (n := 6) (c := 2) (k := 16) (as := [vr 69, vr r2]) (rest := []) c234_11 (by decide +kernel) (by decide +kernel) (by decide +kernel) (by decide) rfl rfl (Nat.le_of_ble_eq_true rfl)]
  all_goals try simp only [Int.reduceToNat, lay_16, lay_69, true_and, Nat.reduceAdd, eq_self_iff_true]
theorem g234_14 {d : Nat} {s0 : Int} {x0 x1 x2 x3 x4 x5 x6 x7 : Option aV} {w : aW} {Q : Option aV → aW → Prop} : T d 234 14 [x0, x1, x2, x3, x4, x5, x6, x7] [vi s0] w Q = Q (some (vi 0)) w := by
  rw [T_pop_i c234_14, T_sipush c234_15, T_ireti c234_16 (by decide +kernel)]
  all_goals try simp only [true_and, Nat.reduceAdd, eq_self_iff_true]
theorem g234_73 {d : Nat} {b3 s0 : Int} {x0 x1 x2 x5 x6 x7 : Option aV} {w : aW} {Q : Option aV → aW → Prop} : T d 234 73 [x0, x1, x2, some (vl b3), none, x5, x6, x7] [vi s0] w Q = ((s0 = 0 → T d 234 89 [x0, x1, x2, some (vl b3), none, some (vi s0), x6, x7] [vi 100, vl b3] w Q) ∧ (¬ (s0 = 0) → T d 234 89 [x0, x1, x2, some (vl b3), none, some (vi s0), x6, x7] [vi 200, vl b3] w Q)) := by
  rw [T_istore_5 c234_73, T_lload_3 c234_75, T_iload_5 c234_76, T_if_eq 87 c234_78 rfl, T_sipush c234_87, T_sipush c234_81, T_goto 89 c234_84 rfl]
  all_goals try simp only [Int.reduceToNat, true_and, Nat.reduceAdd, eq_self_iff_true]
theorem g234_89 {d : Nat} {a5 s0 s1 : Int} {r2 : Nat} {x0 x3 x4 x6 x7 : Option aV} {w : aW} {Q : Option aV → aW → Prop} : T (d + 1) 234 89 [x0, some (vr 69), some (vr r2), x3, x4, some (vi a5), x6, x7] [vi s1, vl s0] w Q = ((kcmp (w64 (s0 - s1)) (w 69 2) < 0 → T d 237 0 [some (vr r2), some (vi (w32 (w64 (s0 - s1)))), some (vi a5), none] [] w (fun r w1 => T (d + 1) 234 117 [x0, some (vr 69), some (vr r2), x3, x4, some (vi a5), some (vl (w64 (s0 - s1))), none] (r.toList ++ []) w1 Q)) ∧ (¬ (kcmp (w64 (s0 - s1)) (w 69 2) < 0) → T (d + 1) 234 117 [x0, some (vr 69), some (vr r2), x3, x4, some (vi a5), some (vl (w64 (s0 - s1))), none] [vi 1] w Q)) := by
  rw [T_i2l c234_89, T_lsub c234_90, T_lstore_6 c234_91, T_lload_6 c234_93, T_aload_1 c234_95, T_getI 8 2 2 c234_96 rfl rfl rfl rfl, T_i2l c234_99, T_lcmp c234_100, T_if_lt 108 c234_101 rfl, T_aload_2 c234_108, T_lload_6 c234_109, T_l2i c234_111, T_iload_5 c234_112, T_inv (es := [some (vr r2), some (vi (w32 (w64 (s0 - s1)))), some (vi a5), none]) (st := [vi a5, vi (w32 (w64 (s0 - s1))), vr r2]) (ks := [2, 0, 0]) (n := 4) (as := [vr r2, vi (w32 (w64 (s0 - s1))), vi a5]) (rest := []) c234_114 (by decide +kernel) (by decide +kernel) rfl rfl (Nat.le_of_ble_eq_true rfl), T_sipush c234_104, T_goto 117 c234_105 rfl]
  all_goals try simp only [Int.reduceToNat, lay_69, true_and, Nat.reduceAdd, eq_self_iff_true]
theorem g234_117 {d : Nat} {s0 : Int} {x0 x1 x2 x3 x4 x5 x6 x7 : Option aV} {w : aW} {Q : Option aV → aW → Prop} : T d 234 117 [x0, x1, x2, x3, x4, x5, x6, x7] [vi s0] w Q = Q (some (vi s0)) w := by
  rw [T_ireti c234_117 (by decide +kernel)]
  all_goals try simp only [true_and, Nat.reduceAdd, eq_self_iff_true]
/-! 235: StringHandsModel.refuses.(J)I -/
theorem c235_0 : cd 235 0 = some (.lload 1, 1) := by decide +kernel
theorem c235_1 : cd 235 1 = some (.bipush (-1), 3) := by decide +kernel
theorem c235_4 : cd 235 4 = some (.lcmp, 1) := by decide +kernel
theorem c235_5 : cd 235 5 = some (.ifCond .ne 10, 3) := by decide +kernel
theorem c235_8 : cd 235 8 = some (.sipush 0, 1) := by decide +kernel
theorem c235_9 : cd 235 9 = some (.ireturn, 1) := by decide +kernel
theorem c235_10 : cd 235 10 = some (.lload 1, 1) := by decide +kernel
theorem c235_11 : cd 235 11 = some (.bipush 0, 1) := by decide +kernel
theorem c235_12 : cd 235 12 = some (.lcmp, 1) := by decide +kernel
theorem c235_13 : cd 235 13 = some (.ifCond .ge 18, 3) := by decide +kernel
theorem c235_16 : cd 235 16 = some (.sipush 1, 1) := by decide +kernel
theorem c235_17 : cd 235 17 = some (.ireturn, 1) := by decide +kernel
theorem c235_18 : cd 235 18 = some (.lload 1, 1) := by decide +kernel
theorem c235_19 : cd 235 19 = some (.bipush 100, 3) := by decide +kernel
theorem c235_22 : cd 235 22 = some (.lcmp, 1) := by decide +kernel
theorem c235_23 : cd 235 23 = some (.ifCond .ge 40, 3) := by decide +kernel
theorem c235_26 : cd 235 26 = some (.aload 0, 1) := by decide +kernel
theorem c235_27 : cd 235 27 = some (.lload 1, 1) := by decide +kernel
theorem c235_28 : cd 235 28 = some (.invokevirtual 121, 3) := by decide +kernel
theorem c235_31 : cd 235 31 = some (.ifCond .eq 38, 3) := by decide +kernel
theorem c235_34 : cd 235 34 = some (.sipush 0, 1) := by decide +kernel
theorem c235_35 : cd 235 35 = some (.goto 39, 3) := by decide +kernel
theorem c235_38 : cd 235 38 = some (.sipush 1, 1) := by decide +kernel
theorem c235_39 : cd 235 39 = some (.ireturn, 1) := by decide +kernel
theorem c235_40 : cd 235 40 = some (.lload 1, 1) := by decide +kernel
theorem c235_41 : cd 235 41 = some (.bipush 200, 3) := by decide +kernel
theorem c235_44 : cd 235 44 = some (.lcmp, 1) := by decide +kernel
theorem c235_45 : cd 235 45 = some (.ifCond .ge 56, 3) := by decide +kernel
theorem c235_48 : cd 235 48 = some (.lload 1, 1) := by decide +kernel
theorem c235_49 : cd 235 49 = some (.bipush 100, 3) := by decide +kernel
theorem c235_52 : cd 235 52 = some (.lsub, 1) := by decide +kernel
theorem c235_53 : cd 235 53 = some (.goto 61, 3) := by decide +kernel
theorem c235_56 : cd 235 56 = some (.lload 1, 1) := by decide +kernel
theorem c235_57 : cd 235 57 = some (.bipush 200, 3) := by decide +kernel
theorem c235_60 : cd 235 60 = some (.lsub, 1) := by decide +kernel
theorem c235_61 : cd 235 61 = some (.lstore 3, 1) := by decide +kernel
theorem c235_62 : cd 235 62 = some (.aload 0, 1) := by decide +kernel
theorem c235_63 : cd 235 63 = some (.lload 3, 1) := by decide +kernel
theorem c235_64 : cd 235 64 = some (.invokevirtual 127, 3) := by decide +kernel
theorem c235_67 : cd 235 67 = some (.ifCond .ne 72, 3) := by decide +kernel
theorem c235_70 : cd 235 70 = some (.sipush 1, 1) := by decide +kernel
theorem c235_71 : cd 235 71 = some (.ireturn, 1) := by decide +kernel
theorem c235_72 : cd 235 72 = some (.aload 0, 1) := by decide +kernel
theorem c235_73 : cd 235 73 = some (.lload 3, 1) := by decide +kernel
theorem c235_74 : cd 235 74 = some (.l2i, 1) := by decide +kernel
theorem c235_75 : cd 235 75 = some (.invokevirtual 138, 3) := by decide +kernel
theorem c235_78 : cd 235 78 = some (.lload 1, 1) := by decide +kernel
theorem c235_79 : cd 235 79 = some (.bipush 200, 3) := by decide +kernel
theorem c235_82 : cd 235 82 = some (.lcmp, 1) := by decide +kernel
theorem c235_83 : cd 235 83 = some (.ifCond .ge 90, 3) := by decide +kernel
theorem c235_86 : cd 235 86 = some (.sipush 1, 1) := by decide +kernel
theorem c235_87 : cd 235 87 = some (.goto 91, 3) := by decide +kernel
theorem c235_90 : cd 235 90 = some (.sipush 0, 1) := by decide +kernel
theorem c235_91 : cd 235 91 = some (.if_icmp .ne 98, 3) := by decide +kernel
theorem c235_94 : cd 235 94 = some (.sipush 0, 1) := by decide +kernel
theorem c235_95 : cd 235 95 = some (.goto 99, 3) := by decide +kernel
theorem c235_98 : cd 235 98 = some (.sipush 2, 1) := by decide +kernel
theorem c235_99 : cd 235 99 = some (.ireturn, 1) := by decide +kernel
theorem g235_0 {d : Nat} {b1 : Int} {x3 x4 : Option aV} {w : aW} {Q : Option aV → aW → Prop} : T (d + 1) 235 0 [some (vr 167), some (vl b1), none, x3, x4] [] w Q = ((¬ kcmp b1 (-1) = 0 → ((0 ≤ kcmp b1 0 → ((0 ≤ kcmp b1 100 → ((0 ≤ kcmp b1 200 → T (d + 1) 235 61 [some (vr 167), some (vl b1), none, x3, x4] [vl (w64 (b1 - 200))] w Q) ∧ (¬ (0 ≤ kcmp b1 200) → T (d + 1) 235 61 [some (vr 167), some (vl b1), none, x3, x4] [vl (w64 (b1 - 100))] w Q))) ∧ (¬ (0 ≤ kcmp b1 100) → T d 121 0 [some (vr 167), some (vl b1), none] [] w (fun r w1 => T (d + 1) 235 31 [some (vr 167), some (vl b1), none, x3, x4] (r.toList ++ []) w1 Q)))) ∧ (¬ (0 ≤ kcmp b1 0) → Q (some (vi 1)) w))) ∧ (¬ (¬ kcmp b1 (-1) = 0) → Q (some (vi 0)) w)) := by
  rw [T_lload_1 c235_0, T_bipush c235_1, T_lcmp c235_4, T_if_ne 10 c235_5 rfl, T_lload_1 c235_10, T_bipush c235_11, T_lcmp c235_12, T_if_ge 18 c235_13 rfl, T_lload_1 c235_18, T_bipush c235_19, T_lcmp c235_22, T_if_ge 40 c235_23 rfl, T_lload_1 c235_40, T_bipush c235_41, T_lcmp c235_44, T_if_ge 56 c235_45 rfl, T_lload_1 c235_56, T_bipush c235_57, T_lsub c235_60, T_lload_1 c235_48, T_bipush c235_49, T_lsub c235_52, T_goto 61 c235_53 rfl, T_aload_0 c235_26, T_lload_1 c235_27, T_invv (es := [some (vr 167), some (vl b1), none]) (st := [vl b1, vr 167]) (ks := [2, 1]) (n := 3) (c := 12) (k := 167) (as := [vl b1]) (rest := []) c235_28 (by decide +kernel) (by decide +kernel) (by decide +kernel) (by decide) rfl rfl (Nat.le_of_ble_eq_true rfl), T_sipush c235_16, T_ireti c235_17 (by decide +kernel), T_sipush c235_8, T_ireti c235_9 (by decide +kernel)]
  all_goals try simp only [Int.reduceToNat, lay_167, true_and, Nat.reduceAdd, eq_self_iff_true]
theorem g235_31 {d : Nat} {s0 : Int} {x0 x1 x2 x3 x4 : Option aV} {w : aW} {Q : Option aV → aW → Prop} : T d 235 31 [x0, x1, x2, x3, x4] [vi s0] w Q = ((s0 = 0 → T d 235 39 [x0, x1, x2, x3, x4] [vi 1] w Q) ∧ (¬ (s0 = 0) → T d 235 39 [x0, x1, x2, x3, x4] [vi 0] w Q)) := by
  rw [T_if_eq 38 c235_31 rfl, T_sipush c235_38, T_sipush c235_34, T_goto 39 c235_35 rfl]
  all_goals try simp only [Int.reduceToNat, true_and, Nat.reduceAdd, eq_self_iff_true]
theorem g235_39 {d : Nat} {s0 : Int} {x0 x1 x2 x3 x4 : Option aV} {w : aW} {Q : Option aV → aW → Prop} : T d 235 39 [x0, x1, x2, x3, x4] [vi s0] w Q = Q (some (vi s0)) w := by
  rw [T_ireti c235_39 (by decide +kernel)]
  all_goals try simp only [true_and, Nat.reduceAdd, eq_self_iff_true]
theorem g235_61 {d : Nat} {s0 : Int} {x1 x2 x3 x4 : Option aV} {w : aW} {Q : Option aV → aW → Prop} : T (d + 1) 235 61 [some (vr 167), x1, x2, x3, x4] [vl s0] w Q = T d 127 0 [some (vr 167), some (vl s0), none] [] w (fun r w1 => T (d + 1) 235 67 [some (vr 167), x1, x2, some (vl s0), none] (r.toList ++ []) w1 Q) := by
  rw [T_lstore_3 c235_61, T_aload_0 c235_62, T_lload_3 c235_63, T_invv (es := [some (vr 167), some (vl s0), none]) (st := [vl s0, vr 167]) (ks := [2, 1]) (n := 3) (c := 12) (k := 167) (as := [vl s0]) (rest := []) c235_64 (by decide +kernel) (by decide +kernel) (by decide +kernel) (by decide) rfl rfl (Nat.le_of_ble_eq_true rfl)]
  all_goals try simp only [lay_167, true_and, Nat.reduceAdd, eq_self_iff_true]
theorem g235_67 {d : Nat} {b3 s0 : Int} {x1 x2 : Option aV} {w : aW} {Q : Option aV → aW → Prop} : T (d + 1) 235 67 [some (vr 167), x1, x2, some (vl b3), none] [vi s0] w Q = ((¬ s0 = 0 → T d 138 0 [some (vr 167), some (vi (w32 b3))] [] w (fun r w1 => T (d + 1) 235 78 [some (vr 167), x1, x2, some (vl b3), none] (r.toList ++ []) w1 Q)) ∧ (¬ (¬ s0 = 0) → Q (some (vi 1)) w)) := by
  rw [T_if_ne 72 c235_67 rfl, T_aload_0 c235_72, T_lload_3 c235_73, T_l2i c235_74, T_invv (es := [some (vr 167), some (vi (w32 b3))]) (st := [vi (w32 b3), vr 167]) (ks := [2, 0]) (n := 2) (c := 12) (k := 167) (as := [vi (w32 b3)]) (rest := []) c235_75 (by decide +kernel) (by decide +kernel) (by decide +kernel) (by decide) rfl rfl (Nat.le_of_ble_eq_true rfl), T_sipush c235_70, T_ireti c235_71 (by decide +kernel)]
  all_goals try simp only [Int.reduceToNat, lay_167, true_and, Nat.reduceAdd, eq_self_iff_true]
theorem g235_78 {d : Nat} {b1 s0 : Int} {x0 x3 x4 : Option aV} {w : aW} {Q : Option aV → aW → Prop} : T d 235 78 [x0, some (vl b1), none, x3, x4] [vi s0] w Q = ((0 ≤ kcmp b1 200 → T d 235 91 [x0, some (vl b1), none, x3, x4] [vi 0, vi s0] w Q) ∧ (¬ (0 ≤ kcmp b1 200) → T d 235 91 [x0, some (vl b1), none, x3, x4] [vi 1, vi s0] w Q)) := by
  rw [T_lload_1 c235_78, T_bipush c235_79, T_lcmp c235_82, T_if_ge 90 c235_83 rfl, T_sipush c235_90, T_sipush c235_86, T_goto 91 c235_87 rfl]
  all_goals try simp only [Int.reduceToNat, true_and, Nat.reduceAdd, eq_self_iff_true]
theorem g235_91 {d : Nat} {s0 s1 : Int} {x0 x1 x2 x3 x4 : Option aV} {w : aW} {Q : Option aV → aW → Prop} : T d 235 91 [x0, x1, x2, x3, x4] [vi s1, vi s0] w Q = ((¬ s0 = s1 → T d 235 99 [x0, x1, x2, x3, x4] [vi 2] w Q) ∧ (¬ (¬ s0 = s1) → T d 235 99 [x0, x1, x2, x3, x4] [vi 0] w Q)) := by
  rw [T_icmp_ne 98 c235_91 rfl, T_sipush c235_98, T_sipush c235_94, T_goto 99 c235_95 rfl]
  all_goals try simp only [Int.reduceToNat, true_and, Nat.reduceAdd, eq_self_iff_true]
theorem g235_99 {d : Nat} {s0 : Int} {x0 x1 x2 x3 x4 : Option aV} {w : aW} {Q : Option aV → aW → Prop} : T d 235 99 [x0, x1, x2, x3, x4] [vi s0] w Q = Q (some (vi s0)) w := by
  rw [T_ireti c235_99 (by decide +kernel)]
  all_goals try simp only [true_and, Nat.reduceAdd, eq_self_iff_true]
/-! 236: StringHands$Mover.draw.()I -/
theorem c236_0 : cd 236 0 = some (.aload 0, 1) := by decide +kernel
theorem c236_1 : cd 236 1 = some (.sipush 1103515245, 2) := by decide +kernel
theorem c236_3 : cd 236 3 = some (.aload 0, 1) := by decide +kernel
theorem c236_4 : cd 236 4 = some (.getfield 524, 3) := by decide +kernel
theorem c236_7 : cd 236 7 = some (.imul, 1) := by decide +kernel
theorem c236_8 : cd 236 8 = some (.sipush 12345, 3) := by decide +kernel
theorem c236_11 : cd 236 11 = some (.iadd, 1) := by decide +kernel
theorem c236_12 : cd 236 12 = some (.putfield 524, 3) := by decide +kernel
theorem c236_15 : cd 236 15 = some (.aload 0, 1) := by decide +kernel
theorem c236_16 : cd 236 16 = some (.getfield 524, 3) := by decide +kernel
theorem c236_19 : cd 236 19 = some (.sipush 16, 2) := by decide +kernel
theorem c236_21 : cd 236 21 = some (.iushr, 1) := by decide +kernel
theorem c236_22 : cd 236 22 = some (.ireturn, 1) := by decide +kernel
theorem g236_0 {d : Nat} {w : aW} {Q : Option aV → aW → Prop} : T d 236 0 [some (vr 16)] [] w Q = Q (some (vi (jushr ((iup w 16 3 (w32 ((w32 (1103515245 * (w 16 3))) + 12345))) 16 3) 16))) (iup w 16 3 (w32 ((w32 (1103515245 * (w 16 3))) + 12345))) := by
  rw [T_aload_0 c236_0, T_sipush c236_1, T_aload_0 c236_3, T_getI 2 3 3 c236_4 rfl rfl rfl rfl, T_imul c236_7, T_sipush c236_8, T_iadd c236_11, T_putI 2 3 3 c236_12 rfl rfl rfl rfl, T_aload_0 c236_15, T_getI 2 3 3 c236_16 rfl rfl rfl rfl, T_sipush c236_19, T_iushr c236_21, T_ireti c236_22 (by decide +kernel)]
  all_goals try simp only [lay_16, true_and, Nat.reduceAdd, eq_self_iff_true]
/-! 237: StringHands$Mover.doString.(LStringHands$Stage;IZ)I -/
theorem c237_0 : cd 237 0 = some (.aload 0, 1) := by decide +kernel
theorem c237_1 : cd 237 1 = some (.getfield 1540, 3) := by decide +kernel
theorem c237_4 : cd 237 4 = some (.iload 1, 1) := by decide +kernel
theorem c237_5 : cd 237 5 = some (.invokestatic 117, 3) := by decide +kernel
theorem c237_8 : cd 237 8 = some (.sipush 1, 1) := by decide +kernel
theorem c237_9 : cd 237 9 = some (.if_icmp .ne 16, 3) := by decide +kernel
theorem c237_12 : cd 237 12 = some (.sipush 1, 1) := by decide +kernel
theorem c237_13 : cd 237 13 = some (.goto 17, 3) := by decide +kernel
theorem c237_16 : cd 237 16 = some (.sipush 0, 1) := by decide +kernel
theorem c237_17 : cd 237 17 = some (.istore 3, 1) := by decide +kernel
theorem c237_18 : cd 237 18 = some (.iload 3, 1) := by decide +kernel
theorem c237_19 : cd 237 19 = some (.iload 2, 1) := by decide +kernel
theorem c237_20 : cd 237 20 = some (.if_icmp .ne 25, 3) := by decide +kernel
theorem c237_23 : cd 237 23 = some (.sipush 2, 1) := by decide +kernel
theorem c237_24 : cd 237 24 = some (.ireturn, 1) := by decide +kernel
theorem c237_25 : cd 237 25 = some (.iload 2, 1) := by decide +kernel
theorem c237_26 : cd 237 26 = some (.ifCond .eq 37, 3) := by decide +kernel
theorem c237_29 : cd 237 29 = some (.aload 0, 1) := by decide +kernel
theorem c237_30 : cd 237 30 = some (.iload 1, 1) := by decide +kernel
theorem c237_31 : cd 237 31 = some (.invokevirtual 140, 3) := by decide +kernel
theorem c237_34 : cd 237 34 = some (.goto 42, 3) := by decide +kernel
theorem c237_37 : cd 237 37 = some (.aload 0, 1) := by decide +kernel
theorem c237_38 : cd 237 38 = some (.iload 1, 1) := by decide +kernel
theorem c237_39 : cd 237 39 = some (.invokevirtual 137, 3) := by decide +kernel
theorem c237_42 : cd 237 42 = some (.sipush 0, 1) := by decide +kernel
theorem c237_43 : cd 237 43 = some (.ireturn, 1) := by decide +kernel
theorem g237_0 {d : Nat} {a1 : Int} {r0 : Nat} {x2 x3 : Option aV} {w : aW} {Q : Option aV → aW → Prop} : T (d + 1) 237 0 [some (vr r0), some (vi a1), x2, x3] [] w Q = (lay r0 = (6, 0) ∧ T d 117 0 [some (vi (w r0 1)), some (vi a1)] [] w (fun r w1 => T (d + 1) 237 8 [some (vr r0), some (vi a1), x2, x3] (r.toList ++ []) w1 Q)) := by
  rw [T_aload_0 c237_0, T_getI 6 1 1 c237_1 rfl rfl rfl rfl, T_iload_1 c237_4, T_inv (es := [some (vi (w r0 1)), some (vi a1)]) (st := [vi a1, vi (w r0 1)]) (ks := [0, 0]) (n := 2) (as := [vi (w r0 1), vi a1]) (rest := []) c237_5 (by decide +kernel) (by decide +kernel) rfl rfl (Nat.le_of_ble_eq_true rfl)]
  all_goals try simp only [true_and, Nat.reduceAdd, eq_self_iff_true]
theorem g237_8 {d : Nat} {s0 : Int} {x0 x1 x2 x3 : Option aV} {w : aW} {Q : Option aV → aW → Prop} : T d 237 8 [x0, x1, x2, x3] [vi s0] w Q = ((¬ s0 = 1 → T d 237 17 [x0, x1, x2, x3] [vi 0] w Q) ∧ (¬ (¬ s0 = 1) → T d 237 17 [x0, x1, x2, x3] [vi 1] w Q)) := by
  rw [T_sipush c237_8, T_icmp_ne 16 c237_9 rfl, T_sipush c237_16, T_sipush c237_12, T_goto 17 c237_13 rfl]
  all_goals try simp only [Int.reduceToNat, true_and, Nat.reduceAdd, eq_self_iff_true]
theorem g237_17 {d : Nat} {a1 a2 s0 : Int} {r0 : Nat} {x3 : Option aV} {w : aW} {Q : Option aV → aW → Prop} : T (d + 1) 237 17 [some (vr r0), some (vi a1), some (vi a2), x3] [vi s0] w Q = ((¬ s0 = a2 → ((a2 = 0 → (lay r0 = (6, 0) ∧ T d 137 0 [some (vr r0), some (vi a1)] [] w (fun r w1 => T (d + 1) 237 42 [some (vr r0), some (vi a1), some (vi a2), some (vi s0)] (r.toList ++ []) w1 Q))) ∧ (¬ (a2 = 0) → (lay r0 = (6, 0) ∧ T d 140 0 [some (vr r0), some (vi a1)] [] w (fun r w1 => T (d + 1) 237 34 [some (vr r0), some (vi a1), some (vi a2), some (vi s0)] (r.toList ++ []) w1 Q))))) ∧ (¬ (¬ s0 = a2) → Q (some (vi 2)) w)) := by
  rw [T_istore_3 c237_17, T_iload_3 c237_18, T_iload_2 c237_19, T_icmp_ne 25 c237_20 rfl, T_iload_2 c237_25, T_if_eq 37 c237_26 rfl, T_aload_0 c237_37, T_iload_1 c237_38, T_invv (es := [some (vr r0), some (vi a1)]) (st := [vi a1, vr r0]) (ks := [2, 0]) (n := 2) (c := 6) (k := r0) (as := [vi a1]) (rest := []) c237_39 (by decide +kernel) (by decide +kernel) (by decide +kernel) (by decide) rfl rfl (Nat.le_of_ble_eq_true rfl), T_aload_0 c237_29, T_iload_1 c237_30, T_invv (es := [some (vr r0), some (vi a1)]) (st := [vi a1, vr r0]) (ks := [2, 0]) (n := 2) (c := 6) (k := r0) (as := [vi a1]) (rest := []) c237_31 (by decide +kernel) (by decide +kernel) (by decide +kernel) (by decide) rfl rfl (Nat.le_of_ble_eq_true rfl), T_sipush c237_23, T_ireti c237_24 (by decide +kernel)]
  all_goals try simp only [Int.reduceToNat, true_and, Nat.reduceAdd, eq_self_iff_true]
theorem g237_34 {d : Nat} {x0 x1 x2 x3 : Option aV} {w : aW} {Q : Option aV → aW → Prop} : T d 237 34 [x0, x1, x2, x3] [] w Q = T d 237 42 [x0, x1, x2, x3] [] w Q := by
  rw [T_goto 42 c237_34 rfl]
  all_goals try simp only [true_and, Nat.reduceAdd, eq_self_iff_true]
theorem g237_42 {d : Nat} {x0 x1 x2 x3 : Option aV} {w : aW} {Q : Option aV → aW → Prop} : T d 237 42 [x0, x1, x2, x3] [] w Q = Q (some (vi 0)) w := by
  rw [T_sipush c237_42, T_ireti c237_43 (by decide +kernel)]
  all_goals try simp only [true_and, Nat.reduceAdd, eq_self_iff_true]
/-! 238: StringHandsModel.draw.(I)I -/
theorem c238_0 : cd 238 0 = some (.aload 0, 1) := by decide +kernel
theorem c238_1 : cd 238 1 = some (.sipush 1103515245, 3) := by decide +kernel
theorem c238_4 : cd 238 4 = some (.aload 0, 1) := by decide +kernel
theorem c238_5 : cd 238 5 = some (.getfield 3144, 3) := by decide +kernel
theorem c238_8 : cd 238 8 = some (.imul, 1) := by decide +kernel
theorem c238_9 : cd 238 9 = some (.sipush 12345, 3) := by decide +kernel
theorem c238_12 : cd 238 12 = some (.iadd, 1) := by decide +kernel
theorem c238_13 : cd 238 13 = some (.putfield 3144, 3) := by decide +kernel
theorem c238_16 : cd 238 16 = some (.aload 0, 1) := by decide +kernel
theorem c238_17 : cd 238 17 = some (.getfield 3144, 3) := by decide +kernel
theorem c238_20 : cd 238 20 = some (.sipush 16, 2) := by decide +kernel
theorem c238_22 : cd 238 22 = some (.iushr, 1) := by decide +kernel
theorem c238_23 : cd 238 23 = some (.iload 1, 1) := by decide +kernel
theorem c238_24 : cd 238 24 = some (.irem, 1) := by decide +kernel
theorem c238_25 : cd 238 25 = some (.ireturn, 1) := by decide +kernel
theorem g238_0 {d : Nat} {a1 : Int} {w : aW} {Q : Option aV → aW → Prop} : T d 238 0 [some (vr 167), some (vi a1)] [] w Q = (a1 ≠ 0 ∧ Q (some (vi (jrem (jushr ((iup w 167 18 (w32 ((w32 (1103515245 * (w 167 18))) + 12345))) 167 18) 16) a1))) (iup w 167 18 (w32 ((w32 (1103515245 * (w 167 18))) + 12345)))) := by
  rw [T_aload_0 c238_0, T_sipush c238_1, T_aload_0 c238_4, T_getI 12 18 18 c238_5 rfl rfl rfl rfl, T_imul c238_8, T_sipush c238_9, T_iadd c238_12, T_putI 12 18 18 c238_13 rfl rfl rfl rfl, T_aload_0 c238_16, T_getI 12 18 18 c238_17 rfl rfl rfl rfl, T_sipush c238_20, T_iushr c238_22, T_iload_1 c238_23, T_irem c238_24, T_ireti c238_25 (by decide +kernel)]
  all_goals try simp only [lay_167, true_and, Nat.reduceAdd, eq_self_iff_true]
/-! 239: StringHands$Follow.prepare.(LStringHands$Troupe;LStringHands$Stage;LStringHands$Mover;)V -/
theorem c239_0 : cd 239 0 = some (.aload 0, 1) := by decide +kernel
theorem c239_1 : cd 239 1 = some (.getfield 35, 3) := by decide +kernel
theorem c239_4 : cd 239 4 = some (.ifCond .eq 28, 3) := by decide +kernel
theorem c239_7 : cd 239 7 = some (.aload 0, 1) := by decide +kernel
theorem c239_8 : cd 239 8 = some (.getfield 40, 3) := by decide +kernel
theorem c239_11 : cd 239 11 = some (.aload 2, 1) := by decide +kernel
theorem c239_12 : cd 239 12 = some (.getfield 1540, 3) := by decide +kernel
theorem c239_15 : cd 239 15 = some (.if_icmp .ne 28, 3) := by decide +kernel
theorem c239_18 : cd 239 18 = some (.aload 0, 1) := by decide +kernel
theorem c239_19 : cd 239 19 = some (.aload 1, 1) := by decide +kernel
theorem c239_20 : cd 239 20 = some (.aload 2, 1) := by decide +kernel
theorem c239_21 : cd 239 21 = some (.invokevirtual 285, 3) := by decide +kernel
theorem c239_24 : cd 239 24 = some (.ifCond .eq 28, 3) := by decide +kernel
theorem c239_27 : cd 239 27 = some (.return_, 1) := by decide +kernel
theorem c239_28 : cd 239 28 = some (.aload 0, 1) := by decide +kernel
theorem c239_29 : cd 239 29 = some (.sipush 1, 1) := by decide +kernel
theorem c239_30 : cd 239 30 = some (.aload 1, 1) := by decide +kernel
theorem c239_31 : cd 239 31 = some (.getfield 2052, 3) := by decide +kernel
theorem c239_34 : cd 239 34 = some (.ishl, 1) := by decide +kernel
theorem c239_35 : cd 239 35 = some (.putfield 0, 3) := by decide +kernel
theorem c239_38 : cd 239 38 = some (.sipush 0, 1) := by decide +kernel
theorem c239_39 : cd 239 39 = some (.istore 4, 2) := by decide +kernel
theorem c239_41 : cd 239 41 = some (.iload 4, 2) := by decide +kernel
theorem c239_43 : cd 239 43 = some (.aload 0, 1) := by decide +kernel
theorem c239_44 : cd 239 44 = some (.getfield 0, 3) := by decide +kernel
theorem c239_47 : cd 239 47 = some (.if_icmp .ge 79, 3) := by decide +kernel
theorem c239_50 : cd 239 50 = some (.iload 4, 2) := by decide +kernel
theorem c239_52 : cd 239 52 = some (.sipush 1024, 3) := by decide +kernel
theorem c239_55 : cd 239 55 = some (.if_icmp .ge 79, 3) := by decide +kernel
theorem c239_58 : cd 239 58 = some (.aload 0, 1) := by decide +kernel
theorem c239_59 : cd 239 59 = some (.getfield 6, 3) := by decide +kernel
theorem c239_62 : cd 239 62 = some (.iload 4, 2) := by decide +kernel
theorem c239_64 : cd 239 64 = some (.aload 3, 1) := by decide +kernel
theorem c239_65 : cd 239 65 = some (.aload 1, 1) := by decide +kernel
theorem c239_66 : cd 239 66 = some (.aload 2, 1) := by decide +kernel
theorem c239_67 : cd 239 67 = some (.iload 4, 2) := by decide +kernel
theorem c239_69 : cd 239 69 = some (.invokevirtual 120, 3) := by decide +kernel
theorem c239_72 : cd 239 72 = some (.iastore, 1) := by decide +kernel
theorem c239_73 : cd 239 73 = some (.iinc 4 1, 3) := by decide +kernel
theorem c239_76 : cd 239 76 = some (.goto 41, 3) := by decide +kernel
theorem c239_79 : cd 239 79 = some (.aload 0, 1) := by decide +kernel
theorem c239_80 : cd 239 80 = some (.aload 2, 1) := by decide +kernel
theorem c239_81 : cd 239 81 = some (.getfield 1540, 3) := by decide +kernel
theorem c239_84 : cd 239 84 = some (.putfield 40, 3) := by decide +kernel
theorem c239_87 : cd 239 87 = some (.aload 2, 1) := by decide +kernel
theorem c239_88 : cd 239 88 = some (.getfield 1546, 3) := by decide +kernel
theorem c239_91 : cd 239 91 = some (.sipush 0, 1) := by decide +kernel
theorem c239_92 : cd 239 92 = some (.aload 0, 1) := by decide +kernel
theorem c239_93 : cd 239 93 = some (.getfield 46, 3) := by decide +kernel
theorem c239_96 : cd 239 96 = some (.sipush 0, 1) := by decide +kernel
theorem c239_97 : cd 239 97 = some (.sipush 16, 2) := by decide +kernel
theorem c239_99 : cd 239 99 = some (.invokedynamic 0, 3) := by decide +kernel
theorem c239_102 : cd 239 102 = some (.aload 0, 1) := by decide +kernel
theorem c239_103 : cd 239 103 = some (.sipush 1, 1) := by decide +kernel
theorem c239_104 : cd 239 104 = some (.putfield 35, 3) := by decide +kernel
theorem c239_107 : cd 239 107 = some (.aload 0, 1) := by decide +kernel
theorem c239_108 : cd 239 108 = some (.sipush 0, 1) := by decide +kernel
theorem c239_109 : cd 239 109 = some (.putfield 39, 3) := by decide +kernel
theorem c239_112 : cd 239 112 = some (.return_, 1) := by decide +kernel
theorem g239_0 {d : Nat} {r2 : Nat} {x3 x4 : Option aV} {w : aW} {Q : Option aV → aW → Prop} : T (d + 1) 239 0 [some (vr 19), some (vr 69), some (vr r2), x3, x4] [] w Q = ((w 19 8 = 0 → T (d + 1) 239 28 [some (vr 19), some (vr 69), some (vr r2), x3, x4] [] w Q) ∧ (¬ (w 19 8 = 0) → (lay r2 = (6, 0) ∧ ((¬ w 19 10 = w r2 1 → T (d + 1) 239 28 [some (vr 19), some (vr 69), some (vr r2), x3, x4] [] w Q) ∧ (¬ (¬ w 19 10 = w r2 1) → T d 285 0 [some (vr 19), some (vr 69), some (vr r2), none] [] w (fun r w1 => T (d + 1) 239 24 [some (vr 19), some (vr 69), some (vr r2), x3, x4] (r.toList ++ []) w1 Q)))))) := by
  rw [T_aload_0 c239_0, T_getZ 0 8 8 c239_1 rfl rfl rfl rfl, T_if_eq 28 c239_4 rfl, T_aload_0 c239_7, T_getI 0 10 10 c239_8 rfl rfl rfl rfl, T_aload_2 c239_11, T_getI 6 1 1 c239_12 rfl rfl rfl rfl, T_icmp_ne 28 c239_15 rfl, T_aload_0 c239_18, T_aload_1 c239_19, T_aload_2 c239_20, T_invv (es := [some (vr 19), some (vr 69), some (vr r2), none]) (st := [vr r2, vr 69, vr 19]) (ks := [2, 2, 2]) (n := 4) (c := 0) (k := 19) (as := [vr 69, vr r2]) (rest := []) c239_21 (by decide +kernel) (by decide +kernel) (by decide +kernel) (by decide) rfl rfl (Nat.le_of_ble_eq_true rfl)]
  all_goals try simp only [Int.reduceToNat, lay_19, true_and, Nat.reduceAdd, eq_self_iff_true]
theorem g239_24 {d : Nat} {s0 : Int} {x0 x1 x2 x3 x4 : Option aV} {w : aW} {Q : Option aV → aW → Prop} : T d 239 24 [x0, x1, x2, x3, x4] [vi s0] w Q = ((s0 = 0 → T d 239 28 [x0, x1, x2, x3, x4] [] w Q) ∧ (¬ (s0 = 0) → Q none w)) := by
  rw [T_if_eq 28 c239_24 rfl, T_vret c239_27 (by decide +kernel)]
  all_goals try simp only [Int.reduceToNat, true_and, Nat.reduceAdd, eq_self_iff_true]
theorem g239_28 {d : Nat} {x2 x3 x4 : Option aV} {w : aW} {Q : Option aV → aW → Prop} : T d 239 28 [some (vr 19), some (vr 69), x2, x3, x4] [] w Q = T d 239 41 [some (vr 19), some (vr 69), x2, x3, some (vi 0)] [] (iup w 19 0 (jshl 1 (w 69 1))) Q := by
  rw [T_aload_0 c239_28, T_sipush c239_29, T_aload_1 c239_30, T_getI 8 1 1 c239_31 rfl rfl rfl rfl, T_ishl c239_34, T_putI 0 0 0 c239_35 rfl rfl rfl rfl, T_sipush c239_38, T_istore_4 c239_39]
  all_goals try simp only [lay_19, lay_69, true_and, Nat.reduceAdd, eq_self_iff_true]
theorem g239_41 {d : Nat} {a4 : Int} {r2 : Nat} {w : aW} {Q : Option aV → aW → Prop} : T (d + 1) 239 41 [some (vr 19), some (vr 69), some (vr r2), some (vr 16), some (vi a4)] [] w Q = ((w 19 0 ≤ a4 → T (d + 1) 239 79 [some (vr 19), some (vr 69), some (vr r2), some (vr 16), some (vi a4)] [] w Q) ∧ (¬ (w 19 0 ≤ a4) → ((1024 ≤ a4 → T (d + 1) 239 79 [some (vr 19), some (vr 69), some (vr r2), some (vr 16), some (vi a4)] [] w Q) ∧ (¬ (1024 ≤ a4) → T d 120 0 [some (vr 16), some (vr 69), some (vr r2), some (vi a4), none, none, none] [] w (fun r w1 => T (d + 1) 239 72 [some (vr 19), some (vr 69), some (vr r2), some (vr 16), some (vi a4)] (r.toList ++ [vi a4, vr 20]) w1 Q))))) := by
  rw [T_iload_4 c239_41, T_aload_0 c239_43, T_getI 0 0 0 c239_44 rfl rfl rfl rfl, T_icmp_ge 79 c239_47 rfl, T_iload_4 c239_50, T_sipush c239_52, T_icmp_ge 79 c239_55 rfl, T_aload_0 c239_58, T_getR 0 1 1 c239_59 rfl rfl rfl rfl, rf_19_1, T_iload_4 c239_62, T_aload_3 c239_64, T_aload_1 c239_65, T_aload_2 c239_66, T_iload_4 c239_67, T_invv (es := [some (vr 16), some (vr 69), some (vr r2), some (vi a4), none, none, none]) (st := [vi a4, vr r2, vr 69, vr 16, vi a4, vr 20]) (ks := [2, 2, 2, 0]) (n := 7) (c := 2) (k := 16) (as := [vr 69, vr r2, vi a4]) (rest := [vi a4, vr 20]) c239_69 (by decide +kernel) (by decide +kernel) (by decide +kernel) (by decide) rfl rfl (Nat.le_of_ble_eq_true rfl)]
  all_goals try simp only [Int.reduceToNat, lay_16, lay_19, true_and, Nat.reduceAdd, eq_self_iff_true]
theorem g239_72 {d : Nat} {a4 s1 s2 : Int} {s0 : Nat} {x0 x1 x2 x3 : Option aV} {w : aW} {Q : Option aV → aW → Prop} : T d 239 72 [x0, x1, x2, x3, some (vi a4)] [vi s2, vi s1, vr s0] w Q = (inA s0 0 s1 = true ∧ T d 239 41 [x0, x1, x2, x3, some (vi (w32 (a4 + 1)))] [] (iup w s0 s1 s2) Q) := by
  rw [T_iast c239_72, T_iinc_4 c239_73, T_goto 41 c239_76 rfl]
  all_goals try simp only [true_and, Nat.reduceAdd, eq_self_iff_true]
theorem g239_79 {d : Nat} {r2 : Nat} {x1 x3 x4 : Option aV} {w : aW} {Q : Option aV → aW → Prop} : T d 239 79 [some (vr 19), x1, some (vr r2), x3, x4] [] w Q = (lay r2 = (6, 0) ∧ (lay r2 = (6, 0) ∧ (((lay (rfA r2 2)).1 = 100 ∧ (lay 26).1 = 100 ∧ (0 : Int) ≤ 0 ∧ (0 : Int) ≤ 0 ∧ (0 : Int) ≤ 16 ∧ 0 + 16 ≤ ((lay (rfA r2 2)).2 : Int) ∧ 0 + 16 ≤ ((lay 26).2 : Int)) ∧ Q none (iup (iup (wcp (iup w 19 10 (w r2 1)) (rfA r2 2) 26 0 0 16) 19 8 1) 19 9 0)))) := by
  rw [T_aload_0 c239_79, T_aload_2 c239_80, T_getI 6 1 1 c239_81 rfl rfl rfl rfl, T_putI 0 10 10 c239_84 rfl rfl rfl rfl, T_aload_2 c239_87, T_getR 6 2 2 c239_88 rfl rfl rfl rfl, T_sipush c239_91, T_aload_0 c239_92, T_getR 0 11 11 c239_93 rfl rfl rfl rfl, rf_19_11, T_sipush c239_96, T_sipush c239_97, T_copy (st := []) c239_99 (Nat.le_of_ble_eq_true rfl), T_aload_0 c239_102, T_sipush c239_103, T_putZ 0 8 8 c239_104 rfl rfl rfl rfl, T_aload_0 c239_107, T_sipush c239_108, T_putZ 0 9 9 c239_109 rfl rfl rfl rfl, T_vret c239_112 (by decide +kernel)]
  all_goals try simp only [Int.reduceEq, and_true, lay_19, or_true, true_or, true_and, Nat.reduceAdd, eq_self_iff_true]
/-! 240: StringHands$Follow.prepareRings.()V -/
theorem c240_0 : cd 240 0 = some (.aload 0, 1) := by decide +kernel
theorem c240_1 : cd 240 1 = some (.getfield 39, 3) := by decide +kernel
theorem c240_4 : cd 240 4 = some (.ifCond .eq 8, 3) := by decide +kernel
theorem c240_7 : cd 240 7 = some (.return_, 1) := by decide +kernel
theorem c240_8 : cd 240 8 = some (.aload 0, 1) := by decide +kernel
theorem c240_9 : cd 240 9 = some (.getfield 18, 3) := by decide +kernel
theorem c240_12 : cd 240 12 = some (.sipush (-1), 1) := by decide +kernel
theorem c240_13 : cd 240 13 = some (.invokestatic 221, 3) := by decide +kernel
theorem c240_16 : cd 240 16 = some (.aload 0, 1) := by decide +kernel
theorem c240_17 : cd 240 17 = some (.getfield 26, 3) := by decide +kernel
theorem c240_20 : cd 240 20 = some (.sipush (-1), 1) := by decide +kernel
theorem c240_21 : cd 240 21 = some (.invokestatic 221, 3) := by decide +kernel
theorem c240_24 : cd 240 24 = some (.sipush 0, 1) := by decide +kernel
theorem c240_25 : cd 240 25 = some (.istore 1, 1) := by decide +kernel
theorem c240_26 : cd 240 26 = some (.iload 1, 1) := by decide +kernel
theorem c240_27 : cd 240 27 = some (.aload 0, 1) := by decide +kernel
theorem c240_28 : cd 240 28 = some (.getfield 0, 3) := by decide +kernel
theorem c240_31 : cd 240 31 = some (.if_icmp .ge 55, 3) := by decide +kernel
theorem c240_34 : cd 240 34 = some (.aload 0, 1) := by decide +kernel
theorem c240_35 : cd 240 35 = some (.getfield 18, 3) := by decide +kernel
theorem c240_38 : cd 240 38 = some (.iload 1, 1) := by decide +kernel
theorem c240_39 : cd 240 39 = some (.iaload, 1) := by decide +kernel
theorem c240_40 : cd 240 40 = some (.sipush (-1), 1) := by decide +kernel
theorem c240_41 : cd 240 41 = some (.if_icmp .ne 49, 3) := by decide +kernel
theorem c240_44 : cd 240 44 = some (.aload 0, 1) := by decide +kernel
theorem c240_45 : cd 240 45 = some (.iload 1, 1) := by decide +kernel
theorem c240_46 : cd 240 46 = some (.invokevirtual 286, 3) := by decide +kernel
theorem c240_49 : cd 240 49 = some (.iinc 1 1, 3) := by decide +kernel
theorem c240_52 : cd 240 52 = some (.goto 26, 3) := by decide +kernel
theorem c240_55 : cd 240 55 = some (.aload 0, 1) := by decide +kernel
theorem c240_56 : cd 240 56 = some (.sipush 1, 1) := by decide +kernel
theorem c240_57 : cd 240 57 = some (.putfield 39, 3) := by decide +kernel
theorem c240_60 : cd 240 60 = some (.return_, 1) := by decide +kernel
theorem g240_0 {d : Nat} {x1 : Option aV} {w : aW} {Q : Option aV → aW → Prop} : T (d + 1) 240 0 [some (vr 19), x1] [] w Q = ((w 19 9 = 0 → T d 221 0 [some (vr 23), some (vi (-1)), none, none] [] w (fun r w1 => T (d + 1) 240 16 [some (vr 19), x1] (r.toList ++ []) w1 Q)) ∧ (¬ (w 19 9 = 0) → Q none w)) := by
  rw [T_aload_0 c240_0, T_getZ 0 9 9 c240_1 rfl rfl rfl rfl, T_if_eq 8 c240_4 rfl, T_aload_0 c240_8, T_getR 0 4 4 c240_9 rfl rfl rfl rfl, rf_19_4, T_sipush c240_12, T_inv (es := [some (vr 23), some (vi (-1)), none, none]) (st := [vi (-1), vr 23]) (ks := [2, 0]) (n := 4) (as := [vr 23, vi (-1)]) (rest := []) c240_13 (by decide +kernel) (by decide +kernel) rfl rfl (Nat.le_of_ble_eq_true rfl), T_vret c240_7 (by decide +kernel)]
  all_goals try simp only [Int.reduceToNat, lay_19, true_and, Nat.reduceAdd, eq_self_iff_true]
theorem g240_16 {d : Nat} {x1 : Option aV} {w : aW} {Q : Option aV → aW → Prop} : T (d + 1) 240 16 [some (vr 19), x1] [] w Q = T d 221 0 [some (vr 25), some (vi (-1)), none, none] [] w (fun r w1 => T (d + 1) 240 24 [some (vr 19), x1] (r.toList ++ []) w1 Q) := by
  rw [T_aload_0 c240_16, T_getR 0 6 6 c240_17 rfl rfl rfl rfl, rf_19_6, T_sipush c240_20, T_inv (es := [some (vr 25), some (vi (-1)), none, none]) (st := [vi (-1), vr 25]) (ks := [2, 0]) (n := 4) (as := [vr 25, vi (-1)]) (rest := []) c240_21 (by decide +kernel) (by decide +kernel) rfl rfl (Nat.le_of_ble_eq_true rfl)]
  all_goals try simp only [lay_19, true_and, Nat.reduceAdd, eq_self_iff_true]
theorem g240_24 {d : Nat} {x0 x1 : Option aV} {w : aW} {Q : Option aV → aW → Prop} : T d 240 24 [x0, x1] [] w Q = T d 240 26 [x0, some (vi 0)] [] w Q := by
  rw [T_sipush c240_24, T_istore_1 c240_25]
  all_goals try simp only [true_and, Nat.reduceAdd, eq_self_iff_true]
theorem g240_26 {d : Nat} {a1 : Int} {w : aW} {Q : Option aV → aW → Prop} : T (d + 1) 240 26 [some (vr 19), some (vi a1)] [] w Q = ((w 19 0 ≤ a1 → Q none (iup w 19 9 1)) ∧ (¬ (w 19 0 ≤ a1) → ((0 ≤ a1 ∧ a1 < 1024) ∧ ((¬ w 23 a1 = (-1) → T (d + 1) 240 49 [some (vr 19), some (vi a1)] [] w Q) ∧ (¬ (¬ w 23 a1 = (-1)) → T d 286 0 [some (vr 19), some (vi a1), none, none, none, none, none, none] [] w (fun r w1 => T (d + 1) 240 49 [some (vr 19), some (vi a1)] (r.toList ++ []) w1 Q)))))) := by
  rw [T_iload_1 c240_26, T_aload_0 c240_27, T_getI 0 0 0 c240_28 rfl rfl rfl rfl, T_icmp_ge 55 c240_31 rfl, T_aload_0 c240_55, T_sipush c240_56, T_putZ 0 9 9 c240_57 rfl rfl rfl rfl, T_vret c240_60 (by decide +kernel), T_aload_0 c240_34, T_getR 0 4 4 c240_35 rfl rfl rfl rfl, rf_19_4, T_iload_1 c240_38, T_iald c240_39, T_sipush c240_40, T_icmp_ne 49 c240_41 rfl, T_aload_0 c240_44, T_iload_1 c240_45, T_invv (es := [some (vr 19), some (vi a1), none, none, none, none, none, none]) (st := [vi a1, vr 19]) (ks := [2, 0]) (n := 8) (c := 0) (k := 19) (as := [vi a1]) (rest := []) c240_46 (by decide +kernel) (by decide +kernel) (by decide +kernel) (by decide) rfl rfl (Nat.le_of_ble_eq_true rfl)]
  all_goals try simp only [Int.reduceEq, Int.reduceToNat, and_true, lay_19, ld_23, or_true, true_or, true_and, Nat.reduceAdd, eq_self_iff_true]
theorem g240_49 {d : Nat} {a1 : Int} {x0 : Option aV} {w : aW} {Q : Option aV → aW → Prop} : T d 240 49 [x0, some (vi a1)] [] w Q = T d 240 26 [x0, some (vi (w32 (a1 + 1)))] [] w Q := by
  rw [T_iinc_1 c240_49, T_goto 26 c240_52 rfl]
  all_goals try simp only [true_and, Nat.reduceAdd, eq_self_iff_true]
/-! 241: StringHands$Wishes.spread.([III)I -/
theorem c241_0 : cd 241 0 = some (.aload 0, 1) := by decide +kernel
theorem c241_1 : cd 241 1 = some (.getfield 2574, 3) := by decide +kernel
theorem c241_4 : cd 241 4 = some (.sipush (-1), 1) := by decide +kernel
theorem c241_5 : cd 241 5 = some (.invokestatic 221, 3) := by decide +kernel
theorem c241_8 : cd 241 8 = some (.aload 0, 1) := by decide +kernel
theorem c241_9 : cd 241 9 = some (.getfield 2574, 3) := by decide +kernel
theorem c241_12 : cd 241 12 = some (.iload 3, 1) := by decide +kernel
theorem c241_13 : cd 241 13 = some (.sipush 0, 1) := by decide +kernel
theorem c241_14 : cd 241 14 = some (.iastore, 1) := by decide +kernel
theorem c241_15 : cd 241 15 = some (.aload 0, 1) := by decide +kernel
theorem c241_16 : cd 241 16 = some (.getfield 2578, 3) := by decide +kernel
theorem c241_19 : cd 241 19 = some (.sipush 0, 1) := by decide +kernel
theorem c241_20 : cd 241 20 = some (.iload 3, 1) := by decide +kernel
theorem c241_21 : cd 241 21 = some (.iastore, 1) := by decide +kernel
theorem c241_22 : cd 241 22 = some (.sipush 1, 1) := by decide +kernel
theorem c241_23 : cd 241 23 = some (.istore 4, 2) := by decide +kernel
theorem c241_25 : cd 241 25 = some (.sipush 0, 1) := by decide +kernel
theorem c241_26 : cd 241 26 = some (.istore 5, 2) := by decide +kernel
theorem c241_28 : cd 241 28 = some (.iload 5, 2) := by decide +kernel
theorem c241_30 : cd 241 30 = some (.iload 4, 2) := by decide +kernel
theorem c241_32 : cd 241 32 = some (.if_icmp .ge 142, 3) := by decide +kernel
theorem c241_35 : cd 241 35 = some (.iload 5, 2) := by decide +kernel
theorem c241_37 : cd 241 37 = some (.sipush 1024, 3) := by decide +kernel
theorem c241_40 : cd 241 40 = some (.if_icmp .ge 142, 3) := by decide +kernel
theorem c241_43 : cd 241 43 = some (.aload 0, 1) := by decide +kernel
theorem c241_44 : cd 241 44 = some (.getfield 2578, 3) := by decide +kernel
theorem c241_47 : cd 241 47 = some (.iload 5, 2) := by decide +kernel
theorem c241_49 : cd 241 49 = some (.iaload, 1) := by decide +kernel
theorem c241_50 : cd 241 50 = some (.istore 6, 2) := by decide +kernel
theorem c241_52 : cd 241 52 = some (.sipush (-1), 1) := by decide +kernel
theorem c241_53 : cd 241 53 = some (.istore 7, 2) := by decide +kernel
theorem c241_55 : cd 241 55 = some (.iload 7, 2) := by decide +kernel
theorem c241_57 : cd 241 57 = some (.iload 2, 1) := by decide +kernel
theorem c241_58 : cd 241 58 = some (.if_icmp .ge 136, 3) := by decide +kernel
theorem c241_61 : cd 241 61 = some (.aload 0, 1) := by decide +kernel
theorem c241_62 : cd 241 62 = some (.getfield 2574, 3) := by decide +kernel
theorem c241_65 : cd 241 65 = some (.iload 6, 2) := by decide +kernel
theorem c241_67 : cd 241 67 = some (.iaload, 1) := by decide +kernel
theorem c241_68 : cd 241 68 = some (.sipush 40, 2) := by decide +kernel
theorem c241_70 : cd 241 70 = some (.if_icmp .ge 136, 3) := by decide +kernel
theorem c241_73 : cd 241 73 = some (.aload 1, 1) := by decide +kernel
theorem c241_74 : cd 241 74 = some (.iload 6, 2) := by decide +kernel
theorem c241_76 : cd 241 76 = some (.iload 7, 2) := by decide +kernel
theorem c241_78 : cd 241 78 = some (.invokestatic 287, 3) := by decide +kernel
theorem c241_81 : cd 241 81 = some (.istore 8, 2) := by decide +kernel
theorem c241_83 : cd 241 83 = some (.aload 0, 1) := by decide +kernel
theorem c241_84 : cd 241 84 = some (.getfield 2574, 3) := by decide +kernel
theorem c241_87 : cd 241 87 = some (.iload 8, 2) := by decide +kernel
theorem c241_89 : cd 241 89 = some (.iaload, 1) := by decide +kernel
theorem c241_90 : cd 241 90 = some (.sipush (-1), 1) := by decide +kernel
theorem c241_91 : cd 241 91 = some (.if_icmp .ne 130, 3) := by decide +kernel
theorem c241_94 : cd 241 94 = some (.iload 4, 2) := by decide +kernel
theorem c241_96 : cd 241 96 = some (.sipush 1024, 3) := by decide +kernel
theorem c241_99 : cd 241 99 = some (.if_icmp .ge 130, 3) := by decide +kernel
theorem c241_102 : cd 241 102 = some (.aload 0, 1) := by decide +kernel
theorem c241_103 : cd 241 103 = some (.getfield 2574, 3) := by decide +kernel
theorem c241_106 : cd 241 106 = some (.iload 8, 2) := by decide +kernel
theorem c241_108 : cd 241 108 = some (.aload 0, 1) := by decide +kernel
theorem c241_109 : cd 241 109 = some (.getfield 2574, 3) := by decide +kernel
theorem c241_112 : cd 241 112 = some (.iload 6, 2) := by decide +kernel
theorem c241_114 : cd 241 114 = some (.iaload, 1) := by decide +kernel
theorem c241_115 : cd 241 115 = some (.sipush 1, 1) := by decide +kernel
theorem c241_116 : cd 241 116 = some (.iadd, 1) := by decide +kernel
theorem c241_117 : cd 241 117 = some (.iastore, 1) := by decide +kernel
theorem c241_118 : cd 241 118 = some (.aload 0, 1) := by decide +kernel
theorem c241_119 : cd 241 119 = some (.getfield 2578, 3) := by decide +kernel
theorem c241_122 : cd 241 122 = some (.iload 4, 2) := by decide +kernel
theorem c241_124 : cd 241 124 = some (.iload 8, 2) := by decide +kernel
theorem c241_126 : cd 241 126 = some (.iastore, 1) := by decide +kernel
theorem c241_127 : cd 241 127 = some (.iinc 4 1, 3) := by decide +kernel
theorem c241_130 : cd 241 130 = some (.iinc 7 1, 3) := by decide +kernel
theorem c241_133 : cd 241 133 = some (.goto 55, 3) := by decide +kernel
theorem c241_136 : cd 241 136 = some (.iinc 5 1, 3) := by decide +kernel
theorem c241_139 : cd 241 139 = some (.goto 28, 3) := by decide +kernel
theorem c241_142 : cd 241 142 = some (.iload 4, 2) := by decide +kernel
theorem c241_144 : cd 241 144 = some (.ireturn, 1) := by decide +kernel
theorem g241_0 {d : Nat} {x1 x2 x3 x4 x5 x6 x7 x8 : Option aV} {w : aW} {Q : Option aV → aW → Prop} : T (d + 1) 241 0 [some (vr 27), x1, x2, x3, x4, x5, x6, x7, x8] [] w Q = T d 221 0 [some (vr 29), some (vi (-1)), none, none] [] w (fun r w1 => T (d + 1) 241 8 [some (vr 27), x1, x2, x3, x4, x5, x6, x7, x8] (r.toList ++ []) w1 Q) := by
  rw [T_aload_0 c241_0, T_getR 10 3 3 c241_1 rfl rfl rfl rfl, rf_27_3, T_sipush c241_4, T_inv (es := [some (vr 29), some (vi (-1)), none, none]) (st := [vi (-1), vr 29]) (ks := [2, 0]) (n := 4) (as := [vr 29, vi (-1)]) (rest := []) c241_5 (by decide +kernel) (by decide +kernel) rfl rfl (Nat.le_of_ble_eq_true rfl)]
  all_goals try simp only [lay_27, true_and, Nat.reduceAdd, eq_self_iff_true]
theorem g241_8 {d : Nat} {a3 : Int} {x1 x2 x4 x5 x6 x7 x8 : Option aV} {w : aW} {Q : Option aV → aW → Prop} : T d 241 8 [some (vr 27), x1, x2, some (vi a3), x4, x5, x6, x7, x8] [] w Q = ((0 ≤ a3 ∧ a3 < 1024) ∧ T d 241 28 [some (vr 27), x1, x2, some (vi a3), some (vi 1), some (vi 0), x6, x7, x8] [] (iup (iup w 29 a3 0) 30 0 a3) Q) := by
  rw [T_aload_0 c241_8, T_getR 10 3 3 c241_9 rfl rfl rfl rfl, rf_27_3, T_iload_3 c241_12, T_sipush c241_13, T_iast c241_14, T_aload_0 c241_15, T_getR 10 4 4 c241_16 rfl rfl rfl rfl, rf_27_4, T_sipush c241_19, T_iload_3 c241_20, T_iast c241_21, T_sipush c241_22, T_istore_4 c241_23, T_sipush c241_25, T_istore_5 c241_26]
  all_goals try simp only [Int.reduceLE, Int.reduceLT, and_self, ia0_29, ia0_30, lay_27, true_and, Nat.reduceAdd, eq_self_iff_true]
theorem g241_28 {d : Nat} {a4 a5 : Int} {x1 x2 x3 x6 x7 x8 : Option aV} {w : aW} {Q : Option aV → aW → Prop} : T d 241 28 [some (vr 27), x1, x2, x3, some (vi a4), some (vi a5), x6, x7, x8] [] w Q = ((a4 ≤ a5 → T d 241 142 [some (vr 27), x1, x2, x3, some (vi a4), some (vi a5), x6, x7, x8] [] w Q) ∧ (¬ (a4 ≤ a5) → ((1024 ≤ a5 → T d 241 142 [some (vr 27), x1, x2, x3, some (vi a4), some (vi a5), x6, x7, x8] [] w Q) ∧ (¬ (1024 ≤ a5) → ((0 ≤ a5 ∧ a5 < 1024) ∧ T d 241 55 [some (vr 27), x1, x2, x3, some (vi a4), some (vi a5), some (vi (w 30 a5)), some (vi (-1)), x8] [] w Q))))) := by
  rw [T_iload_5 c241_28, T_iload_4 c241_30, T_icmp_ge 142 c241_32 rfl, T_iload_5 c241_35, T_sipush c241_37, T_icmp_ge 142 c241_40 rfl, T_aload_0 c241_43, T_getR 10 4 4 c241_44 rfl rfl rfl rfl, rf_27_4, T_iload_5 c241_47, T_iald c241_49, T_istore_6 c241_50, T_sipush c241_52, T_istore_7 c241_53]
  all_goals try simp only [Int.reduceToNat, lay_27, ld_30, true_and, Nat.reduceAdd, eq_self_iff_true]
theorem g241_55 {d : Nat} {a2 a6 a7 : Int} {x3 x4 x5 x8 : Option aV} {w : aW} {Q : Option aV → aW → Prop} : T (d + 1) 241 55 [some (vr 27), some (vr 20), some (vi a2), x3, x4, x5, some (vi a6), some (vi a7), x8] [] w Q = ((a2 ≤ a7 → T (d + 1) 241 136 [some (vr 27), some (vr 20), some (vi a2), x3, x4, x5, some (vi a6), some (vi a7), x8] [] w Q) ∧ (¬ (a2 ≤ a7) → ((0 ≤ a6 ∧ a6 < 1024) ∧ ((40 ≤ w 29 a6 → T (d + 1) 241 136 [some (vr 27), some (vr 20), some (vi a2), x3, x4, x5, some (vi a6), some (vi a7), x8] [] w Q) ∧ (¬ (40 ≤ w 29 a6) → T d 287 0 [some (vr 20), some (vi a6), some (vi a7)] [] w (fun r w1 => T (d + 1) 241 81 [some (vr 27), some (vr 20), some (vi a2), x3, x4, x5, some (vi a6), some (vi a7), x8] (r.toList ++ []) w1 Q)))))) := by
  rw [T_iload_7 c241_55, T_iload_2 c241_57, T_icmp_ge 136 c241_58 rfl, T_aload_0 c241_61, T_getR 10 3 3 c241_62 rfl rfl rfl rfl, rf_27_3, T_iload_6 c241_65, T_iald c241_67, T_sipush c241_68, T_icmp_ge 136 c241_70 rfl, T_aload_1 c241_73, T_iload_6 c241_74, T_iload_7 c241_76, T_inv (es := [some (vr 20), some (vi a6), some (vi a7)]) (st := [vi a7, vi a6, vr 20]) (ks := [2, 0, 0]) (n := 3) (as := [vr 20, vi a6, vi a7]) (rest := []) c241_78 (by decide +kernel) (by decide +kernel) rfl rfl (Nat.le_of_ble_eq_true rfl)]
  all_goals try simp only [Int.reduceToNat, lay_27, ld_29, true_and, Nat.reduceAdd, eq_self_iff_true]
theorem g241_81 {d : Nat} {a4 a6 s0 : Int} {x1 x2 x3 x5 x7 x8 : Option aV} {w : aW} {Q : Option aV → aW → Prop} : T d 241 81 [some (vr 27), x1, x2, x3, some (vi a4), x5, some (vi a6), x7, x8] [vi s0] w Q = ((0 ≤ s0 ∧ s0 < 1024) ∧ ((¬ w 29 s0 = (-1) → T d 241 130 [some (vr 27), x1, x2, x3, some (vi a4), x5, some (vi a6), x7, some (vi s0)] [] w Q) ∧ (¬ (¬ w 29 s0 = (-1)) → ((1024 ≤ a4 → T d 241 130 [some (vr 27), x1, x2, x3, some (vi a4), x5, some (vi a6), x7, some (vi s0)] [] w Q) ∧ (¬ (1024 ≤ a4) → ((0 ≤ a6 ∧ a6 < 1024) ∧ ((0 ≤ s0 ∧ s0 < 1024) ∧ ((0 ≤ a4 ∧ a4 < 1024) ∧ T d 241 130 [some (vr 27), x1, x2, x3, some (vi (w32 (a4 + 1))), x5, some (vi a6), x7, some (vi s0)] [] (iup (iup w 29 s0 (w32 ((w 29 a6) + 1))) 30 a4 s0) Q)))))))) := by
  rw [T_istore_8 c241_81, T_aload_0 c241_83, T_getR 10 3 3 c241_84 rfl rfl rfl rfl, rf_27_3, T_iload_8 c241_87, T_iald c241_89, T_sipush c241_90, T_icmp_ne 130 c241_91 rfl, T_iload_4 c241_94, T_sipush c241_96, T_icmp_ge 130 c241_99 rfl, T_aload_0 c241_102, T_getR 10 3 3 c241_103 rfl rfl rfl rfl, rf_27_3, T_iload_8 c241_106, T_aload_0 c241_108, T_getR 10 3 3 c241_109 rfl rfl rfl rfl, rf_27_3, T_iload_6 c241_112, T_iald c241_114, T_sipush c241_115, T_iadd c241_116, T_iast c241_117, T_aload_0 c241_118, T_getR 10 4 4 c241_119 rfl rfl rfl rfl, rf_27_4, T_iload_4 c241_122, T_iload_8 c241_124, T_iast c241_126, T_iinc_4 c241_127]
  all_goals try simp only [Int.reduceToNat, ia0_29, ia0_30, lay_27, ld_29, true_and, Nat.reduceAdd, eq_self_iff_true]
theorem g241_130 {d : Nat} {a7 : Int} {x0 x1 x2 x3 x4 x5 x6 x8 : Option aV} {w : aW} {Q : Option aV → aW → Prop} : T d 241 130 [x0, x1, x2, x3, x4, x5, x6, some (vi a7), x8] [] w Q = T d 241 55 [x0, x1, x2, x3, x4, x5, x6, some (vi (w32 (a7 + 1))), x8] [] w Q := by
  rw [T_iinc_7 c241_130, T_goto 55 c241_133 rfl]
  all_goals try simp only [true_and, Nat.reduceAdd, eq_self_iff_true]
theorem g241_136 {d : Nat} {a5 : Int} {x0 x1 x2 x3 x4 x6 x7 x8 : Option aV} {w : aW} {Q : Option aV → aW → Prop} : T d 241 136 [x0, x1, x2, x3, x4, some (vi a5), x6, x7, x8] [] w Q = T d 241 28 [x0, x1, x2, x3, x4, some (vi (w32 (a5 + 1))), x6, x7, x8] [] w Q := by
  rw [T_iinc_5 c241_136, T_goto 28 c241_139 rfl]
  all_goals try simp only [true_and, Nat.reduceAdd, eq_self_iff_true]
theorem g241_142 {d : Nat} {a4 : Int} {x0 x1 x2 x3 x5 x6 x7 x8 : Option aV} {w : aW} {Q : Option aV → aW → Prop} : T d 241 142 [x0, x1, x2, x3, some (vi a4), x5, x6, x7, x8] [] w Q = Q (some (vi a4)) w := by
  rw [T_iload_4 c241_142, T_ireti c241_144 (by decide +kernel)]
  all_goals try simp only [true_and, Nat.reduceAdd, eq_self_iff_true]
/-! 242: StringHands$Wishes.weigh.([IIII)V -/
theorem c242_0 : cd 242 0 = some (.aload 0, 1) := by decide +kernel
theorem c242_1 : cd 242 1 = some (.getfield 2582, 3) := by decide +kernel
theorem c242_4 : cd 242 4 = some (.sipush (-1), 1) := by decide +kernel
theorem c242_5 : cd 242 5 = some (.invokestatic 221, 3) := by decide +kernel
theorem c242_8 : cd 242 8 = some (.aload 0, 1) := by decide +kernel
theorem c242_9 : cd 242 9 = some (.getfield 2582, 3) := by decide +kernel
theorem c242_12 : cd 242 12 = some (.iload 3, 1) := by decide +kernel
theorem c242_13 : cd 242 13 = some (.sipush 0, 1) := by decide +kernel
theorem c242_14 : cd 242 14 = some (.iastore, 1) := by decide +kernel
theorem c242_15 : cd 242 15 = some (.iload 4, 2) := by decide +kernel
theorem c242_17 : cd 242 17 = some (.sipush 1, 1) := by decide +kernel
theorem c242_18 : cd 242 18 = some (.isub, 1) := by decide +kernel
theorem c242_19 : cd 242 19 = some (.istore 5, 2) := by decide +kernel
theorem c242_21 : cd 242 21 = some (.iload 5, 2) := by decide +kernel
theorem c242_23 : cd 242 23 = some (.ifCond .lt 177, 3) := by decide +kernel
theorem c242_26 : cd 242 26 = some (.aload 0, 1) := by decide +kernel
theorem c242_27 : cd 242 27 = some (.getfield 2578, 3) := by decide +kernel
theorem c242_30 : cd 242 30 = some (.iload 5, 2) := by decide +kernel
theorem c242_32 : cd 242 32 = some (.iaload, 1) := by decide +kernel
theorem c242_33 : cd 242 33 = some (.istore 6, 2) := by decide +kernel
theorem c242_35 : cd 242 35 = some (.sipush (-1), 1) := by decide +kernel
theorem c242_36 : cd 242 36 = some (.istore 7, 2) := by decide +kernel
theorem c242_38 : cd 242 38 = some (.iload 7, 2) := by decide +kernel
theorem c242_40 : cd 242 40 = some (.iload 2, 1) := by decide +kernel
theorem c242_41 : cd 242 41 = some (.if_icmp .ge 171, 3) := by decide +kernel
theorem c242_44 : cd 242 44 = some (.aload 0, 1) := by decide +kernel
theorem c242_45 : cd 242 45 = some (.getfield 2574, 3) := by decide +kernel
theorem c242_48 : cd 242 48 = some (.iload 6, 2) := by decide +kernel
theorem c242_50 : cd 242 50 = some (.iaload, 1) := by decide +kernel
theorem c242_51 : cd 242 51 = some (.aload 0, 1) := by decide +kernel
theorem c242_52 : cd 242 52 = some (.getfield 2574, 3) := by decide +kernel
theorem c242_55 : cd 242 55 = some (.iload 3, 1) := by decide +kernel
theorem c242_56 : cd 242 56 = some (.iaload, 1) := by decide +kernel
theorem c242_57 : cd 242 57 = some (.if_icmp .ge 171, 3) := by decide +kernel
theorem c242_60 : cd 242 60 = some (.aload 1, 1) := by decide +kernel
theorem c242_61 : cd 242 61 = some (.iload 6, 2) := by decide +kernel
theorem c242_63 : cd 242 63 = some (.iload 7, 2) := by decide +kernel
theorem c242_65 : cd 242 65 = some (.invokestatic 287, 3) := by decide +kernel
theorem c242_68 : cd 242 68 = some (.istore 8, 2) := by decide +kernel
theorem c242_70 : cd 242 70 = some (.aload 0, 1) := by decide +kernel
theorem c242_71 : cd 242 71 = some (.getfield 2582, 3) := by decide +kernel
theorem c242_74 : cd 242 74 = some (.iload 8, 2) := by decide +kernel
theorem c242_76 : cd 242 76 = some (.iaload, 1) := by decide +kernel
theorem c242_77 : cd 242 77 = some (.iload 7, 2) := by decide +kernel
theorem c242_79 : cd 242 79 = some (.sipush (-1), 1) := by decide +kernel
theorem c242_80 : cd 242 80 = some (.if_icmp .ne 87, 3) := by decide +kernel
theorem c242_83 : cd 242 83 = some (.sipush 0, 1) := by decide +kernel
theorem c242_84 : cd 242 84 = some (.goto 88, 3) := by decide +kernel
theorem c242_87 : cd 242 87 = some (.sipush 1, 1) := by decide +kernel
theorem c242_88 : cd 242 88 = some (.iadd, 1) := by decide +kernel
theorem c242_89 : cd 242 89 = some (.istore 9, 2) := by decide +kernel
theorem c242_91 : cd 242 91 = some (.aload 0, 1) := by decide +kernel
theorem c242_92 : cd 242 92 = some (.getfield 2582, 3) := by decide +kernel
theorem c242_95 : cd 242 95 = some (.iload 8, 2) := by decide +kernel
theorem c242_97 : cd 242 97 = some (.iaload, 1) := by decide +kernel
theorem c242_98 : cd 242 98 = some (.sipush (-1), 1) := by decide +kernel
theorem c242_99 : cd 242 99 = some (.if_icmp .eq 125, 3) := by decide +kernel
theorem c242_102 : cd 242 102 = some (.aload 0, 1) := by decide +kernel
theorem c242_103 : cd 242 103 = some (.getfield 2574, 3) := by decide +kernel
theorem c242_106 : cd 242 106 = some (.iload 8, 2) := by decide +kernel
theorem c242_108 : cd 242 108 = some (.iaload, 1) := by decide +kernel
theorem c242_109 : cd 242 109 = some (.aload 0, 1) := by decide +kernel
theorem c242_110 : cd 242 110 = some (.getfield 2574, 3) := by decide +kernel
theorem c242_113 : cd 242 113 = some (.iload 6, 2) := by decide +kernel
theorem c242_115 : cd 242 115 = some (.iaload, 1) := by decide +kernel
theorem c242_116 : cd 242 116 = some (.sipush 1, 1) := by decide +kernel
theorem c242_117 : cd 242 117 = some (.iadd, 1) := by decide +kernel
theorem c242_118 : cd 242 118 = some (.if_icmp .ne 125, 3) := by decide +kernel
theorem c242_121 : cd 242 121 = some (.sipush 1, 1) := by decide +kernel
theorem c242_122 : cd 242 122 = some (.goto 126, 3) := by decide +kernel
theorem c242_125 : cd 242 125 = some (.sipush 0, 1) := by decide +kernel
theorem c242_126 : cd 242 126 = some (.istore 10, 2) := by decide +kernel
theorem c242_128 : cd 242 128 = some (.iload 10, 2) := by decide +kernel
theorem c242_130 : cd 242 130 = some (.ifCond .eq 165, 3) := by decide +kernel
theorem c242_133 : cd 242 133 = some (.aload 0, 1) := by decide +kernel
theorem c242_134 : cd 242 134 = some (.getfield 2582, 3) := by decide +kernel
theorem c242_137 : cd 242 137 = some (.iload 6, 2) := by decide +kernel
theorem c242_139 : cd 242 139 = some (.iaload, 1) := by decide +kernel
theorem c242_140 : cd 242 140 = some (.sipush (-1), 1) := by decide +kernel
theorem c242_141 : cd 242 141 = some (.if_icmp .eq 156, 3) := by decide +kernel
theorem c242_144 : cd 242 144 = some (.iload 9, 2) := by decide +kernel
theorem c242_146 : cd 242 146 = some (.aload 0, 1) := by decide +kernel
theorem c242_147 : cd 242 147 = some (.getfield 2582, 3) := by decide +kernel
theorem c242_150 : cd 242 150 = some (.iload 6, 2) := by decide +kernel
theorem c242_152 : cd 242 152 = some (.iaload, 1) := by decide +kernel
theorem c242_153 : cd 242 153 = some (.if_icmp .ge 165, 3) := by decide +kernel
theorem c242_156 : cd 242 156 = some (.aload 0, 1) := by decide +kernel
theorem c242_157 : cd 242 157 = some (.getfield 2582, 3) := by decide +kernel
theorem c242_160 : cd 242 160 = some (.iload 6, 2) := by decide +kernel
theorem c242_162 : cd 242 162 = some (.iload 9, 2) := by decide +kernel
theorem c242_164 : cd 242 164 = some (.iastore, 1) := by decide +kernel
theorem c242_165 : cd 242 165 = some (.iinc 7 1, 3) := by decide +kernel
theorem c242_168 : cd 242 168 = some (.goto 38, 3) := by decide +kernel
theorem c242_171 : cd 242 171 = some (.iinc 5 (-1), 3) := by decide +kernel
theorem c242_174 : cd 242 174 = some (.goto 21, 3) := by decide +kernel
theorem c242_177 : cd 242 177 = some (.return_, 1) := by decide +kernel
theorem g242_0 {d : Nat} {x1 x2 x3 x4 x5 x6 x7 x8 x9 x10 : Option aV} {w : aW} {Q : Option aV → aW → Prop} : T (d + 1) 242 0 [some (vr 27), x1, x2, x3, x4, x5, x6, x7, x8, x9, x10] [] w Q = T d 221 0 [some (vr 31), some (vi (-1)), none, none] [] w (fun r w1 => T (d + 1) 242 8 [some (vr 27), x1, x2, x3, x4, x5, x6, x7, x8, x9, x10] (r.toList ++ []) w1 Q) := by
  rw [T_aload_0 c242_0, T_getR 10 5 5 c242_1 rfl rfl rfl rfl, rf_27_5, T_sipush c242_4, T_inv (es := [some (vr 31), some (vi (-1)), none, none]) (st := [vi (-1), vr 31]) (ks := [2, 0]) (n := 4) (as := [vr 31, vi (-1)]) (rest := []) c242_5 (by decide +kernel) (by decide +kernel) rfl rfl (Nat.le_of_ble_eq_true rfl)]
  all_goals try simp only [lay_27, true_and, Nat.reduceAdd, eq_self_iff_true]
theorem g242_8 {d : Nat} {a3 a4 : Int} {x1 x2 x5 x6 x7 x8 x9 x10 : Option aV} {w : aW} {Q : Option aV → aW → Prop} : T d 242 8 [some (vr 27), x1, x2, some (vi a3), some (vi a4), x5, x6, x7, x8, x9, x10] [] w Q = ((0 ≤ a3 ∧ a3 < 1024) ∧ T d 242 21 [some (vr 27), x1, x2, some (vi a3), some (vi a4), some (vi (w32 (a4 - 1))), x6, x7, x8, x9, x10] [] (iup w 31 a3 0) Q) := by
  rw [T_aload_0 c242_8, T_getR 10 5 5 c242_9 rfl rfl rfl rfl, rf_27_5, T_iload_3 c242_12, T_sipush c242_13, T_iast c242_14, T_iload_4 c242_15, T_sipush c242_17, T_isub c242_18, T_istore_5 c242_19]
  all_goals try simp only [ia0_31, lay_27, true_and, Nat.reduceAdd, eq_self_iff_true]
theorem g242_21 {d : Nat} {a5 : Int} {x1 x2 x3 x4 x6 x7 x8 x9 x10 : Option aV} {w : aW} {Q : Option aV → aW → Prop} : T d 242 21 [some (vr 27), x1, x2, x3, x4, some (vi a5), x6, x7, x8, x9, x10] [] w Q = ((a5 < 0 → Q none w) ∧ (¬ (a5 < 0) → ((0 ≤ a5 ∧ a5 < 1024) ∧ T d 242 38 [some (vr 27), x1, x2, x3, x4, some (vi a5), some (vi (w 30 a5)), some (vi (-1)), x8, x9, x10] [] w Q))) := by
  rw [T_iload_5 c242_21, T_if_lt 177 c242_23 rfl, T_vret c242_177 (by decide +kernel), T_aload_0 c242_26, T_getR 10 4 4 c242_27 rfl rfl rfl rfl, rf_27_4, T_iload_5 c242_30, T_iald c242_32, T_istore_6 c242_33, T_sipush c242_35, T_istore_7 c242_36]
  all_goals try simp only [Int.reduceToNat, lay_27, ld_30, true_and, Nat.reduceAdd, eq_self_iff_true]
theorem g242_38 {d : Nat} {a2 a3 a6 a7 : Int} {x4 x5 x8 x9 x10 : Option aV} {w : aW} {Q : Option aV → aW → Prop} : T (d + 1) 242 38 [some (vr 27), some (vr 20), some (vi a2), some (vi a3), x4, x5, some (vi a6), some (vi a7), x8, x9, x10] [] w Q = ((a2 ≤ a7 → T (d + 1) 242 171 [some (vr 27), some (vr 20), some (vi a2), some (vi a3), x4, x5, some (vi a6), some (vi a7), x8, x9, x10] [] w Q) ∧ (¬ (a2 ≤ a7) → ((0 ≤ a6 ∧ a6 < 1024) ∧ ((0 ≤ a3 ∧ a3 < 1024) ∧ ((w 29 a3 ≤ w 29 a6 → T (d + 1) 242 171 [some (vr 27), some (vr 20), some (vi a2), some (vi a3), x4, x5, some (vi a6), some (vi a7), x8, x9, x10] [] w Q) ∧ (¬ (w 29 a3 ≤ w 29 a6) → T d 287 0 [some (vr 20), some (vi a6), some (vi a7)] [] w (fun r w1 => T (d + 1) 242 68 [some (vr 27), some (vr 20), some (vi a2), some (vi a3), x4, x5, some (vi a6), some (vi a7), x8, x9, x10] (r.toList ++ []) w1 Q))))))) := by
  rw [T_iload_7 c242_38, T_iload_2 c242_40, T_icmp_ge 171 c242_41 rfl, T_aload_0 c242_44, T_getR 10 3 3 c242_45 rfl rfl rfl rfl, rf_27_3, T_iload_6 c242_48, T_iald c242_50, T_aload_0 c242_51, T_getR 10 3 3 c242_52 rfl rfl rfl rfl, rf_27_3, T_iload_3 c242_55, T_iald c242_56, T_icmp_ge 171 c242_57 rfl, T_aload_1 c242_60, T_iload_6 c242_61, T_iload_7 c242_63, T_inv (es := [some (vr 20), some (vi a6), some (vi a7)]) (st := [vi a7, vi a6, vr 20]) (ks := [2, 0, 0]) (n := 3) (as := [vr 20, vi a6, vi a7]) (rest := []) c242_65 (by decide +kernel) (by decide +kernel) rfl rfl (Nat.le_of_ble_eq_true rfl)]
  all_goals try simp only [Int.reduceToNat, lay_27, ld_29, true_and, Nat.reduceAdd, eq_self_iff_true]
theorem g242_68 {d : Nat} {a7 s0 : Int} {x1 x2 x3 x4 x5 x6 x8 x9 x10 : Option aV} {w : aW} {Q : Option aV → aW → Prop} : T d 242 68 [some (vr 27), x1, x2, x3, x4, x5, x6, some (vi a7), x8, x9, x10] [vi s0] w Q = ((0 ≤ s0 ∧ s0 < 1024) ∧ ((¬ a7 = (-1) → T d 242 88 [some (vr 27), x1, x2, x3, x4, x5, x6, some (vi a7), some (vi s0), x9, x10] [vi 1, vi (w 31 s0)] w Q) ∧ (¬ (¬ a7 = (-1)) → T d 242 88 [some (vr 27), x1, x2, x3, x4, x5, x6, some (vi a7), some (vi s0), x9, x10] [vi 0, vi (w 31 s0)] w Q))) := by
  rw [T_istore_8 c242_68, T_aload_0 c242_70, T_getR 10 5 5 c242_71 rfl rfl rfl rfl, rf_27_5, T_iload_8 c242_74, T_iald c242_76, T_iload_7 c242_77, T_sipush c242_79, T_icmp_ne 87 c242_80 rfl, T_sipush c242_87, T_sipush c242_83, T_goto 88 c242_84 rfl]
  all_goals try simp only [Int.reduceToNat, lay_27, ld_31, true_and, Nat.reduceAdd, eq_self_iff_true]
theorem g242_88 {d : Nat} {a6 a8 s0 s1 : Int} {x1 x2 x3 x4 x5 x7 x9 x10 : Option aV} {w : aW} {Q : Option aV → aW → Prop} : T d 242 88 [some (vr 27), x1, x2, x3, x4, x5, some (vi a6), x7, some (vi a8), x9, x10] [vi s1, vi s0] w Q = ((0 ≤ a8 ∧ a8 < 1024) ∧ ((w 31 a8 = (-1) → T d 242 125 [some (vr 27), x1, x2, x3, x4, x5, some (vi a6), x7, some (vi a8), some (vi (w32 (s0 + s1))), x10] [] w Q) ∧ (¬ (w 31 a8 = (-1)) → ((0 ≤ a8 ∧ a8 < 1024) ∧ ((0 ≤ a6 ∧ a6 < 1024) ∧ ((¬ w 29 a8 = w32 ((w 29 a6) + 1) → T d 242 125 [some (vr 27), x1, x2, x3, x4, x5, some (vi a6), x7, some (vi a8), some (vi (w32 (s0 + s1))), x10] [] w Q) ∧ (¬ (¬ w 29 a8 = w32 ((w 29 a6) + 1)) → T d 242 126 [some (vr 27), x1, x2, x3, x4, x5, some (vi a6), x7, some (vi a8), some (vi (w32 (s0 + s1))), x10] [vi 1] w Q))))))) := by
  rw [T_iadd c242_88, T_istore_9 c242_89, T_aload_0 c242_91, T_getR 10 5 5 c242_92 rfl rfl rfl rfl, rf_27_5, T_iload_8 c242_95, T_iald c242_97, T_sipush c242_98, T_icmp_eq 125 c242_99 rfl, T_aload_0 c242_102, T_getR 10 3 3 c242_103 rfl rfl rfl rfl, rf_27_3, T_iload_8 c242_106, T_iald c242_108, T_aload_0 c242_109, T_getR 10 3 3 c242_110 rfl rfl rfl rfl, rf_27_3, T_iload_6 c242_113, T_iald c242_115, T_sipush c242_116, T_iadd c242_117, T_icmp_ne 125 c242_118 rfl, T_sipush c242_121, T_goto 126 c242_122 rfl]
  all_goals try simp only [Int.reduceToNat, lay_27, ld_29, ld_31, true_and, Nat.reduceAdd, eq_self_iff_true]
theorem g242_125 {d : Nat} {x0 x1 x2 x3 x4 x5 x6 x7 x8 x9 x10 : Option aV} {w : aW} {Q : Option aV → aW → Prop} : T d 242 125 [x0, x1, x2, x3, x4, x5, x6, x7, x8, x9, x10] [] w Q = T d 242 126 [x0, x1, x2, x3, x4, x5, x6, x7, x8, x9, x10] [vi 0] w Q := by
  rw [T_sipush c242_125]
  all_goals try simp only [true_and, Nat.reduceAdd, eq_self_iff_true]
theorem g242_126 {d : Nat} {a6 a9 s0 : Int} {x1 x2 x3 x4 x5 x7 x8 x10 : Option aV} {w : aW} {Q : Option aV → aW → Prop} : T d 242 126 [some (vr 27), x1, x2, x3, x4, x5, some (vi a6), x7, x8, some (vi a9), x10] [vi s0] w Q = ((s0 = 0 → T d 242 165 [some (vr 27), x1, x2, x3, x4, x5, some (vi a6), x7, x8, some (vi a9), some (vi s0)] [] w Q) ∧ (¬ (s0 = 0) → ((0 ≤ a6 ∧ a6 < 1024) ∧ ((w 31 a6 = (-1) → T d 242 156 [some (vr 27), x1, x2, x3, x4, x5, some (vi a6), x7, x8, some (vi a9), some (vi s0)] [] w Q) ∧ (¬ (w 31 a6 = (-1)) → ((0 ≤ a6 ∧ a6 < 1024) ∧ ((w 31 a6 ≤ a9 → T d 242 165 [some (vr 27), x1, x2, x3, x4, x5, some (vi a6), x7, x8, some (vi a9), some (vi s0)] [] w Q) ∧ (¬ (w 31 a6 ≤ a9) → T d 242 156 [some (vr 27), x1, x2, x3, x4, x5, some (vi a6), x7, x8, some (vi a9), some (vi s0)] [] w Q)))))))) := by
  rw [T_istore_10 c242_126, T_iload_10 c242_128, T_if_eq 165 c242_130 rfl, T_aload_0 c242_133, T_getR 10 5 5 c242_134 rfl rfl rfl rfl, rf_27_5, T_iload_6 c242_137, T_iald c242_139, T_sipush c242_140, T_icmp_eq 156 c242_141 rfl, T_iload_9 c242_144, T_aload_0 c242_146, T_getR 10 5 5 c242_147 rfl rfl rfl rfl, rf_27_5, T_iload_6 c242_150, T_iald c242_152, T_icmp_ge 165 c242_153 rfl]
  all_goals try simp only [Int.reduceToNat, lay_27, ld_31, true_and, Nat.reduceAdd, eq_self_iff_true]
theorem g242_156 {d : Nat} {a6 a9 : Int} {x1 x2 x3 x4 x5 x7 x8 x10 : Option aV} {w : aW} {Q : Option aV → aW → Prop} : T d 242 156 [some (vr 27), x1, x2, x3, x4, x5, some (vi a6), x7, x8, some (vi a9), x10] [] w Q = ((0 ≤ a6 ∧ a6 < 1024) ∧ T d 242 165 [some (vr 27), x1, x2, x3, x4, x5, some (vi a6), x7, x8, some (vi a9), x10] [] (iup w 31 a6 a9) Q) := by
  rw [T_aload_0 c242_156, T_getR 10 5 5 c242_157 rfl rfl rfl rfl, rf_27_5, T_iload_6 c242_160, T_iload_9 c242_162, T_iast c242_164]
  all_goals try simp only [ia0_31, lay_27, true_and, Nat.reduceAdd, eq_self_iff_true]
theorem g242_165 {d : Nat} {a7 : Int} {x0 x1 x2 x3 x4 x5 x6 x8 x9 x10 : Option aV} {w : aW} {Q : Option aV → aW → Prop} : T d 242 165 [x0, x1, x2, x3, x4, x5, x6, some (vi a7), x8, x9, x10] [] w Q = T d 242 38 [x0, x1, x2, x3, x4, x5, x6, some (vi (w32 (a7 + 1))), x8, x9, x10] [] w Q := by
  rw [T_iinc_7 c242_165, T_goto 38 c242_168 rfl]
  all_goals try simp only [true_and, Nat.reduceAdd, eq_self_iff_true]
theorem g242_171 {d : Nat} {a5 : Int} {x0 x1 x2 x3 x4 x6 x7 x8 x9 x10 : Option aV} {w : aW} {Q : Option aV → aW → Prop} : T d 242 171 [x0, x1, x2, x3, x4, some (vi a5), x6, x7, x8, x9, x10] [] w Q = T d 242 21 [x0, x1, x2, x3, x4, some (vi (w32 (a5 + (-1)))), x6, x7, x8, x9, x10] [] w Q := by
  rw [T_iinc_5 c242_171, T_goto 21 c242_174 rfl]
  all_goals try simp only [true_and, Nat.reduceAdd, eq_self_iff_true]
/-! 243: StringHands$Wishes.walk.([III)V -/
theorem c243_0 : cd 243 0 = some (.iload 3, 1) := by decide +kernel
theorem c243_1 : cd 243 1 = some (.istore 4, 2) := by decide +kernel
theorem c243_3 : cd 243 3 = some (.sipush 0, 1) := by decide +kernel
theorem c243_4 : cd 243 4 = some (.istore 5, 2) := by decide +kernel
theorem c243_6 : cd 243 6 = some (.iload 5, 2) := by decide +kernel
theorem c243_8 : cd 243 8 = some (.aload 0, 1) := by decide +kernel
theorem c243_9 : cd 243 9 = some (.getfield 2560, 3) := by decide +kernel
theorem c243_12 : cd 243 12 = some (.if_icmp .ge 58, 3) := by decide +kernel
theorem c243_15 : cd 243 15 = some (.iload 5, 2) := by decide +kernel
theorem c243_17 : cd 243 17 = some (.sipush 40, 2) := by decide +kernel
theorem c243_19 : cd 243 19 = some (.if_icmp .ge 58, 3) := by decide +kernel
theorem c243_22 : cd 243 22 = some (.aload 0, 1) := by decide +kernel
theorem c243_23 : cd 243 23 = some (.getfield 2570, 3) := by decide +kernel
theorem c243_26 : cd 243 26 = some (.iload 5, 2) := by decide +kernel
theorem c243_28 : cd 243 28 = some (.aload 0, 1) := by decide +kernel
theorem c243_29 : cd 243 29 = some (.aload 1, 1) := by decide +kernel
theorem c243_30 : cd 243 30 = some (.iload 2, 1) := by decide +kernel
theorem c243_31 : cd 243 31 = some (.iload 4, 2) := by decide +kernel
theorem c243_33 : cd 243 33 = some (.invokevirtual 288, 3) := by decide +kernel
theorem c243_36 : cd 243 36 = some (.iastore, 1) := by decide +kernel
theorem c243_37 : cd 243 37 = some (.aload 1, 1) := by decide +kernel
theorem c243_38 : cd 243 38 = some (.iload 4, 2) := by decide +kernel
theorem c243_40 : cd 243 40 = some (.aload 0, 1) := by decide +kernel
theorem c243_41 : cd 243 41 = some (.getfield 2570, 3) := by decide +kernel
theorem c243_44 : cd 243 44 = some (.iload 5, 2) := by decide +kernel
theorem c243_46 : cd 243 46 = some (.iaload, 1) := by decide +kernel
theorem c243_47 : cd 243 47 = some (.invokestatic 287, 3) := by decide +kernel
theorem c243_50 : cd 243 50 = some (.istore 4, 2) := by decide +kernel
theorem c243_52 : cd 243 52 = some (.iinc 5 1, 3) := by decide +kernel
theorem c243_55 : cd 243 55 = some (.goto 6, 3) := by decide +kernel
theorem c243_58 : cd 243 58 = some (.return_, 1) := by decide +kernel
theorem g243_0 {d : Nat} {a3 : Int} {x0 x1 x2 x4 x5 : Option aV} {w : aW} {Q : Option aV → aW → Prop} : T d 243 0 [x0, x1, x2, some (vi a3), x4, x5] [] w Q = T d 243 6 [x0, x1, x2, some (vi a3), some (vi a3), some (vi 0)] [] w Q := by
  rw [T_iload_3 c243_0, T_istore_4 c243_1, T_sipush c243_3, T_istore_5 c243_4]
  all_goals try simp only [true_and, Nat.reduceAdd, eq_self_iff_true]
theorem g243_6 {d : Nat} {a2 a4 a5 : Int} {x3 : Option aV} {w : aW} {Q : Option aV → aW → Prop} : T (d + 1) 243 6 [some (vr 27), some (vr 20), some (vi a2), x3, some (vi a4), some (vi a5)] [] w Q = ((w 27 0 ≤ a5 → T (d + 1) 243 58 [some (vr 27), some (vr 20), some (vi a2), x3, some (vi a4), some (vi a5)] [] w Q) ∧ (¬ (w 27 0 ≤ a5) → ((40 ≤ a5 → T (d + 1) 243 58 [some (vr 27), some (vr 20), some (vi a2), x3, some (vi a4), some (vi a5)] [] w Q) ∧ (¬ (40 ≤ a5) → T d 288 0 [some (vr 27), some (vr 20), some (vi a2), some (vi a4), none, none, none] [] w (fun r w1 => T (d + 1) 243 36 [some (vr 27), some (vr 20), some (vi a2), x3, some (vi a4), some (vi a5)] (r.toList ++ [vi a5, vr 28]) w1 Q))))) := by
  rw [T_iload_5 c243_6, T_aload_0 c243_8, T_getI 10 0 0 c243_9 rfl rfl rfl rfl, T_icmp_ge 58 c243_12 rfl, T_iload_5 c243_15, T_sipush c243_17, T_icmp_ge 58 c243_19 rfl, T_aload_0 c243_22, T_getR 10 2 2 c243_23 rfl rfl rfl rfl, rf_27_2, T_iload_5 c243_26, T_aload_0 c243_28, T_aload_1 c243_29, T_iload_2 c243_30, T_iload_4 c243_31, T_invv (es := [some (vr 27), some (vr 20), some (vi a2), some (vi a4), none, none, none]) (st := [vi a4, vi a2, vr 20, vr 27, vi a5, vr 28]) (ks := [2, 2, 0, 0]) (n := 7) (c := 10) (k := 27) (as := [vr 20, vi a2, vi a4]) (rest := [vi a5, vr 28]) c243_33 (by decide +kernel) (by decide +kernel) (by decide +kernel) (by decide) rfl rfl (Nat.le_of_ble_eq_true rfl)]
  all_goals try simp only [Int.reduceToNat, lay_27, true_and, Nat.reduceAdd, eq_self_iff_true]
theorem g243_36 {d : Nat} {a4 a5 s1 s2 : Int} {s0 : Nat} {x2 x3 : Option aV} {w : aW} {Q : Option aV → aW → Prop} : T (d + 1) 243 36 [some (vr 27), some (vr 20), x2, x3, some (vi a4), some (vi a5)] [vi s2, vi s1, vr s0] w Q = (inA s0 0 s1 = true ∧ ((0 ≤ a5 ∧ a5 < 40) ∧ T d 287 0 [some (vr 20), some (vi a4), some (vi ((iup w s0 s1 s2) 28 a5))] [] (iup w s0 s1 s2) (fun r w1 => T (d + 1) 243 50 [some (vr 27), some (vr 20), x2, x3, some (vi a4), some (vi a5)] (r.toList ++ []) w1 Q))) := by
  rw [T_iast c243_36, T_aload_1 c243_37, T_iload_4 c243_38, T_aload_0 c243_40, T_getR 10 2 2 c243_41 rfl rfl rfl rfl, rf_27_2, T_iload_5 c243_44, T_iald c243_46, T_inv (es := [some (vr 20), some (vi a4), some (vi ((iup w s0 s1 s2) 28 a5))]) (st := [vi ((iup w s0 s1 s2) 28 a5), vi a4, vr 20]) (ks := [2, 0, 0]) (n := 3) (as := [vr 20, vi a4, vi ((iup w s0 s1 s2) 28 a5)]) (rest := []) c243_47 (by decide +kernel) (by decide +kernel) rfl rfl (Nat.le_of_ble_eq_true rfl)]
  all_goals try simp only [lay_27, ld_28, true_and, Nat.reduceAdd, eq_self_iff_true]
theorem g243_50 {d : Nat} {a5 s0 : Int} {x0 x1 x2 x3 x4 : Option aV} {w : aW} {Q : Option aV → aW → Prop} : T d 243 50 [x0, x1, x2, x3, x4, some (vi a5)] [vi s0] w Q = T d 243 6 [x0, x1, x2, x3, some (vi s0), some (vi (w32 (a5 + 1)))] [] w Q := by
  rw [T_istore_4 c243_50, T_iinc_5 c243_52, T_goto 6 c243_55 rfl]
  all_goals try simp only [true_and, Nat.reduceAdd, eq_self_iff_true]
theorem g243_58 {d : Nat} {x0 x1 x2 x3 x4 x5 : Option aV} {w : aW} {Q : Option aV → aW → Prop} : T d 243 58 [x0, x1, x2, x3, x4, x5] [] w Q = Q none w := by
  rw [T_vret c243_58 (by decide +kernel)]
  all_goals try simp only [true_and, Nat.reduceAdd, eq_self_iff_true]
/-! 244: StringHands$Wishes.fewestAtLimb.(LStringHands$Troupe;LStringHands$Stage;LStringHands$Mover;II)I -/
theorem c244_0 : cd 244 0 = some (.sipush 0, 1) := by decide +kernel
theorem c244_1 : cd 244 1 = some (.istore 6, 2) := by decide +kernel
theorem c244_3 : cd 244 3 = some (.iload 6, 2) := by decide +kernel
theorem c244_5 : cd 244 5 = some (.sipush 16, 2) := by decide +kernel
theorem c244_7 : cd 244 7 = some (.if_icmp .gt 27, 3) := by decide +kernel
theorem c244_10 : cd 244 10 = some (.aload 0, 1) := by decide +kernel
theorem c244_11 : cd 244 11 = some (.getfield 2586, 3) := by decide +kernel
theorem c244_14 : cd 244 14 = some (.iload 6, 2) := by decide +kernel
theorem c244_16 : cd 244 16 = some (.aaload, 1) := by decide +kernel
theorem c244_17 : cd 244 17 = some (.sipush (-1), 1) := by decide +kernel
theorem c244_18 : cd 244 18 = some (.invokestatic 221, 3) := by decide +kernel
theorem c244_21 : cd 244 21 = some (.iinc 6 1, 3) := by decide +kernel
theorem c244_24 : cd 244 24 = some (.goto 3, 3) := by decide +kernel
theorem c244_27 : cd 244 27 = some (.aload 0, 1) := by decide +kernel
theorem c244_28 : cd 244 28 = some (.getfield 2586, 3) := by decide +kernel
theorem c244_31 : cd 244 31 = some (.sipush 0, 1) := by decide +kernel
theorem c244_32 : cd 244 32 = some (.aaload, 1) := by decide +kernel
theorem c244_33 : cd 244 33 = some (.sipush 0, 1) := by decide +kernel
theorem c244_34 : cd 244 34 = some (.sipush 0, 1) := by decide +kernel
theorem c244_35 : cd 244 35 = some (.iastore, 1) := by decide +kernel
theorem c244_36 : cd 244 36 = some (.sipush 0, 1) := by decide +kernel
theorem c244_37 : cd 244 37 = some (.istore 6, 2) := by decide +kernel
theorem c244_39 : cd 244 39 = some (.sipush 0, 1) := by decide +kernel
theorem c244_40 : cd 244 40 = some (.istore 7, 2) := by decide +kernel
theorem c244_42 : cd 244 42 = some (.sipush 0, 1) := by decide +kernel
theorem c244_43 : cd 244 43 = some (.istore 8, 2) := by decide +kernel
theorem c244_45 : cd 244 45 = some (.iload 8, 2) := by decide +kernel
theorem c244_47 : cd 244 47 = some (.aload 1, 1) := by decide +kernel
theorem c244_48 : cd 244 48 = some (.getfield 2056, 3) := by decide +kernel
theorem c244_51 : cd 244 51 = some (.if_icmp .ge 158, 3) := by decide +kernel
theorem c244_54 : cd 244 54 = some (.aload 2, 1) := by decide +kernel
theorem c244_55 : cd 244 55 = some (.getfield 1540, 3) := by decide +kernel
theorem c244_58 : cd 244 58 = some (.iload 8, 2) := by decide +kernel
theorem c244_60 : cd 244 60 = some (.invokestatic 117, 3) := by decide +kernel
theorem c244_63 : cd 244 63 = some (.sipush 1, 1) := by decide +kernel
theorem c244_64 : cd 244 64 = some (.if_icmp .ne 152, 3) := by decide +kernel
theorem c244_67 : cd 244 67 = some (.aload 1, 1) := by decide +kernel
theorem c244_68 : cd 244 68 = some (.getfield 2086, 3) := by decide +kernel
theorem c244_71 : cd 244 71 = some (.iload 8, 2) := by decide +kernel
theorem c244_73 : cd 244 73 = some (.iaload, 1) := by decide +kernel
theorem c244_74 : cd 244 74 = some (.iload 5, 2) := by decide +kernel
theorem c244_76 : cd 244 76 = some (.if_icmp .ne 152, 3) := by decide +kernel
theorem c244_79 : cd 244 79 = some (.iload 4, 2) := by decide +kernel
theorem c244_81 : cd 244 81 = some (.aload 2, 1) := by decide +kernel
theorem c244_82 : cd 244 82 = some (.getfield 1546, 3) := by decide +kernel
theorem c244_85 : cd 244 85 = some (.iload 8, 2) := by decide +kernel
theorem c244_87 : cd 244 87 = some (.iaload, 1) := by decide +kernel
theorem c244_88 : cd 244 88 = some (.invokestatic 117, 3) := by decide +kernel
theorem c244_91 : cd 244 91 = some (.aload 1, 1) := by decide +kernel
theorem c244_92 : cd 244 92 = some (.getfield 2092, 3) := by decide +kernel
theorem c244_95 : cd 244 95 = some (.iload 8, 2) := by decide +kernel
theorem c244_97 : cd 244 97 = some (.invokestatic 117, 3) := by decide +kernel
theorem c244_100 : cd 244 100 = some (.if_icmp .eq 107, 3) := by decide +kernel
theorem c244_103 : cd 244 103 = some (.sipush 1, 1) := by decide +kernel
theorem c244_104 : cd 244 104 = some (.goto 108, 3) := by decide +kernel
theorem c244_107 : cd 244 107 = some (.sipush 0, 1) := by decide +kernel
theorem c244_108 : cd 244 108 = some (.istore 9, 2) := by decide +kernel
theorem c244_110 : cd 244 110 = some (.iload 9, 2) := by decide +kernel
theorem c244_112 : cd 244 112 = some (.ifCond .eq 125, 3) := by decide +kernel
theorem c244_115 : cd 244 115 = some (.aload 1, 1) := by decide +kernel
theorem c244_116 : cd 244 116 = some (.getfield 2090, 3) := by decide +kernel
theorem c244_119 : cd 244 119 = some (.iload 8, 2) := by decide +kernel
theorem c244_121 : cd 244 121 = some (.iaload, 1) := by decide +kernel
theorem c244_122 : cd 244 122 = some (.goto 126, 3) := by decide +kernel
theorem c244_125 : cd 244 125 = some (.sipush 0, 1) := by decide +kernel
theorem c244_126 : cd 244 126 = some (.istore 10, 2) := by decide +kernel
theorem c244_128 : cd 244 128 = some (.aload 0, 1) := by decide +kernel
theorem c244_129 : cd 244 129 = some (.sipush 1, 1) := by decide +kernel
theorem c244_130 : cd 244 130 = some (.iload 8, 2) := by decide +kernel
theorem c244_132 : cd 244 132 = some (.ishl, 1) := by decide +kernel
theorem c244_133 : cd 244 133 = some (.iload 10, 2) := by decide +kernel
theorem c244_135 : cd 244 135 = some (.iload 6, 2) := by decide +kernel
theorem c244_137 : cd 244 137 = some (.iload 7, 2) := by decide +kernel
theorem c244_139 : cd 244 139 = some (.invokevirtual 289, 3) := by decide +kernel
theorem c244_142 : cd 244 142 = some (.iinc 6 1, 3) := by decide +kernel
theorem c244_145 : cd 244 145 = some (.iload 7, 2) := by decide +kernel
theorem c244_147 : cd 244 147 = some (.iload 10, 2) := by decide +kernel
theorem c244_149 : cd 244 149 = some (.iadd, 1) := by decide +kernel
theorem c244_150 : cd 244 150 = some (.istore 7, 2) := by decide +kernel
theorem c244_152 : cd 244 152 = some (.iinc 8 1, 3) := by decide +kernel
theorem c244_155 : cd 244 155 = some (.goto 45, 3) := by decide +kernel
theorem c244_158 : cd 244 158 = some (.sipush 0, 1) := by decide +kernel
theorem c244_159 : cd 244 159 = some (.istore 8, 2) := by decide +kernel
theorem c244_161 : cd 244 161 = some (.iload 8, 2) := by decide +kernel
theorem c244_163 : cd 244 163 = some (.iload 6, 2) := by decide +kernel
theorem c244_165 : cd 244 165 = some (.if_icmp .gt 278, 3) := by decide +kernel
theorem c244_168 : cd 244 168 = some (.sipush (-1), 1) := by decide +kernel
theorem c244_169 : cd 244 169 = some (.istore 9, 2) := by decide +kernel
theorem c244_171 : cd 244 171 = some (.sipush 0, 1) := by decide +kernel
theorem c244_172 : cd 244 172 = some (.istore 10, 2) := by decide +kernel
theorem c244_174 : cd 244 174 = some (.iload 10, 2) := by decide +kernel
theorem c244_176 : cd 244 176 = some (.iload 7, 2) := by decide +kernel
theorem c244_178 : cd 244 178 = some (.if_icmp .gt 263, 3) := by decide +kernel
theorem c244_181 : cd 244 181 = some (.aload 0, 1) := by decide +kernel
theorem c244_182 : cd 244 182 = some (.getfield 2586, 3) := by decide +kernel
theorem c244_185 : cd 244 185 = some (.iload 8, 2) := by decide +kernel
theorem c244_187 : cd 244 187 = some (.aaload, 1) := by decide +kernel
theorem c244_188 : cd 244 188 = some (.iload 10, 2) := by decide +kernel
theorem c244_190 : cd 244 190 = some (.iaload, 1) := by decide +kernel
theorem c244_191 : cd 244 191 = some (.istore 11, 2) := by decide +kernel
theorem c244_193 : cd 244 193 = some (.iload 11, 2) := by decide +kernel
theorem c244_195 : cd 244 195 = some (.sipush (-1), 1) := by decide +kernel
theorem c244_196 : cd 244 196 = some (.if_icmp .eq 216, 3) := by decide +kernel
theorem c244_199 : cd 244 199 = some (.iload 9, 2) := by decide +kernel
theorem c244_201 : cd 244 201 = some (.sipush (-1), 1) := by decide +kernel
theorem c244_202 : cd 244 202 = some (.if_icmp .eq 212, 3) := by decide +kernel
theorem c244_205 : cd 244 205 = some (.iload 11, 2) := by decide +kernel
theorem c244_207 : cd 244 207 = some (.iload 9, 2) := by decide +kernel
theorem c244_209 : cd 244 209 = some (.if_icmp .ge 216, 3) := by decide +kernel
theorem c244_212 : cd 244 212 = some (.sipush 1, 1) := by decide +kernel
theorem c244_213 : cd 244 213 = some (.goto 217, 3) := by decide +kernel
theorem c244_216 : cd 244 216 = some (.sipush 0, 1) := by decide +kernel
theorem c244_217 : cd 244 217 = some (.istore 12, 2) := by decide +kernel
theorem c244_219 : cd 244 219 = some (.iload 12, 2) := by decide +kernel
theorem c244_221 : cd 244 221 = some (.ifCond .eq 257, 3) := by decide +kernel
theorem c244_224 : cd 244 224 = some (.aload 1, 1) := by decide +kernel
theorem c244_225 : cd 244 225 = some (.aload 3, 1) := by decide +kernel
theorem c244_226 : cd 244 226 = some (.iload 4, 2) := by decide +kernel
theorem c244_228 : cd 244 228 = some (.iload 5, 2) := by decide +kernel
theorem c244_230 : cd 244 230 = some (.iload 7, 2) := by decide +kernel
theorem c244_232 : cd 244 232 = some (.iload 10, 2) := by decide +kernel
theorem c244_234 : cd 244 234 = some (.isub, 1) := by decide +kernel
theorem c244_235 : cd 244 235 = some (.iload 8, 2) := by decide +kernel
theorem c244_237 : cd 244 237 = some (.iload 6, 2) := by decide +kernel
theorem c244_239 : cd 244 239 = some (.if_icmp .ge 246, 3) := by decide +kernel
theorem c244_242 : cd 244 242 = some (.sipush 1, 1) := by decide +kernel
theorem c244_243 : cd 244 243 = some (.goto 247, 3) := by decide +kernel
theorem c244_246 : cd 244 246 = some (.sipush 0, 1) := by decide +kernel
theorem c244_247 : cd 244 247 = some (.invokestatic 290, 3) := by decide +kernel
theorem c244_250 : cd 244 250 = some (.ifCond .eq 257, 3) := by decide +kernel
theorem c244_253 : cd 244 253 = some (.iload 11, 2) := by decide +kernel
theorem c244_255 : cd 244 255 = some (.istore 9, 2) := by decide +kernel
theorem c244_257 : cd 244 257 = some (.iinc 10 1, 3) := by decide +kernel
theorem c244_260 : cd 244 260 = some (.goto 174, 3) := by decide +kernel
theorem c244_263 : cd 244 263 = some (.iload 9, 2) := by decide +kernel
theorem c244_265 : cd 244 265 = some (.sipush (-1), 1) := by decide +kernel
theorem c244_266 : cd 244 266 = some (.if_icmp .eq 272, 3) := by decide +kernel
theorem c244_269 : cd 244 269 = some (.iload 9, 2) := by decide +kernel
theorem c244_271 : cd 244 271 = some (.ireturn, 1) := by decide +kernel
theorem c244_272 : cd 244 272 = some (.iinc 8 1, 3) := by decide +kernel
theorem c244_275 : cd 244 275 = some (.goto 161, 3) := by decide +kernel
theorem c244_278 : cd 244 278 = some (.sipush (-1), 1) := by decide +kernel
theorem c244_279 : cd 244 279 = some (.ireturn, 1) := by decide +kernel
theorem g244_0 {d : Nat} {x0 x1 x2 x3 x4 x5 x6 x7 x8 x9 x10 x11 x12 : Option aV} {w : aW} {Q : Option aV → aW → Prop} : T d 244 0 [x0, x1, x2, x3, x4, x5, x6, x7, x8, x9, x10, x11, x12] [] w Q = T d 244 3 [x0, x1, x2, x3, x4, x5, some (vi 0), x7, x8, x9, x10, x11, x12] [] w Q := by
  rw [T_sipush c244_0, T_istore_6 c244_1]
  all_goals try simp only [true_and, Nat.reduceAdd, eq_self_iff_true]
theorem g244_3 {d : Nat} {a6 : Int} {x1 x2 x3 x4 x5 x7 x8 x9 x10 x11 x12 : Option aV} {w : aW} {Q : Option aV → aW → Prop} : T (d + 1) 244 3 [some (vr 27), x1, x2, x3, x4, x5, some (vi a6), x7, x8, x9, x10, x11, x12] [] w Q = ((16 < a6 → ((isRA 32 0 = true ∧ (32 = 87 → (w 87 0).toNat < 191)) ∧ (inA (rAt w 32 0) 0 0 = true ∧ T (d + 1) 244 45 [some (vr 27), x1, x2, x3, x4, x5, some (vi 0), some (vi 0), some (vi 0), x9, x10, x11, x12] [] (iup w (rAt w 32 0) 0 0) Q))) ∧ (¬ (16 < a6) → ((isRA 32 a6 = true ∧ (32 = 87 → (w 87 a6).toNat < 191)) ∧ T d 221 0 [some (vr (rAt w 32 a6)), some (vi (-1)), none, none] [] w (fun r w1 => T (d + 1) 244 21 [some (vr 27), x1, x2, x3, x4, x5, some (vi a6), x7, x8, x9, x10, x11, x12] (r.toList ++ []) w1 Q)))) := by
  rw [T_iload_6 c244_3, T_sipush c244_5, T_icmp_gt 27 c244_7 rfl, T_aload_0 c244_27, T_getR 10 6 6 c244_28 rfl rfl rfl rfl, rf_27_6, T_sipush c244_31, T_aald c244_32, T_sipush c244_33, T_sipush c244_34, T_iast c244_35, T_sipush c244_36, T_istore_6 c244_37, T_sipush c244_39, T_istore_7 c244_40, T_sipush c244_42, T_istore_8 c244_43, T_aload_0 c244_10, T_getR 10 6 6 c244_11 rfl rfl rfl rfl, rf_27_6, T_iload_6 c244_14, T_aald c244_16, T_sipush c244_17, T_inv (es := [some (vr (rAt w 32 a6)), some (vi (-1)), none, none]) (st := [vi (-1), vr (rAt w 32 a6)]) (ks := [2, 0]) (n := 4) (as := [vr (rAt w 32 a6), vi (-1)]) (rest := []) c244_18 (by decide +kernel) (by decide +kernel) rfl rfl (Nat.le_of_ble_eq_true rfl)]
  all_goals try simp only [Int.reduceToNat, lay_27, true_and, Nat.reduceAdd, eq_self_iff_true]
theorem g244_21 {d : Nat} {a6 : Int} {x0 x1 x2 x3 x4 x5 x7 x8 x9 x10 x11 x12 : Option aV} {w : aW} {Q : Option aV → aW → Prop} : T d 244 21 [x0, x1, x2, x3, x4, x5, some (vi a6), x7, x8, x9, x10, x11, x12] [] w Q = T d 244 3 [x0, x1, x2, x3, x4, x5, some (vi (w32 (a6 + 1))), x7, x8, x9, x10, x11, x12] [] w Q := by
  rw [T_iinc_6 c244_21, T_goto 3 c244_24 rfl]
  all_goals try simp only [true_and, Nat.reduceAdd, eq_self_iff_true]
theorem g244_45 {d : Nat} {a8 : Int} {r2 : Nat} {x0 x3 x4 x5 x6 x7 x9 x10 x11 x12 : Option aV} {w : aW} {Q : Option aV → aW → Prop} : T (d + 1) 244 45 [x0, some (vr 69), some (vr r2), x3, x4, x5, x6, x7, some (vi a8), x9, x10, x11, x12] [] w Q = ((w 69 2 ≤ a8 → T (d + 1) 244 161 [x0, some (vr 69), some (vr r2), x3, x4, x5, x6, x7, some (vi 0), x9, x10, x11, x12] [] w Q) ∧ (¬ (w 69 2 ≤ a8) → (lay r2 = (6, 0) ∧ T d 117 0 [some (vi (w r2 1)), some (vi a8)] [] w (fun r w1 => T (d + 1) 244 63 [x0, some (vr 69), some (vr r2), x3, x4, x5, x6, x7, some (vi a8), x9, x10, x11, x12] (r.toList ++ []) w1 Q)))) := by
  rw [T_iload_8 c244_45, T_aload_1 c244_47, T_getI 8 2 2 c244_48 rfl rfl rfl rfl, T_icmp_ge 158 c244_51 rfl, T_sipush c244_158, T_istore_8 c244_159, T_aload_2 c244_54, T_getI 6 1 1 c244_55 rfl rfl rfl rfl, T_iload_8 c244_58, T_inv (es := [some (vi (w r2 1)), some (vi a8)]) (st := [vi a8, vi (w r2 1)]) (ks := [0, 0]) (n := 2) (as := [vi (w r2 1), vi a8]) (rest := []) c244_60 (by decide +kernel) (by decide +kernel) rfl rfl (Nat.le_of_ble_eq_true rfl)]
  all_goals try simp only [Int.reduceToNat, lay_69, true_and, Nat.reduceAdd, eq_self_iff_true]
theorem g244_63 {d : Nat} {a4 a5 a8 s0 : Int} {r2 : Nat} {x0 x3 x6 x7 x9 x10 x11 x12 : Option aV} {w : aW} {Q : Option aV → aW → Prop} : T (d + 1) 244 63 [x0, some (vr 69), some (vr r2), x3, some (vi a4), some (vi a5), x6, x7, some (vi a8), x9, x10, x11, x12] [vi s0] w Q = ((¬ s0 = 1 → T (d + 1) 244 152 [x0, some (vr 69), some (vr r2), x3, some (vi a4), some (vi a5), x6, x7, some (vi a8), x9, x10, x11, x12] [] w Q) ∧ (¬ (¬ s0 = 1) → ((0 ≤ a8 ∧ a8 < 16) ∧ ((¬ w 73 a8 = a5 → T (d + 1) 244 152 [x0, some (vr 69), some (vr r2), x3, some (vi a4), some (vi a5), x6, x7, some (vi a8), x9, x10, x11, x12] [] w Q) ∧ (¬ (¬ w 73 a8 = a5) → (lay r2 = (6, 0) ∧ (ldok (rfA r2 2) a8 w ∧ T d 117 0 [some (vi a4), some (vi (w (rfA r2 2) a8))] [] w (fun r w1 => T (d + 1) 244 91 [x0, some (vr 69), some (vr r2), x3, some (vi a4), some (vi a5), x6, x7, some (vi a8), x9, x10, x11, x12] (r.toList ++ []) w1 Q)))))))) := by
  rw [T_sipush c244_63, T_icmp_ne 152 c244_64 rfl, T_aload_1 c244_67, T_getR 8 9 9 c244_68 rfl rfl rfl rfl, rf_69_9, T_iload_8 c244_71, T_iald c244_73, T_iload_5 c244_74, T_icmp_ne 152 c244_76 rfl, T_iload_4 c244_79, T_aload_2 c244_81, T_getR 6 2 2 c244_82 rfl rfl rfl rfl, T_iload_8 c244_85, T_iald c244_87, T_inv (es := [some (vi a4), some (vi (w (rfA r2 2) a8))]) (st := [vi (w (rfA r2 2) a8), vi a4]) (ks := [0, 0]) (n := 2) (as := [vi a4, vi (w (rfA r2 2) a8)]) (rest := []) c244_88 (by decide +kernel) (by decide +kernel) rfl rfl (Nat.le_of_ble_eq_true rfl)]
  all_goals try simp only [Int.reduceToNat, lay_69, ld_73, true_and, Nat.reduceAdd, eq_self_iff_true]
theorem g244_91 {d : Nat} {a8 s0 : Int} {x0 x2 x3 x4 x5 x6 x7 x9 x10 x11 x12 : Option aV} {w : aW} {Q : Option aV → aW → Prop} : T (d + 1) 244 91 [x0, some (vr 69), x2, x3, x4, x5, x6, x7, some (vi a8), x9, x10, x11, x12] [vi s0] w Q = T d 117 0 [some (vi (w 69 11)), some (vi a8)] [] w (fun r w1 => T (d + 1) 244 100 [x0, some (vr 69), x2, x3, x4, x5, x6, x7, some (vi a8), x9, x10, x11, x12] (r.toList ++ [vi s0]) w1 Q) := by
  rw [T_aload_1 c244_91, T_getI 8 11 11 c244_92 rfl rfl rfl rfl, T_iload_8 c244_95, T_inv (es := [some (vi (w 69 11)), some (vi a8)]) (st := [vi a8, vi (w 69 11), vi s0]) (ks := [0, 0]) (n := 2) (as := [vi (w 69 11), vi a8]) (rest := [vi s0]) c244_97 (by decide +kernel) (by decide +kernel) rfl rfl (Nat.le_of_ble_eq_true rfl)]
  all_goals try simp only [lay_69, true_and, Nat.reduceAdd, eq_self_iff_true]
theorem g244_100 {d : Nat} {s0 s1 : Int} {x0 x1 x2 x3 x4 x5 x6 x7 x8 x9 x10 x11 x12 : Option aV} {w : aW} {Q : Option aV → aW → Prop} : T d 244 100 [x0, x1, x2, x3, x4, x5, x6, x7, x8, x9, x10, x11, x12] [vi s1, vi s0] w Q = ((s0 = s1 → T d 244 108 [x0, x1, x2, x3, x4, x5, x6, x7, x8, x9, x10, x11, x12] [vi 0] w Q) ∧ (¬ (s0 = s1) → T d 244 108 [x0, x1, x2, x3, x4, x5, x6, x7, x8, x9, x10, x11, x12] [vi 1] w Q)) := by
  rw [T_icmp_eq 107 c244_100 rfl, T_sipush c244_107, T_sipush c244_103, T_goto 108 c244_104 rfl]
  all_goals try simp only [Int.reduceToNat, true_and, Nat.reduceAdd, eq_self_iff_true]
theorem g244_108 {d : Nat} {a8 s0 : Int} {x0 x2 x3 x4 x5 x6 x7 x9 x10 x11 x12 : Option aV} {w : aW} {Q : Option aV → aW → Prop} : T d 244 108 [x0, some (vr 69), x2, x3, x4, x5, x6, x7, some (vi a8), x9, x10, x11, x12] [vi s0] w Q = ((s0 = 0 → T d 244 126 [x0, some (vr 69), x2, x3, x4, x5, x6, x7, some (vi a8), some (vi s0), x10, x11, x12] [vi 0] w Q) ∧ (¬ (s0 = 0) → ((0 ≤ a8 ∧ a8 < 16) ∧ T d 244 126 [x0, some (vr 69), x2, x3, x4, x5, x6, x7, some (vi a8), some (vi s0), x10, x11, x12] [vi (w 74 a8)] w Q))) := by
  rw [T_istore_9 c244_108, T_iload_9 c244_110, T_if_eq 125 c244_112 rfl, T_sipush c244_125, T_aload_1 c244_115, T_getR 8 10 10 c244_116 rfl rfl rfl rfl, rf_69_10, T_iload_8 c244_119, T_iald c244_121, T_goto 126 c244_122 rfl]
  all_goals try simp only [Int.reduceToNat, lay_69, ld_74, true_and, Nat.reduceAdd, eq_self_iff_true]
theorem g244_126 {d : Nat} {a6 a7 a8 s0 : Int} {x1 x2 x3 x4 x5 x9 x10 x11 x12 : Option aV} {w : aW} {Q : Option aV → aW → Prop} : T (d + 1) 244 126 [some (vr 27), x1, x2, x3, x4, x5, some (vi a6), some (vi a7), some (vi a8), x9, x10, x11, x12] [vi s0] w Q = T d 289 0 [some (vr 27), some (vi (jshl 1 a8)), some (vi s0), some (vi a6), some (vi a7), none, none] [] w (fun r w1 => T (d + 1) 244 142 [some (vr 27), x1, x2, x3, x4, x5, some (vi a6), some (vi a7), some (vi a8), x9, some (vi s0), x11, x12] (r.toList ++ []) w1 Q) := by
  rw [T_istore_10 c244_126, T_aload_0 c244_128, T_sipush c244_129, T_iload_8 c244_130, T_ishl c244_132, T_iload_10 c244_133, T_iload_6 c244_135, T_iload_7 c244_137, T_invv (es := [some (vr 27), some (vi (jshl 1 a8)), some (vi s0), some (vi a6), some (vi a7), none, none]) (st := [vi a7, vi a6, vi s0, vi (jshl 1 a8), vr 27]) (ks := [2, 0, 0, 0, 0]) (n := 7) (c := 10) (k := 27) (as := [vi (jshl 1 a8), vi s0, vi a6, vi a7]) (rest := []) c244_139 (by decide +kernel) (by decide +kernel) (by decide +kernel) (by decide) rfl rfl (Nat.le_of_ble_eq_true rfl)]
  all_goals try simp only [lay_27, true_and, Nat.reduceAdd, eq_self_iff_true]
theorem g244_142 {d : Nat} {a6 a7 a10 : Int} {x0 x1 x2 x3 x4 x5 x8 x9 x11 x12 : Option aV} {w : aW} {Q : Option aV → aW → Prop} : T d 244 142 [x0, x1, x2, x3, x4, x5, some (vi a6), some (vi a7), x8, x9, some (vi a10), x11, x12] [] w Q = T d 244 152 [x0, x1, x2, x3, x4, x5, some (vi (w32 (a6 + 1))), some (vi (w32 (a7 + a10))), x8, x9, some (vi a10), x11, x12] [] w Q := by
  rw [T_iinc_6 c244_142, T_iload_7 c244_145, T_iload_10 c244_147, T_iadd c244_149, T_istore_7 c244_150]
  all_goals try simp only [true_and, Nat.reduceAdd, eq_self_iff_true]
theorem g244_152 {d : Nat} {a8 : Int} {x0 x1 x2 x3 x4 x5 x6 x7 x9 x10 x11 x12 : Option aV} {w : aW} {Q : Option aV → aW → Prop} : T d 244 152 [x0, x1, x2, x3, x4, x5, x6, x7, some (vi a8), x9, x10, x11, x12] [] w Q = T d 244 45 [x0, x1, x2, x3, x4, x5, x6, x7, some (vi (w32 (a8 + 1))), x9, x10, x11, x12] [] w Q := by
  rw [T_iinc_8 c244_152, T_goto 45 c244_155 rfl]
  all_goals try simp only [true_and, Nat.reduceAdd, eq_self_iff_true]
theorem g244_161 {d : Nat} {a6 a8 : Int} {x0 x1 x2 x3 x4 x5 x7 x9 x10 x11 x12 : Option aV} {w : aW} {Q : Option aV → aW → Prop} : T d 244 161 [x0, x1, x2, x3, x4, x5, some (vi a6), x7, some (vi a8), x9, x10, x11, x12] [] w Q = ((a6 < a8 → Q (some (vi (-1))) w) ∧ (¬ (a6 < a8) → T d 244 174 [x0, x1, x2, x3, x4, x5, some (vi a6), x7, some (vi a8), some (vi (-1)), some (vi 0), x11, x12] [] w Q)) := by
  rw [T_iload_8 c244_161, T_iload_6 c244_163, T_icmp_gt 278 c244_165 rfl, T_sipush c244_278, T_ireti c244_279 (by decide +kernel), T_sipush c244_168, T_istore_9 c244_169, T_sipush c244_171, T_istore_10 c244_172]
  all_goals try simp only [Int.reduceToNat, true_and, Nat.reduceAdd, eq_self_iff_true]
theorem g244_174 {d : Nat} {a7 a8 a9 a10 : Int} {x1 x2 x3 x4 x5 x6 x11 x12 : Option aV} {w : aW} {Q : Option aV → aW → Prop} : T d 244 174 [some (vr 27), x1, x2, x3, x4, x5, x6, some (vi a7), some (vi a8), some (vi a9), some (vi a10), x11, x12] [] w Q = ((a7 < a10 → ((a9 = (-1) → T d 244 161 [some (vr 27), x1, x2, x3, x4, x5, x6, some (vi a7), some (vi (w32 (a8 + 1))), some (vi a9), some (vi a10), x11, x12] [] w Q) ∧ (¬ (a9 = (-1)) → Q (some (vi a9)) w))) ∧ (¬ (a7 < a10) → ((isRA 32 a8 = true ∧ (32 = 87 → (w 87 a8).toNat < 191)) ∧ (ldok (rAt w 32 a8) a10 w ∧ ((w (rAt w 32 a8) a10 = (-1) → T d 244 216 [some (vr 27), x1, x2, x3, x4, x5, x6, some (vi a7), some (vi a8), some (vi a9), some (vi a10), some (vi (w (rAt w 32 a8) a10)), x12] [] w Q) ∧ (¬ (w (rAt w 32 a8) a10 = (-1)) → ((a9 = (-1) → T d 244 212 [some (vr 27), x1, x2, x3, x4, x5, x6, some (vi a7), some (vi a8), some (vi a9), some (vi a10), some (vi (w (rAt w 32 a8) a10)), x12] [] w Q) ∧ (¬ (a9 = (-1)) → ((a9 ≤ w (rAt w 32 a8) a10 → T d 244 216 [some (vr 27), x1, x2, x3, x4, x5, x6, some (vi a7), some (vi a8), some (vi a9), some (vi a10), some (vi (w (rAt w 32 a8) a10)), x12] [] w Q) ∧ (¬ (a9 ≤ w (rAt w 32 a8) a10) → T d 244 212 [some (vr 27), x1, x2, x3, x4, x5, x6, some (vi a7), some (vi a8), some (vi a9), some (vi a10), some (vi (w (rAt w 32 a8) a10)), x12] [] w Q)))))))))) := by
  rw [T_iload_10 c244_174, T_iload_7 c244_176, T_icmp_gt 263 c244_178 rfl, T_iload_9 c244_263, T_sipush c244_265, T_icmp_eq 272 c244_266 rfl, T_iinc_8 c244_272, T_goto 161 c244_275 rfl, T_iload_9 c244_269, T_ireti c244_271 (by decide +kernel), T_aload_0 c244_181, T_getR 10 6 6 c244_182 rfl rfl rfl rfl, rf_27_6, T_iload_8 c244_185, T_aald c244_187, T_iload_10 c244_188, T_iald c244_190, T_istore_11 c244_191, T_iload_11 c244_193, T_sipush c244_195, T_icmp_eq 216 c244_196 rfl, T_iload_9 c244_199, T_sipush c244_201, T_icmp_eq 212 c244_202 rfl, T_iload_11 c244_205, T_iload_9 c244_207, T_icmp_ge 216 c244_209 rfl]
  all_goals try simp only [Int.reduceToNat, lay_27, true_and, Nat.reduceAdd, eq_self_iff_true]
theorem g244_212 {d : Nat} {x0 x1 x2 x3 x4 x5 x6 x7 x8 x9 x10 x11 x12 : Option aV} {w : aW} {Q : Option aV → aW → Prop} : T d 244 212 [x0, x1, x2, x3, x4, x5, x6, x7, x8, x9, x10, x11, x12] [] w Q = T d 244 217 [x0, x1, x2, x3, x4, x5, x6, x7, x8, x9, x10, x11, x12] [vi 1] w Q := by
  rw [T_sipush c244_212, T_goto 217 c244_213 rfl]
  all_goals try simp only [true_and, Nat.reduceAdd, eq_self_iff_true]
theorem g244_216 {d : Nat} {x0 x1 x2 x3 x4 x5 x6 x7 x8 x9 x10 x11 x12 : Option aV} {w : aW} {Q : Option aV → aW → Prop} : T d 244 216 [x0, x1, x2, x3, x4, x5, x6, x7, x8, x9, x10, x11, x12] [] w Q = T d 244 217 [x0, x1, x2, x3, x4, x5, x6, x7, x8, x9, x10, x11, x12] [vi 0] w Q := by
  rw [T_sipush c244_216]
  all_goals try simp only [true_and, Nat.reduceAdd, eq_self_iff_true]
theorem g244_217 {d : Nat} {a4 a5 a6 a7 a8 a10 s0 : Int} {x0 x2 x9 x11 x12 : Option aV} {w : aW} {Q : Option aV → aW → Prop} : T d 244 217 [x0, some (vr 69), x2, some (vr 16), some (vi a4), some (vi a5), some (vi a6), some (vi a7), some (vi a8), x9, some (vi a10), x11, x12] [vi s0] w Q = ((s0 = 0 → T d 244 257 [x0, some (vr 69), x2, some (vr 16), some (vi a4), some (vi a5), some (vi a6), some (vi a7), some (vi a8), x9, some (vi a10), x11, some (vi s0)] [] w Q) ∧ (¬ (s0 = 0) → ((a6 ≤ a8 → T d 244 247 [x0, some (vr 69), x2, some (vr 16), some (vi a4), some (vi a5), some (vi a6), some (vi a7), some (vi a8), x9, some (vi a10), x11, some (vi s0)] [vi 0, vi (w32 (a7 - a10)), vi a5, vi a4, vr 16, vr 69] w Q) ∧ (¬ (a6 ≤ a8) → T d 244 247 [x0, some (vr 69), x2, some (vr 16), some (vi a4), some (vi a5), some (vi a6), some (vi a7), some (vi a8), x9, some (vi a10), x11, some (vi s0)] [vi 1, vi (w32 (a7 - a10)), vi a5, vi a4, vr 16, vr 69] w Q)))) := by
  rw [T_istore_12 c244_217, T_iload_12 c244_219, T_if_eq 257 c244_221 rfl, T_aload_1 c244_224, T_aload_3 c244_225, T_iload_4 c244_226, T_iload_5 c244_228, T_iload_7 c244_230, T_iload_10 c244_232, T_isub c244_234, T_iload_8 c244_235, T_iload_6 c244_237, T_icmp_ge 246 c244_239 rfl, T_sipush c244_246, T_sipush c244_242, T_goto 247 c244_243 rfl]
  all_goals try simp only [Int.reduceToNat, true_and, Nat.reduceAdd, eq_self_iff_true]
theorem g244_247 {d : Nat} {s2 s3 s4 s5 : Int} {s0 s1 : Nat} {x0 x1 x2 x3 x4 x5 x6 x7 x8 x9 x10 x11 x12 : Option aV} {w : aW} {Q : Option aV → aW → Prop} : T (d + 1) 244 247 [x0, x1, x2, x3, x4, x5, x6, x7, x8, x9, x10, x11, x12] [vi s5, vi s4, vi s3, vi s2, vr s1, vr s0] w Q = T d 290 0 [some (vr s0), some (vr s1), some (vi s2), some (vi s3), some (vi s4), some (vi s5)] [] w (fun r w1 => T (d + 1) 244 250 [x0, x1, x2, x3, x4, x5, x6, x7, x8, x9, x10, x11, x12] (r.toList ++ []) w1 Q) := by
  rw [T_inv (es := [some (vr s0), some (vr s1), some (vi s2), some (vi s3), some (vi s4), some (vi s5)]) (st := [vi s5, vi s4, vi s3, vi s2, vr s1, vr s0]) (ks := [2, 2, 0, 0, 0, 0]) (n := 6) (as := [vr s0, vr s1, vi s2, vi s3, vi s4, vi s5]) (rest := []) c244_247 (by decide +kernel) (by decide +kernel) rfl rfl (Nat.le_of_ble_eq_true rfl)]
  all_goals try simp only [true_and, Nat.reduceAdd, eq_self_iff_true]
theorem g244_250 {d : Nat} {a11 s0 : Int} {x0 x1 x2 x3 x4 x5 x6 x7 x8 x9 x10 x12 : Option aV} {w : aW} {Q : Option aV → aW → Prop} : T d 244 250 [x0, x1, x2, x3, x4, x5, x6, x7, x8, x9, x10, some (vi a11), x12] [vi s0] w Q = ((s0 = 0 → T d 244 257 [x0, x1, x2, x3, x4, x5, x6, x7, x8, x9, x10, some (vi a11), x12] [] w Q) ∧ (¬ (s0 = 0) → T d 244 257 [x0, x1, x2, x3, x4, x5, x6, x7, x8, some (vi a11), x10, some (vi a11), x12] [] w Q)) := by
  rw [T_if_eq 257 c244_250 rfl, T_iload_11 c244_253, T_istore_9 c244_255]
  all_goals try simp only [Int.reduceToNat, true_and, Nat.reduceAdd, eq_self_iff_true]
theorem g244_257 {d : Nat} {a10 : Int} {x0 x1 x2 x3 x4 x5 x6 x7 x8 x9 x11 x12 : Option aV} {w : aW} {Q : Option aV → aW → Prop} : T d 244 257 [x0, x1, x2, x3, x4, x5, x6, x7, x8, x9, some (vi a10), x11, x12] [] w Q = T d 244 174 [x0, x1, x2, x3, x4, x5, x6, x7, x8, x9, some (vi (w32 (a10 + 1))), x11, x12] [] w Q := by
  rw [T_iinc_10 c244_257, T_goto 174 c244_260 rfl]
  all_goals try simp only [true_and, Nat.reduceAdd, eq_self_iff_true]
/-! 245: StringHands$Web.canWork.(LStringHands$Troupe;I)Z -/
theorem c245_0 : cd 245 0 = some (.aload 0, 1) := by decide +kernel
theorem c245_1 : cd 245 1 = some (.getfield 2086, 3) := by decide +kernel
theorem c245_4 : cd 245 4 = some (.iload 1, 1) := by decide +kernel
theorem c245_5 : cd 245 5 = some (.iaload, 1) := by decide +kernel
theorem c245_6 : cd 245 6 = some (.istore 2, 1) := by decide +kernel
theorem c245_7 : cd 245 7 = some (.aload 0, 1) := by decide +kernel
theorem c245_8 : cd 245 8 = some (.getfield 2096, 3) := by decide +kernel
theorem c245_11 : cd 245 11 = some (.iload 2, 1) := by decide +kernel
theorem c245_12 : cd 245 12 = some (.invokestatic 117, 3) := by decide +kernel
theorem c245_15 : cd 245 15 = some (.ifCond .eq 30, 3) := by decide +kernel
theorem c245_18 : cd 245 18 = some (.aload 0, 1) := by decide +kernel
theorem c245_19 : cd 245 19 = some (.getfield 2100, 3) := by decide +kernel
theorem c245_22 : cd 245 22 = some (.iload 2, 1) := by decide +kernel
theorem c245_23 : cd 245 23 = some (.invokestatic 117, 3) := by decide +kernel
theorem c245_26 : cd 245 26 = some (.sipush 1, 1) := by decide +kernel
theorem c245_27 : cd 245 27 = some (.if_icmp .ne 34, 3) := by decide +kernel
theorem c245_30 : cd 245 30 = some (.sipush 1, 1) := by decide +kernel
theorem c245_31 : cd 245 31 = some (.goto 35, 3) := by decide +kernel
theorem c245_34 : cd 245 34 = some (.sipush 0, 1) := by decide +kernel
theorem c245_35 : cd 245 35 = some (.ireturn, 1) := by decide +kernel
theorem g245_0 {d : Nat} {a1 : Int} {x2 : Option aV} {w : aW} {Q : Option aV → aW → Prop} : T (d + 1) 245 0 [some (vr 69), some (vi a1), x2] [] w Q = ((0 ≤ a1 ∧ a1 < 16) ∧ T d 117 0 [some (vi (w 69 12)), some (vi (w 73 a1))] [] w (fun r w1 => T (d + 1) 245 15 [some (vr 69), some (vi a1), some (vi (w 73 a1))] (r.toList ++ []) w1 Q)) := by
  rw [T_aload_0 c245_0, T_getR 8 9 9 c245_1 rfl rfl rfl rfl, rf_69_9, T_iload_1 c245_4, T_iald c245_5, T_istore_2 c245_6, T_aload_0 c245_7, T_getI 8 12 12 c245_8 rfl rfl rfl rfl, T_iload_2 c245_11, T_inv (es := [some (vi (w 69 12)), some (vi (w 73 a1))]) (st := [vi (w 73 a1), vi (w 69 12)]) (ks := [0, 0]) (n := 2) (as := [vi (w 69 12), vi (w 73 a1)]) (rest := []) c245_12 (by decide +kernel) (by decide +kernel) rfl rfl (Nat.le_of_ble_eq_true rfl)]
  all_goals try simp only [lay_69, ld_73, true_and, Nat.reduceAdd, eq_self_iff_true]
theorem g245_15 {d : Nat} {a2 s0 : Int} {x1 : Option aV} {w : aW} {Q : Option aV → aW → Prop} : T (d + 1) 245 15 [some (vr 69), x1, some (vi a2)] [vi s0] w Q = ((s0 = 0 → T (d + 1) 245 30 [some (vr 69), x1, some (vi a2)] [] w Q) ∧ (¬ (s0 = 0) → T d 117 0 [some (vi (w 69 13)), some (vi a2)] [] w (fun r w1 => T (d + 1) 245 26 [some (vr 69), x1, some (vi a2)] (r.toList ++ []) w1 Q))) := by
  rw [T_if_eq 30 c245_15 rfl, T_aload_0 c245_18, T_getI 8 13 13 c245_19 rfl rfl rfl rfl, T_iload_2 c245_22, T_inv (es := [some (vi (w 69 13)), some (vi a2)]) (st := [vi a2, vi (w 69 13)]) (ks := [0, 0]) (n := 2) (as := [vi (w 69 13), vi a2]) (rest := []) c245_23 (by decide +kernel) (by decide +kernel) rfl rfl (Nat.le_of_ble_eq_true rfl)]
  all_goals try simp only [Int.reduceToNat, lay_69, true_and, Nat.reduceAdd, eq_self_iff_true]
theorem g245_26 {d : Nat} {s0 : Int} {x0 x1 x2 : Option aV} {w : aW} {Q : Option aV → aW → Prop} : T d 245 26 [x0, x1, x2] [vi s0] w Q = ((¬ s0 = 1 → T d 245 35 [x0, x1, x2] [vi 0] w Q) ∧ (¬ (¬ s0 = 1) → T d 245 30 [x0, x1, x2] [] w Q)) := by
  rw [T_sipush c245_26, T_icmp_ne 34 c245_27 rfl, T_sipush c245_34]
  all_goals try simp only [Int.reduceToNat, true_and, Nat.reduceAdd, eq_self_iff_true]
theorem g245_30 {d : Nat} {x0 x1 x2 : Option aV} {w : aW} {Q : Option aV → aW → Prop} : T d 245 30 [x0, x1, x2] [] w Q = T d 245 35 [x0, x1, x2] [vi 1] w Q := by
  rw [T_sipush c245_30, T_goto 35 c245_31 rfl]
  all_goals try simp only [true_and, Nat.reduceAdd, eq_self_iff_true]
theorem g245_35 {d : Nat} {s0 : Int} {x0 x1 x2 : Option aV} {w : aW} {Q : Option aV → aW → Prop} : T d 245 35 [x0, x1, x2] [vi s0] w Q = ((s0 = 0 ∨ s0 = 1) ∧ Q (some (vi s0)) w) := by
  rw [T_iretz c245_35 (by decide +kernel)]
  all_goals try simp only [true_and, Nat.reduceAdd, eq_self_iff_true]
/-! 246: StringHands$Web.addRule.(LStringHands$Troupe;I)V -/
theorem c246_0 : cd 246 0 = some (.sipush 0, 1) := by decide +kernel
theorem c246_1 : cd 246 1 = some (.istore 3, 1) := by decide +kernel
theorem c246_2 : cd 246 2 = some (.iload 3, 1) := by decide +kernel
theorem c246_3 : cd 246 3 = some (.aload 1, 1) := by decide +kernel
theorem c246_4 : cd 246 4 = some (.getfield 2052, 3) := by decide +kernel
theorem c246_7 : cd 246 7 = some (.if_icmp .ge 41, 3) := by decide +kernel
theorem c246_10 : cd 246 10 = some (.aload 1, 1) := by decide +kernel
theorem c246_11 : cd 246 11 = some (.iload 2, 1) := by decide +kernel
theorem c246_12 : cd 246 12 = some (.invokestatic 291, 3) := by decide +kernel
theorem c246_15 : cd 246 15 = some (.iload 3, 1) := by decide +kernel
theorem c246_16 : cd 246 16 = some (.invokestatic 117, 3) := by decide +kernel
theorem c246_19 : cd 246 19 = some (.sipush 1, 1) := by decide +kernel
theorem c246_20 : cd 246 20 = some (.if_icmp .ne 35, 3) := by decide +kernel
theorem c246_23 : cd 246 23 = some (.aload 0, 1) := by decide +kernel
theorem c246_24 : cd 246 24 = some (.getfield 2306, 3) := by decide +kernel
theorem c246_27 : cd 246 27 = some (.iload 3, 1) := by decide +kernel
theorem c246_28 : cd 246 28 = some (.dup2, 1) := by decide +kernel
theorem c246_29 : cd 246 29 = some (.iaload, 1) := by decide +kernel
theorem c246_30 : cd 246 30 = some (.sipush 1, 1) := by decide +kernel
theorem c246_31 : cd 246 31 = some (.iload 2, 1) := by decide +kernel
theorem c246_32 : cd 246 32 = some (.ishl, 1) := by decide +kernel
theorem c246_33 : cd 246 33 = some (.ior, 1) := by decide +kernel
theorem c246_34 : cd 246 34 = some (.iastore, 1) := by decide +kernel
theorem c246_35 : cd 246 35 = some (.iinc 3 1, 3) := by decide +kernel
theorem c246_38 : cd 246 38 = some (.goto 2, 3) := by decide +kernel
theorem c246_41 : cd 246 41 = some (.return_, 1) := by decide +kernel
theorem g246_0 {d : Nat} {x0 x1 x2 x3 : Option aV} {w : aW} {Q : Option aV → aW → Prop} : T d 246 0 [x0, x1, x2, x3] [] w Q = T d 246 2 [x0, x1, x2, some (vi 0)] [] w Q := by
  rw [T_sipush c246_0, T_istore_3 c246_1]
  all_goals try simp only [true_and, Nat.reduceAdd, eq_self_iff_true]
theorem g246_2 {d : Nat} {a2 a3 : Int} {x0 : Option aV} {w : aW} {Q : Option aV → aW → Prop} : T (d + 1) 246 2 [x0, some (vr 69), some (vi a2), some (vi a3)] [] w Q = ((w 69 1 ≤ a3 → Q none w) ∧ (¬ (w 69 1 ≤ a3) → T d 291 0 [some (vr 69), some (vi a2)] [] w (fun r w1 => T (d + 1) 246 15 [x0, some (vr 69), some (vi a2), some (vi a3)] (r.toList ++ []) w1 Q))) := by
  rw [T_iload_3 c246_2, T_aload_1 c246_3, T_getI 8 1 1 c246_4 rfl rfl rfl rfl, T_icmp_ge 41 c246_7 rfl, T_vret c246_41 (by decide +kernel), T_aload_1 c246_10, T_iload_2 c246_11, T_inv (es := [some (vr 69), some (vi a2)]) (st := [vi a2, vr 69]) (ks := [2, 0]) (n := 2) (as := [vr 69, vi a2]) (rest := []) c246_12 (by decide +kernel) (by decide +kernel) rfl rfl (Nat.le_of_ble_eq_true rfl)]
  all_goals try simp only [Int.reduceToNat, lay_69, true_and, Nat.reduceAdd, eq_self_iff_true]
theorem g246_15 {d : Nat} {a3 s0 : Int} {x0 x1 x2 : Option aV} {w : aW} {Q : Option aV → aW → Prop} : T (d + 1) 246 15 [x0, x1, x2, some (vi a3)] [vi s0] w Q = T d 117 0 [some (vi s0), some (vi a3)] [] w (fun r w1 => T (d + 1) 246 19 [x0, x1, x2, some (vi a3)] (r.toList ++ []) w1 Q) := by
  rw [T_iload_3 c246_15, T_inv (es := [some (vi s0), some (vi a3)]) (st := [vi a3, vi s0]) (ks := [0, 0]) (n := 2) (as := [vi s0, vi a3]) (rest := []) c246_16 (by decide +kernel) (by decide +kernel) rfl rfl (Nat.le_of_ble_eq_true rfl)]
  all_goals try simp only [true_and, Nat.reduceAdd, eq_self_iff_true]
theorem g246_19 {d : Nat} {a2 a3 s0 : Int} {x1 : Option aV} {w : aW} {Q : Option aV → aW → Prop} : T d 246 19 [some (vr 50), x1, some (vi a2), some (vi a3)] [vi s0] w Q = ((¬ s0 = 1 → T d 246 35 [some (vr 50), x1, some (vi a2), some (vi a3)] [] w Q) ∧ (¬ (¬ s0 = 1) → ((0 ≤ a3 ∧ a3 < 10) ∧ ((0 ≤ a3 ∧ a3 < 10) ∧ T d 246 35 [some (vr 50), x1, some (vi a2), some (vi a3)] [] (iup w 51 a3 (jor (w 51 a3) (jshl 1 a2))) Q)))) := by
  rw [T_sipush c246_19, T_icmp_ne 35 c246_20 rfl, T_aload_0 c246_23, T_getR 9 0 0 c246_24 rfl rfl rfl rfl, rf_50_0, T_iload_3 c246_27, T_dup2 c246_28, T_iald c246_29, T_sipush c246_30, T_iload_2 c246_31, T_ishl c246_32, T_ior c246_33, T_iast c246_34]
  all_goals try simp only [Int.reduceToNat, ia0_51, lay_50, ld_51, true_and, Nat.reduceAdd, eq_self_iff_true]
theorem g246_35 {d : Nat} {a3 : Int} {x0 x1 x2 : Option aV} {w : aW} {Q : Option aV → aW → Prop} : T d 246 35 [x0, x1, x2, some (vi a3)] [] w Q = T d 246 2 [x0, x1, x2, some (vi (w32 (a3 + 1)))] [] w Q := by
  rw [T_iinc_3 c246_35, T_goto 2 c246_38 rfl]
  all_goals try simp only [true_and, Nat.reduceAdd, eq_self_iff_true]
/-! 247: StringHands$Web.leadsOutByRule.(LStringHands$Troupe;I)Z -/
theorem c247_0 : cd 247 0 = some (.sipush 0, 1) := by decide +kernel
theorem c247_1 : cd 247 1 = some (.istore 2, 1) := by decide +kernel
theorem c247_2 : cd 247 2 = some (.iload 2, 1) := by decide +kernel
theorem c247_3 : cd 247 3 = some (.aload 0, 1) := by decide +kernel
theorem c247_4 : cd 247 4 = some (.getfield 2052, 3) := by decide +kernel
theorem c247_7 : cd 247 7 = some (.if_icmp .ge 36, 3) := by decide +kernel
theorem c247_10 : cd 247 10 = some (.iload 1, 1) := by decide +kernel
theorem c247_11 : cd 247 11 = some (.iload 2, 1) := by decide +kernel
theorem c247_12 : cd 247 12 = some (.invokestatic 117, 3) := by decide +kernel
theorem c247_15 : cd 247 15 = some (.ifCond .ne 30, 3) := by decide +kernel
theorem c247_18 : cd 247 18 = some (.aload 0, 1) := by decide +kernel
theorem c247_19 : cd 247 19 = some (.iload 2, 1) := by decide +kernel
theorem c247_20 : cd 247 20 = some (.invokestatic 291, 3) := by decide +kernel
theorem c247_23 : cd 247 23 = some (.iload 1, 1) := by decide +kernel
theorem c247_24 : cd 247 24 = some (.iand, 1) := by decide +kernel
theorem c247_25 : cd 247 25 = some (.ifCond .eq 30, 3) := by decide +kernel
theorem c247_28 : cd 247 28 = some (.sipush 1, 1) := by decide +kernel
theorem c247_29 : cd 247 29 = some (.ireturn, 1) := by decide +kernel
theorem c247_30 : cd 247 30 = some (.iinc 2 1, 3) := by decide +kernel
theorem c247_33 : cd 247 33 = some (.goto 2, 3) := by decide +kernel
theorem c247_36 : cd 247 36 = some (.sipush 0, 1) := by decide +kernel
theorem c247_37 : cd 247 37 = some (.ireturn, 1) := by decide +kernel
theorem g247_0 {d : Nat} {x0 x1 x2 : Option aV} {w : aW} {Q : Option aV → aW → Prop} : T d 247 0 [x0, x1, x2] [] w Q = T d 247 2 [x0, x1, some (vi 0)] [] w Q := by
  rw [T_sipush c247_0, T_istore_2 c247_1]
  all_goals try simp only [true_and, Nat.reduceAdd, eq_self_iff_true]
theorem g247_2 {d : Nat} {a1 a2 : Int} {w : aW} {Q : Option aV → aW → Prop} : T (d + 1) 247 2 [some (vr 69), some (vi a1), some (vi a2)] [] w Q = ((w 69 1 ≤ a2 → Q (some (vi 0)) w) ∧ (¬ (w 69 1 ≤ a2) → T d 117 0 [some (vi a1), some (vi a2)] [] w (fun r w1 => T (d + 1) 247 15 [some (vr 69), some (vi a1), some (vi a2)] (r.toList ++ []) w1 Q))) := by
  rw [T_iload_2 c247_2, T_aload_0 c247_3, T_getI 8 1 1 c247_4 rfl rfl rfl rfl, T_icmp_ge 36 c247_7 rfl, T_sipush c247_36, T_iretz c247_37 (by decide +kernel), T_iload_1 c247_10, T_iload_2 c247_11, T_inv (es := [some (vi a1), some (vi a2)]) (st := [vi a2, vi a1]) (ks := [0, 0]) (n := 2) (as := [vi a1, vi a2]) (rest := []) c247_12 (by decide +kernel) (by decide +kernel) rfl rfl (Nat.le_of_ble_eq_true rfl)]
  all_goals try simp only [Int.reduceToNat, lay_69, true_and, Nat.reduceAdd, eq_self_iff_true, zero_eq_1, one_eq_0, true_or, or_true]
theorem g247_15 {d : Nat} {a2 s0 : Int} {x1 : Option aV} {w : aW} {Q : Option aV → aW → Prop} : T (d + 1) 247 15 [some (vr 69), x1, some (vi a2)] [vi s0] w Q = ((¬ s0 = 0 → T (d + 1) 247 30 [some (vr 69), x1, some (vi a2)] [] w Q) ∧ (¬ (¬ s0 = 0) → T d 291 0 [some (vr 69), some (vi a2)] [] w (fun r w1 => T (d + 1) 247 23 [some (vr 69), x1, some (vi a2)] (r.toList ++ []) w1 Q))) := by
  rw [T_if_ne 30 c247_15 rfl, T_aload_0 c247_18, T_iload_2 c247_19, T_inv (es := [some (vr 69), some (vi a2)]) (st := [vi a2, vr 69]) (ks := [2, 0]) (n := 2) (as := [vr 69, vi a2]) (rest := []) c247_20 (by decide +kernel) (by decide +kernel) rfl rfl (Nat.le_of_ble_eq_true rfl)]
  all_goals try simp only [Int.reduceToNat, true_and, Nat.reduceAdd, eq_self_iff_true]
theorem g247_23 {d : Nat} {a1 s0 : Int} {x0 x2 : Option aV} {w : aW} {Q : Option aV → aW → Prop} : T d 247 23 [x0, some (vi a1), x2] [vi s0] w Q = ((jand s0 a1 = 0 → T d 247 30 [x0, some (vi a1), x2] [] w Q) ∧ (¬ (jand s0 a1 = 0) → Q (some (vi 1)) w)) := by
  rw [T_iload_1 c247_23, T_iand c247_24, T_if_eq 30 c247_25 rfl, T_sipush c247_28, T_iretz c247_29 (by decide +kernel)]
  all_goals try simp only [Int.reduceToNat, true_and, Nat.reduceAdd, eq_self_iff_true, zero_eq_1, one_eq_0, true_or, or_true]
theorem g247_30 {d : Nat} {a2 : Int} {x0 x1 : Option aV} {w : aW} {Q : Option aV → aW → Prop} : T d 247 30 [x0, x1, some (vi a2)] [] w Q = T d 247 2 [x0, x1, some (vi (w32 (a2 + 1)))] [] w Q := by
  rw [T_iinc_2 c247_30, T_goto 2 c247_33 rfl]
  all_goals try simp only [true_and, Nat.reduceAdd, eq_self_iff_true]
/-! 248: StringHands$Web.stringsOut.(LStringHands$Troupe;LStringHands$Stage;I)I -/
theorem c248_0 : cd 248 0 = some (.sipush 0, 1) := by decide +kernel
theorem c248_1 : cd 248 1 = some (.istore 3, 1) := by decide +kernel
theorem c248_2 : cd 248 2 = some (.sipush 0, 1) := by decide +kernel
theorem c248_3 : cd 248 3 = some (.istore 4, 2) := by decide +kernel
theorem c248_5 : cd 248 5 = some (.iload 4, 2) := by decide +kernel
theorem c248_7 : cd 248 7 = some (.aload 0, 1) := by decide +kernel
theorem c248_8 : cd 248 8 = some (.getfield 2056, 3) := by decide +kernel
theorem c248_11 : cd 248 11 = some (.if_icmp .ge 86, 3) := by decide +kernel
theorem c248_14 : cd 248 14 = some (.iload 2, 1) := by decide +kernel
theorem c248_15 : cd 248 15 = some (.aload 1, 1) := by decide +kernel
theorem c248_16 : cd 248 16 = some (.getfield 1546, 3) := by decide +kernel
theorem c248_19 : cd 248 19 = some (.iload 4, 2) := by decide +kernel
theorem c248_21 : cd 248 21 = some (.iaload, 1) := by decide +kernel
theorem c248_22 : cd 248 22 = some (.invokestatic 117, 3) := by decide +kernel
theorem c248_25 : cd 248 25 = some (.sipush 1, 1) := by decide +kernel
theorem c248_26 : cd 248 26 = some (.if_icmp .ne 47, 3) := by decide +kernel
theorem c248_29 : cd 248 29 = some (.iload 2, 1) := by decide +kernel
theorem c248_30 : cd 248 30 = some (.aload 0, 1) := by decide +kernel
theorem c248_31 : cd 248 31 = some (.getfield 2086, 3) := by decide +kernel
theorem c248_34 : cd 248 34 = some (.iload 4, 2) := by decide +kernel
theorem c248_36 : cd 248 36 = some (.iaload, 1) := by decide +kernel
theorem c248_37 : cd 248 37 = some (.invokestatic 117, 3) := by decide +kernel
theorem c248_40 : cd 248 40 = some (.ifCond .ne 47, 3) := by decide +kernel
theorem c248_43 : cd 248 43 = some (.sipush 1, 1) := by decide +kernel
theorem c248_44 : cd 248 44 = some (.goto 48, 3) := by decide +kernel
theorem c248_47 : cd 248 47 = some (.sipush 0, 1) := by decide +kernel
theorem c248_48 : cd 248 48 = some (.istore 5, 2) := by decide +kernel
theorem c248_50 : cd 248 50 = some (.iload 5, 2) := by decide +kernel
theorem c248_52 : cd 248 52 = some (.ifCond .eq 80, 3) := by decide +kernel
theorem c248_55 : cd 248 55 = some (.aload 1, 1) := by decide +kernel
theorem c248_56 : cd 248 56 = some (.getfield 1540, 3) := by decide +kernel
theorem c248_59 : cd 248 59 = some (.iload 4, 2) := by decide +kernel
theorem c248_61 : cd 248 61 = some (.invokestatic 117, 3) := by decide +kernel
theorem c248_64 : cd 248 64 = some (.sipush 1, 1) := by decide +kernel
theorem c248_65 : cd 248 65 = some (.if_icmp .ne 80, 3) := by decide +kernel
theorem c248_68 : cd 248 68 = some (.aload 0, 1) := by decide +kernel
theorem c248_69 : cd 248 69 = some (.iload 4, 2) := by decide +kernel
theorem c248_71 : cd 248 71 = some (.invokestatic 245, 3) := by decide +kernel
theorem c248_74 : cd 248 74 = some (.ifCond .eq 80, 3) := by decide +kernel
theorem c248_77 : cd 248 77 = some (.iinc 3 1, 3) := by decide +kernel
theorem c248_80 : cd 248 80 = some (.iinc 4 1, 3) := by decide +kernel
theorem c248_83 : cd 248 83 = some (.goto 5, 3) := by decide +kernel
theorem c248_86 : cd 248 86 = some (.iload 3, 1) := by decide +kernel
theorem c248_87 : cd 248 87 = some (.ireturn, 1) := by decide +kernel
theorem g248_0 {d : Nat} {x0 x1 x2 x3 x4 x5 : Option aV} {w : aW} {Q : Option aV → aW → Prop} : T d 248 0 [x0, x1, x2, x3, x4, x5] [] w Q = T d 248 5 [x0, x1, x2, some (vi 0), some (vi 0), x5] [] w Q := by
  rw [T_sipush c248_0, T_istore_3 c248_1, T_sipush c248_2, T_istore_4 c248_3]
  all_goals try simp only [true_and, Nat.reduceAdd, eq_self_iff_true]
theorem g248_5 {d : Nat} {a2 a3 a4 : Int} {r1 : Nat} {x5 : Option aV} {w : aW} {Q : Option aV → aW → Prop} : T (d + 1) 248 5 [some (vr 69), some (vr r1), some (vi a2), some (vi a3), some (vi a4), x5] [] w Q = ((w 69 2 ≤ a4 → Q (some (vi a3)) w) ∧ (¬ (w 69 2 ≤ a4) → (lay r1 = (6, 0) ∧ (ldok (rfA r1 2) a4 w ∧ T d 117 0 [some (vi a2), some (vi (w (rfA r1 2) a4))] [] w (fun r w1 => T (d + 1) 248 25 [some (vr 69), some (vr r1), some (vi a2), some (vi a3), some (vi a4), x5] (r.toList ++ []) w1 Q))))) := by
  rw [T_iload_4 c248_5, T_aload_0 c248_7, T_getI 8 2 2 c248_8 rfl rfl rfl rfl, T_icmp_ge 86 c248_11 rfl, T_iload_3 c248_86, T_ireti c248_87 (by decide +kernel), T_iload_2 c248_14, T_aload_1 c248_15, T_getR 6 2 2 c248_16 rfl rfl rfl rfl, T_iload_4 c248_19, T_iald c248_21, T_inv (es := [some (vi a2), some (vi (w (rfA r1 2) a4))]) (st := [vi (w (rfA r1 2) a4), vi a2]) (ks := [0, 0]) (n := 2) (as := [vi a2, vi (w (rfA r1 2) a4)]) (rest := []) c248_22 (by decide +kernel) (by decide +kernel) rfl rfl (Nat.le_of_ble_eq_true rfl)]
  all_goals try simp only [Int.reduceToNat, lay_69, true_and, Nat.reduceAdd, eq_self_iff_true]
theorem g248_25 {d : Nat} {a2 a4 s0 : Int} {x1 x3 x5 : Option aV} {w : aW} {Q : Option aV → aW → Prop} : T (d + 1) 248 25 [some (vr 69), x1, some (vi a2), x3, some (vi a4), x5] [vi s0] w Q = ((¬ s0 = 1 → T (d + 1) 248 47 [some (vr 69), x1, some (vi a2), x3, some (vi a4), x5] [] w Q) ∧ (¬ (¬ s0 = 1) → ((0 ≤ a4 ∧ a4 < 16) ∧ T d 117 0 [some (vi a2), some (vi (w 73 a4))] [] w (fun r w1 => T (d + 1) 248 40 [some (vr 69), x1, some (vi a2), x3, some (vi a4), x5] (r.toList ++ []) w1 Q)))) := by
  rw [T_sipush c248_25, T_icmp_ne 47 c248_26 rfl, T_iload_2 c248_29, T_aload_0 c248_30, T_getR 8 9 9 c248_31 rfl rfl rfl rfl, rf_69_9, T_iload_4 c248_34, T_iald c248_36, T_inv (es := [some (vi a2), some (vi (w 73 a4))]) (st := [vi (w 73 a4), vi a2]) (ks := [0, 0]) (n := 2) (as := [vi a2, vi (w 73 a4)]) (rest := []) c248_37 (by decide +kernel) (by decide +kernel) rfl rfl (Nat.le_of_ble_eq_true rfl)]
  all_goals try simp only [Int.reduceToNat, lay_69, ld_73, true_and, Nat.reduceAdd, eq_self_iff_true]
theorem g248_40 {d : Nat} {s0 : Int} {x0 x1 x2 x3 x4 x5 : Option aV} {w : aW} {Q : Option aV → aW → Prop} : T d 248 40 [x0, x1, x2, x3, x4, x5] [vi s0] w Q = ((¬ s0 = 0 → T d 248 47 [x0, x1, x2, x3, x4, x5] [] w Q) ∧ (¬ (¬ s0 = 0) → T d 248 48 [x0, x1, x2, x3, x4, x5] [vi 1] w Q)) := by
  rw [T_if_ne 47 c248_40 rfl, T_sipush c248_43, T_goto 48 c248_44 rfl]
  all_goals try simp only [Int.reduceToNat, true_and, Nat.reduceAdd, eq_self_iff_true]
theorem g248_47 {d : Nat} {x0 x1 x2 x3 x4 x5 : Option aV} {w : aW} {Q : Option aV → aW → Prop} : T d 248 47 [x0, x1, x2, x3, x4, x5] [] w Q = T d 248 48 [x0, x1, x2, x3, x4, x5] [vi 0] w Q := by
  rw [T_sipush c248_47]
  all_goals try simp only [true_and, Nat.reduceAdd, eq_self_iff_true]
theorem g248_48 {d : Nat} {a4 s0 : Int} {r1 : Nat} {x0 x2 x3 x5 : Option aV} {w : aW} {Q : Option aV → aW → Prop} : T (d + 1) 248 48 [x0, some (vr r1), x2, x3, some (vi a4), x5] [vi s0] w Q = ((s0 = 0 → T (d + 1) 248 80 [x0, some (vr r1), x2, x3, some (vi a4), some (vi s0)] [] w Q) ∧ (¬ (s0 = 0) → (lay r1 = (6, 0) ∧ T d 117 0 [some (vi (w r1 1)), some (vi a4)] [] w (fun r w1 => T (d + 1) 248 64 [x0, some (vr r1), x2, x3, some (vi a4), some (vi s0)] (r.toList ++ []) w1 Q)))) := by
  rw [T_istore_5 c248_48, T_iload_5 c248_50, T_if_eq 80 c248_52 rfl, T_aload_1 c248_55, T_getI 6 1 1 c248_56 rfl rfl rfl rfl, T_iload_4 c248_59, T_inv (es := [some (vi (w r1 1)), some (vi a4)]) (st := [vi a4, vi (w r1 1)]) (ks := [0, 0]) (n := 2) (as := [vi (w r1 1), vi a4]) (rest := []) c248_61 (by decide +kernel) (by decide +kernel) rfl rfl (Nat.le_of_ble_eq_true rfl)]
  all_goals try simp only [Int.reduceToNat, true_and, Nat.reduceAdd, eq_self_iff_true]
theorem g248_64 {d : Nat} {a4 s0 : Int} {x1 x2 x3 x5 : Option aV} {w : aW} {Q : Option aV → aW → Prop} : T (d + 1) 248 64 [some (vr 69), x1, x2, x3, some (vi a4), x5] [vi s0] w Q = ((¬ s0 = 1 → T (d + 1) 248 80 [some (vr 69), x1, x2, x3, some (vi a4), x5] [] w Q) ∧ (¬ (¬ s0 = 1) → T d 245 0 [some (vr 69), some (vi a4), none] [] w (fun r w1 => T (d + 1) 248 74 [some (vr 69), x1, x2, x3, some (vi a4), x5] (r.toList ++ []) w1 Q))) := by
  rw [T_sipush c248_64, T_icmp_ne 80 c248_65 rfl, T_aload_0 c248_68, T_iload_4 c248_69, T_inv (es := [some (vr 69), some (vi a4), none]) (st := [vi a4, vr 69]) (ks := [2, 0]) (n := 3) (as := [vr 69, vi a4]) (rest := []) c248_71 (by decide +kernel) (by decide +kernel) rfl rfl (Nat.le_of_ble_eq_true rfl)]
  all_goals try simp only [Int.reduceToNat, true_and, Nat.reduceAdd, eq_self_iff_true]
theorem g248_74 {d : Nat} {a3 s0 : Int} {x0 x1 x2 x4 x5 : Option aV} {w : aW} {Q : Option aV → aW → Prop} : T d 248 74 [x0, x1, x2, some (vi a3), x4, x5] [vi s0] w Q = ((s0 = 0 → T d 248 80 [x0, x1, x2, some (vi a3), x4, x5] [] w Q) ∧ (¬ (s0 = 0) → T d 248 80 [x0, x1, x2, some (vi (w32 (a3 + 1))), x4, x5] [] w Q)) := by
  rw [T_if_eq 80 c248_74 rfl, T_iinc_3 c248_77]
  all_goals try simp only [Int.reduceToNat, true_and, Nat.reduceAdd, eq_self_iff_true]
theorem g248_80 {d : Nat} {a4 : Int} {x0 x1 x2 x3 x5 : Option aV} {w : aW} {Q : Option aV → aW → Prop} : T d 248 80 [x0, x1, x2, x3, some (vi a4), x5] [] w Q = T d 248 5 [x0, x1, x2, x3, some (vi (w32 (a4 + 1))), x5] [] w Q := by
  rw [T_iinc_4 c248_80, T_goto 5 c248_83 rfl]
  all_goals try simp only [true_and, Nat.reduceAdd, eq_self_iff_true]
/-! 249: StringHands$Scenes.isSo.(II)Z -/
theorem c249_0 : cd 249 0 = some (.iload 2, 1) := by decide +kernel
theorem c249_1 : cd 249 1 = some (.aload 0, 1) := by decide +kernel
theorem c249_2 : cd 249 2 = some (.getfield 1294, 3) := by decide +kernel
theorem c249_5 : cd 249 5 = some (.iload 1, 1) := by decide +kernel
theorem c249_6 : cd 249 6 = some (.iaload, 1) := by decide +kernel
theorem c249_7 : cd 249 7 = some (.iand, 1) := by decide +kernel
theorem c249_8 : cd 249 8 = some (.aload 0, 1) := by decide +kernel
theorem c249_9 : cd 249 9 = some (.getfield 1298, 3) := by decide +kernel
theorem c249_12 : cd 249 12 = some (.iload 1, 1) := by decide +kernel
theorem c249_13 : cd 249 13 = some (.iaload, 1) := by decide +kernel
theorem c249_14 : cd 249 14 = some (.if_icmp .ne 21, 3) := by decide +kernel
theorem c249_17 : cd 249 17 = some (.sipush 1, 1) := by decide +kernel
theorem c249_18 : cd 249 18 = some (.goto 22, 3) := by decide +kernel
theorem c249_21 : cd 249 21 = some (.sipush 0, 1) := by decide +kernel
theorem c249_22 : cd 249 22 = some (.ireturn, 1) := by decide +kernel
theorem g249_0 {d : Nat} {a1 a2 : Int} {w : aW} {Q : Option aV → aW → Prop} : T d 249 0 [some (vr 57), some (vi a1), some (vi a2)] [] w Q = ((0 ≤ a1 ∧ a1 < 12) ∧ ((0 ≤ a1 ∧ a1 < 12) ∧ ((¬ jand a2 (w 60 a1) = w 61 a1 → T d 249 22 [some (vr 57), some (vi a1), some (vi a2)] [vi 0] w Q) ∧ (¬ (¬ jand a2 (w 60 a1) = w 61 a1) → T d 249 22 [some (vr 57), some (vi a1), some (vi a2)] [vi 1] w Q)))) := by
  rw [T_iload_2 c249_0, T_aload_0 c249_1, T_getR 5 3 3 c249_2 rfl rfl rfl rfl, rf_57_3, T_iload_1 c249_5, T_iald c249_6, T_iand c249_7, T_aload_0 c249_8, T_getR 5 4 4 c249_9 rfl rfl rfl rfl, rf_57_4, T_iload_1 c249_12, T_iald c249_13, T_icmp_ne 21 c249_14 rfl, T_sipush c249_21, T_sipush c249_17, T_goto 22 c249_18 rfl]
  all_goals try simp only [Int.reduceToNat, lay_57, ld_60, ld_61, true_and, Nat.reduceAdd, eq_self_iff_true]
theorem g249_22 {d : Nat} {s0 : Int} {x0 x1 x2 : Option aV} {w : aW} {Q : Option aV → aW → Prop} : T d 249 22 [x0, x1, x2] [vi s0] w Q = ((s0 = 0 ∨ s0 = 1) ∧ Q (some (vi s0)) w) := by
  rw [T_iretz c249_22 (by decide +kernel)]
  all_goals try simp only [true_and, Nat.reduceAdd, eq_self_iff_true]
/-! 250: StringHandsModel.isAs.(IJ)Z -/
theorem c250_0 : cd 250 0 = some (.iload 0, 1) := by decide +kernel
theorem c250_1 : cd 250 1 = some (.i2l, 1) := by decide +kernel
theorem c250_2 : cd 250 2 = some (.lload 1, 1) := by decide +kernel
theorem c250_3 : cd 250 3 = some (.bipush 1024, 3) := by decide +kernel
theorem c250_6 : cd 250 6 = some (.ldiv, 1) := by decide +kernel
theorem c250_7 : cd 250 7 = some (.land, 1) := by decide +kernel
theorem c250_8 : cd 250 8 = some (.lload 1, 1) := by decide +kernel
theorem c250_9 : cd 250 9 = some (.bipush 1024, 3) := by decide +kernel
theorem c250_12 : cd 250 12 = some (.lrem, 1) := by decide +kernel
theorem c250_13 : cd 250 13 = some (.lcmp, 1) := by decide +kernel
theorem c250_14 : cd 250 14 = some (.ifCond .ne 21, 3) := by decide +kernel
theorem c250_17 : cd 250 17 = some (.sipush 1, 1) := by decide +kernel
theorem c250_18 : cd 250 18 = some (.goto 22, 3) := by decide +kernel
theorem c250_21 : cd 250 21 = some (.sipush 0, 1) := by decide +kernel
theorem c250_22 : cd 250 22 = some (.ireturn, 1) := by decide +kernel
theorem g250_0 {d : Nat} {a0 b1 : Int} {w : aW} {Q : Option aV → aW → Prop} : T d 250 0 [some (vi a0), some (vl b1), none] [] w Q = ((¬ kcmp (kand a0 (kdiv b1 1024)) (krem b1 1024) = 0 → T d 250 22 [some (vi a0), some (vl b1), none] [vi 0] w Q) ∧ (¬ (¬ kcmp (kand a0 (kdiv b1 1024)) (krem b1 1024) = 0) → T d 250 22 [some (vi a0), some (vl b1), none] [vi 1] w Q)) := by
  rw [T_iload_0 c250_0, T_i2l c250_1, T_lload_1 c250_2, T_bipush c250_3, T_ldiv c250_6, T_land c250_7, T_lload_1 c250_8, T_bipush c250_9, T_lrem c250_12, T_lcmp c250_13, T_if_ne 21 c250_14 rfl, T_sipush c250_21, T_sipush c250_17, T_goto 22 c250_18 rfl]
  all_goals try simp only [Int.reduceEq, Int.reduceToNat, ne_eq, not_false_eq_true, true_and, Nat.reduceAdd, eq_self_iff_true]
theorem g250_22 {d : Nat} {s0 : Int} {x0 x1 x2 : Option aV} {w : aW} {Q : Option aV → aW → Prop} : T d 250 22 [x0, x1, x2] [vi s0] w Q = ((s0 = 0 ∨ s0 = 1) ∧ Q (some (vi s0)) w) := by
  rw [T_iretz c250_22 (by decide +kernel)]
  all_goals try simp only [true_and, Nat.reduceAdd, eq_self_iff_true]
/-! 251: StringHands$Scenes.beatCosts.([II)V -/
theorem c251_0 : cd 251 0 = some (.aload 0, 1) := by decide +kernel
theorem c251_1 : cd 251 1 = some (.getfield 1306, 3) := by decide +kernel
theorem c251_4 : cd 251 4 = some (.sipush (-1), 1) := by decide +kernel
theorem c251_5 : cd 251 5 = some (.invokestatic 221, 3) := by decide +kernel
theorem c251_8 : cd 251 8 = some (.sipush 0, 1) := by decide +kernel
theorem c251_9 : cd 251 9 = some (.istore 3, 1) := by decide +kernel
theorem c251_10 : cd 251 10 = some (.iload 3, 1) := by decide +kernel
theorem c251_11 : cd 251 11 = some (.iload 2, 1) := by decide +kernel
theorem c251_12 : cd 251 12 = some (.if_icmp .ge 46, 3) := by decide +kernel
theorem c251_15 : cd 251 15 = some (.aload 0, 1) := by decide +kernel
theorem c251_16 : cd 251 16 = some (.getfield 1306, 3) := by decide +kernel
theorem c251_19 : cd 251 19 = some (.aload 1, 1) := by decide +kernel
theorem c251_20 : cd 251 20 = some (.iload 3, 1) := by decide +kernel
theorem c251_21 : cd 251 21 = some (.iaload, 1) := by decide +kernel
theorem c251_22 : cd 251 22 = some (.aload 0, 1) := by decide +kernel
theorem c251_23 : cd 251 23 = some (.getfield 1306, 3) := by decide +kernel
theorem c251_26 : cd 251 26 = some (.aload 1, 1) := by decide +kernel
theorem c251_27 : cd 251 27 = some (.iload 3, 1) := by decide +kernel
theorem c251_28 : cd 251 28 = some (.iaload, 1) := by decide +kernel
theorem c251_29 : cd 251 29 = some (.iaload, 1) := by decide +kernel
theorem c251_30 : cd 251 30 = some (.aload 0, 1) := by decide +kernel
theorem c251_31 : cd 251 31 = some (.getfield 1302, 3) := by decide +kernel
theorem c251_34 : cd 251 34 = some (.iload 3, 1) := by decide +kernel
theorem c251_35 : cd 251 35 = some (.iaload, 1) := by decide +kernel
theorem c251_36 : cd 251 36 = some (.invokestatic 254, 3) := by decide +kernel
theorem c251_39 : cd 251 39 = some (.iastore, 1) := by decide +kernel
theorem c251_40 : cd 251 40 = some (.iinc 3 1, 3) := by decide +kernel
theorem c251_43 : cd 251 43 = some (.goto 10, 3) := by decide +kernel
theorem c251_46 : cd 251 46 = some (.aload 0, 1) := by decide +kernel
theorem c251_47 : cd 251 47 = some (.getfield 1306, 3) := by decide +kernel
theorem c251_50 : cd 251 50 = some (.sipush 0, 1) := by decide +kernel
theorem c251_51 : cd 251 51 = some (.aload 0, 1) := by decide +kernel
theorem c251_52 : cd 251 52 = some (.getfield 1302, 3) := by decide +kernel
theorem c251_55 : cd 251 55 = some (.sipush 0, 1) := by decide +kernel
theorem c251_56 : cd 251 56 = some (.sipush 1024, 3) := by decide +kernel
theorem c251_59 : cd 251 59 = some (.invokedynamic 0, 3) := by decide +kernel
theorem c251_62 : cd 251 62 = some (.return_, 1) := by decide +kernel
theorem g251_0 {d : Nat} {x1 x2 x3 : Option aV} {w : aW} {Q : Option aV → aW → Prop} : T (d + 1) 251 0 [some (vr 57), x1, x2, x3] [] w Q = T d 221 0 [some (vr 63), some (vi (-1)), none, none] [] w (fun r w1 => T (d + 1) 251 8 [some (vr 57), x1, x2, x3] (r.toList ++ []) w1 Q) := by
  rw [T_aload_0 c251_0, T_getR 5 6 6 c251_1 rfl rfl rfl rfl, rf_57_6, T_sipush c251_4, T_inv (es := [some (vr 63), some (vi (-1)), none, none]) (st := [vi (-1), vr 63]) (ks := [2, 0]) (n := 4) (as := [vr 63, vi (-1)]) (rest := []) c251_5 (by decide +kernel) (by decide +kernel) rfl rfl (Nat.le_of_ble_eq_true rfl)]
  all_goals try simp only [lay_57, true_and, Nat.reduceAdd, eq_self_iff_true]
theorem g251_8 {d : Nat} {x0 x1 x2 x3 : Option aV} {w : aW} {Q : Option aV → aW → Prop} : T d 251 8 [x0, x1, x2, x3] [] w Q = T d 251 10 [x0, x1, x2, some (vi 0)] [] w Q := by
  rw [T_sipush c251_8, T_istore_3 c251_9]
  all_goals try simp only [true_and, Nat.reduceAdd, eq_self_iff_true]
theorem g251_10 {d : Nat} {a2 a3 : Int} {w : aW} {Q : Option aV → aW → Prop} : T (d + 1) 251 10 [some (vr 57), some (vr 20), some (vi a2), some (vi a3)] [] w Q = ((a2 ≤ a3 → (((lay 63).1 = 100 ∧ (lay 62).1 = 100 ∧ (0 : Int) ≤ 0 ∧ (0 : Int) ≤ 0 ∧ (0 : Int) ≤ 1024 ∧ 0 + 1024 ≤ ((lay 63).2 : Int) ∧ 0 + 1024 ≤ ((lay 62).2 : Int)) ∧ Q none (wcp w 63 62 0 0 1024))) ∧ (¬ (a2 ≤ a3) → ((0 ≤ a3 ∧ a3 < 1024) ∧ ((0 ≤ a3 ∧ a3 < 1024) ∧ ((0 ≤ w 20 a3 ∧ w 20 a3 < 1024) ∧ ((0 ≤ a3 ∧ a3 < 1024) ∧ T d 254 0 [some (vi (w 63 (w 20 a3))), some (vi (w 62 a3))] [] w (fun r w1 => T (d + 1) 251 39 [some (vr 57), some (vr 20), some (vi a2), some (vi a3)] (r.toList ++ [vi (w 20 a3), vr 63]) w1 Q))))))) := by
  rw [T_iload_3 c251_10, T_iload_2 c251_11, T_icmp_ge 46 c251_12 rfl, T_aload_0 c251_46, T_getR 5 6 6 c251_47 rfl rfl rfl rfl, rf_57_6, T_sipush c251_50, T_aload_0 c251_51, T_getR 5 5 5 c251_52 rfl rfl rfl rfl, rf_57_5, T_sipush c251_55, T_sipush c251_56, T_copy (st := []) c251_59 (Nat.le_of_ble_eq_true rfl), T_vret c251_62 (by decide +kernel), T_aload_0 c251_15, T_getR 5 6 6 c251_16 rfl rfl rfl rfl, rf_57_6, T_aload_1 c251_19, T_iload_3 c251_20, T_iald c251_21, T_aload_0 c251_22, T_getR 5 6 6 c251_23 rfl rfl rfl rfl, rf_57_6, T_aload_1 c251_26, T_iload_3 c251_27, T_iald c251_28, T_iald c251_29, T_aload_0 c251_30, T_getR 5 5 5 c251_31 rfl rfl rfl rfl, rf_57_5, T_iload_3 c251_34, T_iald c251_35, T_inv (es := [some (vi (w 63 (w 20 a3))), some (vi (w 62 a3))]) (st := [vi (w 62 a3), vi (w 63 (w 20 a3)), vi (w 20 a3), vr 63]) (ks := [0, 0]) (n := 2) (as := [vi (w 63 (w 20 a3)), vi (w 62 a3)]) (rest := [vi (w 20 a3), vr 63]) c251_36 (by decide +kernel) (by decide +kernel) rfl rfl (Nat.le_of_ble_eq_true rfl)]
  all_goals try simp only [Int.reduceToNat, lay_57, ld_20, ld_62, ld_63, true_and, Nat.reduceAdd, eq_self_iff_true]
theorem g251_39 {d : Nat} {a3 s1 s2 : Int} {s0 : Nat} {x0 x1 x2 : Option aV} {w : aW} {Q : Option aV → aW → Prop} : T d 251 39 [x0, x1, x2, some (vi a3)] [vi s2, vi s1, vr s0] w Q = (inA s0 0 s1 = true ∧ T d 251 10 [x0, x1, x2, some (vi (w32 (a3 + 1)))] [] (iup w s0 s1 s2) Q) := by
  rw [T_iast c251_39, T_iinc_3 c251_40, T_goto 10 c251_43 rfl]
  all_goals try simp only [true_and, Nat.reduceAdd, eq_self_iff_true]
/-! 252: StringHands$Scenes.nudgeCosts.(II)V -/
theorem c252_0 : cd 252 0 = some (.sipush 0, 1) := by decide +kernel
theorem c252_1 : cd 252 1 = some (.istore 3, 1) := by decide +kernel
theorem c252_2 : cd 252 2 = some (.iload 3, 1) := by decide +kernel
theorem c252_3 : cd 252 3 = some (.iload 2, 1) := by decide +kernel
theorem c252_4 : cd 252 4 = some (.if_icmp .ge 100, 3) := by decide +kernel
theorem c252_7 : cd 252 7 = some (.iload 3, 1) := by decide +kernel
theorem c252_8 : cd 252 8 = some (.iload 1, 1) := by decide +kernel
theorem c252_9 : cd 252 9 = some (.ior, 1) := by decide +kernel
theorem c252_10 : cd 252 10 = some (.istore 4, 2) := by decide +kernel
theorem c252_12 : cd 252 12 = some (.iload 3, 1) := by decide +kernel
theorem c252_13 : cd 252 13 = some (.iload 1, 1) := by decide +kernel
theorem c252_14 : cd 252 14 = some (.iand, 1) := by decide +kernel
theorem c252_15 : cd 252 15 = some (.ifCond .ne 94, 3) := by decide +kernel
theorem c252_18 : cd 252 18 = some (.iload 4, 2) := by decide +kernel
theorem c252_20 : cd 252 20 = some (.iload 2, 1) := by decide +kernel
theorem c252_21 : cd 252 21 = some (.if_icmp .ge 94, 3) := by decide +kernel
theorem c252_24 : cd 252 24 = some (.aload 0, 1) := by decide +kernel
theorem c252_25 : cd 252 25 = some (.getfield 1302, 3) := by decide +kernel
theorem c252_28 : cd 252 28 = some (.iload 3, 1) := by decide +kernel
theorem c252_29 : cd 252 29 = some (.iaload, 1) := by decide +kernel
theorem c252_30 : cd 252 30 = some (.istore 5, 2) := by decide +kernel
theorem c252_32 : cd 252 32 = some (.aload 0, 1) := by decide +kernel
theorem c252_33 : cd 252 33 = some (.getfield 1302, 3) := by decide +kernel
theorem c252_36 : cd 252 36 = some (.iload 4, 2) := by decide +kernel
theorem c252_38 : cd 252 38 = some (.iaload, 1) := by decide +kernel
theorem c252_39 : cd 252 39 = some (.istore 6, 2) := by decide +kernel
theorem c252_41 : cd 252 41 = some (.aload 0, 1) := by decide +kernel
theorem c252_42 : cd 252 42 = some (.getfield 1302, 3) := by decide +kernel
theorem c252_45 : cd 252 45 = some (.iload 3, 1) := by decide +kernel
theorem c252_46 : cd 252 46 = some (.iload 6, 2) := by decide +kernel
theorem c252_48 : cd 252 48 = some (.sipush (-1), 1) := by decide +kernel
theorem c252_49 : cd 252 49 = some (.if_icmp .ne 57, 3) := by decide +kernel
theorem c252_52 : cd 252 52 = some (.iload 5, 2) := by decide +kernel
theorem c252_54 : cd 252 54 = some (.goto 66, 3) := by decide +kernel
theorem c252_57 : cd 252 57 = some (.iload 5, 2) := by decide +kernel
theorem c252_59 : cd 252 59 = some (.iload 6, 2) := by decide +kernel
theorem c252_61 : cd 252 61 = some (.sipush 1, 1) := by decide +kernel
theorem c252_62 : cd 252 62 = some (.iadd, 1) := by decide +kernel
theorem c252_63 : cd 252 63 = some (.invokestatic 254, 3) := by decide +kernel
theorem c252_66 : cd 252 66 = some (.iastore, 1) := by decide +kernel
theorem c252_67 : cd 252 67 = some (.aload 0, 1) := by decide +kernel
theorem c252_68 : cd 252 68 = some (.getfield 1302, 3) := by decide +kernel
theorem c252_71 : cd 252 71 = some (.iload 4, 2) := by decide +kernel
theorem c252_73 : cd 252 73 = some (.iload 5, 2) := by decide +kernel
theorem c252_75 : cd 252 75 = some (.sipush (-1), 1) := by decide +kernel
theorem c252_76 : cd 252 76 = some (.if_icmp .ne 84, 3) := by decide +kernel
theorem c252_79 : cd 252 79 = some (.iload 6, 2) := by decide +kernel
theorem c252_81 : cd 252 81 = some (.goto 93, 3) := by decide +kernel
theorem c252_84 : cd 252 84 = some (.iload 6, 2) := by decide +kernel
theorem c252_86 : cd 252 86 = some (.iload 5, 2) := by decide +kernel
theorem c252_88 : cd 252 88 = some (.sipush 1, 1) := by decide +kernel
theorem c252_89 : cd 252 89 = some (.iadd, 1) := by decide +kernel
theorem c252_90 : cd 252 90 = some (.invokestatic 254, 3) := by decide +kernel
theorem c252_93 : cd 252 93 = some (.iastore, 1) := by decide +kernel
theorem c252_94 : cd 252 94 = some (.iinc 3 1, 3) := by decide +kernel
theorem c252_97 : cd 252 97 = some (.goto 2, 3) := by decide +kernel
theorem c252_100 : cd 252 100 = some (.return_, 1) := by decide +kernel
theorem g252_0 {d : Nat} {x0 x1 x2 x3 x4 x5 x6 : Option aV} {w : aW} {Q : Option aV → aW → Prop} : T d 252 0 [x0, x1, x2, x3, x4, x5, x6] [] w Q = T d 252 2 [x0, x1, x2, some (vi 0), x4, x5, x6] [] w Q := by
  rw [T_sipush c252_0, T_istore_3 c252_1]
  all_goals try simp only [true_and, Nat.reduceAdd, eq_self_iff_true]
theorem g252_2 {d : Nat} {a1 a2 a3 : Int} {x4 x5 x6 : Option aV} {w : aW} {Q : Option aV → aW → Prop} : T (d + 1) 252 2 [some (vr 57), some (vi a1), some (vi a2), some (vi a3), x4, x5, x6] [] w Q = ((a2 ≤ a3 → Q none w) ∧ (¬ (a2 ≤ a3) → ((¬ jand a3 a1 = 0 → T (d + 1) 252 94 [some (vr 57), some (vi a1), some (vi a2), some (vi a3), some (vi (jor a3 a1)), x5, x6] [] w Q) ∧ (¬ (¬ jand a3 a1 = 0) → ((a2 ≤ jor a3 a1 → T (d + 1) 252 94 [some (vr 57), some (vi a1), some (vi a2), some (vi a3), some (vi (jor a3 a1)), x5, x6] [] w Q) ∧ (¬ (a2 ≤ jor a3 a1) → ((0 ≤ a3 ∧ a3 < 1024) ∧ ((0 ≤ jor a3 a1 ∧ jor a3 a1 < 1024) ∧ ((¬ w 62 (jor a3 a1) = (-1) → T d 254 0 [some (vi (w 62 a3)), some (vi (w32 ((w 62 (jor a3 a1)) + 1)))] [] w (fun r w1 => T (d + 1) 252 66 [some (vr 57), some (vi a1), some (vi a2), some (vi a3), some (vi (jor a3 a1)), some (vi (w 62 a3)), some (vi (w 62 (jor a3 a1)))] (r.toList ++ [vi a3, vr 62]) w1 Q)) ∧ (¬ (¬ w 62 (jor a3 a1) = (-1)) → T (d + 1) 252 66 [some (vr 57), some (vi a1), some (vi a2), some (vi a3), some (vi (jor a3 a1)), some (vi (w 62 a3)), some (vi (w 62 (jor a3 a1)))] [vi (w 62 a3), vi a3, vr 62] w Q)))))))))) := by
  rw [T_iload_3 c252_2, T_iload_2 c252_3, T_icmp_ge 100 c252_4 rfl, T_vret c252_100 (by decide +kernel), T_iload_3 c252_7, T_iload_1 c252_8, T_ior c252_9, T_istore_4 c252_10, T_iload_3 c252_12, T_iload_1 c252_13, T_iand c252_14, T_if_ne 94 c252_15 rfl, T_iload_4 c252_18, T_iload_2 c252_20, T_icmp_ge 94 c252_21 rfl, T_aload_0 c252_24, T_getR 5 5 5 c252_25 rfl rfl rfl rfl, rf_57_5, T_iload_3 c252_28, T_iald c252_29, T_istore_5 c252_30, T_aload_0 c252_32, T_getR 5 5 5 c252_33 rfl rfl rfl rfl, rf_57_5, T_iload_4 c252_36, T_iald c252_38, T_istore_6 c252_39, T_aload_0 c252_41, T_getR 5 5 5 c252_42 rfl rfl rfl rfl, rf_57_5, T_iload_3 c252_45, T_iload_6 c252_46, T_sipush c252_48, T_icmp_ne 57 c252_49 rfl, T_iload_5 c252_57, T_iload_6 c252_59, T_sipush c252_61, T_iadd c252_62, T_inv (es := [some (vi (w 62 a3)), some (vi (w32 ((w 62 (jor a3 a1)) + 1)))]) (st := [vi (w32 ((w 62 (jor a3 a1)) + 1)), vi (w 62 a3), vi a3, vr 62]) (ks := [0, 0]) (n := 2) (as := [vi (w 62 a3), vi (w32 ((w 62 (jor a3 a1)) + 1))]) (rest := [vi a3, vr 62]) c252_63 (by decide +kernel) (by decide +kernel) rfl rfl (Nat.le_of_ble_eq_true rfl), T_iload_5 c252_52, T_goto 66 c252_54 rfl]
  all_goals try simp only [Int.reduceToNat, lay_57, ld_62, true_and, Nat.reduceAdd, eq_self_iff_true]
theorem g252_66 {d : Nat} {a4 a5 a6 s1 s2 : Int} {s0 : Nat} {x1 x2 x3 : Option aV} {w : aW} {Q : Option aV → aW → Prop} : T (d + 1) 252 66 [some (vr 57), x1, x2, x3, some (vi a4), some (vi a5), some (vi a6)] [vi s2, vi s1, vr s0] w Q = (inA s0 0 s1 = true ∧ ((¬ a5 = (-1) → T d 254 0 [some (vi a6), some (vi (w32 (a5 + 1)))] [] (iup w s0 s1 s2) (fun r w1 => T (d + 1) 252 93 [some (vr 57), x1, x2, x3, some (vi a4), some (vi a5), some (vi a6)] (r.toList ++ [vi a4, vr 62]) w1 Q)) ∧ (¬ (¬ a5 = (-1)) → T (d + 1) 252 93 [some (vr 57), x1, x2, x3, some (vi a4), some (vi a5), some (vi a6)] [vi a6, vi a4, vr 62] (iup w s0 s1 s2) Q))) := by
  rw [T_iast c252_66, T_aload_0 c252_67, T_getR 5 5 5 c252_68 rfl rfl rfl rfl, rf_57_5, T_iload_4 c252_71, T_iload_5 c252_73, T_sipush c252_75, T_icmp_ne 84 c252_76 rfl, T_iload_6 c252_84, T_iload_5 c252_86, T_sipush c252_88, T_iadd c252_89, T_inv (es := [some (vi a6), some (vi (w32 (a5 + 1)))]) (st := [vi (w32 (a5 + 1)), vi a6, vi a4, vr 62]) (ks := [0, 0]) (n := 2) (as := [vi a6, vi (w32 (a5 + 1))]) (rest := [vi a4, vr 62]) c252_90 (by decide +kernel) (by decide +kernel) rfl rfl (Nat.le_of_ble_eq_true rfl), T_iload_6 c252_79, T_goto 93 c252_81 rfl]
  all_goals try simp only [Int.reduceToNat, lay_57, true_and, Nat.reduceAdd, eq_self_iff_true]
theorem g252_93 {d : Nat} {s1 s2 : Int} {s0 : Nat} {x0 x1 x2 x3 x4 x5 x6 : Option aV} {w : aW} {Q : Option aV → aW → Prop} : T d 252 93 [x0, x1, x2, x3, x4, x5, x6] [vi s2, vi s1, vr s0] w Q = (inA s0 0 s1 = true ∧ T d 252 94 [x0, x1, x2, x3, x4, x5, x6] [] (iup w s0 s1 s2) Q) := by
  rw [T_iast c252_93]
  all_goals try simp only [true_and, Nat.reduceAdd, eq_self_iff_true]
theorem g252_94 {d : Nat} {a3 : Int} {x0 x1 x2 x4 x5 x6 : Option aV} {w : aW} {Q : Option aV → aW → Prop} : T d 252 94 [x0, x1, x2, some (vi a3), x4, x5, x6] [] w Q = T d 252 2 [x0, x1, x2, some (vi (w32 (a3 + 1))), x4, x5, x6] [] w Q := by
  rw [T_iinc_3 c252_94, T_goto 2 c252_97 rfl]
  all_goals try simp only [true_and, Nat.reduceAdd, eq_self_iff_true]
/-! 253: StringHands$Scenes.keepScene.(II)V -/
theorem c253_0 : cd 253 0 = some (.sipush 0, 1) := by decide +kernel
theorem c253_1 : cd 253 1 = some (.istore 3, 1) := by decide +kernel
theorem c253_2 : cd 253 2 = some (.iload 3, 1) := by decide +kernel
theorem c253_3 : cd 253 3 = some (.iload 2, 1) := by decide +kernel
theorem c253_4 : cd 253 4 = some (.if_icmp .ge 29, 3) := by decide +kernel
theorem c253_7 : cd 253 7 = some (.aload 0, 1) := by decide +kernel
theorem c253_8 : cd 253 8 = some (.iload 1, 1) := by decide +kernel
theorem c253_9 : cd 253 9 = some (.iload 3, 1) := by decide +kernel
theorem c253_10 : cd 253 10 = some (.invokevirtual 249, 3) := by decide +kernel
theorem c253_13 : cd 253 13 = some (.ifCond .ne 23, 3) := by decide +kernel
theorem c253_16 : cd 253 16 = some (.aload 0, 1) := by decide +kernel
theorem c253_17 : cd 253 17 = some (.getfield 1302, 3) := by decide +kernel
theorem c253_20 : cd 253 20 = some (.iload 3, 1) := by decide +kernel
theorem c253_21 : cd 253 21 = some (.sipush (-1), 1) := by decide +kernel
theorem c253_22 : cd 253 22 = some (.iastore, 1) := by decide +kernel
theorem c253_23 : cd 253 23 = some (.iinc 3 1, 3) := by decide +kernel
theorem c253_26 : cd 253 26 = some (.goto 2, 3) := by decide +kernel
theorem c253_29 : cd 253 29 = some (.return_, 1) := by decide +kernel
theorem g253_0 {d : Nat} {x0 x1 x2 x3 : Option aV} {w : aW} {Q : Option aV → aW → Prop} : T d 253 0 [x0, x1, x2, x3] [] w Q = T d 253 2 [x0, x1, x2, some (vi 0)] [] w Q := by
  rw [T_sipush c253_0, T_istore_3 c253_1]
  all_goals try simp only [true_and, Nat.reduceAdd, eq_self_iff_true]
theorem g253_2 {d : Nat} {a1 a2 a3 : Int} {w : aW} {Q : Option aV → aW → Prop} : T (d + 1) 253 2 [some (vr 57), some (vi a1), some (vi a2), some (vi a3)] [] w Q = ((a2 ≤ a3 → Q none w) ∧ (¬ (a2 ≤ a3) → T d 249 0 [some (vr 57), some (vi a1), some (vi a3)] [] w (fun r w1 => T (d + 1) 253 13 [some (vr 57), some (vi a1), some (vi a2), some (vi a3)] (r.toList ++ []) w1 Q))) := by
  rw [T_iload_3 c253_2, T_iload_2 c253_3, T_icmp_ge 29 c253_4 rfl, T_vret c253_29 (by decide +kernel), T_aload_0 c253_7, T_iload_1 c253_8, T_iload_3 c253_9, T_invv (es := [some (vr 57), some (vi a1), some (vi a3)]) (st := [vi a3, vi a1, vr 57]) (ks := [2, 0, 0]) (n := 3) (c := 5) (k := 57) (as := [vi a1, vi a3]) (rest := []) c253_10 (by decide +kernel) (by decide +kernel) (by decide +kernel) (by decide) rfl rfl (Nat.le_of_ble_eq_true rfl)]
  all_goals try simp only [Int.reduceToNat, lay_57, true_and, Nat.reduceAdd, eq_self_iff_true]
theorem g253_13 {d : Nat} {a3 s0 : Int} {x1 x2 : Option aV} {w : aW} {Q : Option aV → aW → Prop} : T d 253 13 [some (vr 57), x1, x2, some (vi a3)] [vi s0] w Q = ((¬ s0 = 0 → T d 253 23 [some (vr 57), x1, x2, some (vi a3)] [] w Q) ∧ (¬ (¬ s0 = 0) → ((0 ≤ a3 ∧ a3 < 1024) ∧ T d 253 23 [some (vr 57), x1, x2, some (vi a3)] [] (iup w 62 a3 (-1)) Q))) := by
  rw [T_if_ne 23 c253_13 rfl, T_aload_0 c253_16, T_getR 5 5 5 c253_17 rfl rfl rfl rfl, rf_57_5, T_iload_3 c253_20, T_sipush c253_21, T_iast c253_22]
  all_goals try simp only [Int.reduceToNat, ia0_62, lay_57, true_and, Nat.reduceAdd, eq_self_iff_true]
theorem g253_23 {d : Nat} {a3 : Int} {x0 x1 x2 : Option aV} {w : aW} {Q : Option aV → aW → Prop} : T d 253 23 [x0, x1, x2, some (vi a3)] [] w Q = T d 253 2 [x0, x1, x2, some (vi (w32 (a3 + 1)))] [] w Q := by
  rw [T_iinc_3 c253_23, T_goto 2 c253_26 rfl]
  all_goals try simp only [true_and, Nat.reduceAdd, eq_self_iff_true]
/-! 254: StringHands$Scenes.lesser.(II)I -/
theorem c254_0 : cd 254 0 = some (.iload 0, 1) := by decide +kernel
theorem c254_1 : cd 254 1 = some (.sipush (-1), 1) := by decide +kernel
theorem c254_2 : cd 254 2 = some (.if_icmp .eq 10, 3) := by decide +kernel
theorem c254_5 : cd 254 5 = some (.iload 1, 1) := by decide +kernel
theorem c254_6 : cd 254 6 = some (.sipush (-1), 1) := by decide +kernel
theorem c254_7 : cd 254 7 = some (.if_icmp .ne 21, 3) := by decide +kernel
theorem c254_10 : cd 254 10 = some (.iload 0, 1) := by decide +kernel
theorem c254_11 : cd 254 11 = some (.sipush (-1), 1) := by decide +kernel
theorem c254_12 : cd 254 12 = some (.if_icmp .ne 19, 3) := by decide +kernel
theorem c254_15 : cd 254 15 = some (.iload 1, 1) := by decide +kernel
theorem c254_16 : cd 254 16 = some (.goto 20, 3) := by decide +kernel
theorem c254_19 : cd 254 19 = some (.iload 0, 1) := by decide +kernel
theorem c254_20 : cd 254 20 = some (.ireturn, 1) := by decide +kernel
theorem c254_21 : cd 254 21 = some (.iload 0, 1) := by decide +kernel
theorem c254_22 : cd 254 22 = some (.iload 1, 1) := by decide +kernel
theorem c254_23 : cd 254 23 = some (.invokedynamic 1, 3) := by decide +kernel
theorem c254_26 : cd 254 26 = some (.ireturn, 1) := by decide +kernel
theorem g254_0 {d : Nat} {a0 a1 : Int} {w : aW} {Q : Option aV → aW → Prop} : T d 254 0 [some (vi a0), some (vi a1)] [] w Q = ((a0 = (-1) → T d 254 10 [some (vi a0), some (vi a1)] [] w Q) ∧ (¬ (a0 = (-1)) → ((¬ a1 = (-1) → Q (some (vi (if a1 < a0 then a1 else a0))) w) ∧ (¬ (¬ a1 = (-1)) → T d 254 10 [some (vi a0), some (vi a1)] [] w Q)))) := by
  rw [T_iload_0 c254_0, T_sipush c254_1, T_icmp_eq 10 c254_2 rfl, T_iload_1 c254_5, T_sipush c254_6, T_icmp_ne 21 c254_7 rfl, T_iload_0 c254_21, T_iload_1 c254_22, T_min (st := []) c254_23 (Nat.le_of_ble_eq_true rfl), T_ireti c254_26 (by decide +kernel)]
  all_goals try simp only [Int.reduceToNat, true_and, Nat.reduceAdd, eq_self_iff_true]
theorem g254_10 {d : Nat} {a0 a1 : Int} {w : aW} {Q : Option aV → aW → Prop} : T d 254 10 [some (vi a0), some (vi a1)] [] w Q = ((¬ a0 = (-1) → T d 254 20 [some (vi a0), some (vi a1)] [vi a0] w Q) ∧ (¬ (¬ a0 = (-1)) → T d 254 20 [some (vi a0), some (vi a1)] [vi a1] w Q)) := by
  rw [T_iload_0 c254_10, T_sipush c254_11, T_icmp_ne 19 c254_12 rfl, T_iload_0 c254_19, T_iload_1 c254_15, T_goto 20 c254_16 rfl]
  all_goals try simp only [Int.reduceToNat, true_and, Nat.reduceAdd, eq_self_iff_true]
theorem g254_20 {d : Nat} {s0 : Int} {x0 x1 : Option aV} {w : aW} {Q : Option aV → aW → Prop} : T d 254 20 [x0, x1] [vi s0] w Q = Q (some (vi s0)) w := by
  rw [T_ireti c254_20 (by decide +kernel)]
  all_goals try simp only [true_and, Nat.reduceAdd, eq_self_iff_true]
/-! 255: StringHands$Tangler.begin.(LStringHands$Troupe;LStringHands$Stage;)V -/
theorem c255_0 : cd 255 0 = some (.sipush 0, 1) := by decide +kernel
theorem c255_1 : cd 255 1 = some (.istore 3, 1) := by decide +kernel
theorem c255_2 : cd 255 2 = some (.iload 3, 1) := by decide +kernel
theorem c255_3 : cd 255 3 = some (.sipush 7, 2) := by decide +kernel
theorem c255_5 : cd 255 5 = some (.if_icmp .ge 28, 3) := by decide +kernel
theorem c255_8 : cd 255 8 = some (.aload 0, 1) := by decide +kernel
theorem c255_9 : cd 255 9 = some (.getfield 1794, 3) := by decide +kernel
theorem c255_12 : cd 255 12 = some (.iload 3, 1) := by decide +kernel
theorem c255_13 : cd 255 13 = some (.iload 3, 1) := by decide +kernel
theorem c255_14 : cd 255 14 = some (.iastore, 1) := by decide +kernel
theorem c255_15 : cd 255 15 = some (.aload 0, 1) := by decide +kernel
theorem c255_16 : cd 255 16 = some (.getfield 1798, 3) := by decide +kernel
theorem c255_19 : cd 255 19 = some (.iload 3, 1) := by decide +kernel
theorem c255_20 : cd 255 20 = some (.sipush (-1), 1) := by decide +kernel
theorem c255_21 : cd 255 21 = some (.iastore, 1) := by decide +kernel
theorem c255_22 : cd 255 22 = some (.iinc 3 1, 3) := by decide +kernel
theorem c255_25 : cd 255 25 = some (.goto 2, 3) := by decide +kernel
theorem c255_28 : cd 255 28 = some (.aload 0, 1) := by decide +kernel
theorem c255_29 : cd 255 29 = some (.getfield 1802, 3) := by decide +kernel
theorem c255_32 : cd 255 32 = some (.bipush 0, 1) := by decide +kernel
theorem c255_33 : cd 255 33 = some (.invokestatic 267, 3) := by decide +kernel
theorem c255_36 : cd 255 36 = some (.aload 0, 1) := by decide +kernel
theorem c255_37 : cd 255 37 = some (.getfield 1806, 3) := by decide +kernel
theorem c255_40 : cd 255 40 = some (.bipush 0, 1) := by decide +kernel
theorem c255_41 : cd 255 41 = some (.invokestatic 267, 3) := by decide +kernel
theorem c255_44 : cd 255 44 = some (.aload 0, 1) := by decide +kernel
theorem c255_45 : cd 255 45 = some (.bipush 0, 1) := by decide +kernel
theorem c255_46 : cd 255 46 = some (.putfield 1809, 3) := by decide +kernel
theorem c255_49 : cd 255 49 = some (.aload 0, 1) := by decide +kernel
theorem c255_50 : cd 255 50 = some (.bipush 0, 1) := by decide +kernel
theorem c255_51 : cd 255 51 = some (.putfield 1813, 3) := by decide +kernel
theorem c255_54 : cd 255 54 = some (.aload 0, 1) := by decide +kernel
theorem c255_55 : cd 255 55 = some (.sipush 0, 1) := by decide +kernel
theorem c255_56 : cd 255 56 = some (.putfield 1816, 3) := by decide +kernel
theorem c255_59 : cd 255 59 = some (.sipush 0, 1) := by decide +kernel
theorem c255_60 : cd 255 60 = some (.istore 3, 1) := by decide +kernel
theorem c255_61 : cd 255 61 = some (.iload 3, 1) := by decide +kernel
theorem c255_62 : cd 255 62 = some (.aload 1, 1) := by decide +kernel
theorem c255_63 : cd 255 63 = some (.getfield 2056, 3) := by decide +kernel
theorem c255_66 : cd 255 66 = some (.if_icmp .ge 145, 3) := by decide +kernel
theorem c255_69 : cd 255 69 = some (.sipush 0, 1) := by decide +kernel
theorem c255_70 : cd 255 70 = some (.istore 4, 2) := by decide +kernel
theorem c255_72 : cd 255 72 = some (.iload 4, 2) := by decide +kernel
theorem c255_74 : cd 255 74 = some (.iload 3, 1) := by decide +kernel
theorem c255_75 : cd 255 75 = some (.if_icmp .ge 139, 3) := by decide +kernel
theorem c255_78 : cd 255 78 = some (.aload 2, 1) := by decide +kernel
theorem c255_79 : cd 255 79 = some (.getfield 1540, 3) := by decide +kernel
theorem c255_82 : cd 255 82 = some (.iload 3, 1) := by decide +kernel
theorem c255_83 : cd 255 83 = some (.invokestatic 117, 3) := by decide +kernel
theorem c255_86 : cd 255 86 = some (.sipush 1, 1) := by decide +kernel
theorem c255_87 : cd 255 87 = some (.if_icmp .ne 133, 3) := by decide +kernel
theorem c255_90 : cd 255 90 = some (.aload 2, 1) := by decide +kernel
theorem c255_91 : cd 255 91 = some (.getfield 1540, 3) := by decide +kernel
theorem c255_94 : cd 255 94 = some (.iload 4, 2) := by decide +kernel
theorem c255_96 : cd 255 96 = some (.invokestatic 117, 3) := by decide +kernel
theorem c255_99 : cd 255 99 = some (.sipush 1, 1) := by decide +kernel
theorem c255_100 : cd 255 100 = some (.if_icmp .ne 133, 3) := by decide +kernel
theorem c255_103 : cd 255 103 = some (.aload 0, 1) := by decide +kernel
theorem c255_104 : cd 255 104 = some (.aload 2, 1) := by decide +kernel
theorem c255_105 : cd 255 105 = some (.getfield 1546, 3) := by decide +kernel
theorem c255_108 : cd 255 108 = some (.iload 3, 1) := by decide +kernel
theorem c255_109 : cd 255 109 = some (.iaload, 1) := by decide +kernel
theorem c255_110 : cd 255 110 = some (.aload 1, 1) := by decide +kernel
theorem c255_111 : cd 255 111 = some (.getfield 2086, 3) := by decide +kernel
theorem c255_114 : cd 255 114 = some (.iload 3, 1) := by decide +kernel
theorem c255_115 : cd 255 115 = some (.iaload, 1) := by decide +kernel
theorem c255_116 : cd 255 116 = some (.aload 2, 1) := by decide +kernel
theorem c255_117 : cd 255 117 = some (.getfield 1546, 3) := by decide +kernel
theorem c255_120 : cd 255 120 = some (.iload 4, 2) := by decide +kernel
theorem c255_122 : cd 255 122 = some (.iaload, 1) := by decide +kernel
theorem c255_123 : cd 255 123 = some (.aload 1, 1) := by decide +kernel
theorem c255_124 : cd 255 124 = some (.getfield 2086, 3) := by decide +kernel
theorem c255_127 : cd 255 127 = some (.iload 4, 2) := by decide +kernel
theorem c255_129 : cd 255 129 = some (.iaload, 1) := by decide +kernel
theorem c255_130 : cd 255 130 = some (.invokevirtual 292, 3) := by decide +kernel
theorem c255_133 : cd 255 133 = some (.iinc 4 1, 3) := by decide +kernel
theorem c255_136 : cd 255 136 = some (.goto 72, 3) := by decide +kernel
theorem c255_139 : cd 255 139 = some (.iinc 3 1, 3) := by decide +kernel
theorem c255_142 : cd 255 142 = some (.goto 61, 3) := by decide +kernel
theorem c255_145 : cd 255 145 = some (.return_, 1) := by decide +kernel
theorem g255_0 {d : Nat} {x0 x1 x2 x3 x4 : Option aV} {w : aW} {Q : Option aV → aW → Prop} : T d 255 0 [x0, x1, x2, x3, x4] [] w Q = T d 255 2 [x0, x1, x2, some (vi 0), x4] [] w Q := by
  rw [T_sipush c255_0, T_istore_3 c255_1]
  all_goals try simp only [true_and, Nat.reduceAdd, eq_self_iff_true]
theorem g255_2 {d : Nat} {a3 : Int} {x1 x2 x4 : Option aV} {w : aW} {Q : Option aV → aW → Prop} : T (d + 1) 255 2 [some (vr 52), x1, x2, some (vi a3), x4] [] w Q = ((7 ≤ a3 → T d 267 0 [some (vr 55), some (vl 0), none, none, none] [] w (fun r w1 => T (d + 1) 255 36 [some (vr 52), x1, x2, some (vi a3), x4] (r.toList ++ []) w1 Q)) ∧ (¬ (7 ≤ a3) → ((0 ≤ a3 ∧ a3 < 7) ∧ ((0 ≤ a3 ∧ a3 < 7) ∧ T (d + 1) 255 2 [some (vr 52), x1, x2, some (vi (w32 (a3 + 1))), x4] [] (iup (iup w 53 a3 a3) 54 a3 (-1)) Q)))) := by
  rw [T_iload_3 c255_2, T_sipush c255_3, T_icmp_ge 28 c255_5 rfl, T_aload_0 c255_28, T_getR 7 2 2 c255_29 rfl rfl rfl rfl, rf_52_2, T_bipush c255_32, T_inv (es := [some (vr 55), some (vl 0), none, none, none]) (st := [vl 0, vr 55]) (ks := [2, 1]) (n := 5) (as := [vr 55, vl 0]) (rest := []) c255_33 (by decide +kernel) (by decide +kernel) rfl rfl (Nat.le_of_ble_eq_true rfl), T_aload_0 c255_8, T_getR 7 0 0 c255_9 rfl rfl rfl rfl, rf_52_0, T_iload_3 c255_12, T_iload_3 c255_13, T_iast c255_14, T_aload_0 c255_15, T_getR 7 1 1 c255_16 rfl rfl rfl rfl, rf_52_1, T_iload_3 c255_19, T_sipush c255_20, T_iast c255_21, T_iinc_3 c255_22, T_goto 2 c255_25 rfl]
  all_goals try simp only [Int.reduceToNat, ia0_53, ia0_54, lay_52, true_and, Nat.reduceAdd, eq_self_iff_true]
theorem g255_36 {d : Nat} {x1 x2 x3 x4 : Option aV} {w : aW} {Q : Option aV → aW → Prop} : T (d + 1) 255 36 [some (vr 52), x1, x2, x3, x4] [] w Q = T d 267 0 [some (vr 56), some (vl 0), none, none, none] [] w (fun r w1 => T (d + 1) 255 44 [some (vr 52), x1, x2, x3, x4] (r.toList ++ []) w1 Q) := by
  rw [T_aload_0 c255_36, T_getR 7 3 3 c255_37 rfl rfl rfl rfl, rf_52_3, T_bipush c255_40, T_inv (es := [some (vr 56), some (vl 0), none, none, none]) (st := [vl 0, vr 56]) (ks := [2, 1]) (n := 5) (as := [vr 56, vl 0]) (rest := []) c255_41 (by decide +kernel) (by decide +kernel) rfl rfl (Nat.le_of_ble_eq_true rfl)]
  all_goals try simp only [lay_52, true_and, Nat.reduceAdd, eq_self_iff_true]
theorem g255_44 {d : Nat} {x1 x2 x3 x4 : Option aV} {w : aW} {Q : Option aV → aW → Prop} : T d 255 44 [some (vr 52), x1, x2, x3, x4] [] w Q = T d 255 61 [some (vr 52), x1, x2, some (vi 0), x4] [] (iup (iup (iup w 52 4 0) 52 5 0) 52 6 0) Q := by
  rw [T_aload_0 c255_44, T_bipush c255_45, T_putL 7 4 4 c255_46 rfl rfl rfl rfl, T_aload_0 c255_49, T_bipush c255_50, T_putL 7 5 5 c255_51 rfl rfl rfl rfl, T_aload_0 c255_54, T_sipush c255_55, T_putI 7 6 6 c255_56 rfl rfl rfl rfl, T_sipush c255_59, T_istore_3 c255_60]
  all_goals try simp only [lay_52, true_and, Nat.reduceAdd, eq_self_iff_true]
theorem g255_61 {d : Nat} {a3 : Int} {x0 x2 x4 : Option aV} {w : aW} {Q : Option aV → aW → Prop} : T d 255 61 [x0, some (vr 69), x2, some (vi a3), x4] [] w Q = ((w 69 2 ≤ a3 → Q none w) ∧ (¬ (w 69 2 ≤ a3) → T d 255 72 [x0, some (vr 69), x2, some (vi a3), some (vi 0)] [] w Q)) := by
  rw [T_iload_3 c255_61, T_aload_1 c255_62, T_getI 8 2 2 c255_63 rfl rfl rfl rfl, T_icmp_ge 145 c255_66 rfl, T_vret c255_145 (by decide +kernel), T_sipush c255_69, T_istore_4 c255_70]
  all_goals try simp only [Int.reduceToNat, lay_69, true_and, Nat.reduceAdd, eq_self_iff_true]
theorem g255_72 {d : Nat} {a3 a4 : Int} {r2 : Nat} {x0 x1 : Option aV} {w : aW} {Q : Option aV → aW → Prop} : T (d + 1) 255 72 [x0, x1, some (vr r2), some (vi a3), some (vi a4)] [] w Q = ((a3 ≤ a4 → T (d + 1) 255 61 [x0, x1, some (vr r2), some (vi (w32 (a3 + 1))), some (vi a4)] [] w Q) ∧ (¬ (a3 ≤ a4) → (lay r2 = (6, 0) ∧ T d 117 0 [some (vi (w r2 1)), some (vi a3)] [] w (fun r w1 => T (d + 1) 255 86 [x0, x1, some (vr r2), some (vi a3), some (vi a4)] (r.toList ++ []) w1 Q)))) := by
  rw [T_iload_4 c255_72, T_iload_3 c255_74, T_icmp_ge 139 c255_75 rfl, T_iinc_3 c255_139, T_goto 61 c255_142 rfl, T_aload_2 c255_78, T_getI 6 1 1 c255_79 rfl rfl rfl rfl, T_iload_3 c255_82, T_inv (es := [some (vi (w r2 1)), some (vi a3)]) (st := [vi a3, vi (w r2 1)]) (ks := [0, 0]) (n := 2) (as := [vi (w r2 1), vi a3]) (rest := []) c255_83 (by decide +kernel) (by decide +kernel) rfl rfl (Nat.le_of_ble_eq_true rfl)]
  all_goals try simp only [Int.reduceToNat, true_and, Nat.reduceAdd, eq_self_iff_true]
theorem g255_86 {d : Nat} {a4 s0 : Int} {r2 : Nat} {x0 x1 x3 : Option aV} {w : aW} {Q : Option aV → aW → Prop} : T (d + 1) 255 86 [x0, x1, some (vr r2), x3, some (vi a4)] [vi s0] w Q = ((¬ s0 = 1 → T (d + 1) 255 133 [x0, x1, some (vr r2), x3, some (vi a4)] [] w Q) ∧ (¬ (¬ s0 = 1) → (lay r2 = (6, 0) ∧ T d 117 0 [some (vi (w r2 1)), some (vi a4)] [] w (fun r w1 => T (d + 1) 255 99 [x0, x1, some (vr r2), x3, some (vi a4)] (r.toList ++ []) w1 Q)))) := by
  rw [T_sipush c255_86, T_icmp_ne 133 c255_87 rfl, T_aload_2 c255_90, T_getI 6 1 1 c255_91 rfl rfl rfl rfl, T_iload_4 c255_94, T_inv (es := [some (vi (w r2 1)), some (vi a4)]) (st := [vi a4, vi (w r2 1)]) (ks := [0, 0]) (n := 2) (as := [vi (w r2 1), vi a4]) (rest := []) c255_96 (by decide +kernel) (by decide +kernel) rfl rfl (Nat.le_of_ble_eq_true rfl)]
  all_goals try simp only [Int.reduceToNat, true_and, Nat.reduceAdd, eq_self_iff_true]
theorem g255_99 {d : Nat} {a3 a4 s0 : Int} {r2 : Nat} {w : aW} {Q : Option aV → aW → Prop} : T (d + 1) 255 99 [some (vr 52), some (vr 69), some (vr r2), some (vi a3), some (vi a4)] [vi s0] w Q = ((¬ s0 = 1 → T (d + 1) 255 133 [some (vr 52), some (vr 69), some (vr r2), some (vi a3), some (vi a4)] [] w Q) ∧ (¬ (¬ s0 = 1) → (lay r2 = (6, 0) ∧ (ldok (rfA r2 2) a3 w ∧ ((0 ≤ a3 ∧ a3 < 16) ∧ (lay r2 = (6, 0) ∧ (ldok (rfA r2 2) a4 w ∧ ((0 ≤ a4 ∧ a4 < 16) ∧ T d 292 0 [some (vr 52), some (vi (w (rfA r2 2) a3)), some (vi (w 73 a3)), some (vi (w (rfA r2 2) a4)), some (vi (w 73 a4)), none, none, none, none] [] w (fun r w1 => T (d + 1) 255 133 [some (vr 52), some (vr 69), some (vr r2), some (vi a3), some (vi a4)] (r.toList ++ []) w1 Q))))))))) := by
  rw [T_sipush c255_99, T_icmp_ne 133 c255_100 rfl, T_aload_0 c255_103, T_aload_2 c255_104, T_getR 6 2 2 c255_105 rfl rfl rfl rfl, T_iload_3 c255_108, T_iald c255_109, T_aload_1 c255_110, T_getR 8 9 9 c255_111 rfl rfl rfl rfl, rf_69_9, T_iload_3 c255_114, T_iald c255_115, T_aload_2 c255_116, T_getR 6 2 2 c255_117 rfl rfl rfl rfl, T_iload_4 c255_120, T_iald c255_122, T_aload_1 c255_123, T_getR 8 9 9 c255_124 rfl rfl rfl rfl, rf_69_9, T_iload_4 c255_127, T_iald c255_129, T_invv (es := [some (vr 52), some (vi (w (rfA r2 2) a3)), some (vi (w 73 a3)), some (vi (w (rfA r2 2) a4)), some (vi (w 73 a4)), none, none, none, none]) (st := [vi (w 73 a4), vi (w (rfA r2 2) a4), vi (w 73 a3), vi (w (rfA r2 2) a3), vr 52]) (ks := [2, 0, 0, 0, 0]) (n := 9) (c := 7) (k := 52) (as := [vi (w (rfA r2 2) a3), vi (w 73 a3), vi (w (rfA r2 2) a4), vi (w 73 a4)]) (rest := []) c255_130 (by decide +kernel) (by decide +kernel) (by decide +kernel) (by decide) rfl rfl (Nat.le_of_ble_eq_true rfl)]
  all_goals try simp only [Int.reduceToNat, lay_52, lay_69, ld_73, true_and, Nat.reduceAdd, eq_self_iff_true]
theorem g255_133 {d : Nat} {a4 : Int} {x0 x1 x2 x3 : Option aV} {w : aW} {Q : Option aV → aW → Prop} : T d 255 133 [x0, x1, x2, x3, some (vi a4)] [] w Q = T d 255 72 [x0, x1, x2, x3, some (vi (w32 (a4 + 1)))] [] w Q := by
  rw [T_iinc_4 c255_133, T_goto 72 c255_136 rfl]
  all_goals try simp only [true_and, Nat.reduceAdd, eq_self_iff_true]
