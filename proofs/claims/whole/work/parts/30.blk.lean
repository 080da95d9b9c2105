/-! 256: java/lang/Long.bitCount.(J)I -/
theorem c256_0 : cd 256 0 = some (.lload 0, 1) := by decide +kernel
theorem c256_1 : cd 256 1 = some (.lload 0, 1) := by decide +kernel
theorem c256_2 : cd 256 2 = some (.sipush 1, 1) := by decide +kernel
theorem c256_3 : cd 256 3 = some (.lushr, 1) := by decide +kernel
theorem c256_4 : cd 256 4 = some (.bipush 6148914691236517205, 3) := by decide +kernel
theorem c256_7 : cd 256 7 = some (.land, 1) := by decide +kernel
theorem c256_8 : cd 256 8 = some (.lsub, 1) := by decide +kernel
theorem c256_9 : cd 256 9 = some (.lstore 0, 1) := by decide +kernel
theorem c256_10 : cd 256 10 = some (.lload 0, 1) := by decide +kernel
theorem c256_11 : cd 256 11 = some (.bipush 3689348814741910323, 3) := by decide +kernel
theorem c256_14 : cd 256 14 = some (.land, 1) := by decide +kernel
theorem c256_15 : cd 256 15 = some (.lload 0, 1) := by decide +kernel
theorem c256_16 : cd 256 16 = some (.sipush 2, 1) := by decide +kernel
theorem c256_17 : cd 256 17 = some (.lushr, 1) := by decide +kernel
theorem c256_18 : cd 256 18 = some (.bipush 3689348814741910323, 3) := by decide +kernel
theorem c256_21 : cd 256 21 = some (.land, 1) := by decide +kernel
theorem c256_22 : cd 256 22 = some (.ladd, 1) := by decide +kernel
theorem c256_23 : cd 256 23 = some (.lstore 0, 1) := by decide +kernel
theorem c256_24 : cd 256 24 = some (.lload 0, 1) := by decide +kernel
theorem c256_25 : cd 256 25 = some (.lload 0, 1) := by decide +kernel
theorem c256_26 : cd 256 26 = some (.sipush 4, 1) := by decide +kernel
theorem c256_27 : cd 256 27 = some (.lushr, 1) := by decide +kernel
theorem c256_28 : cd 256 28 = some (.ladd, 1) := by decide +kernel
theorem c256_29 : cd 256 29 = some (.bipush 1085102592571150095, 3) := by decide +kernel
theorem c256_32 : cd 256 32 = some (.land, 1) := by decide +kernel
theorem c256_33 : cd 256 33 = some (.lstore 0, 1) := by decide +kernel
theorem c256_34 : cd 256 34 = some (.lload 0, 1) := by decide +kernel
theorem c256_35 : cd 256 35 = some (.lload 0, 1) := by decide +kernel
theorem c256_36 : cd 256 36 = some (.sipush 8, 2) := by decide +kernel
theorem c256_38 : cd 256 38 = some (.lushr, 1) := by decide +kernel
theorem c256_39 : cd 256 39 = some (.ladd, 1) := by decide +kernel
theorem c256_40 : cd 256 40 = some (.lstore 0, 1) := by decide +kernel
theorem c256_41 : cd 256 41 = some (.lload 0, 1) := by decide +kernel
theorem c256_42 : cd 256 42 = some (.lload 0, 1) := by decide +kernel
theorem c256_43 : cd 256 43 = some (.sipush 16, 2) := by decide +kernel
theorem c256_45 : cd 256 45 = some (.lushr, 1) := by decide +kernel
theorem c256_46 : cd 256 46 = some (.ladd, 1) := by decide +kernel
theorem c256_47 : cd 256 47 = some (.lstore 0, 1) := by decide +kernel
theorem c256_48 : cd 256 48 = some (.lload 0, 1) := by decide +kernel
theorem c256_49 : cd 256 49 = some (.lload 0, 1) := by decide +kernel
theorem c256_50 : cd 256 50 = some (.sipush 32, 2) := by decide +kernel
theorem c256_52 : cd 256 52 = some (.lushr, 1) := by decide +kernel
theorem c256_53 : cd 256 53 = some (.ladd, 1) := by decide +kernel
theorem c256_54 : cd 256 54 = some (.lstore 0, 1) := by decide +kernel
theorem c256_55 : cd 256 55 = some (.lload 0, 1) := by decide +kernel
theorem c256_56 : cd 256 56 = some (.l2i, 1) := by decide +kernel
theorem c256_57 : cd 256 57 = some (.sipush 127, 2) := by decide +kernel
theorem c256_59 : cd 256 59 = some (.iand, 1) := by decide +kernel
theorem c256_60 : cd 256 60 = some (.ireturn, 1) := by decide +kernel
theorem g256_0 {d : Nat} {b0 : Int} {w : aW} {Q : Option aV → aW → Prop} : T d 256 0 [some (vl b0), none] [] w Q = Q (some (vi (jand (w32 (w64 ((w64 ((w64 ((kand (w64 ((w64 ((kand (w64 (b0 - (kand (kushr b0 1) 6148914691236517205))) 3689348814741910323) + (kand (kushr (w64 (b0 - (kand (kushr b0 1) 6148914691236517205))) 2) 3689348814741910323))) + (kushr (w64 ((kand (w64 (b0 - (kand (kushr b0 1) 6148914691236517205))) 3689348814741910323) + (kand (kushr (w64 (b0 - (kand (kushr b0 1) 6148914691236517205))) 2) 3689348814741910323))) 4))) 1085102592571150095) + (kushr (kand (w64 ((w64 ((kand (w64 (b0 - (kand (kushr b0 1) 6148914691236517205))) 3689348814741910323) + (kand (kushr (w64 (b0 - (kand (kushr b0 1) 6148914691236517205))) 2) 3689348814741910323))) + (kushr (w64 ((kand (w64 (b0 - (kand (kushr b0 1) 6148914691236517205))) 3689348814741910323) + (kand (kushr (w64 (b0 - (kand (kushr b0 1) 6148914691236517205))) 2) 3689348814741910323))) 4))) 1085102592571150095) 8))) + (kushr (w64 ((kand (w64 ((w64 ((kand (w64 (b0 - (kand (kushr b0 1) 6148914691236517205))) 3689348814741910323) + (kand (kushr (w64 (b0 - (kand (kushr b0 1) 6148914691236517205))) 2) 3689348814741910323))) + (kushr (w64 ((kand (w64 (b0 - (kand (kushr b0 1) 6148914691236517205))) 3689348814741910323) + (kand (kushr (w64 (b0 - (kand (kushr b0 1) 6148914691236517205))) 2) 3689348814741910323))) 4))) 1085102592571150095) + (kushr (kand (w64 ((w64 ((kand (w64 (b0 - (kand (kushr b0 1) 6148914691236517205))) 3689348814741910323) + (kand (kushr (w64 (b0 - (kand (kushr b0 1) 6148914691236517205))) 2) 3689348814741910323))) + (kushr (w64 ((kand (w64 (b0 - (kand (kushr b0 1) 6148914691236517205))) 3689348814741910323) + (kand (kushr (w64 (b0 - (kand (kushr b0 1) 6148914691236517205))) 2) 3689348814741910323))) 4))) 1085102592571150095) 8))) 16))) + (kushr (w64 ((w64 ((kand (w64 ((w64 ((kand (w64 (b0 - (kand (kushr b0 1) 6148914691236517205))) 3689348814741910323) + (kand (kushr (w64 (b0 - (kand (kushr b0 1) 6148914691236517205))) 2) 3689348814741910323))) + (kushr (w64 ((kand (w64 (b0 - (kand (kushr b0 1) 6148914691236517205))) 3689348814741910323) + (kand (kushr (w64 (b0 - (kand (kushr b0 1) 6148914691236517205))) 2) 3689348814741910323))) 4))) 1085102592571150095) + (kushr (kand (w64 ((w64 ((kand (w64 (b0 - (kand (kushr b0 1) 6148914691236517205))) 3689348814741910323) + (kand (kushr (w64 (b0 - (kand (kushr b0 1) 6148914691236517205))) 2) 3689348814741910323))) + (kushr (w64 ((kand (w64 (b0 - (kand (kushr b0 1) 6148914691236517205))) 3689348814741910323) + (kand (kushr (w64 (b0 - (kand (kushr b0 1) 6148914691236517205))) 2) 3689348814741910323))) 4))) 1085102592571150095) 8))) + (kushr (w64 ((kand (w64 ((w64 ((kand (w64 (b0 - (kand (kushr b0 1) 6148914691236517205))) 3689348814741910323) + (kand (kushr (w64 (b0 - (kand (kushr b0 1) 6148914691236517205))) 2) 3689348814741910323))) + (kushr (w64 ((kand (w64 (b0 - (kand (kushr b0 1) 6148914691236517205))) 3689348814741910323) + (kand (kushr (w64 (b0 - (kand (kushr b0 1) 6148914691236517205))) 2) 3689348814741910323))) 4))) 1085102592571150095) + (kushr (kand (w64 ((w64 ((kand (w64 (b0 - (kand (kushr b0 1) 6148914691236517205))) 3689348814741910323) + (kand (kushr (w64 (b0 - (kand (kushr b0 1) 6148914691236517205))) 2) 3689348814741910323))) + (kushr (w64 ((kand (w64 (b0 - (kand (kushr b0 1) 6148914691236517205))) 3689348814741910323) + (kand (kushr (w64 (b0 - (kand (kushr b0 1) 6148914691236517205))) 2) 3689348814741910323))) 4))) 1085102592571150095) 8))) 16))) 32)))) 127))) w := by
  rw [T_lload_0 c256_0, T_lload_0 c256_1, T_sipush c256_2, T_lushr c256_3, T_bipush c256_4, T_land c256_7, T_lsub c256_8, T_lstore_0 c256_9, T_lload_0 c256_10, T_bipush c256_11, T_land c256_14, T_lload_0 c256_15, T_sipush c256_16, T_lushr c256_17, T_bipush c256_18, T_land c256_21, T_ladd c256_22, T_lstore_0 c256_23, T_lload_0 c256_24, T_lload_0 c256_25, T_sipush c256_26, T_lushr c256_27, T_ladd c256_28, T_bipush c256_29, T_land c256_32, T_lstore_0 c256_33, T_lload_0 c256_34, T_lload_0 c256_35, T_sipush c256_36, T_lushr c256_38, T_ladd c256_39, T_lstore_0 c256_40, T_lload_0 c256_41, T_lload_0 c256_42, T_sipush c256_43, T_lushr c256_45, T_ladd c256_46, T_lstore_0 c256_47, T_lload_0 c256_48, T_lload_0 c256_49, T_sipush c256_50, T_lushr c256_52, T_ladd c256_53, T_lstore_0 c256_54, T_lload_0 c256_55, T_l2i c256_56, T_sipush c256_57, T_iand c256_59, T_ireti c256_60 (by decide +kernel)]
  all_goals try simp only [true_and, Nat.reduceAdd, eq_self_iff_true]
/-! 257: StringHands$Tangler.movable.(I)I -/
theorem c257_0 : cd 257 0 = some (.sipush (-1), 1) := by decide +kernel
theorem c257_1 : cd 257 1 = some (.istore 2, 1) := by decide +kernel
theorem c257_2 : cd 257 2 = some (.sipush 0, 1) := by decide +kernel
theorem c257_3 : cd 257 3 = some (.istore 3, 1) := by decide +kernel
theorem c257_4 : cd 257 4 = some (.iload 3, 1) := by decide +kernel
theorem c257_5 : cd 257 5 = some (.iload 1, 1) := by decide +kernel
theorem c257_6 : cd 257 6 = some (.if_icmp .ge 91, 3) := by decide +kernel
theorem c257_9 : cd 257 9 = some (.iload 3, 1) := by decide +kernel
theorem c257_10 : cd 257 10 = some (.aload 0, 1) := by decide +kernel
theorem c257_11 : cd 257 11 = some (.getfield 1798, 3) := by decide +kernel
theorem c257_14 : cd 257 14 = some (.aload 0, 1) := by decide +kernel
theorem c257_15 : cd 257 15 = some (.getfield 1794, 3) := by decide +kernel
theorem c257_18 : cd 257 18 = some (.iload 3, 1) := by decide +kernel
theorem c257_19 : cd 257 19 = some (.iaload, 1) := by decide +kernel
theorem c257_20 : cd 257 20 = some (.iaload, 1) := by decide +kernel
theorem c257_21 : cd 257 21 = some (.iadd, 1) := by decide +kernel
theorem c257_22 : cd 257 22 = some (.istore 4, 2) := by decide +kernel
theorem c257_24 : cd 257 24 = some (.iload 4, 2) := by decide +kernel
theorem c257_26 : cd 257 26 = some (.ifCond .lt 55, 3) := by decide +kernel
theorem c257_29 : cd 257 29 = some (.iload 4, 2) := by decide +kernel
theorem c257_31 : cd 257 31 = some (.iload 1, 1) := by decide +kernel
theorem c257_32 : cd 257 32 = some (.if_icmp .ge 55, 3) := by decide +kernel
theorem c257_35 : cd 257 35 = some (.aload 0, 1) := by decide +kernel
theorem c257_36 : cd 257 36 = some (.getfield 1794, 3) := by decide +kernel
theorem c257_39 : cd 257 39 = some (.iload 4, 2) := by decide +kernel
theorem c257_41 : cd 257 41 = some (.iaload, 1) := by decide +kernel
theorem c257_42 : cd 257 42 = some (.aload 0, 1) := by decide +kernel
theorem c257_43 : cd 257 43 = some (.getfield 1794, 3) := by decide +kernel
theorem c257_46 : cd 257 46 = some (.iload 3, 1) := by decide +kernel
theorem c257_47 : cd 257 47 = some (.iaload, 1) := by decide +kernel
theorem c257_48 : cd 257 48 = some (.if_icmp .ge 55, 3) := by decide +kernel
theorem c257_51 : cd 257 51 = some (.sipush 1, 1) := by decide +kernel
theorem c257_52 : cd 257 52 = some (.goto 56, 3) := by decide +kernel
theorem c257_55 : cd 257 55 = some (.sipush 0, 1) := by decide +kernel
theorem c257_56 : cd 257 56 = some (.istore 5, 2) := by decide +kernel
theorem c257_58 : cd 257 58 = some (.iload 5, 2) := by decide +kernel
theorem c257_60 : cd 257 60 = some (.ifCond .eq 85, 3) := by decide +kernel
theorem c257_63 : cd 257 63 = some (.iload 2, 1) := by decide +kernel
theorem c257_64 : cd 257 64 = some (.sipush (-1), 1) := by decide +kernel
theorem c257_65 : cd 257 65 = some (.if_icmp .eq 83, 3) := by decide +kernel
theorem c257_68 : cd 257 68 = some (.aload 0, 1) := by decide +kernel
theorem c257_69 : cd 257 69 = some (.getfield 1794, 3) := by decide +kernel
theorem c257_72 : cd 257 72 = some (.iload 3, 1) := by decide +kernel
theorem c257_73 : cd 257 73 = some (.iaload, 1) := by decide +kernel
theorem c257_74 : cd 257 74 = some (.aload 0, 1) := by decide +kernel
theorem c257_75 : cd 257 75 = some (.getfield 1794, 3) := by decide +kernel
theorem c257_78 : cd 257 78 = some (.iload 2, 1) := by decide +kernel
theorem c257_79 : cd 257 79 = some (.iaload, 1) := by decide +kernel
theorem c257_80 : cd 257 80 = some (.if_icmp .le 85, 3) := by decide +kernel
theorem c257_83 : cd 257 83 = some (.iload 3, 1) := by decide +kernel
theorem c257_84 : cd 257 84 = some (.istore 2, 1) := by decide +kernel
theorem c257_85 : cd 257 85 = some (.iinc 3 1, 3) := by decide +kernel
theorem c257_88 : cd 257 88 = some (.goto 4, 3) := by decide +kernel
theorem c257_91 : cd 257 91 = some (.iload 2, 1) := by decide +kernel
theorem c257_92 : cd 257 92 = some (.ireturn, 1) := by decide +kernel
theorem g257_0 {d : Nat} {x0 x1 x2 x3 x4 x5 : Option aV} {w : aW} {Q : Option aV → aW → Prop} : T d 257 0 [x0, x1, x2, x3, x4, x5] [] w Q = T d 257 4 [x0, x1, some (vi (-1)), some (vi 0), x4, x5] [] w Q := by
  rw [T_sipush c257_0, T_istore_2 c257_1, T_sipush c257_2, T_istore_3 c257_3]
  all_goals try simp only [true_and, Nat.reduceAdd, eq_self_iff_true]
theorem g257_4 {d : Nat} {a1 a2 a3 : Int} {x4 x5 : Option aV} {w : aW} {Q : Option aV → aW → Prop} : T d 257 4 [some (vr 52), some (vi a1), some (vi a2), some (vi a3), x4, x5] [] w Q = ((a1 ≤ a3 → Q (some (vi a2)) w) ∧ (¬ (a1 ≤ a3) → ((0 ≤ a3 ∧ a3 < 7) ∧ ((0 ≤ w 53 a3 ∧ w 53 a3 < 7) ∧ ((w32 (a3 + (w 54 (w 53 a3))) < 0 → T d 257 55 [some (vr 52), some (vi a1), some (vi a2), some (vi a3), some (vi (w32 (a3 + (w 54 (w 53 a3))))), x5] [] w Q) ∧ (¬ (w32 (a3 + (w 54 (w 53 a3))) < 0) → ((a1 ≤ w32 (a3 + (w 54 (w 53 a3))) → T d 257 55 [some (vr 52), some (vi a1), some (vi a2), some (vi a3), some (vi (w32 (a3 + (w 54 (w 53 a3))))), x5] [] w Q) ∧ (¬ (a1 ≤ w32 (a3 + (w 54 (w 53 a3)))) → ((0 ≤ w32 (a3 + (w 54 (w 53 a3))) ∧ w32 (a3 + (w 54 (w 53 a3))) < 7) ∧ ((0 ≤ a3 ∧ a3 < 7) ∧ ((w 53 a3 ≤ w 53 (w32 (a3 + (w 54 (w 53 a3)))) → T d 257 55 [some (vr 52), some (vi a1), some (vi a2), some (vi a3), some (vi (w32 (a3 + (w 54 (w 53 a3))))), x5] [] w Q) ∧ (¬ (w 53 a3 ≤ w 53 (w32 (a3 + (w 54 (w 53 a3))))) → T d 257 56 [some (vr 52), some (vi a1), some (vi a2), some (vi a3), some (vi (w32 (a3 + (w 54 (w 53 a3))))), x5] [vi 1] w Q)))))))))))) := by
  rw [T_iload_3 c257_4, T_iload_1 c257_5, T_icmp_ge 91 c257_6 rfl, T_iload_2 c257_91, T_ireti c257_92 (by decide +kernel), T_iload_3 c257_9, T_aload_0 c257_10, T_getR 7 1 1 c257_11 rfl rfl rfl rfl, rf_52_1, T_aload_0 c257_14, T_getR 7 0 0 c257_15 rfl rfl rfl rfl, rf_52_0, T_iload_3 c257_18, T_iald c257_19, T_iald c257_20, T_iadd c257_21, T_istore_4 c257_22, T_iload_4 c257_24, T_if_lt 55 c257_26 rfl, T_iload_4 c257_29, T_iload_1 c257_31, T_icmp_ge 55 c257_32 rfl, T_aload_0 c257_35, T_getR 7 0 0 c257_36 rfl rfl rfl rfl, rf_52_0, T_iload_4 c257_39, T_iald c257_41, T_aload_0 c257_42, T_getR 7 0 0 c257_43 rfl rfl rfl rfl, rf_52_0, T_iload_3 c257_46, T_iald c257_47, T_icmp_ge 55 c257_48 rfl, T_sipush c257_51, T_goto 56 c257_52 rfl]
  all_goals try simp only [Int.reduceToNat, lay_52, ld_53, ld_54, true_and, Nat.reduceAdd, eq_self_iff_true]
theorem g257_55 {d : Nat} {x0 x1 x2 x3 x4 x5 : Option aV} {w : aW} {Q : Option aV → aW → Prop} : T d 257 55 [x0, x1, x2, x3, x4, x5] [] w Q = T d 257 56 [x0, x1, x2, x3, x4, x5] [vi 0] w Q := by
  rw [T_sipush c257_55]
  all_goals try simp only [true_and, Nat.reduceAdd, eq_self_iff_true]
theorem g257_56 {d : Nat} {a2 a3 s0 : Int} {x1 x4 x5 : Option aV} {w : aW} {Q : Option aV → aW → Prop} : T d 257 56 [some (vr 52), x1, some (vi a2), some (vi a3), x4, x5] [vi s0] w Q = ((s0 = 0 → T d 257 85 [some (vr 52), x1, some (vi a2), some (vi a3), x4, some (vi s0)] [] w Q) ∧ (¬ (s0 = 0) → ((a2 = (-1) → T d 257 83 [some (vr 52), x1, some (vi a2), some (vi a3), x4, some (vi s0)] [] w Q) ∧ (¬ (a2 = (-1)) → ((0 ≤ a3 ∧ a3 < 7) ∧ ((0 ≤ a2 ∧ a2 < 7) ∧ ((w 53 a3 ≤ w 53 a2 → T d 257 85 [some (vr 52), x1, some (vi a2), some (vi a3), x4, some (vi s0)] [] w Q) ∧ (¬ (w 53 a3 ≤ w 53 a2) → T d 257 83 [some (vr 52), x1, some (vi a2), some (vi a3), x4, some (vi s0)] [] w Q)))))))) := by
  rw [T_istore_5 c257_56, T_iload_5 c257_58, T_if_eq 85 c257_60 rfl, T_iload_2 c257_63, T_sipush c257_64, T_icmp_eq 83 c257_65 rfl, T_aload_0 c257_68, T_getR 7 0 0 c257_69 rfl rfl rfl rfl, rf_52_0, T_iload_3 c257_72, T_iald c257_73, T_aload_0 c257_74, T_getR 7 0 0 c257_75 rfl rfl rfl rfl, rf_52_0, T_iload_2 c257_78, T_iald c257_79, T_icmp_le 85 c257_80 rfl]
  all_goals try simp only [Int.reduceToNat, lay_52, ld_53, true_and, Nat.reduceAdd, eq_self_iff_true]
theorem g257_83 {d : Nat} {a3 : Int} {x0 x1 x2 x4 x5 : Option aV} {w : aW} {Q : Option aV → aW → Prop} : T d 257 83 [x0, x1, x2, some (vi a3), x4, x5] [] w Q = T d 257 85 [x0, x1, some (vi a3), some (vi a3), x4, x5] [] w Q := by
  rw [T_iload_3 c257_83, T_istore_2 c257_84]
  all_goals try simp only [true_and, Nat.reduceAdd, eq_self_iff_true]
theorem g257_85 {d : Nat} {a3 : Int} {x0 x1 x2 x4 x5 : Option aV} {w : aW} {Q : Option aV → aW → Prop} : T d 257 85 [x0, x1, x2, some (vi a3), x4, x5] [] w Q = T d 257 4 [x0, x1, x2, some (vi (w32 (a3 + 1))), x4, x5] [] w Q := by
  rw [T_iinc_3 c257_85, T_goto 4 c257_88 rfl]
  all_goals try simp only [true_and, Nat.reduceAdd, eq_self_iff_true]
/-! 258: StringHands$Tangler.change.(II)V -/
theorem c258_0 : cd 258 0 = some (.aload 0, 1) := by decide +kernel
theorem c258_1 : cd 258 1 = some (.getfield 1794, 3) := by decide +kernel
theorem c258_4 : cd 258 4 = some (.iload 1, 1) := by decide +kernel
theorem c258_5 : cd 258 5 = some (.iaload, 1) := by decide +kernel
theorem c258_6 : cd 258 6 = some (.istore 3, 1) := by decide +kernel
theorem c258_7 : cd 258 7 = some (.iload 1, 1) := by decide +kernel
theorem c258_8 : cd 258 8 = some (.aload 0, 1) := by decide +kernel
theorem c258_9 : cd 258 9 = some (.getfield 1798, 3) := by decide +kernel
theorem c258_12 : cd 258 12 = some (.iload 3, 1) := by decide +kernel
theorem c258_13 : cd 258 13 = some (.iaload, 1) := by decide +kernel
theorem c258_14 : cd 258 14 = some (.iadd, 1) := by decide +kernel
theorem c258_15 : cd 258 15 = some (.istore 4, 2) := by decide +kernel
theorem c258_17 : cd 258 17 = some (.iload 4, 2) := by decide +kernel
theorem c258_19 : cd 258 19 = some (.ifCond .lt 28, 3) := by decide +kernel
theorem c258_22 : cd 258 22 = some (.iload 4, 2) := by decide +kernel
theorem c258_24 : cd 258 24 = some (.iload 2, 1) := by decide +kernel
theorem c258_25 : cd 258 25 = some (.if_icmp .lt 29, 3) := by decide +kernel
theorem c258_28 : cd 258 28 = some (.return_, 1) := by decide +kernel
theorem c258_29 : cd 258 29 = some (.iload 3, 1) := by decide +kernel
theorem c258_30 : cd 258 30 = some (.aload 0, 1) := by decide +kernel
theorem c258_31 : cd 258 31 = some (.getfield 1794, 3) := by decide +kernel
theorem c258_34 : cd 258 34 = some (.iload 4, 2) := by decide +kernel
theorem c258_36 : cd 258 36 = some (.iaload, 1) := by decide +kernel
theorem c258_37 : cd 258 37 = some (.invokestatic 293, 3) := by decide +kernel
theorem c258_40 : cd 258 40 = some (.istore 5, 2) := by decide +kernel
theorem c258_42 : cd 258 42 = some (.aload 0, 1) := by decide +kernel
theorem c258_43 : cd 258 43 = some (.dup, 1) := by decide +kernel
theorem c258_44 : cd 258 44 = some (.getfield 1809, 3) := by decide +kernel
theorem c258_47 : cd 258 47 = some (.aload 0, 1) := by decide +kernel
theorem c258_48 : cd 258 48 = some (.getfield 1802, 3) := by decide +kernel
theorem c258_51 : cd 258 51 = some (.iload 5, 2) := by decide +kernel
theorem c258_53 : cd 258 53 = some (.laload, 1) := by decide +kernel
theorem c258_54 : cd 258 54 = some (.lxor, 1) := by decide +kernel
theorem c258_55 : cd 258 55 = some (.putfield 1809, 3) := by decide +kernel
theorem c258_58 : cd 258 58 = some (.aload 0, 1) := by decide +kernel
theorem c258_59 : cd 258 59 = some (.dup, 1) := by decide +kernel
theorem c258_60 : cd 258 60 = some (.getfield 1813, 3) := by decide +kernel
theorem c258_63 : cd 258 63 = some (.aload 0, 1) := by decide +kernel
theorem c258_64 : cd 258 64 = some (.getfield 1806, 3) := by decide +kernel
theorem c258_67 : cd 258 67 = some (.iload 5, 2) := by decide +kernel
theorem c258_69 : cd 258 69 = some (.laload, 1) := by decide +kernel
theorem c258_70 : cd 258 70 = some (.lxor, 1) := by decide +kernel
theorem c258_71 : cd 258 71 = some (.putfield 1813, 3) := by decide +kernel
theorem c258_74 : cd 258 74 = some (.aload 0, 1) := by decide +kernel
theorem c258_75 : cd 258 75 = some (.getfield 1794, 3) := by decide +kernel
theorem c258_78 : cd 258 78 = some (.iload 1, 1) := by decide +kernel
theorem c258_79 : cd 258 79 = some (.aload 0, 1) := by decide +kernel
theorem c258_80 : cd 258 80 = some (.getfield 1794, 3) := by decide +kernel
theorem c258_83 : cd 258 83 = some (.iload 4, 2) := by decide +kernel
theorem c258_85 : cd 258 85 = some (.iaload, 1) := by decide +kernel
theorem c258_86 : cd 258 86 = some (.iastore, 1) := by decide +kernel
theorem c258_87 : cd 258 87 = some (.aload 0, 1) := by decide +kernel
theorem c258_88 : cd 258 88 = some (.getfield 1794, 3) := by decide +kernel
theorem c258_91 : cd 258 91 = some (.iload 4, 2) := by decide +kernel
theorem c258_93 : cd 258 93 = some (.iload 3, 1) := by decide +kernel
theorem c258_94 : cd 258 94 = some (.iastore, 1) := by decide +kernel
theorem c258_95 : cd 258 95 = some (.iload 3, 1) := by decide +kernel
theorem c258_96 : cd 258 96 = some (.sipush 1, 1) := by decide +kernel
theorem c258_97 : cd 258 97 = some (.iadd, 1) := by decide +kernel
theorem c258_98 : cd 258 98 = some (.istore 6, 2) := by decide +kernel
theorem c258_100 : cd 258 100 = some (.iload 6, 2) := by decide +kernel
theorem c258_102 : cd 258 102 = some (.iload 2, 1) := by decide +kernel
theorem c258_103 : cd 258 103 = some (.if_icmp .ge 127, 3) := by decide +kernel
theorem c258_106 : cd 258 106 = some (.aload 0, 1) := by decide +kernel
theorem c258_107 : cd 258 107 = some (.getfield 1798, 3) := by decide +kernel
theorem c258_110 : cd 258 110 = some (.iload 6, 2) := by decide +kernel
theorem c258_112 : cd 258 112 = some (.aload 0, 1) := by decide +kernel
theorem c258_113 : cd 258 113 = some (.getfield 1798, 3) := by decide +kernel
theorem c258_116 : cd 258 116 = some (.iload 6, 2) := by decide +kernel
theorem c258_118 : cd 258 118 = some (.iaload, 1) := by decide +kernel
theorem c258_119 : cd 258 119 = some (.ineg, 1) := by decide +kernel
theorem c258_120 : cd 258 120 = some (.iastore, 1) := by decide +kernel
theorem c258_121 : cd 258 121 = some (.iinc 6 1, 3) := by decide +kernel
theorem c258_124 : cd 258 124 = some (.goto 100, 3) := by decide +kernel
theorem c258_127 : cd 258 127 = some (.return_, 1) := by decide +kernel
theorem g258_0 {d : Nat} {a1 a2 : Int} {x3 x4 x5 x6 : Option aV} {w : aW} {Q : Option aV → aW → Prop} : T (d + 1) 258 0 [some (vr 52), some (vi a1), some (vi a2), x3, x4, x5, x6] [] w Q = ((0 ≤ a1 ∧ a1 < 7) ∧ ((0 ≤ w 53 a1 ∧ w 53 a1 < 7) ∧ ((w32 (a1 + (w 54 (w 53 a1))) < 0 → T (d + 1) 258 28 [some (vr 52), some (vi a1), some (vi a2), some (vi (w 53 a1)), some (vi (w32 (a1 + (w 54 (w 53 a1))))), x5, x6] [] w Q) ∧ (¬ (w32 (a1 + (w 54 (w 53 a1))) < 0) → ((w32 (a1 + (w 54 (w 53 a1))) < a2 → ((0 ≤ w32 (a1 + (w 54 (w 53 a1))) ∧ w32 (a1 + (w 54 (w 53 a1))) < 7) ∧ T d 293 0 [some (vi (w 53 a1)), some (vi (w 53 (w32 (a1 + (w 54 (w 53 a1))))))] [] w (fun r w1 => T (d + 1) 258 40 [some (vr 52), some (vi a1), some (vi a2), some (vi (w 53 a1)), some (vi (w32 (a1 + (w 54 (w 53 a1))))), x5, x6] (r.toList ++ []) w1 Q))) ∧ (¬ (w32 (a1 + (w 54 (w 53 a1))) < a2) → T (d + 1) 258 28 [some (vr 52), some (vi a1), some (vi a2), some (vi (w 53 a1)), some (vi (w32 (a1 + (w 54 (w 53 a1))))), x5, x6] [] w Q)))))) := by
  rw [T_aload_0 c258_0, T_getR 7 0 0 c258_1 rfl rfl rfl rfl, rf_52_0, T_iload_1 c258_4, T_iald c258_5, T_istore_3 c258_6, T_iload_1 c258_7, T_aload_0 c258_8, T_getR 7 1 1 c258_9 rfl rfl rfl rfl, rf_52_1, T_iload_3 c258_12, T_iald c258_13, T_iadd c258_14, T_istore_4 c258_15, T_iload_4 c258_17, T_if_lt 28 c258_19 rfl, T_iload_4 c258_22, T_iload_2 c258_24, T_icmp_lt 29 c258_25 rfl, T_iload_3 c258_29, T_aload_0 c258_30, T_getR 7 0 0 c258_31 rfl rfl rfl rfl, rf_52_0, T_iload_4 c258_34, T_iald c258_36, T_inv (es := [some (vi (w 53 a1)), some (vi (w 53 (w32 (a1 + (w 54 (w 53 a1))))))]) (st := [vi (w 53 (w32 (a1 + (w 54 (w 53 a1))))), vi (w 53 a1)]) (ks := [0, 0]) (n := 2) (as := [vi (w 53 a1), vi (w 53 (w32 (a1 + (w 54 (w 53 a1)))))]) (rest := []) c258_37 (by decide +kernel) (by decide +kernel) rfl rfl (Nat.le_of_ble_eq_true rfl)]
  all_goals try simp only [Int.reduceToNat, lay_52, ld_53, ld_54, true_and, Nat.reduceAdd, eq_self_iff_true]
theorem g258_28 {d : Nat} {x0 x1 x2 x3 x4 x5 x6 : Option aV} {w : aW} {Q : Option aV → aW → Prop} : T d 258 28 [x0, x1, x2, x3, x4, x5, x6] [] w Q = Q none w := by
  rw [T_vret c258_28 (by decide +kernel)]
  all_goals try simp only [true_and, Nat.reduceAdd, eq_self_iff_true]
theorem g258_40 {d : Nat} {a1 a3 a4 s0 : Int} {x2 x5 x6 : Option aV} {w : aW} {Q : Option aV → aW → Prop} : T d 258 40 [some (vr 52), some (vi a1), x2, some (vi a3), some (vi a4), x5, x6] [vi s0] w Q = ((0 ≤ s0 ∧ s0 < 49) ∧ ((0 ≤ s0 ∧ s0 < 49) ∧ ((0 ≤ a4 ∧ a4 < 7) ∧ ((0 ≤ a1 ∧ a1 < 7) ∧ ((0 ≤ a4 ∧ a4 < 7) ∧ T d 258 100 [some (vr 52), some (vi a1), x2, some (vi a3), some (vi a4), some (vi s0), some (vi (w32 (a3 + 1)))] [] (iup (iup (iup (iup w 52 4 (kxor (w 52 4) (w 55 s0))) 52 5 (kxor ((iup w 52 4 (kxor (w 52 4) (w 55 s0))) 52 5) ((iup w 52 4 (kxor (w 52 4) (w 55 s0))) 56 s0))) 53 a1 ((iup (iup w 52 4 (kxor (w 52 4) (w 55 s0))) 52 5 (kxor ((iup w 52 4 (kxor (w 52 4) (w 55 s0))) 52 5) ((iup w 52 4 (kxor (w 52 4) (w 55 s0))) 56 s0))) 53 a4)) 53 a4 a3) Q))))) := by
  rw [T_istore_5 c258_40, T_aload_0 c258_42, T_dup_r c258_43, T_getL 7 4 4 c258_44 rfl rfl rfl rfl, T_aload_0 c258_47, T_getR 7 2 2 c258_48 rfl rfl rfl rfl, rf_52_2, T_iload_5 c258_51, T_lald c258_53, T_lxor c258_54, T_putL 7 4 4 c258_55 rfl rfl rfl rfl, T_aload_0 c258_58, T_dup_r c258_59, T_getL 7 5 5 c258_60 rfl rfl rfl rfl, T_aload_0 c258_63, T_getR 7 3 3 c258_64 rfl rfl rfl rfl, rf_52_3, T_iload_5 c258_67, T_lald c258_69, T_lxor c258_70, T_putL 7 5 5 c258_71 rfl rfl rfl rfl, T_aload_0 c258_74, T_getR 7 0 0 c258_75 rfl rfl rfl rfl, rf_52_0, T_iload_1 c258_78, T_aload_0 c258_79, T_getR 7 0 0 c258_80 rfl rfl rfl rfl, rf_52_0, T_iload_4 c258_83, T_iald c258_85, T_iast c258_86, T_aload_0 c258_87, T_getR 7 0 0 c258_88 rfl rfl rfl rfl, rf_52_0, T_iload_4 c258_91, T_iload_3 c258_93, T_iast c258_94, T_iload_3 c258_95, T_sipush c258_96, T_iadd c258_97, T_istore_6 c258_98]
  all_goals try simp only [ia0_53, ia1_55, ia1_56, lay_52, ld_53, true_and, Nat.reduceAdd, eq_self_iff_true]
theorem g258_100 {d : Nat} {a2 a6 : Int} {x1 x3 x4 x5 : Option aV} {w : aW} {Q : Option aV → aW → Prop} : T d 258 100 [some (vr 52), x1, some (vi a2), x3, x4, x5, some (vi a6)] [] w Q = ((a2 ≤ a6 → Q none w) ∧ (¬ (a2 ≤ a6) → ((0 ≤ a6 ∧ a6 < 7) ∧ ((0 ≤ a6 ∧ a6 < 7) ∧ T d 258 100 [some (vr 52), x1, some (vi a2), x3, x4, x5, some (vi (w32 (a6 + 1)))] [] (iup w 54 a6 (w32 (-(w 54 a6)))) Q)))) := by
  rw [T_iload_6 c258_100, T_iload_2 c258_102, T_icmp_ge 127 c258_103 rfl, T_vret c258_127 (by decide +kernel), T_aload_0 c258_106, T_getR 7 1 1 c258_107 rfl rfl rfl rfl, rf_52_1, T_iload_6 c258_110, T_aload_0 c258_112, T_getR 7 1 1 c258_113 rfl rfl rfl rfl, rf_52_1, T_iload_6 c258_116, T_iald c258_118, T_ineg c258_119, T_iast c258_120, T_iinc_6 c258_121, T_goto 100 c258_124 rfl]
  all_goals try simp only [Int.reduceToNat, ia0_54, lay_52, ld_54, true_and, Nat.reduceAdd, eq_self_iff_true]
/-! 259: StringHands$Scenes.held.(III)I -/
theorem c259_0 : cd 259 0 = some (.iload 2, 1) := by decide +kernel
theorem c259_1 : cd 259 1 = some (.ifCond .ne 6, 3) := by decide +kernel
theorem c259_4 : cd 259 4 = some (.iload 0, 1) := by decide +kernel
theorem c259_5 : cd 259 5 = some (.ireturn, 1) := by decide +kernel
theorem c259_6 : cd 259 6 = some (.iload 2, 1) := by decide +kernel
theorem c259_7 : cd 259 7 = some (.sipush 1, 1) := by decide +kernel
theorem c259_8 : cd 259 8 = some (.if_icmp .ne 17, 3) := by decide +kernel
theorem c259_11 : cd 259 11 = some (.iload 0, 1) := by decide +kernel
theorem c259_12 : cd 259 12 = some (.iload 1, 1) := by decide +kernel
theorem c259_13 : cd 259 13 = some (.ior, 1) := by decide +kernel
theorem c259_14 : cd 259 14 = some (.goto 22, 3) := by decide +kernel
theorem c259_17 : cd 259 17 = some (.iload 0, 1) := by decide +kernel
theorem c259_18 : cd 259 18 = some (.iload 1, 1) := by decide +kernel
theorem c259_19 : cd 259 19 = some (.sipush (-1), 1) := by decide +kernel
theorem c259_20 : cd 259 20 = some (.ixor, 1) := by decide +kernel
theorem c259_21 : cd 259 21 = some (.iand, 1) := by decide +kernel
theorem c259_22 : cd 259 22 = some (.ireturn, 1) := by decide +kernel
theorem g259_0 {d : Nat} {a0 a1 a2 : Int} {w : aW} {Q : Option aV → aW → Prop} : T d 259 0 [some (vi a0), some (vi a1), some (vi a2)] [] w Q = ((¬ a2 = 0 → ((¬ a2 = 1 → T d 259 22 [some (vi a0), some (vi a1), some (vi a2)] [vi (jand a0 (jxor a1 (-1)))] w Q) ∧ (¬ (¬ a2 = 1) → T d 259 22 [some (vi a0), some (vi a1), some (vi a2)] [vi (jor a0 a1)] w Q))) ∧ (¬ (¬ a2 = 0) → Q (some (vi a0)) w)) := by
  rw [T_iload_2 c259_0, T_if_ne 6 c259_1 rfl, T_iload_2 c259_6, T_sipush c259_7, T_icmp_ne 17 c259_8 rfl, T_iload_0 c259_17, T_iload_1 c259_18, T_sipush c259_19, T_ixor c259_20, T_iand c259_21, T_iload_0 c259_11, T_iload_1 c259_12, T_ior c259_13, T_goto 22 c259_14 rfl, T_iload_0 c259_4, T_ireti c259_5 (by decide +kernel)]
  all_goals try simp only [Int.reduceToNat, true_and, Nat.reduceAdd, eq_self_iff_true]
theorem g259_22 {d : Nat} {s0 : Int} {x0 x1 x2 : Option aV} {w : aW} {Q : Option aV → aW → Prop} : T d 259 22 [x0, x1, x2] [vi s0] w Q = Q (some (vi s0)) w := by
  rw [T_ireti c259_22 (by decide +kernel)]
  all_goals try simp only [true_and, Nat.reduceAdd, eq_self_iff_true]
/-! 260: StringHands$Scenes.isAtRest.(I)Z -/
theorem c260_0 : cd 260 0 = some (.sipush 0, 1) := by decide +kernel
theorem c260_1 : cd 260 1 = some (.istore 2, 1) := by decide +kernel
theorem c260_2 : cd 260 2 = some (.iload 2, 1) := by decide +kernel
theorem c260_3 : cd 260 3 = some (.sipush 3, 1) := by decide +kernel
theorem c260_4 : cd 260 4 = some (.if_icmp .ge 79, 3) := by decide +kernel
theorem c260_7 : cd 260 7 = some (.aload 0, 1) := by decide +kernel
theorem c260_8 : cd 260 8 = some (.getfield 1282, 3) := by decide +kernel
theorem c260_11 : cd 260 11 = some (.iload 2, 1) := by decide +kernel
theorem c260_12 : cd 260 12 = some (.sipush 3, 1) := by decide +kernel
theorem c260_13 : cd 260 13 = some (.imul, 1) := by decide +kernel
theorem c260_14 : cd 260 14 = some (.iload 1, 1) := by decide +kernel
theorem c260_15 : cd 260 15 = some (.sipush 3, 1) := by decide +kernel
theorem c260_16 : cd 260 16 = some (.irem, 1) := by decide +kernel
theorem c260_17 : cd 260 17 = some (.iadd, 1) := by decide +kernel
theorem c260_18 : cd 260 18 = some (.iaload, 1) := by decide +kernel
theorem c260_19 : cd 260 19 = some (.aload 0, 1) := by decide +kernel
theorem c260_20 : cd 260 20 = some (.getfield 1282, 3) := by decide +kernel
theorem c260_23 : cd 260 23 = some (.iload 1, 1) := by decide +kernel
theorem c260_24 : cd 260 24 = some (.iaload, 1) := by decide +kernel
theorem c260_25 : cd 260 25 = some (.if_icmp .le 32, 3) := by decide +kernel
theorem c260_28 : cd 260 28 = some (.sipush 1, 1) := by decide +kernel
theorem c260_29 : cd 260 29 = some (.goto 33, 3) := by decide +kernel
theorem c260_32 : cd 260 32 = some (.sipush 0, 1) := by decide +kernel
theorem c260_33 : cd 260 33 = some (.istore 3, 1) := by decide +kernel
theorem c260_34 : cd 260 34 = some (.aload 0, 1) := by decide +kernel
theorem c260_35 : cd 260 35 = some (.getfield 1286, 3) := by decide +kernel
theorem c260_38 : cd 260 38 = some (.iload 1, 1) := by decide +kernel
theorem c260_39 : cd 260 39 = some (.sipush 3, 1) := by decide +kernel
theorem c260_40 : cd 260 40 = some (.idiv, 1) := by decide +kernel
theorem c260_41 : cd 260 41 = some (.sipush 3, 1) := by decide +kernel
theorem c260_42 : cd 260 42 = some (.imul, 1) := by decide +kernel
theorem c260_43 : cd 260 43 = some (.iload 2, 1) := by decide +kernel
theorem c260_44 : cd 260 44 = some (.iadd, 1) := by decide +kernel
theorem c260_45 : cd 260 45 = some (.iaload, 1) := by decide +kernel
theorem c260_46 : cd 260 46 = some (.aload 0, 1) := by decide +kernel
theorem c260_47 : cd 260 47 = some (.getfield 1286, 3) := by decide +kernel
theorem c260_50 : cd 260 50 = some (.iload 1, 1) := by decide +kernel
theorem c260_51 : cd 260 51 = some (.iaload, 1) := by decide +kernel
theorem c260_52 : cd 260 52 = some (.if_icmp .le 59, 3) := by decide +kernel
theorem c260_55 : cd 260 55 = some (.sipush 1, 1) := by decide +kernel
theorem c260_56 : cd 260 56 = some (.goto 60, 3) := by decide +kernel
theorem c260_59 : cd 260 59 = some (.sipush 0, 1) := by decide +kernel
theorem c260_60 : cd 260 60 = some (.istore 4, 2) := by decide +kernel
theorem c260_62 : cd 260 62 = some (.iload 3, 1) := by decide +kernel
theorem c260_63 : cd 260 63 = some (.ifCond .ne 71, 3) := by decide +kernel
theorem c260_66 : cd 260 66 = some (.iload 4, 2) := by decide +kernel
theorem c260_68 : cd 260 68 = some (.ifCond .eq 73, 3) := by decide +kernel
theorem c260_71 : cd 260 71 = some (.sipush 0, 1) := by decide +kernel
theorem c260_72 : cd 260 72 = some (.ireturn, 1) := by decide +kernel
theorem c260_73 : cd 260 73 = some (.iinc 2 1, 3) := by decide +kernel
theorem c260_76 : cd 260 76 = some (.goto 2, 3) := by decide +kernel
theorem c260_79 : cd 260 79 = some (.sipush 1, 1) := by decide +kernel
theorem c260_80 : cd 260 80 = some (.ireturn, 1) := by decide +kernel
theorem g260_0 {d : Nat} {x0 x1 x2 x3 x4 : Option aV} {w : aW} {Q : Option aV → aW → Prop} : T d 260 0 [x0, x1, x2, x3, x4] [] w Q = T d 260 2 [x0, x1, some (vi 0), x3, x4] [] w Q := by
  rw [T_sipush c260_0, T_istore_2 c260_1]
  all_goals try simp only [true_and, Nat.reduceAdd, eq_self_iff_true]
theorem g260_2 {d : Nat} {a1 a2 : Int} {x3 x4 : Option aV} {w : aW} {Q : Option aV → aW → Prop} : T d 260 2 [some (vr 57), some (vi a1), some (vi a2), x3, x4] [] w Q = ((3 ≤ a2 → Q (some (vi 1)) w) ∧ (¬ (3 ≤ a2) → ((0 ≤ w32 ((w32 (a2 * 3)) + (jrem a1 3)) ∧ w32 ((w32 (a2 * 3)) + (jrem a1 3)) < 9) ∧ ((0 ≤ a1 ∧ a1 < 9) ∧ ((w 58 (w32 ((w32 (a2 * 3)) + (jrem a1 3))) ≤ w 58 a1 → T d 260 33 [some (vr 57), some (vi a1), some (vi a2), x3, x4] [vi 0] w Q) ∧ (¬ (w 58 (w32 ((w32 (a2 * 3)) + (jrem a1 3))) ≤ w 58 a1) → T d 260 33 [some (vr 57), some (vi a1), some (vi a2), x3, x4] [vi 1] w Q)))))) := by
  rw [T_iload_2 c260_2, T_sipush c260_3, T_icmp_ge 79 c260_4 rfl, T_sipush c260_79, T_iretz c260_80 (by decide +kernel), T_aload_0 c260_7, T_getR 5 0 0 c260_8 rfl rfl rfl rfl, rf_57_0, T_iload_2 c260_11, T_sipush c260_12, T_imul c260_13, T_iload_1 c260_14, T_sipush c260_15, T_irem c260_16, T_iadd c260_17, T_iald c260_18, T_aload_0 c260_19, T_getR 5 0 0 c260_20 rfl rfl rfl rfl, rf_57_0, T_iload_1 c260_23, T_iald c260_24, T_icmp_le 32 c260_25 rfl, T_sipush c260_32, T_sipush c260_28, T_goto 33 c260_29 rfl]
  all_goals try simp only [Int.reduceEq, Int.reduceToNat, lay_57, ld_58, ne_eq, not_false_eq_true, true_and, Nat.reduceAdd, eq_self_iff_true, zero_eq_1, one_eq_0, true_or, or_true]
theorem g260_33 {d : Nat} {a1 a2 s0 : Int} {x3 x4 : Option aV} {w : aW} {Q : Option aV → aW → Prop} : T d 260 33 [some (vr 57), some (vi a1), some (vi a2), x3, x4] [vi s0] w Q = ((0 ≤ w32 ((w32 ((jdiv a1 3) * 3)) + a2) ∧ w32 ((w32 ((jdiv a1 3) * 3)) + a2) < 9) ∧ ((0 ≤ a1 ∧ a1 < 9) ∧ ((w 59 (w32 ((w32 ((jdiv a1 3) * 3)) + a2)) ≤ w 59 a1 → T d 260 60 [some (vr 57), some (vi a1), some (vi a2), some (vi s0), x4] [vi 0] w Q) ∧ (¬ (w 59 (w32 ((w32 ((jdiv a1 3) * 3)) + a2)) ≤ w 59 a1) → T d 260 60 [some (vr 57), some (vi a1), some (vi a2), some (vi s0), x4] [vi 1] w Q)))) := by
  rw [T_istore_3 c260_33, T_aload_0 c260_34, T_getR 5 1 1 c260_35 rfl rfl rfl rfl, rf_57_1, T_iload_1 c260_38, T_sipush c260_39, T_idiv c260_40, T_sipush c260_41, T_imul c260_42, T_iload_2 c260_43, T_iadd c260_44, T_iald c260_45, T_aload_0 c260_46, T_getR 5 1 1 c260_47 rfl rfl rfl rfl, rf_57_1, T_iload_1 c260_50, T_iald c260_51, T_icmp_le 59 c260_52 rfl, T_sipush c260_59, T_sipush c260_55, T_goto 60 c260_56 rfl]
  all_goals try simp only [Int.reduceEq, Int.reduceToNat, lay_57, ld_59, ne_eq, not_false_eq_true, true_and, Nat.reduceAdd, eq_self_iff_true]
theorem g260_60 {d : Nat} {a2 a3 s0 : Int} {x0 x1 x4 : Option aV} {w : aW} {Q : Option aV → aW → Prop} : T d 260 60 [x0, x1, some (vi a2), some (vi a3), x4] [vi s0] w Q = ((¬ a3 = 0 → T d 260 71 [x0, x1, some (vi a2), some (vi a3), some (vi s0)] [] w Q) ∧ (¬ (¬ a3 = 0) → ((s0 = 0 → T d 260 2 [x0, x1, some (vi (w32 (a2 + 1))), some (vi a3), some (vi s0)] [] w Q) ∧ (¬ (s0 = 0) → T d 260 71 [x0, x1, some (vi a2), some (vi a3), some (vi s0)] [] w Q)))) := by
  rw [T_istore_4 c260_60, T_iload_3 c260_62, T_if_ne 71 c260_63 rfl, T_iload_4 c260_66, T_if_eq 73 c260_68 rfl, T_iinc_2 c260_73, T_goto 2 c260_76 rfl]
  all_goals try simp only [Int.reduceToNat, true_and, Nat.reduceAdd, eq_self_iff_true]
theorem g260_71 {d : Nat} {x0 x1 x2 x3 x4 : Option aV} {w : aW} {Q : Option aV → aW → Prop} : T d 260 71 [x0, x1, x2, x3, x4] [] w Q = Q (some (vi 0)) w := by
  rw [T_sipush c260_71, T_iretz c260_72 (by decide +kernel)]
  all_goals try simp only [true_and, Nat.reduceAdd, eq_self_iff_true, zero_eq_1, one_eq_0, true_or, or_true]
/-! 261: StringHandsModel.holdsLimb.(III)I -/
theorem c261_0 : cd 261 0 = some (.iload 2, 1) := by decide +kernel
theorem c261_1 : cd 261 1 = some (.sipush 1, 1) := by decide +kernel
theorem c261_2 : cd 261 2 = some (.if_icmp .ne 13, 3) := by decide +kernel
theorem c261_5 : cd 261 5 = some (.iload 0, 1) := by decide +kernel
theorem c261_6 : cd 261 6 = some (.sipush 1, 1) := by decide +kernel
theorem c261_7 : cd 261 7 = some (.iload 1, 1) := by decide +kernel
theorem c261_8 : cd 261 8 = some (.ishl, 1) := by decide +kernel
theorem c261_9 : cd 261 9 = some (.ior, 1) := by decide +kernel
theorem c261_10 : cd 261 10 = some (.goto 29, 3) := by decide +kernel
theorem c261_13 : cd 261 13 = some (.iload 2, 1) := by decide +kernel
theorem c261_14 : cd 261 14 = some (.sipush 2, 1) := by decide +kernel
theorem c261_15 : cd 261 15 = some (.if_icmp .ne 28, 3) := by decide +kernel
theorem c261_18 : cd 261 18 = some (.iload 0, 1) := by decide +kernel
theorem c261_19 : cd 261 19 = some (.sipush 1, 1) := by decide +kernel
theorem c261_20 : cd 261 20 = some (.iload 1, 1) := by decide +kernel
theorem c261_21 : cd 261 21 = some (.ishl, 1) := by decide +kernel
theorem c261_22 : cd 261 22 = some (.sipush (-1), 1) := by decide +kernel
theorem c261_23 : cd 261 23 = some (.ixor, 1) := by decide +kernel
theorem c261_24 : cd 261 24 = some (.iand, 1) := by decide +kernel
theorem c261_25 : cd 261 25 = some (.goto 29, 3) := by decide +kernel
theorem c261_28 : cd 261 28 = some (.iload 0, 1) := by decide +kernel
theorem c261_29 : cd 261 29 = some (.ireturn, 1) := by decide +kernel
theorem g261_0 {d : Nat} {a0 a1 a2 : Int} {w : aW} {Q : Option aV → aW → Prop} : T d 261 0 [some (vi a0), some (vi a1), some (vi a2)] [] w Q = ((¬ a2 = 1 → ((¬ a2 = 2 → T d 261 29 [some (vi a0), some (vi a1), some (vi a2)] [vi a0] w Q) ∧ (¬ (¬ a2 = 2) → T d 261 29 [some (vi a0), some (vi a1), some (vi a2)] [vi (jand a0 (jxor (jshl 1 a1) (-1)))] w Q))) ∧ (¬ (¬ a2 = 1) → T d 261 29 [some (vi a0), some (vi a1), some (vi a2)] [vi (jor a0 (jshl 1 a1))] w Q)) := by
  rw [T_iload_2 c261_0, T_sipush c261_1, T_icmp_ne 13 c261_2 rfl, T_iload_2 c261_13, T_sipush c261_14, T_icmp_ne 28 c261_15 rfl, T_iload_0 c261_28, T_iload_0 c261_18, T_sipush c261_19, T_iload_1 c261_20, T_ishl c261_21, T_sipush c261_22, T_ixor c261_23, T_iand c261_24, T_goto 29 c261_25 rfl, T_iload_0 c261_5, T_sipush c261_6, T_iload_1 c261_7, T_ishl c261_8, T_ior c261_9, T_goto 29 c261_10 rfl]
  all_goals try simp only [Int.reduceToNat, true_and, Nat.reduceAdd, eq_self_iff_true]
theorem g261_29 {d : Nat} {s0 : Int} {x0 x1 x2 : Option aV} {w : aW} {Q : Option aV → aW → Prop} : T d 261 29 [x0, x1, x2] [vi s0] w Q = Q (some (vi s0)) w := by
  rw [T_ireti c261_29 (by decide +kernel)]
  all_goals try simp only [true_and, Nat.reduceAdd, eq_self_iff_true]
/-! 262: StringHands$Guesses.takeFilm.(LStringHands$NumberRow;I)Z -/
theorem c262_0 : cd 262 0 = some (.aload 0, 1) := by decide +kernel
theorem c262_1 : cd 262 1 = some (.sipush 0, 1) := by decide +kernel
theorem c262_2 : cd 262 2 = some (.putfield 280, 3) := by decide +kernel
theorem c262_5 : cd 262 5 = some (.sipush 0, 1) := by decide +kernel
theorem c262_6 : cd 262 6 = some (.istore 3, 1) := by decide +kernel
theorem c262_7 : cd 262 7 = some (.iload 3, 1) := by decide +kernel
theorem c262_8 : cd 262 8 = some (.aload 1, 1) := by decide +kernel
theorem c262_9 : cd 262 9 = some (.getfield 768, 3) := by decide +kernel
theorem c262_12 : cd 262 12 = some (.if_icmp .ge 73, 3) := by decide +kernel
theorem c262_15 : cd 262 15 = some (.iload 3, 1) := by decide +kernel
theorem c262_16 : cd 262 16 = some (.sipush 30, 2) := by decide +kernel
theorem c262_18 : cd 262 18 = some (.if_icmp .ge 73, 3) := by decide +kernel
theorem c262_21 : cd 262 21 = some (.aload 1, 1) := by decide +kernel
theorem c262_22 : cd 262 22 = some (.getfield 774, 3) := by decide +kernel
theorem c262_25 : cd 262 25 = some (.iload 3, 1) := by decide +kernel
theorem c262_26 : cd 262 26 = some (.laload, 1) := by decide +kernel
theorem c262_27 : cd 262 27 = some (.iload 2, 1) := by decide +kernel
theorem c262_28 : cd 262 28 = some (.i2l, 1) := by decide +kernel
theorem c262_29 : cd 262 29 = some (.bipush (-1), 3) := by decide +kernel
theorem c262_32 : cd 262 32 = some (.lxor, 1) := by decide +kernel
theorem c262_33 : cd 262 33 = some (.land, 1) := by decide +kernel
theorem c262_34 : cd 262 34 = some (.bipush 0, 1) := by decide +kernel
theorem c262_35 : cd 262 35 = some (.lcmp, 1) := by decide +kernel
theorem c262_36 : cd 262 36 = some (.ifCond .eq 41, 3) := by decide +kernel
theorem c262_39 : cd 262 39 = some (.sipush 0, 1) := by decide +kernel
theorem c262_40 : cd 262 40 = some (.ireturn, 1) := by decide +kernel
theorem c262_41 : cd 262 41 = some (.aload 0, 1) := by decide +kernel
theorem c262_42 : cd 262 42 = some (.getfield 278, 3) := by decide +kernel
theorem c262_45 : cd 262 45 = some (.aload 0, 1) := by decide +kernel
theorem c262_46 : cd 262 46 = some (.getfield 280, 3) := by decide +kernel
theorem c262_49 : cd 262 49 = some (.aload 1, 1) := by decide +kernel
theorem c262_50 : cd 262 50 = some (.getfield 774, 3) := by decide +kernel
theorem c262_53 : cd 262 53 = some (.iload 3, 1) := by decide +kernel
theorem c262_54 : cd 262 54 = some (.laload, 1) := by decide +kernel
theorem c262_55 : cd 262 55 = some (.l2i, 1) := by decide +kernel
theorem c262_56 : cd 262 56 = some (.iastore, 1) := by decide +kernel
theorem c262_57 : cd 262 57 = some (.aload 0, 1) := by decide +kernel
theorem c262_58 : cd 262 58 = some (.dup, 1) := by decide +kernel
theorem c262_59 : cd 262 59 = some (.getfield 280, 3) := by decide +kernel
theorem c262_62 : cd 262 62 = some (.sipush 1, 1) := by decide +kernel
theorem c262_63 : cd 262 63 = some (.iadd, 1) := by decide +kernel
theorem c262_64 : cd 262 64 = some (.putfield 280, 3) := by decide +kernel
theorem c262_67 : cd 262 67 = some (.iinc 3 1, 3) := by decide +kernel
theorem c262_70 : cd 262 70 = some (.goto 7, 3) := by decide +kernel
theorem c262_73 : cd 262 73 = some (.sipush 1, 1) := by decide +kernel
theorem c262_74 : cd 262 74 = some (.ireturn, 1) := by decide +kernel
theorem g262_0 {d : Nat} {x1 x2 x3 : Option aV} {w : aW} {Q : Option aV → aW → Prop} : T d 262 0 [some (vr 64), x1, x2, x3] [] w Q = T d 262 7 [some (vr 64), x1, x2, some (vi 0)] [] (iup w 64 6 0) Q := by
  rw [T_aload_0 c262_0, T_sipush c262_1, T_putI 1 6 6 c262_2 rfl rfl rfl rfl, T_sipush c262_5, T_istore_3 c262_6]
  all_goals try simp only [lay_64, true_and, Nat.reduceAdd, eq_self_iff_true]
theorem g262_7 {d : Nat} {a2 a3 : Int} {r1 : Nat} {w : aW} {Q : Option aV → aW → Prop} : T d 262 7 [some (vr 64), some (vr r1), some (vi a2), some (vi a3)] [] w Q = (lay r1 = (3, 0) ∧ ((w r1 0 ≤ a3 → T d 262 73 [some (vr 64), some (vr r1), some (vi a2), some (vi a3)] [] w Q) ∧ (¬ (w r1 0 ≤ a3) → ((30 ≤ a3 → T d 262 73 [some (vr 64), some (vr r1), some (vi a2), some (vi a3)] [] w Q) ∧ (¬ (30 ≤ a3) → (lay r1 = (3, 0) ∧ (inA (rfA r1 1) 1 a3 = true ∧ ((kcmp (kand (w (rfA r1 1) a3) (kxor a2 (-1))) 0 = 0 → (lay r1 = (3, 0) ∧ (inA (rfA r1 1) 1 a3 = true ∧ ((0 ≤ w 64 6 ∧ w 64 6 < 30) ∧ T d 262 7 [some (vr 64), some (vr r1), some (vi a2), some (vi (w32 (a3 + 1)))] [] (iup (iup w 68 (w 64 6) (w32 (w (rfA r1 1) a3))) 64 6 (w32 (((iup w 68 (w 64 6) (w32 (w (rfA r1 1) a3))) 64 6) + 1))) Q)))) ∧ (¬ (kcmp (kand (w (rfA r1 1) a3) (kxor a2 (-1))) 0 = 0) → Q (some (vi 0)) w))))))))) := by
  rw [T_iload_3 c262_7, T_aload_1 c262_8, T_getI 3 0 0 c262_9 rfl rfl rfl rfl, T_icmp_ge 73 c262_12 rfl, T_iload_3 c262_15, T_sipush c262_16, T_icmp_ge 73 c262_18 rfl, T_aload_1 c262_21, T_getR 3 1 1 c262_22 rfl rfl rfl rfl, T_iload_3 c262_25, T_lald c262_26, T_iload_2 c262_27, T_i2l c262_28, T_bipush c262_29, T_lxor c262_32, T_land c262_33, T_bipush c262_34, T_lcmp c262_35, T_if_eq 41 c262_36 rfl, T_aload_0 c262_41, T_getR 1 5 5 c262_42 rfl rfl rfl rfl, rf_64_5, T_aload_0 c262_45, T_getI 1 6 6 c262_46 rfl rfl rfl rfl, T_aload_1 c262_49, T_getR 3 1 1 c262_50 rfl rfl rfl rfl, T_iload_3 c262_53, T_lald c262_54, T_l2i c262_55, T_iast c262_56, T_aload_0 c262_57, T_dup_r c262_58, T_getI 1 6 6 c262_59 rfl rfl rfl rfl, T_sipush c262_62, T_iadd c262_63, T_putI 1 6 6 c262_64 rfl rfl rfl rfl, T_iinc_3 c262_67, T_goto 7 c262_70 rfl, T_sipush c262_39, T_iretz c262_40 (by decide +kernel)]
  all_goals try simp only [Int.reduceToNat, ia0_68, lay_64, true_and, Nat.reduceAdd, eq_self_iff_true, zero_eq_1, one_eq_0, true_or, or_true]
theorem g262_73 {d : Nat} {x0 x1 x2 x3 : Option aV} {w : aW} {Q : Option aV → aW → Prop} : T d 262 73 [x0, x1, x2, x3] [] w Q = Q (some (vi 1)) w := by
  rw [T_sipush c262_73, T_iretz c262_74 (by decide +kernel)]
  all_goals try simp only [true_and, Nat.reduceAdd, eq_self_iff_true, zero_eq_1, one_eq_0, true_or, or_true]
/-! 263: StringHands$Guesses.gather.(II)V -/
theorem c263_0 : cd 263 0 = some (.aload 0, 1) := by decide +kernel
theorem c263_1 : cd 263 1 = some (.sipush 0, 1) := by decide +kernel
theorem c263_2 : cd 263 2 = some (.putfield 272, 3) := by decide +kernel
theorem c263_5 : cd 263 5 = some (.aload 0, 1) := by decide +kernel
theorem c263_6 : cd 263 6 = some (.sipush 0, 1) := by decide +kernel
theorem c263_7 : cd 263 7 = some (.putfield 256, 3) := by decide +kernel
theorem c263_10 : cd 263 10 = some (.sipush 1, 1) := by decide +kernel
theorem c263_11 : cd 263 11 = some (.istore 3, 1) := by decide +kernel
theorem c263_12 : cd 263 12 = some (.iload 3, 1) := by decide +kernel
theorem c263_13 : cd 263 13 = some (.iload 1, 1) := by decide +kernel
theorem c263_14 : cd 263 14 = some (.if_icmp .gt 44, 3) := by decide +kernel
theorem c263_17 : cd 263 17 = some (.iload 3, 1) := by decide +kernel
theorem c263_18 : cd 263 18 = some (.sipush 1024, 3) := by decide +kernel
theorem c263_21 : cd 263 21 = some (.if_icmp .ge 44, 3) := by decide +kernel
theorem c263_24 : cd 263 24 = some (.iload 3, 1) := by decide +kernel
theorem c263_25 : cd 263 25 = some (.iload 2, 1) := by decide +kernel
theorem c263_26 : cd 263 26 = some (.invokestatic 117, 3) := by decide +kernel
theorem c263_29 : cd 263 29 = some (.ifCond .ne 38, 3) := by decide +kernel
theorem c263_32 : cd 263 32 = some (.aload 0, 1) := by decide +kernel
theorem c263_33 : cd 263 33 = some (.iload 3, 1) := by decide +kernel
theorem c263_34 : cd 263 34 = some (.iload 2, 1) := by decide +kernel
theorem c263_35 : cd 263 35 = some (.invokevirtual 294, 3) := by decide +kernel
theorem c263_38 : cd 263 38 = some (.iinc 3 1, 3) := by decide +kernel
theorem c263_41 : cd 263 41 = some (.goto 12, 3) := by decide +kernel
theorem c263_44 : cd 263 44 = some (.return_, 1) := by decide +kernel
theorem g263_0 {d : Nat} {x1 x2 x3 : Option aV} {w : aW} {Q : Option aV → aW → Prop} : T d 263 0 [some (vr 64), x1, x2, x3] [] w Q = T d 263 12 [some (vr 64), x1, x2, some (vi 1)] [] (iup (iup w 64 4 0) 64 0 0) Q := by
  rw [T_aload_0 c263_0, T_sipush c263_1, T_putI 1 4 4 c263_2 rfl rfl rfl rfl, T_aload_0 c263_5, T_sipush c263_6, T_putI 1 0 0 c263_7 rfl rfl rfl rfl, T_sipush c263_10, T_istore_3 c263_11]
  all_goals try simp only [lay_64, true_and, Nat.reduceAdd, eq_self_iff_true]
theorem g263_12 {d : Nat} {a1 a2 a3 : Int} {x0 : Option aV} {w : aW} {Q : Option aV → aW → Prop} : T (d + 1) 263 12 [x0, some (vi a1), some (vi a2), some (vi a3)] [] w Q = ((a1 < a3 → T (d + 1) 263 44 [x0, some (vi a1), some (vi a2), some (vi a3)] [] w Q) ∧ (¬ (a1 < a3) → ((1024 ≤ a3 → T (d + 1) 263 44 [x0, some (vi a1), some (vi a2), some (vi a3)] [] w Q) ∧ (¬ (1024 ≤ a3) → T d 117 0 [some (vi a3), some (vi a2)] [] w (fun r w1 => T (d + 1) 263 29 [x0, some (vi a1), some (vi a2), some (vi a3)] (r.toList ++ []) w1 Q))))) := by
  rw [T_iload_3 c263_12, T_iload_1 c263_13, T_icmp_gt 44 c263_14 rfl, T_iload_3 c263_17, T_sipush c263_18, T_icmp_ge 44 c263_21 rfl, T_iload_3 c263_24, T_iload_2 c263_25, T_inv (es := [some (vi a3), some (vi a2)]) (st := [vi a2, vi a3]) (ks := [0, 0]) (n := 2) (as := [vi a3, vi a2]) (rest := []) c263_26 (by decide +kernel) (by decide +kernel) rfl rfl (Nat.le_of_ble_eq_true rfl)]
  all_goals try simp only [Int.reduceToNat, true_and, Nat.reduceAdd, eq_self_iff_true]
theorem g263_29 {d : Nat} {a2 a3 s0 : Int} {x1 : Option aV} {w : aW} {Q : Option aV → aW → Prop} : T (d + 1) 263 29 [some (vr 64), x1, some (vi a2), some (vi a3)] [vi s0] w Q = ((¬ s0 = 0 → T (d + 1) 263 38 [some (vr 64), x1, some (vi a2), some (vi a3)] [] w Q) ∧ (¬ (¬ s0 = 0) → T d 294 0 [some (vr 64), some (vi a3), some (vi a2), none, none, none, none] [] w (fun r w1 => T (d + 1) 263 38 [some (vr 64), x1, some (vi a2), some (vi a3)] (r.toList ++ []) w1 Q))) := by
  rw [T_if_ne 38 c263_29 rfl, T_aload_0 c263_32, T_iload_3 c263_33, T_iload_2 c263_34, T_invv (es := [some (vr 64), some (vi a3), some (vi a2), none, none, none, none]) (st := [vi a2, vi a3, vr 64]) (ks := [2, 0, 0]) (n := 7) (c := 1) (k := 64) (as := [vi a3, vi a2]) (rest := []) c263_35 (by decide +kernel) (by decide +kernel) (by decide +kernel) (by decide) rfl rfl (Nat.le_of_ble_eq_true rfl)]
  all_goals try simp only [Int.reduceToNat, lay_64, true_and, Nat.reduceAdd, eq_self_iff_true]
theorem g263_38 {d : Nat} {a3 : Int} {x0 x1 x2 : Option aV} {w : aW} {Q : Option aV → aW → Prop} : T d 263 38 [x0, x1, x2, some (vi a3)] [] w Q = T d 263 12 [x0, x1, x2, some (vi (w32 (a3 + 1)))] [] w Q := by
  rw [T_iinc_3 c263_38, T_goto 12 c263_41 rfl]
  all_goals try simp only [true_and, Nat.reduceAdd, eq_self_iff_true]
theorem g263_44 {d : Nat} {x0 x1 x2 x3 : Option aV} {w : aW} {Q : Option aV → aW → Prop} : T d 263 44 [x0, x1, x2, x3] [] w Q = Q none w := by
  rw [T_vret c263_44 (by decide +kernel)]
  all_goals try simp only [true_and, Nat.reduceAdd, eq_self_iff_true]
/-! 264: StringHandsModel.isFit.(IIII)Z -/
theorem c264_0 : cd 264 0 = some (.sipush 0, 1) := by decide +kernel
theorem c264_1 : cd 264 1 = some (.istore 5, 2) := by decide +kernel
theorem c264_3 : cd 264 3 = some (.iload 5, 2) := by decide +kernel
theorem c264_5 : cd 264 5 = some (.sipush 1, 1) := by decide +kernel
theorem c264_6 : cd 264 6 = some (.iadd, 1) := by decide +kernel
theorem c264_7 : cd 264 7 = some (.aload 0, 1) := by decide +kernel
theorem c264_8 : cd 264 8 = some (.getfield 3214, 3) := by decide +kernel
theorem c264_11 : cd 264 11 = some (.iload 1, 1) := by decide +kernel
theorem c264_12 : cd 264 12 = some (.iaload, 1) := by decide +kernel
theorem c264_13 : cd 264 13 = some (.if_icmp .ge 77, 3) := by decide +kernel
theorem c264_16 : cd 264 16 = some (.aload 0, 1) := by decide +kernel
theorem c264_17 : cd 264 17 = some (.getfield 3218, 3) := by decide +kernel
theorem c264_20 : cd 264 20 = some (.sipush 40, 2) := by decide +kernel
theorem c264_22 : cd 264 22 = some (.iload 1, 1) := by decide +kernel
theorem c264_23 : cd 264 23 = some (.imul, 1) := by decide +kernel
theorem c264_24 : cd 264 24 = some (.iload 5, 2) := by decide +kernel
theorem c264_26 : cd 264 26 = some (.iadd, 1) := by decide +kernel
theorem c264_27 : cd 264 27 = some (.laload, 1) := by decide +kernel
theorem c264_28 : cd 264 28 = some (.l2i, 1) := by decide +kernel
theorem c264_29 : cd 264 29 = some (.iload 3, 1) := by decide +kernel
theorem c264_30 : cd 264 30 = some (.iand, 1) := by decide +kernel
theorem c264_31 : cd 264 31 = some (.invokestatic 134, 3) := by decide +kernel
theorem c264_34 : cd 264 34 = some (.iload 4, 2) := by decide +kernel
theorem c264_36 : cd 264 36 = some (.if_icmp .lt 43, 3) := by decide +kernel
theorem c264_39 : cd 264 39 = some (.sipush 1, 1) := by decide +kernel
theorem c264_40 : cd 264 40 = some (.goto 44, 3) := by decide +kernel
theorem c264_43 : cd 264 43 = some (.sipush 0, 1) := by decide +kernel
theorem c264_44 : cd 264 44 = some (.istore 6, 2) := by decide +kernel
theorem c264_46 : cd 264 46 = some (.iload 6, 2) := by decide +kernel
theorem c264_48 : cd 264 48 = some (.aload 0, 1) := by decide +kernel
theorem c264_49 : cd 264 49 = some (.getfield 3218, 3) := by decide +kernel
theorem c264_52 : cd 264 52 = some (.sipush 40, 2) := by decide +kernel
theorem c264_54 : cd 264 54 = some (.iload 1, 1) := by decide +kernel
theorem c264_55 : cd 264 55 = some (.imul, 1) := by decide +kernel
theorem c264_56 : cd 264 56 = some (.iload 5, 2) := by decide +kernel
theorem c264_58 : cd 264 58 = some (.iadd, 1) := by decide +kernel
theorem c264_59 : cd 264 59 = some (.sipush 1, 1) := by decide +kernel
theorem c264_60 : cd 264 60 = some (.iadd, 1) := by decide +kernel
theorem c264_61 : cd 264 61 = some (.laload, 1) := by decide +kernel
theorem c264_62 : cd 264 62 = some (.iload 2, 1) := by decide +kernel
theorem c264_63 : cd 264 63 = some (.invokestatic 230, 3) := by decide +kernel
theorem c264_66 : cd 264 66 = some (.if_icmp .eq 71, 3) := by decide +kernel
theorem c264_69 : cd 264 69 = some (.sipush 0, 1) := by decide +kernel
theorem c264_70 : cd 264 70 = some (.ireturn, 1) := by decide +kernel
theorem c264_71 : cd 264 71 = some (.iinc 5 1, 3) := by decide +kernel
theorem c264_74 : cd 264 74 = some (.goto 3, 3) := by decide +kernel
theorem c264_77 : cd 264 77 = some (.sipush 1, 1) := by decide +kernel
theorem c264_78 : cd 264 78 = some (.ireturn, 1) := by decide +kernel
theorem g264_0 {d : Nat} {x0 x1 x2 x3 x4 x5 x6 : Option aV} {w : aW} {Q : Option aV → aW → Prop} : T d 264 0 [x0, x1, x2, x3, x4, x5, x6] [] w Q = T d 264 3 [x0, x1, x2, x3, x4, some (vi 0), x6] [] w Q := by
  rw [T_sipush c264_0, T_istore_5 c264_1]
  all_goals try simp only [true_and, Nat.reduceAdd, eq_self_iff_true]
theorem g264_3 {d : Nat} {a1 a3 a5 : Int} {x2 x4 x6 : Option aV} {w : aW} {Q : Option aV → aW → Prop} : T (d + 1) 264 3 [some (vr 167), some (vi a1), x2, some (vi a3), x4, some (vi a5), x6] [] w Q = ((0 ≤ a1 ∧ a1 < 4) ∧ ((w 189 a1 ≤ w32 (a5 + 1) → Q (some (vi 1)) w) ∧ (¬ (w 189 a1 ≤ w32 (a5 + 1)) → ((0 ≤ w32 ((w32 (40 * a1)) + a5) ∧ w32 ((w32 (40 * a1)) + a5) < 160) ∧ T d 134 0 [some (vi (jand (w32 (w 190 (w32 ((w32 (40 * a1)) + a5)))) a3)), none, none] [] w (fun r w1 => T (d + 1) 264 34 [some (vr 167), some (vi a1), x2, some (vi a3), x4, some (vi a5), x6] (r.toList ++ []) w1 Q))))) := by
  rw [T_iload_5 c264_3, T_sipush c264_5, T_iadd c264_6, T_aload_0 c264_7, T_getR 12 35 35 c264_8 rfl rfl rfl rfl, rf_167_35, T_iload_1 c264_11, T_iald c264_12, T_icmp_ge 77 c264_13 rfl, T_sipush c264_77, T_iretz c264_78 (by decide +kernel), T_aload_0 c264_16, T_getR 12 36 36 c264_17 rfl rfl rfl rfl, rf_167_36, T_sipush c264_20, T_iload_1 c264_22, T_imul c264_23, T_iload_5 c264_24, T_iadd c264_26, T_lald c264_27, T_l2i c264_28, T_iload_3 c264_29, T_iand c264_30, T_inv (es := [some (vi (jand (w32 (w 190 (w32 ((w32 (40 * a1)) + a5)))) a3)), none, none]) (st := [vi (jand (w32 (w 190 (w32 ((w32 (40 * a1)) + a5)))) a3)]) (ks := [0]) (n := 3) (as := [vi (jand (w32 (w 190 (w32 ((w32 (40 * a1)) + a5)))) a3)]) (rest := []) c264_31 (by decide +kernel) (by decide +kernel) rfl rfl (Nat.le_of_ble_eq_true rfl)]
  all_goals try simp only [Int.reduceToNat, ia1_190, lay_167, ld_189, true_and, Nat.reduceAdd, eq_self_iff_true, zero_eq_1, one_eq_0, true_or, or_true]
theorem g264_34 {d : Nat} {a4 s0 : Int} {x0 x1 x2 x3 x5 x6 : Option aV} {w : aW} {Q : Option aV → aW → Prop} : T d 264 34 [x0, x1, x2, x3, some (vi a4), x5, x6] [vi s0] w Q = ((s0 < a4 → T d 264 44 [x0, x1, x2, x3, some (vi a4), x5, x6] [vi 0] w Q) ∧ (¬ (s0 < a4) → T d 264 44 [x0, x1, x2, x3, some (vi a4), x5, x6] [vi 1] w Q)) := by
  rw [T_iload_4 c264_34, T_icmp_lt 43 c264_36 rfl, T_sipush c264_43, T_sipush c264_39, T_goto 44 c264_40 rfl]
  all_goals try simp only [Int.reduceToNat, true_and, Nat.reduceAdd, eq_self_iff_true]
theorem g264_44 {d : Nat} {a1 a2 a5 s0 : Int} {x3 x4 x6 : Option aV} {w : aW} {Q : Option aV → aW → Prop} : T (d + 1) 264 44 [some (vr 167), some (vi a1), some (vi a2), x3, x4, some (vi a5), x6] [vi s0] w Q = ((0 ≤ w32 ((w32 ((w32 (40 * a1)) + a5)) + 1) ∧ w32 ((w32 ((w32 (40 * a1)) + a5)) + 1) < 160) ∧ T d 230 0 [some (vl (w 190 (w32 ((w32 ((w32 (40 * a1)) + a5)) + 1)))), none, some (vi a2)] [] w (fun r w1 => T (d + 1) 264 66 [some (vr 167), some (vi a1), some (vi a2), x3, x4, some (vi a5), some (vi s0)] (r.toList ++ [vi s0]) w1 Q)) := by
  rw [T_istore_6 c264_44, T_iload_6 c264_46, T_aload_0 c264_48, T_getR 12 36 36 c264_49 rfl rfl rfl rfl, rf_167_36, T_sipush c264_52, T_iload_1 c264_54, T_imul c264_55, T_iload_5 c264_56, T_iadd c264_58, T_sipush c264_59, T_iadd c264_60, T_lald c264_61, T_iload_2 c264_62, T_inv (es := [some (vl (w 190 (w32 ((w32 ((w32 (40 * a1)) + a5)) + 1)))), none, some (vi a2)]) (st := [vi a2, vl (w 190 (w32 ((w32 ((w32 (40 * a1)) + a5)) + 1))), vi s0]) (ks := [1, 0]) (n := 3) (as := [vl (w 190 (w32 ((w32 ((w32 (40 * a1)) + a5)) + 1))), vi a2]) (rest := [vi s0]) c264_63 (by decide +kernel) (by decide +kernel) rfl rfl (Nat.le_of_ble_eq_true rfl)]
  all_goals try simp only [ia1_190, lay_167, true_and, Nat.reduceAdd, eq_self_iff_true]
theorem g264_66 {d : Nat} {a5 s0 s1 : Int} {x0 x1 x2 x3 x4 x6 : Option aV} {w : aW} {Q : Option aV → aW → Prop} : T d 264 66 [x0, x1, x2, x3, x4, some (vi a5), x6] [vi s1, vi s0] w Q = ((s0 = s1 → T d 264 3 [x0, x1, x2, x3, x4, some (vi (w32 (a5 + 1))), x6] [] w Q) ∧ (¬ (s0 = s1) → Q (some (vi 0)) w)) := by
  rw [T_icmp_eq 71 c264_66 rfl, T_iinc_5 c264_71, T_goto 3 c264_74 rfl, T_sipush c264_69, T_iretz c264_70 (by decide +kernel)]
  all_goals try simp only [Int.reduceToNat, true_and, Nat.reduceAdd, eq_self_iff_true, zero_eq_1, one_eq_0, true_or, or_true]
/-! 265: StringHands$Guesses.upBehind.(I)I -/
theorem c265_0 : cd 265 0 = some (.sipush 0, 1) := by decide +kernel
theorem c265_1 : cd 265 1 = some (.istore 2, 1) := by decide +kernel
theorem c265_2 : cd 265 2 = some (.sipush 0, 1) := by decide +kernel
theorem c265_3 : cd 265 3 = some (.istore 3, 1) := by decide +kernel
theorem c265_4 : cd 265 4 = some (.iload 3, 1) := by decide +kernel
theorem c265_5 : cd 265 5 = some (.aload 0, 1) := by decide +kernel
theorem c265_6 : cd 265 6 = some (.getfield 272, 3) := by decide +kernel
theorem c265_9 : cd 265 9 = some (.if_icmp .ge 58, 3) := by decide +kernel
theorem c265_12 : cd 265 12 = some (.aload 0, 1) := by decide +kernel
theorem c265_13 : cd 265 13 = some (.getfield 270, 3) := by decide +kernel
theorem c265_16 : cd 265 16 = some (.iload 3, 1) := by decide +kernel
theorem c265_17 : cd 265 17 = some (.iaload, 1) := by decide +kernel
theorem c265_18 : cd 265 18 = some (.iload 1, 1) := by decide +kernel
theorem c265_19 : cd 265 19 = some (.aload 0, 1) := by decide +kernel
theorem c265_20 : cd 265 20 = some (.getfield 262, 3) := by decide +kernel
theorem c265_23 : cd 265 23 = some (.iload 3, 1) := by decide +kernel
theorem c265_24 : cd 265 24 = some (.iaload, 1) := by decide +kernel
theorem c265_25 : cd 265 25 = some (.iand, 1) := by decide +kernel
theorem c265_26 : cd 265 26 = some (.invokestatic 132, 3) := by decide +kernel
theorem c265_29 : cd 265 29 = some (.invokedynamic 1, 3) := by decide +kernel
theorem c265_32 : cd 265 32 = some (.istore 4, 2) := by decide +kernel
theorem c265_34 : cd 265 34 = some (.iload 2, 1) := by decide +kernel
theorem c265_35 : cd 265 35 = some (.sipush 0, 1) := by decide +kernel
theorem c265_36 : cd 265 36 = some (.iload 4, 2) := by decide +kernel
theorem c265_38 : cd 265 38 = some (.aload 0, 1) := by decide +kernel
theorem c265_39 : cd 265 39 = some (.getfield 266, 3) := by decide +kernel
theorem c265_42 : cd 265 42 = some (.iload 3, 1) := by decide +kernel
theorem c265_43 : cd 265 43 = some (.iaload, 1) := by decide +kernel
theorem c265_44 : cd 265 44 = some (.isub, 1) := by decide +kernel
theorem c265_45 : cd 265 45 = some (.sipush 1, 1) := by decide +kernel
theorem c265_46 : cd 265 46 = some (.iadd, 1) := by decide +kernel
theorem c265_47 : cd 265 47 = some (.invokedynamic 2, 3) := by decide +kernel
theorem c265_50 : cd 265 50 = some (.iadd, 1) := by decide +kernel
theorem c265_51 : cd 265 51 = some (.istore 2, 1) := by decide +kernel
theorem c265_52 : cd 265 52 = some (.iinc 3 1, 3) := by decide +kernel
theorem c265_55 : cd 265 55 = some (.goto 4, 3) := by decide +kernel
theorem c265_58 : cd 265 58 = some (.iload 2, 1) := by decide +kernel
theorem c265_59 : cd 265 59 = some (.ireturn, 1) := by decide +kernel
theorem g265_0 {d : Nat} {x0 x1 x2 x3 x4 : Option aV} {w : aW} {Q : Option aV → aW → Prop} : T d 265 0 [x0, x1, x2, x3, x4] [] w Q = T d 265 4 [x0, x1, some (vi 0), some (vi 0), x4] [] w Q := by
  rw [T_sipush c265_0, T_istore_2 c265_1, T_sipush c265_2, T_istore_3 c265_3]
  all_goals try simp only [true_and, Nat.reduceAdd, eq_self_iff_true]
theorem g265_4 {d : Nat} {a1 a2 a3 : Int} {x4 : Option aV} {w : aW} {Q : Option aV → aW → Prop} : T (d + 1) 265 4 [some (vr 64), some (vi a1), some (vi a2), some (vi a3), x4] [] w Q = ((w 64 4 ≤ a3 → Q (some (vi a2)) w) ∧ (¬ (w 64 4 ≤ a3) → ((0 ≤ a3 ∧ a3 < 1024) ∧ ((0 ≤ a3 ∧ a3 < 1024) ∧ T d 132 0 [some (vi (jand a1 (w 65 a3)))] [] w (fun r w1 => T (d + 1) 265 29 [some (vr 64), some (vi a1), some (vi a2), some (vi a3), x4] (r.toList ++ [vi (w 67 a3)]) w1 Q))))) := by
  rw [T_iload_3 c265_4, T_aload_0 c265_5, T_getI 1 4 4 c265_6 rfl rfl rfl rfl, T_icmp_ge 58 c265_9 rfl, T_iload_2 c265_58, T_ireti c265_59 (by decide +kernel), T_aload_0 c265_12, T_getR 1 3 3 c265_13 rfl rfl rfl rfl, rf_64_3, T_iload_3 c265_16, T_iald c265_17, T_iload_1 c265_18, T_aload_0 c265_19, T_getR 1 1 1 c265_20 rfl rfl rfl rfl, rf_64_1, T_iload_3 c265_23, T_iald c265_24, T_iand c265_25, T_inv (es := [some (vi (jand a1 (w 65 a3)))]) (st := [vi (jand a1 (w 65 a3)), vi (w 67 a3)]) (ks := [0]) (n := 1) (as := [vi (jand a1 (w 65 a3))]) (rest := [vi (w 67 a3)]) c265_26 (by decide +kernel) (by decide +kernel) rfl rfl (Nat.le_of_ble_eq_true rfl)]
  all_goals try simp only [Int.reduceToNat, lay_64, ld_65, ld_67, true_and, Nat.reduceAdd, eq_self_iff_true]
theorem g265_29 {d : Nat} {a2 a3 s0 s1 : Int} {x1 x4 : Option aV} {w : aW} {Q : Option aV → aW → Prop} : T d 265 29 [some (vr 64), x1, some (vi a2), some (vi a3), x4] [vi s1, vi s0] w Q = ((0 ≤ a3 ∧ a3 < 1024) ∧ T d 265 4 [some (vr 64), x1, some (vi (w32 (a2 + (if 0 < w32 ((w32 ((if s1 < s0 then s1 else s0) - (w 66 a3))) + 1) then w32 ((w32 ((if s1 < s0 then s1 else s0) - (w 66 a3))) + 1) else 0)))), some (vi (w32 (a3 + 1))), some (vi (if s1 < s0 then s1 else s0))] [] w Q) := by
  rw [T_min (st := []) c265_29 (Nat.le_of_ble_eq_true rfl), T_istore_4 c265_32, T_iload_2 c265_34, T_sipush c265_35, T_iload_4 c265_36, T_aload_0 c265_38, T_getR 1 2 2 c265_39 rfl rfl rfl rfl, rf_64_2, T_iload_3 c265_42, T_iald c265_43, T_isub c265_44, T_sipush c265_45, T_iadd c265_46, T_max (st := [vi a2]) c265_47 (Nat.le_of_ble_eq_true rfl), T_iadd c265_50, T_istore_2 c265_51, T_iinc_3 c265_52, T_goto 4 c265_55 rfl]
  all_goals try simp only [lay_64, ld_66, true_and, Nat.reduceAdd, eq_self_iff_true]
/-! 266: StringHands$NumberRow.cutTo.(IJ)J -/
theorem c266_0 : cd 266 0 = some (.iload 0, 1) := by decide +kernel
theorem c266_1 : cd 266 1 = some (.tableswitch 42 0 2 #[28, 33, 38], 27) := by decide +kernel
theorem c266_28 : cd 266 28 = some (.lload 1, 1) := by decide +kernel
theorem c266_29 : cd 266 29 = some (.l2i, 1) := by decide +kernel
theorem c266_30 : cd 266 30 = some (.i2b, 1) := by decide +kernel
theorem c266_31 : cd 266 31 = some (.i2l, 1) := by decide +kernel
theorem c266_32 : cd 266 32 = some (.lreturn, 1) := by decide +kernel
theorem c266_33 : cd 266 33 = some (.lload 1, 1) := by decide +kernel
theorem c266_34 : cd 266 34 = some (.l2i, 1) := by decide +kernel
theorem c266_35 : cd 266 35 = some (.i2s, 1) := by decide +kernel
theorem c266_36 : cd 266 36 = some (.i2l, 1) := by decide +kernel
theorem c266_37 : cd 266 37 = some (.lreturn, 1) := by decide +kernel
theorem c266_38 : cd 266 38 = some (.lload 1, 1) := by decide +kernel
theorem c266_39 : cd 266 39 = some (.l2i, 1) := by decide +kernel
theorem c266_40 : cd 266 40 = some (.i2l, 1) := by decide +kernel
theorem c266_41 : cd 266 41 = some (.lreturn, 1) := by decide +kernel
theorem c266_42 : cd 266 42 = some (.lload 1, 1) := by decide +kernel
theorem c266_43 : cd 266 43 = some (.lreturn, 1) := by decide +kernel
theorem sw266_1 {d : Nat} {ls : List (Option aV)} {st : List aV} {w : aW} {Q : Option aV → aW → Prop} {x : Int} : T d 266 1 ls (vi x :: st) w Q = ((x = 0 → T d 266 28 ls st w Q) ∧ (x = 1 → T d 266 33 ls st w Q) ∧ (x = 2 → T d 266 38 ls st w Q) ∧ (¬ x = 0 ∧ ¬ x = 1 ∧ ¬ x = 2 → T d 266 42 ls st w Q)) := by
  rw [T_tab c266_1]
  apply propext
  constructor
  · intro h
    refine ⟨fun q => by subst q; exact h, fun q => by subst q; exact h, fun q => by subst q; exact h, fun q => ?_⟩
    · have e : (if x < 0 ∨ 2 < x then (42 : Int).toNat else ((#[28, 33, 38] : Array Int).toList.getD (x - 0).toNat 42).toNat) = 42 := by rw [if_pos (by omega)]; rfl
      rw [e] at h; exact h
  · rintro ⟨h0, h1, h2, hd⟩
    by_cases n0 : x = 0
    · subst n0; exact h0 rfl
    by_cases n1 : x = 1
    · subst n1; exact h1 rfl
    by_cases n2 : x = 2
    · subst n2; exact h2 rfl
    · have e : (if x < 0 ∨ 2 < x then (42 : Int).toNat else ((#[28, 33, 38] : Array Int).toList.getD (x - 0).toNat 42).toNat) = 42 := by rw [if_pos (by omega)]; rfl
      rw [e]; exact hd ⟨n0, n1, n2⟩
theorem g266_0 {d : Nat} {a0 b1 : Int} {w : aW} {Q : Option aV → aW → Prop} : T d 266 0 [some (vi a0), some (vl b1), none] [] w Q = ((a0 = 0 → Q (some (vl (j8 (w32 b1)))) w) ∧ (a0 = 1 → Q (some (vl (j16 (w32 b1)))) w) ∧ (a0 = 2 → Q (some (vl (w32 b1))) w) ∧ (¬ a0 = 0 ∧ ¬ a0 = 1 ∧ ¬ a0 = 2 → Q (some (vl b1)) w)) := by
  rw [T_iload_0 c266_0, sw266_1, T_lload_1 c266_28, T_l2i c266_29, T_i2b c266_30, T_i2l c266_31, T_lret c266_32 (by decide +kernel), T_lload_1 c266_33, T_l2i c266_34, T_i2s c266_35, T_i2l c266_36, T_lret c266_37 (by decide +kernel), T_lload_1 c266_38, T_l2i c266_39, T_i2l c266_40, T_lret c266_41 (by decide +kernel), T_lload_1 c266_42, T_lret c266_43 (by decide +kernel)]
  all_goals try simp only [true_and, Nat.reduceAdd, eq_self_iff_true]
/-! 267: java/util/Arrays.fill.([JJ)V -/
theorem c267_0 : cd 267 0 = some (.sipush 0, 1) := by decide +kernel
theorem c267_1 : cd 267 1 = some (.istore 3, 1) := by decide +kernel
theorem c267_2 : cd 267 2 = some (.aload 0, 1) := by decide +kernel
theorem c267_3 : cd 267 3 = some (.arraylength, 1) := by decide +kernel
theorem c267_4 : cd 267 4 = some (.istore 4, 2) := by decide +kernel
theorem c267_6 : cd 267 6 = some (.iload 3, 1) := by decide +kernel
theorem c267_7 : cd 267 7 = some (.iload 4, 2) := by decide +kernel
theorem c267_9 : cd 267 9 = some (.if_icmp .ge 22, 3) := by decide +kernel
theorem c267_12 : cd 267 12 = some (.aload 0, 1) := by decide +kernel
theorem c267_13 : cd 267 13 = some (.iload 3, 1) := by decide +kernel
theorem c267_14 : cd 267 14 = some (.lload 1, 1) := by decide +kernel
theorem c267_15 : cd 267 15 = some (.lastore, 1) := by decide +kernel
theorem c267_16 : cd 267 16 = some (.iinc 3 1, 3) := by decide +kernel
theorem c267_19 : cd 267 19 = some (.goto 6, 3) := by decide +kernel
theorem c267_22 : cd 267 22 = some (.return_, 1) := by decide +kernel
theorem g267_0 {d : Nat} {r0 : Nat} {x1 x2 x3 x4 : Option aV} {w : aW} {Q : Option aV → aW → Prop} : T d 267 0 [some (vr r0), x1, x2, x3, x4] [] w Q = (alok r0 ∧ T d 267 6 [some (vr r0), x1, x2, some (vi 0), some (vi (alv w r0))] [] w Q) := by
  rw [T_sipush c267_0, T_istore_3 c267_1, T_aload_0 c267_2, T_alen c267_3, T_istore_4 c267_4]
  all_goals try simp only [true_and, Nat.reduceAdd, eq_self_iff_true]
theorem g267_6 {d : Nat} {b1 a3 a4 : Int} {r0 : Nat} {w : aW} {Q : Option aV → aW → Prop} : T d 267 6 [some (vr r0), some (vl b1), none, some (vi a3), some (vi a4)] [] w Q = ((a4 ≤ a3 → Q none w) ∧ (¬ (a4 ≤ a3) → (inA r0 1 a3 = true ∧ T d 267 6 [some (vr r0), some (vl b1), none, some (vi (w32 (a3 + 1))), some (vi a4)] [] (iup w r0 a3 b1) Q))) := by
  rw [T_iload_3 c267_6, T_iload_4 c267_7, T_icmp_ge 22 c267_9 rfl, T_vret c267_22 (by decide +kernel), T_aload_0 c267_12, T_iload_3 c267_13, T_lload_1 c267_14, T_last c267_15, T_iinc_3 c267_16, T_goto 6 c267_19 rfl]
  all_goals try simp only [Int.reduceToNat, true_and, Nat.reduceAdd, eq_self_iff_true]
/-! 268: StringHands$Reader.isLetter.(I)Z -/
theorem c268_0 : cd 268 0 = some (.iload 0, 1) := by decide +kernel
theorem c268_1 : cd 268 1 = some (.sipush 97, 2) := by decide +kernel
theorem c268_3 : cd 268 3 = some (.if_icmp .lt 16, 3) := by decide +kernel
theorem c268_6 : cd 268 6 = some (.iload 0, 1) := by decide +kernel
theorem c268_7 : cd 268 7 = some (.sipush 122, 2) := by decide +kernel
theorem c268_9 : cd 268 9 = some (.if_icmp .gt 16, 3) := by decide +kernel
theorem c268_12 : cd 268 12 = some (.sipush 1, 1) := by decide +kernel
theorem c268_13 : cd 268 13 = some (.goto 17, 3) := by decide +kernel
theorem c268_16 : cd 268 16 = some (.sipush 0, 1) := by decide +kernel
theorem c268_17 : cd 268 17 = some (.ireturn, 1) := by decide +kernel
theorem g268_0 {d : Nat} {a0 : Int} {w : aW} {Q : Option aV → aW → Prop} : T d 268 0 [some (vi a0)] [] w Q = ((a0 < 97 → T d 268 16 [some (vi a0)] [] w Q) ∧ (¬ (a0 < 97) → ((122 < a0 → T d 268 16 [some (vi a0)] [] w Q) ∧ (¬ (122 < a0) → T d 268 17 [some (vi a0)] [vi 1] w Q)))) := by
  rw [T_iload_0 c268_0, T_sipush c268_1, T_icmp_lt 16 c268_3 rfl, T_iload_0 c268_6, T_sipush c268_7, T_icmp_gt 16 c268_9 rfl, T_sipush c268_12, T_goto 17 c268_13 rfl]
  all_goals try simp only [Int.reduceToNat, true_and, Nat.reduceAdd, eq_self_iff_true]
theorem g268_16 {d : Nat} {x0 : Option aV} {w : aW} {Q : Option aV → aW → Prop} : T d 268 16 [x0] [] w Q = T d 268 17 [x0] [vi 0] w Q := by
  rw [T_sipush c268_16]
  all_goals try simp only [true_and, Nat.reduceAdd, eq_self_iff_true]
theorem g268_17 {d : Nat} {s0 : Int} {x0 : Option aV} {w : aW} {Q : Option aV → aW → Prop} : T d 268 17 [x0] [vi s0] w Q = ((s0 = 0 ∨ s0 = 1) ∧ Q (some (vi s0)) w) := by
  rw [T_iretz c268_17 (by decide +kernel)]
  all_goals try simp only [true_and, Nat.reduceAdd, eq_self_iff_true]
/-! 269: StringHands$Reader.wordKind.(II)I -/
theorem c269_0 : cd 269 0 = some (.sipush 201, 3) := by decide +kernel
theorem c269_3 : cd 269 3 = some (.istore 3, 1) := by decide +kernel
theorem c269_4 : cd 269 4 = some (.sipush 0, 1) := by decide +kernel
theorem c269_5 : cd 269 5 = some (.istore 4, 2) := by decide +kernel
theorem c269_7 : cd 269 7 = some (.sipush 0, 1) := by decide +kernel
theorem c269_8 : cd 269 8 = some (.istore 5, 2) := by decide +kernel
theorem c269_10 : cd 269 10 = some (.iload 5, 2) := by decide +kernel
theorem c269_12 : cd 269 12 = some (.ldc 0, 2) := by decide +kernel
theorem c269_14 : cd 269 14 = some (.invokevirtual 226, 3) := by decide +kernel
theorem c269_17 : cd 269 17 = some (.if_icmp .ge 62, 3) := by decide +kernel
theorem c269_20 : cd 269 20 = some (.ldc 0, 2) := by decide +kernel
theorem c269_22 : cd 269 22 = some (.iload 5, 2) := by decide +kernel
theorem c269_24 : cd 269 24 = some (.invokevirtual 227, 3) := by decide +kernel
theorem c269_27 : cd 269 27 = some (.sipush 32, 2) := by decide +kernel
theorem c269_29 : cd 269 29 = some (.if_icmp .ne 56, 3) := by decide +kernel
theorem c269_32 : cd 269 32 = some (.aload 0, 1) := by decide +kernel
theorem c269_33 : cd 269 33 = some (.iload 1, 1) := by decide +kernel
theorem c269_34 : cd 269 34 = some (.iload 2, 1) := by decide +kernel
theorem c269_35 : cd 269 35 = some (.iload 4, 2) := by decide +kernel
theorem c269_37 : cd 269 37 = some (.iload 5, 2) := by decide +kernel
theorem c269_39 : cd 269 39 = some (.invokevirtual 295, 3) := by decide +kernel
theorem c269_42 : cd 269 42 = some (.ifCond .eq 47, 3) := by decide +kernel
theorem c269_45 : cd 269 45 = some (.iload 3, 1) := by decide +kernel
theorem c269_46 : cd 269 46 = some (.ireturn, 1) := by decide +kernel
theorem c269_47 : cd 269 47 = some (.iinc 3 1, 3) := by decide +kernel
theorem c269_50 : cd 269 50 = some (.iload 5, 2) := by decide +kernel
theorem c269_52 : cd 269 52 = some (.sipush 1, 1) := by decide +kernel
theorem c269_53 : cd 269 53 = some (.iadd, 1) := by decide +kernel
theorem c269_54 : cd 269 54 = some (.istore 4, 2) := by decide +kernel
theorem c269_56 : cd 269 56 = some (.iinc 5 1, 3) := by decide +kernel
theorem c269_59 : cd 269 59 = some (.goto 10, 3) := by decide +kernel
theorem c269_62 : cd 269 62 = some (.sipush 200, 3) := by decide +kernel
theorem c269_65 : cd 269 65 = some (.ireturn, 1) := by decide +kernel
theorem g269_0 {d : Nat} {x0 x1 x2 x3 x4 x5 : Option aV} {w : aW} {Q : Option aV → aW → Prop} : T d 269 0 [x0, x1, x2, x3, x4, x5] [] w Q = T d 269 10 [x0, x1, x2, some (vi 201), some (vi 0), some (vi 0)] [] w Q := by
  rw [T_sipush c269_0, T_istore_3 c269_3, T_sipush c269_4, T_istore_4 c269_5, T_sipush c269_7, T_istore_5 c269_8]
  all_goals try simp only [true_and, Nat.reduceAdd, eq_self_iff_true]
theorem g269_10 {d : Nat} {a5 : Int} {x0 x1 x2 x3 x4 : Option aV} {w : aW} {Q : Option aV → aW → Prop} : T (d + 1) 269 10 [x0, x1, x2, x3, x4, some (vi a5)] [] w Q = ((1000 ≤ 1000 ∧ 1000 < 1003) ∧ T d 226 0 [some (vr 1000)] [] w (fun r w1 => T (d + 1) 269 17 [x0, x1, x2, x3, x4, some (vi a5)] (r.toList ++ [vi a5]) w1 Q)) := by
  rw [T_iload_5 c269_10, T_ldc (n := 1000) c269_12 rfl, T_invs (es := [some (vr 1000)]) (st := [vr 1000, vi a5]) (ks := [2]) (n := 1) (k := 1000) (as := []) (rest := [vi a5]) c269_14 (by decide +kernel) (by decide +kernel) (by decide +kernel) rfl rfl (Nat.le_of_ble_eq_true rfl)]
  all_goals try simp only [true_and, Nat.reduceAdd, eq_self_iff_true]
theorem g269_17 {d : Nat} {a5 s0 s1 : Int} {x0 x1 x2 x3 x4 : Option aV} {w : aW} {Q : Option aV → aW → Prop} : T (d + 1) 269 17 [x0, x1, x2, x3, x4, some (vi a5)] [vi s1, vi s0] w Q = ((s1 ≤ s0 → Q (some (vi 200)) w) ∧ (¬ (s1 ≤ s0) → ((1000 ≤ 1000 ∧ 1000 < 1003) ∧ T d 227 0 [some (vr 1000), some (vi a5)] [] w (fun r w1 => T (d + 1) 269 27 [x0, x1, x2, x3, x4, some (vi a5)] (r.toList ++ []) w1 Q)))) := by
  rw [T_icmp_ge 62 c269_17 rfl, T_sipush c269_62, T_ireti c269_65 (by decide +kernel), T_ldc (n := 1000) c269_20 rfl, T_iload_5 c269_22, T_invs (es := [some (vr 1000), some (vi a5)]) (st := [vi a5, vr 1000]) (ks := [2, 0]) (n := 2) (k := 1000) (as := [vi a5]) (rest := []) c269_24 (by decide +kernel) (by decide +kernel) (by decide +kernel) rfl rfl (Nat.le_of_ble_eq_true rfl)]
  all_goals try simp only [Int.reduceToNat, true_and, Nat.reduceAdd, eq_self_iff_true]
theorem g269_27 {d : Nat} {a1 a2 a4 a5 s0 : Int} {x3 : Option aV} {w : aW} {Q : Option aV → aW → Prop} : T (d + 1) 269 27 [some (vr 1), some (vi a1), some (vi a2), x3, some (vi a4), some (vi a5)] [vi s0] w Q = ((¬ s0 = 32 → T (d + 1) 269 56 [some (vr 1), some (vi a1), some (vi a2), x3, some (vi a4), some (vi a5)] [] w Q) ∧ (¬ (¬ s0 = 32) → T d 295 0 [some (vr 1), some (vi a1), some (vi a2), some (vi a4), some (vi a5), none] [] w (fun r w1 => T (d + 1) 269 42 [some (vr 1), some (vi a1), some (vi a2), x3, some (vi a4), some (vi a5)] (r.toList ++ []) w1 Q))) := by
  rw [T_sipush c269_27, T_icmp_ne 56 c269_29 rfl, T_aload_0 c269_32, T_iload_1 c269_33, T_iload_2 c269_34, T_iload_4 c269_35, T_iload_5 c269_37, T_invv (es := [some (vr 1), some (vi a1), some (vi a2), some (vi a4), some (vi a5), none]) (st := [vi a5, vi a4, vi a2, vi a1, vr 1]) (ks := [2, 0, 0, 0, 0]) (n := 6) (c := 4) (k := 1) (as := [vi a1, vi a2, vi a4, vi a5]) (rest := []) c269_39 (by decide +kernel) (by decide +kernel) (by decide +kernel) (by decide) rfl rfl (Nat.le_of_ble_eq_true rfl)]
  all_goals try simp only [Int.reduceToNat, lay_1, true_and, Nat.reduceAdd, eq_self_iff_true]
theorem g269_42 {d : Nat} {a3 a5 s0 : Int} {x0 x1 x2 x4 : Option aV} {w : aW} {Q : Option aV → aW → Prop} : T d 269 42 [x0, x1, x2, some (vi a3), x4, some (vi a5)] [vi s0] w Q = ((s0 = 0 → T d 269 56 [x0, x1, x2, some (vi (w32 (a3 + 1))), some (vi (w32 (a5 + 1))), some (vi a5)] [] w Q) ∧ (¬ (s0 = 0) → Q (some (vi a3)) w)) := by
  rw [T_if_eq 47 c269_42 rfl, T_iinc_3 c269_47, T_iload_5 c269_50, T_sipush c269_52, T_iadd c269_53, T_istore_4 c269_54, T_iload_3 c269_45, T_ireti c269_46 (by decide +kernel)]
  all_goals try simp only [Int.reduceToNat, true_and, Nat.reduceAdd, eq_self_iff_true]
theorem g269_56 {d : Nat} {a5 : Int} {x0 x1 x2 x3 x4 : Option aV} {w : aW} {Q : Option aV → aW → Prop} : T d 269 56 [x0, x1, x2, x3, x4, some (vi a5)] [] w Q = T d 269 10 [x0, x1, x2, x3, x4, some (vi (w32 (a5 + 1)))] [] w Q := by
  rw [T_iinc_5 c269_56, T_goto 10 c269_59 rfl]
  all_goals try simp only [true_and, Nat.reduceAdd, eq_self_iff_true]
/-! 270: StringHands$Reader.isDigit.(I)Z -/
theorem c270_0 : cd 270 0 = some (.iload 0, 1) := by decide +kernel
theorem c270_1 : cd 270 1 = some (.sipush 48, 2) := by decide +kernel
theorem c270_3 : cd 270 3 = some (.if_icmp .lt 16, 3) := by decide +kernel
theorem c270_6 : cd 270 6 = some (.iload 0, 1) := by decide +kernel
theorem c270_7 : cd 270 7 = some (.sipush 57, 2) := by decide +kernel
theorem c270_9 : cd 270 9 = some (.if_icmp .gt 16, 3) := by decide +kernel
theorem c270_12 : cd 270 12 = some (.sipush 1, 1) := by decide +kernel
theorem c270_13 : cd 270 13 = some (.goto 17, 3) := by decide +kernel
theorem c270_16 : cd 270 16 = some (.sipush 0, 1) := by decide +kernel
theorem c270_17 : cd 270 17 = some (.ireturn, 1) := by decide +kernel
theorem g270_0 {d : Nat} {a0 : Int} {w : aW} {Q : Option aV → aW → Prop} : T d 270 0 [some (vi a0)] [] w Q = ((a0 < 48 → T d 270 16 [some (vi a0)] [] w Q) ∧ (¬ (a0 < 48) → ((57 < a0 → T d 270 16 [some (vi a0)] [] w Q) ∧ (¬ (57 < a0) → T d 270 17 [some (vi a0)] [vi 1] w Q)))) := by
  rw [T_iload_0 c270_0, T_sipush c270_1, T_icmp_lt 16 c270_3 rfl, T_iload_0 c270_6, T_sipush c270_7, T_icmp_gt 16 c270_9 rfl, T_sipush c270_12, T_goto 17 c270_13 rfl]
  all_goals try simp only [Int.reduceToNat, true_and, Nat.reduceAdd, eq_self_iff_true]
theorem g270_16 {d : Nat} {x0 : Option aV} {w : aW} {Q : Option aV → aW → Prop} : T d 270 16 [x0] [] w Q = T d 270 17 [x0] [vi 0] w Q := by
  rw [T_sipush c270_16]
  all_goals try simp only [true_and, Nat.reduceAdd, eq_self_iff_true]
theorem g270_17 {d : Nat} {s0 : Int} {x0 : Option aV} {w : aW} {Q : Option aV → aW → Prop} : T d 270 17 [x0] [vi s0] w Q = ((s0 = 0 ∨ s0 = 1) ∧ Q (some (vi s0)) w) := by
  rw [T_iretz c270_17 (by decide +kernel)]
  all_goals try simp only [true_and, Nat.reduceAdd, eq_self_iff_true]
/-! 271: StringHands$Reader.isSign.(I)Z -/
theorem c271_0 : cd 271 0 = some (.iload 0, 1) := by decide +kernel
theorem c271_1 : cd 271 1 = some (.ifCond .le 18, 3) := by decide +kernel
theorem c271_4 : cd 271 4 = some (.ldc 1, 2) := by decide +kernel
theorem c271_6 : cd 271 6 = some (.iload 0, 1) := by decide +kernel
theorem c271_7 : cd 271 7 = some (.i2c, 1) := by decide +kernel
theorem c271_8 : cd 271 8 = some (.invokevirtual 296, 3) := by decide +kernel
theorem c271_11 : cd 271 11 = some (.ifCond .lt 18, 3) := by decide +kernel
theorem c271_14 : cd 271 14 = some (.sipush 1, 1) := by decide +kernel
theorem c271_15 : cd 271 15 = some (.goto 19, 3) := by decide +kernel
theorem c271_18 : cd 271 18 = some (.sipush 0, 1) := by decide +kernel
theorem c271_19 : cd 271 19 = some (.ireturn, 1) := by decide +kernel
theorem g271_0 {d : Nat} {a0 : Int} {w : aW} {Q : Option aV → aW → Prop} : T (d + 1) 271 0 [some (vi a0)] [] w Q = ((a0 ≤ 0 → T (d + 1) 271 18 [some (vi a0)] [] w Q) ∧ (¬ (a0 ≤ 0) → ((1000 ≤ 1001 ∧ 1001 < 1003) ∧ T d 296 0 [some (vr 1001), some (vi (jch a0))] [] w (fun r w1 => T (d + 1) 271 11 [some (vi a0)] (r.toList ++ []) w1 Q)))) := by
  rw [T_iload_0 c271_0, T_if_le 18 c271_1 rfl, T_ldc (n := 1001) c271_4 rfl, T_iload_0 c271_6, T_i2c c271_7, T_invs (es := [some (vr 1001), some (vi (jch a0))]) (st := [vi (jch a0), vr 1001]) (ks := [2, 0]) (n := 2) (k := 1001) (as := [vi (jch a0)]) (rest := []) c271_8 (by decide +kernel) (by decide +kernel) (by decide +kernel) rfl rfl (Nat.le_of_ble_eq_true rfl)]
  all_goals try simp only [Int.reduceToNat, true_and, Nat.reduceAdd, eq_self_iff_true]
theorem g271_11 {d : Nat} {s0 : Int} {x0 : Option aV} {w : aW} {Q : Option aV → aW → Prop} : T d 271 11 [x0] [vi s0] w Q = ((s0 < 0 → T d 271 18 [x0] [] w Q) ∧ (¬ (s0 < 0) → T d 271 19 [x0] [vi 1] w Q)) := by
  rw [T_if_lt 18 c271_11 rfl, T_sipush c271_14, T_goto 19 c271_15 rfl]
  all_goals try simp only [Int.reduceToNat, true_and, Nat.reduceAdd, eq_self_iff_true]
theorem g271_18 {d : Nat} {x0 : Option aV} {w : aW} {Q : Option aV → aW → Prop} : T d 271 18 [x0] [] w Q = T d 271 19 [x0] [vi 0] w Q := by
  rw [T_sipush c271_18]
  all_goals try simp only [true_and, Nat.reduceAdd, eq_self_iff_true]
theorem g271_19 {d : Nat} {s0 : Int} {x0 : Option aV} {w : aW} {Q : Option aV → aW → Prop} : T d 271 19 [x0] [vi s0] w Q = ((s0 = 0 ∨ s0 = 1) ∧ Q (some (vi s0)) w) := by
  rw [T_iretz c271_19 (by decide +kernel)]
  all_goals try simp only [true_and, Nat.reduceAdd, eq_self_iff_true]
/-! 272: StringHands$Reader.isNumber.(II)Z -/
theorem c272_0 : cd 272 0 = some (.aload 0, 1) := by decide +kernel
theorem c272_1 : cd 272 1 = some (.getfield 1064, 3) := by decide +kernel
theorem c272_4 : cd 272 4 = some (.sipush 1, 1) := by decide +kernel
theorem c272_5 : cd 272 5 = some (.if_icmp .eq 14, 3) := by decide +kernel
theorem c272_8 : cd 272 8 = some (.aload 0, 1) := by decide +kernel
theorem c272_9 : cd 272 9 = some (.sipush 2, 1) := by decide +kernel
theorem c272_10 : cd 272 10 = some (.invokevirtual 219, 3) := by decide +kernel
theorem c272_13 : cd 272 13 = some (.ireturn, 1) := by decide +kernel
theorem c272_14 : cd 272 14 = some (.aload 0, 1) := by decide +kernel
theorem c272_15 : cd 272 15 = some (.getfield 1068, 3) := by decide +kernel
theorem c272_18 : cd 272 18 = some (.iload 1, 1) := by decide +kernel
theorem c272_19 : cd 272 19 = some (.if_icmp .lt 30, 3) := by decide +kernel
theorem c272_22 : cd 272 22 = some (.aload 0, 1) := by decide +kernel
theorem c272_23 : cd 272 23 = some (.getfield 1068, 3) := by decide +kernel
theorem c272_26 : cd 272 26 = some (.iload 2, 1) := by decide +kernel
theorem c272_27 : cd 272 27 = some (.if_icmp .le 38, 3) := by decide +kernel
theorem c272_30 : cd 272 30 = some (.aload 0, 1) := by decide +kernel
theorem c272_31 : cd 272 31 = some (.sipush 3, 1) := by decide +kernel
theorem c272_32 : cd 272 32 = some (.invokevirtual 219, 3) := by decide +kernel
theorem c272_35 : cd 272 35 = some (.ifCond .eq 42, 3) := by decide +kernel
theorem c272_38 : cd 272 38 = some (.sipush 1, 1) := by decide +kernel
theorem c272_39 : cd 272 39 = some (.goto 43, 3) := by decide +kernel
theorem c272_42 : cd 272 42 = some (.sipush 0, 1) := by decide +kernel
theorem c272_43 : cd 272 43 = some (.ireturn, 1) := by decide +kernel
theorem g272_0 {d : Nat} {a1 a2 : Int} {w : aW} {Q : Option aV → aW → Prop} : T (d + 1) 272 0 [some (vr 1), some (vi a1), some (vi a2)] [] w Q = ((w 1 10 = 1 → ((w 1 11 < a1 → T (d + 1) 272 30 [some (vr 1), some (vi a1), some (vi a2)] [] w Q) ∧ (¬ (w 1 11 < a1) → ((w 1 11 ≤ a2 → T (d + 1) 272 38 [some (vr 1), some (vi a1), some (vi a2)] [] w Q) ∧ (¬ (w 1 11 ≤ a2) → T (d + 1) 272 30 [some (vr 1), some (vi a1), some (vi a2)] [] w Q))))) ∧ (¬ (w 1 10 = 1) → T d 219 0 [some (vr 1), some (vi 2)] [] w (fun r w1 => T (d + 1) 272 13 [some (vr 1), some (vi a1), some (vi a2)] (r.toList ++ []) w1 Q))) := by
  rw [T_aload_0 c272_0, T_getI 4 10 10 c272_1 rfl rfl rfl rfl, T_sipush c272_4, T_icmp_eq 14 c272_5 rfl, T_aload_0 c272_14, T_getI 4 11 11 c272_15 rfl rfl rfl rfl, T_iload_1 c272_18, T_icmp_lt 30 c272_19 rfl, T_aload_0 c272_22, T_getI 4 11 11 c272_23 rfl rfl rfl rfl, T_iload_2 c272_26, T_icmp_le 38 c272_27 rfl, T_aload_0 c272_8, T_sipush c272_9, T_invv (es := [some (vr 1), some (vi 2)]) (st := [vi 2, vr 1]) (ks := [2, 0]) (n := 2) (c := 4) (k := 1) (as := [vi 2]) (rest := []) c272_10 (by decide +kernel) (by decide +kernel) (by decide +kernel) (by decide) rfl rfl (Nat.le_of_ble_eq_true rfl)]
  all_goals try simp only [Int.reduceToNat, lay_1, true_and, Nat.reduceAdd, eq_self_iff_true]
theorem g272_13 {d : Nat} {s0 : Int} {x0 x1 x2 : Option aV} {w : aW} {Q : Option aV → aW → Prop} : T d 272 13 [x0, x1, x2] [vi s0] w Q = ((s0 = 0 ∨ s0 = 1) ∧ Q (some (vi s0)) w) := by
  rw [T_iretz c272_13 (by decide +kernel)]
  all_goals try simp only [true_and, Nat.reduceAdd, eq_self_iff_true]
theorem g272_30 {d : Nat} {x1 x2 : Option aV} {w : aW} {Q : Option aV → aW → Prop} : T (d + 1) 272 30 [some (vr 1), x1, x2] [] w Q = T d 219 0 [some (vr 1), some (vi 3)] [] w (fun r w1 => T (d + 1) 272 35 [some (vr 1), x1, x2] (r.toList ++ []) w1 Q) := by
  rw [T_aload_0 c272_30, T_sipush c272_31, T_invv (es := [some (vr 1), some (vi 3)]) (st := [vi 3, vr 1]) (ks := [2, 0]) (n := 2) (c := 4) (k := 1) (as := [vi 3]) (rest := []) c272_32 (by decide +kernel) (by decide +kernel) (by decide +kernel) (by decide) rfl rfl (Nat.le_of_ble_eq_true rfl)]
  all_goals try simp only [lay_1, true_and, Nat.reduceAdd, eq_self_iff_true]
theorem g272_35 {d : Nat} {s0 : Int} {x0 x1 x2 : Option aV} {w : aW} {Q : Option aV → aW → Prop} : T d 272 35 [x0, x1, x2] [vi s0] w Q = ((s0 = 0 → T d 272 43 [x0, x1, x2] [vi 0] w Q) ∧ (¬ (s0 = 0) → T d 272 38 [x0, x1, x2] [] w Q)) := by
  rw [T_if_eq 42 c272_35 rfl, T_sipush c272_42]
  all_goals try simp only [Int.reduceToNat, true_and, Nat.reduceAdd, eq_self_iff_true]
theorem g272_38 {d : Nat} {x0 x1 x2 : Option aV} {w : aW} {Q : Option aV → aW → Prop} : T d 272 38 [x0, x1, x2] [] w Q = T d 272 43 [x0, x1, x2] [vi 1] w Q := by
  rw [T_sipush c272_38, T_goto 43 c272_39 rfl]
  all_goals try simp only [true_and, Nat.reduceAdd, eq_self_iff_true]
theorem g272_43 {d : Nat} {s0 : Int} {x0 x1 x2 : Option aV} {w : aW} {Q : Option aV → aW → Prop} : T d 272 43 [x0, x1, x2] [vi s0] w Q = ((s0 = 0 ∨ s0 = 1) ∧ Q (some (vi s0)) w) := by
  rw [T_iretz c272_43 (by decide +kernel)]
  all_goals try simp only [true_and, Nat.reduceAdd, eq_self_iff_true]
/-! 273: StringHands$Troupe.addPuppet.(I)V -/
theorem c273_0 : cd 273 0 = some (.sipush 0, 1) := by decide +kernel
theorem c273_1 : cd 273 1 = some (.istore 2, 1) := by decide +kernel
theorem c273_2 : cd 273 2 = some (.iload 2, 1) := by decide +kernel
theorem c273_3 : cd 273 3 = some (.iload 1, 1) := by decide +kernel
theorem c273_4 : cd 273 4 = some (.if_icmp .ge 55, 3) := by decide +kernel
theorem c273_7 : cd 273 7 = some (.aload 0, 1) := by decide +kernel
theorem c273_8 : cd 273 8 = some (.getfield 2052, 3) := by decide +kernel
theorem c273_11 : cd 273 11 = some (.sipush 10, 2) := by decide +kernel
theorem c273_13 : cd 273 13 = some (.if_icmp .ge 55, 3) := by decide +kernel
theorem c273_16 : cd 273 16 = some (.aload 0, 1) := by decide +kernel
theorem c273_17 : cd 273 17 = some (.getfield 2074, 3) := by decide +kernel
theorem c273_20 : cd 273 20 = some (.aload 0, 1) := by decide +kernel
theorem c273_21 : cd 273 21 = some (.getfield 2052, 3) := by decide +kernel
theorem c273_24 : cd 273 24 = some (.aload 0, 1) := by decide +kernel
theorem c273_25 : cd 273 25 = some (.getfield 2048, 3) := by decide +kernel
theorem c273_28 : cd 273 28 = some (.iastore, 1) := by decide +kernel
theorem c273_29 : cd 273 29 = some (.aload 0, 1) := by decide +kernel
theorem c273_30 : cd 273 30 = some (.getfield 2078, 3) := by decide +kernel
theorem c273_33 : cd 273 33 = some (.aload 0, 1) := by decide +kernel
theorem c273_34 : cd 273 34 = some (.getfield 2052, 3) := by decide +kernel
theorem c273_37 : cd 273 37 = some (.sipush 1, 1) := by decide +kernel
theorem c273_38 : cd 273 38 = some (.iastore, 1) := by decide +kernel
theorem c273_39 : cd 273 39 = some (.aload 0, 1) := by decide +kernel
theorem c273_40 : cd 273 40 = some (.dup, 1) := by decide +kernel
theorem c273_41 : cd 273 41 = some (.getfield 2052, 3) := by decide +kernel
theorem c273_44 : cd 273 44 = some (.sipush 1, 1) := by decide +kernel
theorem c273_45 : cd 273 45 = some (.iadd, 1) := by decide +kernel
theorem c273_46 : cd 273 46 = some (.putfield 2052, 3) := by decide +kernel
theorem c273_49 : cd 273 49 = some (.iinc 2 1, 3) := by decide +kernel
theorem c273_52 : cd 273 52 = some (.goto 2, 3) := by decide +kernel
theorem c273_55 : cd 273 55 = some (.aload 0, 1) := by decide +kernel
theorem c273_56 : cd 273 56 = some (.dup, 1) := by decide +kernel
theorem c273_57 : cd 273 57 = some (.getfield 2048, 3) := by decide +kernel
theorem c273_60 : cd 273 60 = some (.sipush 1, 1) := by decide +kernel
theorem c273_61 : cd 273 61 = some (.iadd, 1) := by decide +kernel
theorem c273_62 : cd 273 62 = some (.putfield 2048, 3) := by decide +kernel
theorem c273_65 : cd 273 65 = some (.return_, 1) := by decide +kernel
theorem g273_0 {d : Nat} {x0 x1 x2 : Option aV} {w : aW} {Q : Option aV → aW → Prop} : T d 273 0 [x0, x1, x2] [] w Q = T d 273 2 [x0, x1, some (vi 0)] [] w Q := by
  rw [T_sipush c273_0, T_istore_2 c273_1]
  all_goals try simp only [true_and, Nat.reduceAdd, eq_self_iff_true]
theorem g273_2 {d : Nat} {a1 a2 : Int} {r0 : Nat} {w : aW} {Q : Option aV → aW → Prop} : T d 273 2 [some (vr r0), some (vi a1), some (vi a2)] [] w Q = ((a1 ≤ a2 → T d 273 55 [some (vr r0), some (vi a1), some (vi a2)] [] w Q) ∧ (¬ (a1 ≤ a2) → (lay r0 = (8, 0) ∧ ((10 ≤ w r0 1 → T d 273 55 [some (vr r0), some (vi a1), some (vi a2)] [] w Q) ∧ (¬ (10 ≤ w r0 1) → (lay r0 = (8, 0) ∧ (lay r0 = (8, 0) ∧ (lay r0 = (8, 0) ∧ (inA (rfA r0 6) 0 (w r0 1) = true ∧ (lay r0 = (8, 0) ∧ (lay r0 = (8, 0) ∧ (inA (rfA r0 7) 0 ((iup w (rfA r0 6) (w r0 1) (w r0 0)) r0 1) = true ∧ (lay r0 = (8, 0) ∧ ((lay r0 = (8, 0)) ∧ T d 273 2 [some (vr r0), some (vi a1), some (vi (w32 (a2 + 1)))] [] (iup (iup (iup w (rfA r0 6) (w r0 1) (w r0 0)) (rfA r0 7) ((iup w (rfA r0 6) (w r0 1) (w r0 0)) r0 1) 1) r0 1 (w32 (((iup (iup w (rfA r0 6) (w r0 1) (w r0 0)) (rfA r0 7) ((iup w (rfA r0 6) (w r0 1) (w r0 0)) r0 1) 1) r0 1) + 1))) Q)))))))))))))) := by
  rw [T_iload_2 c273_2, T_iload_1 c273_3, T_icmp_ge 55 c273_4 rfl, T_aload_0 c273_7, T_getI 8 1 1 c273_8 rfl rfl rfl rfl, T_sipush c273_11, T_icmp_ge 55 c273_13 rfl, T_aload_0 c273_16, T_getR 8 6 6 c273_17 rfl rfl rfl rfl, T_aload_0 c273_20, T_getI 8 1 1 c273_21 rfl rfl rfl rfl, T_aload_0 c273_24, T_getI 8 0 0 c273_25 rfl rfl rfl rfl, T_iast c273_28, T_aload_0 c273_29, T_getR 8 7 7 c273_30 rfl rfl rfl rfl, T_aload_0 c273_33, T_getI 8 1 1 c273_34 rfl rfl rfl rfl, T_sipush c273_37, T_iast c273_38, T_aload_0 c273_39, T_dup_r c273_40, T_getI 8 1 1 c273_41 rfl rfl rfl rfl, T_sipush c273_44, T_iadd c273_45, T_putI 8 1 1 c273_46 rfl rfl rfl rfl, T_iinc_2 c273_49, T_goto 2 c273_52 rfl]
  all_goals try simp only [Int.reduceToNat, true_and, Nat.reduceAdd, eq_self_iff_true]
theorem g273_55 {d : Nat} {r0 : Nat} {x1 x2 : Option aV} {w : aW} {Q : Option aV → aW → Prop} : T d 273 55 [some (vr r0), x1, x2] [] w Q = (lay r0 = (8, 0) ∧ ((lay r0 = (8, 0)) ∧ Q none (iup w r0 0 (w32 ((w r0 0) + 1))))) := by
  rw [T_aload_0 c273_55, T_dup_r c273_56, T_getI 8 0 0 c273_57 rfl rfl rfl rfl, T_sipush c273_60, T_iadd c273_61, T_putI 8 0 0 c273_62 rfl rfl rfl rfl, T_vret c273_65 (by decide +kernel)]
  all_goals try simp only [true_and, Nat.reduceAdd, eq_self_iff_true]
/-! 274: StringHands$Reader.readTimes.(I)Z -/
theorem c274_0 : cd 274 0 = some (.aload 0, 1) := by decide +kernel
theorem c274_1 : cd 274 1 = some (.getfield 1064, 3) := by decide +kernel
theorem c274_4 : cd 274 4 = some (.sipush 204, 3) := by decide +kernel
theorem c274_7 : cd 274 7 = some (.if_icmp .eq 12, 3) := by decide +kernel
theorem c274_10 : cd 274 10 = some (.sipush 1, 1) := by decide +kernel
theorem c274_11 : cd 274 11 = some (.ireturn, 1) := by decide +kernel
theorem c274_12 : cd 274 12 = some (.aload 0, 1) := by decide +kernel
theorem c274_13 : cd 274 13 = some (.invokevirtual 212, 3) := by decide +kernel
theorem c274_16 : cd 274 16 = some (.ifCond .eq 28, 3) := by decide +kernel
theorem c274_19 : cd 274 19 = some (.aload 0, 1) := by decide +kernel
theorem c274_20 : cd 274 20 = some (.sipush 1, 1) := by decide +kernel
theorem c274_21 : cd 274 21 = some (.sipush 3, 1) := by decide +kernel
theorem c274_22 : cd 274 22 = some (.invokevirtual 272, 3) := by decide +kernel
theorem c274_25 : cd 274 25 = some (.ifCond .ne 30, 3) := by decide +kernel
theorem c274_28 : cd 274 28 = some (.sipush 0, 1) := by decide +kernel
theorem c274_29 : cd 274 29 = some (.ireturn, 1) := by decide +kernel
theorem c274_30 : cd 274 30 = some (.aload 0, 1) := by decide +kernel
theorem c274_31 : cd 274 31 = some (.getfield 1042, 3) := by decide +kernel
theorem c274_34 : cd 274 34 = some (.getfield 2090, 3) := by decide +kernel
theorem c274_37 : cd 274 37 = some (.iload 1, 1) := by decide +kernel
theorem c274_38 : cd 274 38 = some (.aload 0, 1) := by decide +kernel
theorem c274_39 : cd 274 39 = some (.getfield 1068, 3) := by decide +kernel
theorem c274_42 : cd 274 42 = some (.iastore, 1) := by decide +kernel
theorem c274_43 : cd 274 43 = some (.aload 0, 1) := by decide +kernel
theorem c274_44 : cd 274 44 = some (.invokevirtual 212, 3) := by decide +kernel
theorem c274_47 : cd 274 47 = some (.ireturn, 1) := by decide +kernel
theorem g274_0 {d : Nat} {x1 : Option aV} {w : aW} {Q : Option aV → aW → Prop} : T (d + 1) 274 0 [some (vr 1), x1] [] w Q = ((w 1 10 = 204 → T d 212 0 [some (vr 1)] [] w (fun r w1 => T (d + 1) 274 16 [some (vr 1), x1] (r.toList ++ []) w1 Q)) ∧ (¬ (w 1 10 = 204) → Q (some (vi 1)) w)) := by
  rw [T_aload_0 c274_0, T_getI 4 10 10 c274_1 rfl rfl rfl rfl, T_sipush c274_4, T_icmp_eq 12 c274_7 rfl, T_aload_0 c274_12, T_invv (es := [some (vr 1)]) (st := [vr 1]) (ks := [2]) (n := 1) (c := 4) (k := 1) (as := []) (rest := []) c274_13 (by decide +kernel) (by decide +kernel) (by decide +kernel) (by decide) rfl rfl (Nat.le_of_ble_eq_true rfl), T_sipush c274_10, T_iretz c274_11 (by decide +kernel)]
  all_goals try simp only [Int.reduceToNat, lay_1, true_and, Nat.reduceAdd, eq_self_iff_true, zero_eq_1, one_eq_0, true_or, or_true]
theorem g274_16 {d : Nat} {s0 : Int} {x1 : Option aV} {w : aW} {Q : Option aV → aW → Prop} : T (d + 1) 274 16 [some (vr 1), x1] [vi s0] w Q = ((s0 = 0 → T (d + 1) 274 28 [some (vr 1), x1] [] w Q) ∧ (¬ (s0 = 0) → T d 272 0 [some (vr 1), some (vi 1), some (vi 3)] [] w (fun r w1 => T (d + 1) 274 25 [some (vr 1), x1] (r.toList ++ []) w1 Q))) := by
  rw [T_if_eq 28 c274_16 rfl, T_aload_0 c274_19, T_sipush c274_20, T_sipush c274_21, T_invv (es := [some (vr 1), some (vi 1), some (vi 3)]) (st := [vi 3, vi 1, vr 1]) (ks := [2, 0, 0]) (n := 3) (c := 4) (k := 1) (as := [vi 1, vi 3]) (rest := []) c274_22 (by decide +kernel) (by decide +kernel) (by decide +kernel) (by decide) rfl rfl (Nat.le_of_ble_eq_true rfl)]
  all_goals try simp only [Int.reduceToNat, lay_1, true_and, Nat.reduceAdd, eq_self_iff_true]
theorem g274_25 {d : Nat} {a1 s0 : Int} {w : aW} {Q : Option aV → aW → Prop} : T (d + 1) 274 25 [some (vr 1), some (vi a1)] [vi s0] w Q = ((¬ s0 = 0 → ((0 ≤ a1 ∧ a1 < 16) ∧ T d 212 0 [some (vr 1)] [] (iup w 8 a1 (w 1 11)) (fun r w1 => T (d + 1) 274 47 [some (vr 1), some (vi a1)] (r.toList ++ []) w1 Q))) ∧ (¬ (¬ s0 = 0) → T (d + 1) 274 28 [some (vr 1), some (vi a1)] [] w Q)) := by
  rw [T_if_ne 30 c274_25 rfl, T_aload_0 c274_30, T_getR 4 4 4 c274_31 rfl rfl rfl rfl, rf_1_4, T_getR 8 10 10 c274_34 rfl rfl rfl rfl, rf_3_10, T_iload_1 c274_37, T_aload_0 c274_38, T_getI 4 11 11 c274_39 rfl rfl rfl rfl, T_iast c274_42, T_aload_0 c274_43, T_invv (es := [some (vr 1)]) (st := [vr 1]) (ks := [2]) (n := 1) (c := 4) (k := 1) (as := []) (rest := []) c274_44 (by decide +kernel) (by decide +kernel) (by decide +kernel) (by decide) rfl rfl (Nat.le_of_ble_eq_true rfl)]
  all_goals try simp only [Int.reduceToNat, ia0_8, lay_1, lay_3, true_and, Nat.reduceAdd, eq_self_iff_true]
theorem g274_28 {d : Nat} {x0 x1 : Option aV} {w : aW} {Q : Option aV → aW → Prop} : T d 274 28 [x0, x1] [] w Q = Q (some (vi 0)) w := by
  rw [T_sipush c274_28, T_iretz c274_29 (by decide +kernel)]
  all_goals try simp only [true_and, Nat.reduceAdd, eq_self_iff_true, zero_eq_1, one_eq_0, true_or, or_true]
theorem g274_47 {d : Nat} {s0 : Int} {x0 x1 : Option aV} {w : aW} {Q : Option aV → aW → Prop} : T d 274 47 [x0, x1] [vi s0] w Q = ((s0 = 0 ∨ s0 = 1) ∧ Q (some (vi s0)) w) := by
  rw [T_iretz c274_47 (by decide +kernel)]
  all_goals try simp only [true_and, Nat.reduceAdd, eq_self_iff_true]
/-! 275: StringHands$Reader.readTurned.(I)Z -/
theorem c275_0 : cd 275 0 = some (.aload 0, 1) := by decide +kernel
theorem c275_1 : cd 275 1 = some (.getfield 1064, 3) := by decide +kernel
theorem c275_4 : cd 275 4 = some (.sipush 205, 3) := by decide +kernel
theorem c275_7 : cd 275 7 = some (.if_icmp .eq 12, 3) := by decide +kernel
theorem c275_10 : cd 275 10 = some (.sipush 1, 1) := by decide +kernel
theorem c275_11 : cd 275 11 = some (.ireturn, 1) := by decide +kernel
theorem c275_12 : cd 275 12 = some (.aload 0, 1) := by decide +kernel
theorem c275_13 : cd 275 13 = some (.getfield 1042, 3) := by decide +kernel
theorem c275_16 : cd 275 16 = some (.dup, 1) := by decide +kernel
theorem c275_17 : cd 275 17 = some (.getfield 2092, 3) := by decide +kernel
theorem c275_20 : cd 275 20 = some (.sipush 1, 1) := by decide +kernel
theorem c275_21 : cd 275 21 = some (.iload 1, 1) := by decide +kernel
theorem c275_22 : cd 275 22 = some (.ishl, 1) := by decide +kernel
theorem c275_23 : cd 275 23 = some (.ior, 1) := by decide +kernel
theorem c275_24 : cd 275 24 = some (.putfield 2092, 3) := by decide +kernel
theorem c275_27 : cd 275 27 = some (.aload 0, 1) := by decide +kernel
theorem c275_28 : cd 275 28 = some (.invokevirtual 212, 3) := by decide +kernel
theorem c275_31 : cd 275 31 = some (.ireturn, 1) := by decide +kernel
theorem g275_0 {d : Nat} {a1 : Int} {w : aW} {Q : Option aV → aW → Prop} : T (d + 1) 275 0 [some (vr 1), some (vi a1)] [] w Q = ((w 1 10 = 205 → T d 212 0 [some (vr 1)] [] (iup w 3 11 (jor (w 3 11) (jshl 1 a1))) (fun r w1 => T (d + 1) 275 31 [some (vr 1), some (vi a1)] (r.toList ++ []) w1 Q)) ∧ (¬ (w 1 10 = 205) → Q (some (vi 1)) w)) := by
  rw [T_aload_0 c275_0, T_getI 4 10 10 c275_1 rfl rfl rfl rfl, T_sipush c275_4, T_icmp_eq 12 c275_7 rfl, T_aload_0 c275_12, T_getR 4 4 4 c275_13 rfl rfl rfl rfl, rf_1_4, T_dup_r c275_16, T_getI 8 11 11 c275_17 rfl rfl rfl rfl, T_sipush c275_20, T_iload_1 c275_21, T_ishl c275_22, T_ior c275_23, T_putI 8 11 11 c275_24 rfl rfl rfl rfl, T_aload_0 c275_27, T_invv (es := [some (vr 1)]) (st := [vr 1]) (ks := [2]) (n := 1) (c := 4) (k := 1) (as := []) (rest := []) c275_28 (by decide +kernel) (by decide +kernel) (by decide +kernel) (by decide) rfl rfl (Nat.le_of_ble_eq_true rfl), T_sipush c275_10, T_iretz c275_11 (by decide +kernel)]
  all_goals try simp only [Int.reduceToNat, lay_1, lay_3, true_and, Nat.reduceAdd, eq_self_iff_true, zero_eq_1, one_eq_0, true_or, or_true]
theorem g275_31 {d : Nat} {s0 : Int} {x0 x1 : Option aV} {w : aW} {Q : Option aV → aW → Prop} : T d 275 31 [x0, x1] [vi s0] w Q = ((s0 = 0 ∨ s0 = 1) ∧ Q (some (vi s0)) w) := by
  rw [T_iretz c275_31 (by decide +kernel)]
  all_goals try simp only [true_and, Nat.reduceAdd, eq_self_iff_true]
/-! 276: StringHands$Reader.readTruth.(I)Z -/
theorem c276_0 : cd 276 0 = some (.aload 0, 1) := by decide +kernel
theorem c276_1 : cd 276 1 = some (.iload 1, 1) := by decide +kernel
theorem c276_2 : cd 276 2 = some (.invokevirtual 297, 3) := by decide +kernel
theorem c276_5 : cd 276 5 = some (.ifCond .ne 10, 3) := by decide +kernel
theorem c276_8 : cd 276 8 = some (.sipush 0, 1) := by decide +kernel
theorem c276_9 : cd 276 9 = some (.ireturn, 1) := by decide +kernel
theorem c276_10 : cd 276 10 = some (.sipush 0, 1) := by decide +kernel
theorem c276_11 : cd 276 11 = some (.istore 2, 1) := by decide +kernel
theorem c276_12 : cd 276 12 = some (.iload 2, 1) := by decide +kernel
theorem c276_13 : cd 276 13 = some (.sipush 900, 3) := by decide +kernel
theorem c276_16 : cd 276 16 = some (.if_icmp .ge 62, 3) := by decide +kernel
theorem c276_19 : cd 276 19 = some (.aload 0, 1) := by decide +kernel
theorem c276_20 : cd 276 20 = some (.getfield 1064, 3) := by decide +kernel
theorem c276_23 : cd 276 23 = some (.sipush 210, 3) := by decide +kernel
theorem c276_26 : cd 276 26 = some (.if_icmp .ne 62, 3) := by decide +kernel
theorem c276_29 : cd 276 29 = some (.aload 0, 1) := by decide +kernel
theorem c276_30 : cd 276 30 = some (.invokevirtual 212, 3) := by decide +kernel
theorem c276_33 : cd 276 33 = some (.ifCond .eq 44, 3) := by decide +kernel
theorem c276_36 : cd 276 36 = some (.aload 0, 1) := by decide +kernel
theorem c276_37 : cd 276 37 = some (.iload 1, 1) := by decide +kernel
theorem c276_38 : cd 276 38 = some (.invokevirtual 297, 3) := by decide +kernel
theorem c276_41 : cd 276 41 = some (.ifCond .ne 46, 3) := by decide +kernel
theorem c276_44 : cd 276 44 = some (.sipush 0, 1) := by decide +kernel
theorem c276_45 : cd 276 45 = some (.ireturn, 1) := by decide +kernel
theorem c276_46 : cd 276 46 = some (.aload 0, 1) := by decide +kernel
theorem c276_47 : cd 276 47 = some (.getfield 1042, 3) := by decide +kernel
theorem c276_50 : cd 276 50 = some (.sipush 6, 2) := by decide +kernel
theorem c276_52 : cd 276 52 = some (.sipush 0, 1) := by decide +kernel
theorem c276_53 : cd 276 53 = some (.invokevirtual 298, 3) := by decide +kernel
theorem c276_56 : cd 276 56 = some (.iinc 2 1, 3) := by decide +kernel
theorem c276_59 : cd 276 59 = some (.goto 12, 3) := by decide +kernel
theorem c276_62 : cd 276 62 = some (.sipush 1, 1) := by decide +kernel
theorem c276_63 : cd 276 63 = some (.ireturn, 1) := by decide +kernel
theorem g276_0 {d : Nat} {a1 : Int} {x2 : Option aV} {w : aW} {Q : Option aV → aW → Prop} : T (d + 1) 276 0 [some (vr 1), some (vi a1), x2] [] w Q = T d 297 0 [some (vr 1), some (vi a1), none] [] w (fun r w1 => T (d + 1) 276 5 [some (vr 1), some (vi a1), x2] (r.toList ++ []) w1 Q) := by
  rw [T_aload_0 c276_0, T_iload_1 c276_1, T_invv (es := [some (vr 1), some (vi a1), none]) (st := [vi a1, vr 1]) (ks := [2, 0]) (n := 3) (c := 4) (k := 1) (as := [vi a1]) (rest := []) c276_2 (by decide +kernel) (by decide +kernel) (by decide +kernel) (by decide) rfl rfl (Nat.le_of_ble_eq_true rfl)]
  all_goals try simp only [lay_1, true_and, Nat.reduceAdd, eq_self_iff_true]
theorem g276_5 {d : Nat} {s0 : Int} {x0 x1 x2 : Option aV} {w : aW} {Q : Option aV → aW → Prop} : T d 276 5 [x0, x1, x2] [vi s0] w Q = ((¬ s0 = 0 → T d 276 12 [x0, x1, some (vi 0)] [] w Q) ∧ (¬ (¬ s0 = 0) → Q (some (vi 0)) w)) := by
  rw [T_if_ne 10 c276_5 rfl, T_sipush c276_10, T_istore_2 c276_11, T_sipush c276_8, T_iretz c276_9 (by decide +kernel)]
  all_goals try simp only [Int.reduceToNat, true_and, Nat.reduceAdd, eq_self_iff_true, zero_eq_1, one_eq_0, true_or, or_true]
theorem g276_12 {d : Nat} {a2 : Int} {x1 : Option aV} {w : aW} {Q : Option aV → aW → Prop} : T (d + 1) 276 12 [some (vr 1), x1, some (vi a2)] [] w Q = ((900 ≤ a2 → T (d + 1) 276 62 [some (vr 1), x1, some (vi a2)] [] w Q) ∧ (¬ (900 ≤ a2) → ((¬ w 1 10 = 210 → T (d + 1) 276 62 [some (vr 1), x1, some (vi a2)] [] w Q) ∧ (¬ (¬ w 1 10 = 210) → T d 212 0 [some (vr 1)] [] w (fun r w1 => T (d + 1) 276 33 [some (vr 1), x1, some (vi a2)] (r.toList ++ []) w1 Q))))) := by
  rw [T_iload_2 c276_12, T_sipush c276_13, T_icmp_ge 62 c276_16 rfl, T_aload_0 c276_19, T_getI 4 10 10 c276_20 rfl rfl rfl rfl, T_sipush c276_23, T_icmp_ne 62 c276_26 rfl, T_aload_0 c276_29, T_invv (es := [some (vr 1)]) (st := [vr 1]) (ks := [2]) (n := 1) (c := 4) (k := 1) (as := []) (rest := []) c276_30 (by decide +kernel) (by decide +kernel) (by decide +kernel) (by decide) rfl rfl (Nat.le_of_ble_eq_true rfl)]
  all_goals try simp only [Int.reduceToNat, lay_1, true_and, Nat.reduceAdd, eq_self_iff_true]
theorem g276_33 {d : Nat} {a1 s0 : Int} {x2 : Option aV} {w : aW} {Q : Option aV → aW → Prop} : T (d + 1) 276 33 [some (vr 1), some (vi a1), x2] [vi s0] w Q = ((s0 = 0 → T (d + 1) 276 44 [some (vr 1), some (vi a1), x2] [] w Q) ∧ (¬ (s0 = 0) → T d 297 0 [some (vr 1), some (vi a1), none] [] w (fun r w1 => T (d + 1) 276 41 [some (vr 1), some (vi a1), x2] (r.toList ++ []) w1 Q))) := by
  rw [T_if_eq 44 c276_33 rfl, T_aload_0 c276_36, T_iload_1 c276_37, T_invv (es := [some (vr 1), some (vi a1), none]) (st := [vi a1, vr 1]) (ks := [2, 0]) (n := 3) (c := 4) (k := 1) (as := [vi a1]) (rest := []) c276_38 (by decide +kernel) (by decide +kernel) (by decide +kernel) (by decide) rfl rfl (Nat.le_of_ble_eq_true rfl)]
  all_goals try simp only [Int.reduceToNat, lay_1, true_and, Nat.reduceAdd, eq_self_iff_true]
theorem g276_41 {d : Nat} {s0 : Int} {x1 x2 : Option aV} {w : aW} {Q : Option aV → aW → Prop} : T (d + 1) 276 41 [some (vr 1), x1, x2] [vi s0] w Q = ((¬ s0 = 0 → T d 298 0 [some (vr 3), some (vi 6), some (vi 0)] [] w (fun r w1 => T (d + 1) 276 56 [some (vr 1), x1, x2] (r.toList ++ []) w1 Q)) ∧ (¬ (¬ s0 = 0) → T (d + 1) 276 44 [some (vr 1), x1, x2] [] w Q)) := by
  rw [T_if_ne 46 c276_41 rfl, T_aload_0 c276_46, T_getR 4 4 4 c276_47 rfl rfl rfl rfl, rf_1_4, T_sipush c276_50, T_sipush c276_52, T_invv (es := [some (vr 3), some (vi 6), some (vi 0)]) (st := [vi 0, vi 6, vr 3]) (ks := [2, 0, 0]) (n := 3) (c := 8) (k := 3) (as := [vi 6, vi 0]) (rest := []) c276_53 (by decide +kernel) (by decide +kernel) (by decide +kernel) (by decide) rfl rfl (Nat.le_of_ble_eq_true rfl)]
  all_goals try simp only [Int.reduceToNat, lay_1, lay_3, true_and, Nat.reduceAdd, eq_self_iff_true]
theorem g276_44 {d : Nat} {x0 x1 x2 : Option aV} {w : aW} {Q : Option aV → aW → Prop} : T d 276 44 [x0, x1, x2] [] w Q = Q (some (vi 0)) w := by
  rw [T_sipush c276_44, T_iretz c276_45 (by decide +kernel)]
  all_goals try simp only [true_and, Nat.reduceAdd, eq_self_iff_true, zero_eq_1, one_eq_0, true_or, or_true]
theorem g276_56 {d : Nat} {a2 : Int} {x0 x1 : Option aV} {w : aW} {Q : Option aV → aW → Prop} : T d 276 56 [x0, x1, some (vi a2)] [] w Q = T d 276 12 [x0, x1, some (vi (w32 (a2 + 1)))] [] w Q := by
  rw [T_iinc_2 c276_56, T_goto 12 c276_59 rfl]
  all_goals try simp only [true_and, Nat.reduceAdd, eq_self_iff_true]
theorem g276_62 {d : Nat} {x0 x1 x2 : Option aV} {w : aW} {Q : Option aV → aW → Prop} : T d 276 62 [x0, x1, x2] [] w Q = Q (some (vi 1)) w := by
  rw [T_sipush c276_62, T_iretz c276_63 (by decide +kernel)]
  all_goals try simp only [true_and, Nat.reduceAdd, eq_self_iff_true, zero_eq_1, one_eq_0, true_or, or_true]
/-! 277: java/lang/String.coder.()B -/
theorem c277_0 : cd 277 0 = some (.getstatic 2, 3) := by decide +kernel
theorem c277_3 : cd 277 3 = some (.ifCond .eq 13, 3) := by decide +kernel
theorem c277_6 : cd 277 6 = some (.aload 0, 1) := by decide +kernel
theorem c277_7 : cd 277 7 = some (.getstatic 1, 3) := by decide +kernel
theorem c277_10 : cd 277 10 = some (.goto 14, 3) := by decide +kernel
theorem c277_13 : cd 277 13 = some (.sipush 1, 1) := by decide +kernel
theorem c277_14 : cd 277 14 = some (.ireturn, 1) := by decide +kernel
theorem g277_0 {d : Nat} {r0 : Nat} {w : aW} {Q : Option aV → aW → Prop} : T d 277 0 [some (vr r0)] [] w Q = (((1 : Int) = 0 → T d 277 14 [some (vr r0)] [vi 1] w Q) ∧ (¬ ((1 : Int) = 0) → ((1000 ≤ r0 ∧ r0 < 1003) ∧ T d 277 14 [some (vr r0)] [vi 0] w Q))) := by
  rw [T_gs2 c277_0, T_if_eq 13 c277_3 rfl, T_sipush c277_13, T_aload_0 c277_6, T_gs1 c277_7, T_goto 14 c277_10 rfl]
  all_goals try simp only [Int.reduceToNat, true_and, Nat.reduceAdd, eq_self_iff_true]
theorem g277_14 {d : Nat} {s0 : Int} {x0 : Option aV} {w : aW} {Q : Option aV → aW → Prop} : T d 277 14 [x0] [vi s0] w Q = (s0 = 0 ∧ Q (some (vi s0)) w) := by
  rw [T_iretb c277_14 (by decide +kernel)]
  all_goals try simp only [true_and, Nat.reduceAdd, eq_self_iff_true]
/-! 278: java/lang/String.isLatin1.()Z -/
theorem c278_0 : cd 278 0 = some (.getstatic 2, 3) := by decide +kernel
theorem c278_3 : cd 278 3 = some (.ifCond .eq 17, 3) := by decide +kernel
theorem c278_6 : cd 278 6 = some (.aload 0, 1) := by decide +kernel
theorem c278_7 : cd 278 7 = some (.getstatic 1, 3) := by decide +kernel
theorem c278_10 : cd 278 10 = some (.ifCond .ne 17, 3) := by decide +kernel
theorem c278_13 : cd 278 13 = some (.sipush 1, 1) := by decide +kernel
theorem c278_14 : cd 278 14 = some (.goto 18, 3) := by decide +kernel
theorem c278_17 : cd 278 17 = some (.sipush 0, 1) := by decide +kernel
theorem c278_18 : cd 278 18 = some (.ireturn, 1) := by decide +kernel
theorem g278_0 {d : Nat} {r0 : Nat} {w : aW} {Q : Option aV → aW → Prop} : T d 278 0 [some (vr r0)] [] w Q = (((1 : Int) = 0 → T d 278 17 [some (vr r0)] [] w Q) ∧ (¬ ((1 : Int) = 0) → ((1000 ≤ r0 ∧ r0 < 1003) ∧ ((¬ (0 : Int) = 0 → T d 278 17 [some (vr r0)] [] w Q) ∧ (¬ (¬ (0 : Int) = 0) → T d 278 18 [some (vr r0)] [vi 1] w Q))))) := by
  rw [T_gs2 c278_0, T_if_eq 17 c278_3 rfl, T_aload_0 c278_6, T_gs1 c278_7, T_if_ne 17 c278_10 rfl, T_sipush c278_13, T_goto 18 c278_14 rfl]
  all_goals try simp only [Int.reduceToNat, true_and, Nat.reduceAdd, eq_self_iff_true]
theorem g278_17 {d : Nat} {x0 : Option aV} {w : aW} {Q : Option aV → aW → Prop} : T d 278 17 [x0] [] w Q = T d 278 18 [x0] [vi 0] w Q := by
  rw [T_sipush c278_17]
  all_goals try simp only [true_and, Nat.reduceAdd, eq_self_iff_true]
theorem g278_18 {d : Nat} {s0 : Int} {x0 : Option aV} {w : aW} {Q : Option aV → aW → Prop} : T d 278 18 [x0] [vi s0] w Q = ((s0 = 0 ∨ s0 = 1) ∧ Q (some (vi s0)) w) := by
  rw [T_iretz c278_18 (by decide +kernel)]
  all_goals try simp only [true_and, Nat.reduceAdd, eq_self_iff_true]
/-! 279: java/lang/StringLatin1.charAt.([BI)C -/
theorem c279_0 : cd 279 0 = some (.iload 1, 1) := by decide +kernel
theorem c279_1 : cd 279 1 = some (.aload 0, 1) := by decide +kernel
theorem c279_2 : cd 279 2 = some (.arraylength, 1) := by decide +kernel
theorem c279_3 : cd 279 3 = some (.invokestatic 299, 3) := by decide +kernel
theorem c279_6 : cd 279 6 = some (.aload 0, 1) := by decide +kernel
theorem c279_7 : cd 279 7 = some (.iload 1, 1) := by decide +kernel
theorem c279_8 : cd 279 8 = some (.baload, 1) := by decide +kernel
theorem c279_9 : cd 279 9 = some (.sipush 255, 3) := by decide +kernel
theorem c279_12 : cd 279 12 = some (.iand, 1) := by decide +kernel
theorem c279_13 : cd 279 13 = some (.i2c, 1) := by decide +kernel
theorem c279_14 : cd 279 14 = some (.ireturn, 1) := by decide +kernel
theorem g279_0 {d : Nat} {a1 : Int} {r0 : Nat} {w : aW} {Q : Option aV → aW → Prop} : T (d + 1) 279 0 [some (vr r0), some (vi a1)] [] w Q = (alok r0 ∧ T d 299 0 [some (vi a1), some (vi (alv w r0))] [] w (fun r w1 => T (d + 1) 279 6 [some (vr r0), some (vi a1)] (r.toList ++ []) w1 Q)) := by
  rw [T_iload_1 c279_0, T_aload_0 c279_1, T_alen c279_2, T_inv (es := [some (vi a1), some (vi (alv w r0))]) (st := [vi (alv w r0), vi a1]) (ks := [0, 0]) (n := 2) (as := [vi a1, vi (alv w r0)]) (rest := []) c279_3 (by decide +kernel) (by decide +kernel) rfl rfl (Nat.le_of_ble_eq_true rfl)]
  all_goals try simp only [true_and, Nat.reduceAdd, eq_self_iff_true]
theorem g279_6 {d : Nat} {a1 : Int} {r0 : Nat} {w : aW} {Q : Option aV → aW → Prop} : T d 279 6 [some (vr r0), some (vi a1)] [] w Q = (ldbk r0 a1 ∧ ((0 ≤ jch (jand (ldbv w r0 a1) 255) ∧ jch (jand (ldbv w r0 a1) 255) < 65536) ∧ Q (some (vi (jch (jand (ldbv w r0 a1) 255)))) w)) := by
  rw [T_aload_0 c279_6, T_iload_1 c279_7, T_bald c279_8, T_sipush c279_9, T_iand c279_12, T_i2c c279_13, T_iretc c279_14 (by decide +kernel)]
  all_goals try simp only [true_and, Nat.reduceAdd, eq_self_iff_true]
/-! 280: StringHandsModel.readBoth.(I)V -/
theorem c280_0 : cd 280 0 = some (.aload 0, 1) := by decide +kernel
theorem c280_1 : cd 280 1 = some (.iload 1, 1) := by decide +kernel
theorem c280_2 : cd 280 2 = some (.invokevirtual 300, 3) := by decide +kernel
theorem c280_5 : cd 280 5 = some (.aload 0, 1) := by decide +kernel
theorem c280_6 : cd 280 6 = some (.sipush 10, 2) := by decide +kernel
theorem c280_8 : cd 280 8 = some (.invokevirtual 107, 3) := by decide +kernel
theorem c280_11 : cd 280 11 = some (.ifCond .eq 29, 3) := by decide +kernel
theorem c280_14 : cd 280 14 = some (.aload 0, 1) := by decide +kernel
theorem c280_15 : cd 280 15 = some (.iload 1, 1) := by decide +kernel
theorem c280_16 : cd 280 16 = some (.invokevirtual 300, 3) := by decide +kernel
theorem c280_19 : cd 280 19 = some (.aload 0, 1) := by decide +kernel
theorem c280_20 : cd 280 20 = some (.sipush 3006, 3) := by decide +kernel
theorem c280_23 : cd 280 23 = some (.invokevirtual 281, 3) := by decide +kernel
theorem c280_26 : cd 280 26 = some (.goto 5, 3) := by decide +kernel
theorem c280_29 : cd 280 29 = some (.return_, 1) := by decide +kernel
theorem g280_0 {d : Nat} {a1 : Int} {w : aW} {Q : Option aV → aW → Prop} : T (d + 1) 280 0 [some (vr 167), some (vi a1)] [] w Q = T d 300 0 [some (vr 167), some (vi a1), none] [] w (fun r w1 => T (d + 1) 280 5 [some (vr 167), some (vi a1)] (r.toList ++ []) w1 Q) := by
  rw [T_aload_0 c280_0, T_iload_1 c280_1, T_invv (es := [some (vr 167), some (vi a1), none]) (st := [vi a1, vr 167]) (ks := [2, 0]) (n := 3) (c := 12) (k := 167) (as := [vi a1]) (rest := []) c280_2 (by decide +kernel) (by decide +kernel) (by decide +kernel) (by decide) rfl rfl (Nat.le_of_ble_eq_true rfl)]
  all_goals try simp only [lay_167, true_and, Nat.reduceAdd, eq_self_iff_true]
theorem g280_5 {d : Nat} {x1 : Option aV} {w : aW} {Q : Option aV → aW → Prop} : T (d + 1) 280 5 [some (vr 167), x1] [] w Q = T d 107 0 [some (vr 167), some (vi 10)] [] w (fun r w1 => T (d + 1) 280 11 [some (vr 167), x1] (r.toList ++ []) w1 Q) := by
  rw [T_aload_0 c280_5, T_sipush c280_6, T_invv (es := [some (vr 167), some (vi 10)]) (st := [vi 10, vr 167]) (ks := [2, 0]) (n := 2) (c := 12) (k := 167) (as := [vi 10]) (rest := []) c280_8 (by decide +kernel) (by decide +kernel) (by decide +kernel) (by decide) rfl rfl (Nat.le_of_ble_eq_true rfl)]
  all_goals try simp only [lay_167, true_and, Nat.reduceAdd, eq_self_iff_true]
theorem g280_11 {d : Nat} {a1 s0 : Int} {w : aW} {Q : Option aV → aW → Prop} : T (d + 1) 280 11 [some (vr 167), some (vi a1)] [vi s0] w Q = ((s0 = 0 → Q none w) ∧ (¬ (s0 = 0) → T d 300 0 [some (vr 167), some (vi a1), none] [] w (fun r w1 => T (d + 1) 280 19 [some (vr 167), some (vi a1)] (r.toList ++ []) w1 Q))) := by
  rw [T_if_eq 29 c280_11 rfl, T_vret c280_29 (by decide +kernel), T_aload_0 c280_14, T_iload_1 c280_15, T_invv (es := [some (vr 167), some (vi a1), none]) (st := [vi a1, vr 167]) (ks := [2, 0]) (n := 3) (c := 12) (k := 167) (as := [vi a1]) (rest := []) c280_16 (by decide +kernel) (by decide +kernel) (by decide +kernel) (by decide) rfl rfl (Nat.le_of_ble_eq_true rfl)]
  all_goals try simp only [Int.reduceToNat, lay_167, true_and, Nat.reduceAdd, eq_self_iff_true]
theorem g280_19 {d : Nat} {x1 : Option aV} {w : aW} {Q : Option aV → aW → Prop} : T (d + 1) 280 19 [some (vr 167), x1] [] w Q = T d 281 0 [some (vr 167), some (vi 3006)] [] w (fun r w1 => T (d + 1) 280 26 [some (vr 167), x1] (r.toList ++ []) w1 Q) := by
  rw [T_aload_0 c280_19, T_sipush c280_20, T_invv (es := [some (vr 167), some (vi 3006)]) (st := [vi 3006, vr 167]) (ks := [2, 0]) (n := 2) (c := 12) (k := 167) (as := [vi 3006]) (rest := []) c280_23 (by decide +kernel) (by decide +kernel) (by decide +kernel) (by decide) rfl rfl (Nat.le_of_ble_eq_true rfl)]
  all_goals try simp only [lay_167, true_and, Nat.reduceAdd, eq_self_iff_true]
theorem g280_26 {d : Nat} {x0 x1 : Option aV} {w : aW} {Q : Option aV → aW → Prop} : T d 280 26 [x0, x1] [] w Q = T d 280 5 [x0, x1] [] w Q := by
  rw [T_goto 5 c280_26 rfl]
  all_goals try simp only [true_and, Nat.reduceAdd, eq_self_iff_true]
/-! 281: StringHandsModel.codes.(I)V -/
theorem c281_0 : cd 281 0 = some (.aload 0, 1) := by decide +kernel
theorem c281_1 : cd 281 1 = some (.getfield 3116, 3) := by decide +kernel
theorem c281_4 : cd 281 4 = some (.ifCond .eq 8, 3) := by decide +kernel
theorem c281_7 : cd 281 7 = some (.return_, 1) := by decide +kernel
theorem c281_8 : cd 281 8 = some (.aload 0, 1) := by decide +kernel
theorem c281_9 : cd 281 9 = some (.getfield 3090, 3) := by decide +kernel
theorem c281_12 : cd 281 12 = some (.sipush 744, 3) := by decide +kernel
theorem c281_15 : cd 281 15 = some (.aload 0, 1) := by decide +kernel
theorem c281_16 : cd 281 16 = some (.getfield 3090, 3) := by decide +kernel
theorem c281_19 : cd 281 19 = some (.sipush 743, 3) := by decide +kernel
theorem c281_22 : cd 281 22 = some (.iaload, 1) := by decide +kernel
theorem c281_23 : cd 281 23 = some (.iadd, 1) := by decide +kernel
theorem c281_24 : cd 281 24 = some (.iload 1, 1) := by decide +kernel
theorem c281_25 : cd 281 25 = some (.iastore, 1) := by decide +kernel
theorem c281_26 : cd 281 26 = some (.aload 0, 1) := by decide +kernel
theorem c281_27 : cd 281 27 = some (.getfield 3090, 3) := by decide +kernel
theorem c281_30 : cd 281 30 = some (.sipush 743, 3) := by decide +kernel
theorem c281_33 : cd 281 33 = some (.dup2, 1) := by decide +kernel
theorem c281_34 : cd 281 34 = some (.iaload, 1) := by decide +kernel
theorem c281_35 : cd 281 35 = some (.sipush 1, 1) := by decide +kernel
theorem c281_36 : cd 281 36 = some (.iadd, 1) := by decide +kernel
theorem c281_37 : cd 281 37 = some (.iastore, 1) := by decide +kernel
theorem c281_38 : cd 281 38 = some (.return_, 1) := by decide +kernel
theorem g281_0 {d : Nat} {a1 : Int} {w : aW} {Q : Option aV → aW → Prop} : T d 281 0 [some (vr 167), some (vi a1)] [] w Q = ((w 167 11 = 0 → ((0 ≤ w32 (744 + (w 171 743)) ∧ w32 (744 + (w 171 743)) < 1644) ∧ Q none (iup (iup w 171 (w32 (744 + (w 171 743))) a1) 171 743 (w32 (((iup w 171 (w32 (744 + (w 171 743))) a1) 171 743) + 1))))) ∧ (¬ (w 167 11 = 0) → Q none w)) := by
  rw [T_aload_0 c281_0, T_getI 12 11 11 c281_1 rfl rfl rfl rfl, T_if_eq 8 c281_4 rfl, T_aload_0 c281_8, T_getR 12 4 4 c281_9 rfl rfl rfl rfl, rf_167_4, T_sipush c281_12, T_aload_0 c281_15, T_getR 12 4 4 c281_16 rfl rfl rfl rfl, rf_167_4, T_sipush c281_19, T_iald c281_22, T_iadd c281_23, T_iload_1 c281_24, T_iast c281_25, T_aload_0 c281_26, T_getR 12 4 4 c281_27 rfl rfl rfl rfl, rf_167_4, T_sipush c281_30, T_dup2 c281_33, T_iald c281_34, T_sipush c281_35, T_iadd c281_36, T_iast c281_37, T_vret c281_38 (by decide +kernel), T_vret c281_7 (by decide +kernel)]
  all_goals try simp only [Int.reduceLE, Int.reduceLT, Int.reduceToNat, and_self, ia0_171, lay_167, ld_171, true_and, Nat.reduceAdd, eq_self_iff_true]
/-! 282: StringHands$Mover.holds.(LStringHands$Troupe;III)Z -/
theorem c282_0 : cd 282 0 = some (.sipush 0, 1) := by decide +kernel
theorem c282_1 : cd 282 1 = some (.istore 5, 2) := by decide +kernel
theorem c282_3 : cd 282 3 = some (.aload 1, 1) := by decide +kernel
theorem c282_4 : cd 282 4 = some (.getfield 2110, 3) := by decide +kernel
theorem c282_7 : cd 282 7 = some (.iload 2, 1) := by decide +kernel
theorem c282_8 : cd 282 8 = some (.iaload, 1) := by decide +kernel
theorem c282_9 : cd 282 9 = some (.istore 6, 2) := by decide +kernel
theorem c282_11 : cd 282 11 = some (.iload 6, 2) := by decide +kernel
theorem c282_13 : cd 282 13 = some (.aload 1, 1) := by decide +kernel
theorem c282_14 : cd 282 14 = some (.getfield 2114, 3) := by decide +kernel
theorem c282_17 : cd 282 17 = some (.iload 2, 1) := by decide +kernel
theorem c282_18 : cd 282 18 = some (.iaload, 1) := by decide +kernel
theorem c282_19 : cd 282 19 = some (.if_icmp .ge 172, 3) := by decide +kernel
theorem c282_22 : cd 282 22 = some (.iload 6, 2) := by decide +kernel
theorem c282_24 : cd 282 24 = some (.sipush 900, 3) := by decide +kernel
theorem c282_27 : cd 282 27 = some (.if_icmp .ge 172, 3) := by decide +kernel
theorem c282_30 : cd 282 30 = some (.aload 1, 1) := by decide +kernel
theorem c282_31 : cd 282 31 = some (.getfield 2118, 3) := by decide +kernel
theorem c282_34 : cd 282 34 = some (.iload 6, 2) := by decide +kernel
theorem c282_36 : cd 282 36 = some (.iaload, 1) := by decide +kernel
theorem c282_37 : cd 282 37 = some (.sipush 1024, 3) := by decide +kernel
theorem c282_40 : cd 282 40 = some (.idiv, 1) := by decide +kernel
theorem c282_41 : cd 282 41 = some (.istore 7, 2) := by decide +kernel
theorem c282_43 : cd 282 43 = some (.aload 1, 1) := by decide +kernel
theorem c282_44 : cd 282 44 = some (.getfield 2118, 3) := by decide +kernel
theorem c282_47 : cd 282 47 = some (.iload 6, 2) := by decide +kernel
theorem c282_49 : cd 282 49 = some (.iaload, 1) := by decide +kernel
theorem c282_50 : cd 282 50 = some (.sipush 1024, 3) := by decide +kernel
theorem c282_53 : cd 282 53 = some (.irem, 1) := by decide +kernel
theorem c282_54 : cd 282 54 = some (.istore 8, 2) := by decide +kernel
theorem c282_56 : cd 282 56 = some (.iload 7, 2) := by decide +kernel
theorem c282_58 : cd 282 58 = some (.sipush 3, 1) := by decide +kernel
theorem c282_59 : cd 282 59 = some (.if_icmp .gt 93, 3) := by decide +kernel
theorem c282_62 : cd 282 62 = some (.iload 5, 2) := by decide +kernel
theorem c282_64 : cd 282 64 = some (.sipush 64, 2) := by decide +kernel
theorem c282_66 : cd 282 66 = some (.if_icmp .ge 166, 3) := by decide +kernel
theorem c282_69 : cd 282 69 = some (.aload 0, 1) := by decide +kernel
theorem c282_70 : cd 282 70 = some (.getfield 522, 3) := by decide +kernel
theorem c282_73 : cd 282 73 = some (.iload 5, 2) := by decide +kernel
theorem c282_75 : cd 282 75 = some (.iload 7, 2) := by decide +kernel
theorem c282_77 : cd 282 77 = some (.iload 8, 2) := by decide +kernel
theorem c282_79 : cd 282 79 = some (.iload 3, 1) := by decide +kernel
theorem c282_80 : cd 282 80 = some (.iload 2, 1) := by decide +kernel
theorem c282_81 : cd 282 81 = some (.iload 4, 2) := by decide +kernel
theorem c282_83 : cd 282 83 = some (.invokestatic 301, 3) := by decide +kernel
theorem c282_86 : cd 282 86 = some (.iastore, 1) := by decide +kernel
theorem c282_87 : cd 282 87 = some (.iinc 5 1, 3) := by decide +kernel
theorem c282_90 : cd 282 90 = some (.goto 166, 3) := by decide +kernel
theorem c282_93 : cd 282 93 = some (.iload 7, 2) := by decide +kernel
theorem c282_95 : cd 282 95 = some (.sipush 4, 1) := by decide +kernel
theorem c282_96 : cd 282 96 = some (.if_icmp .ne 127, 3) := by decide +kernel
theorem c282_99 : cd 282 99 = some (.iload 5, 2) := by decide +kernel
theorem c282_101 : cd 282 101 = some (.ifCond .le 166, 3) := by decide +kernel
theorem c282_104 : cd 282 104 = some (.aload 0, 1) := by decide +kernel
theorem c282_105 : cd 282 105 = some (.getfield 522, 3) := by decide +kernel
theorem c282_108 : cd 282 108 = some (.iload 5, 2) := by decide +kernel
theorem c282_110 : cd 282 110 = some (.sipush 1, 1) := by decide +kernel
theorem c282_111 : cd 282 111 = some (.isub, 1) := by decide +kernel
theorem c282_112 : cd 282 112 = some (.sipush 1, 1) := by decide +kernel
theorem c282_113 : cd 282 113 = some (.aload 0, 1) := by decide +kernel
theorem c282_114 : cd 282 114 = some (.getfield 522, 3) := by decide +kernel
theorem c282_117 : cd 282 117 = some (.iload 5, 2) := by decide +kernel
theorem c282_119 : cd 282 119 = some (.sipush 1, 1) := by decide +kernel
theorem c282_120 : cd 282 120 = some (.isub, 1) := by decide +kernel
theorem c282_121 : cd 282 121 = some (.iaload, 1) := by decide +kernel
theorem c282_122 : cd 282 122 = some (.isub, 1) := by decide +kernel
theorem c282_123 : cd 282 123 = some (.iastore, 1) := by decide +kernel
theorem c282_124 : cd 282 124 = some (.goto 166, 3) := by decide +kernel
theorem c282_127 : cd 282 127 = some (.iload 5, 2) := by decide +kernel
theorem c282_129 : cd 282 129 = some (.sipush 1, 1) := by decide +kernel
theorem c282_130 : cd 282 130 = some (.if_icmp .le 166, 3) := by decide +kernel
theorem c282_133 : cd 282 133 = some (.iinc 5 (-1), 3) := by decide +kernel
theorem c282_136 : cd 282 136 = some (.aload 0, 1) := by decide +kernel
theorem c282_137 : cd 282 137 = some (.getfield 522, 3) := by decide +kernel
theorem c282_140 : cd 282 140 = some (.iload 5, 2) := by decide +kernel
theorem c282_142 : cd 282 142 = some (.sipush 1, 1) := by decide +kernel
theorem c282_143 : cd 282 143 = some (.isub, 1) := by decide +kernel
theorem c282_144 : cd 282 144 = some (.iload 7, 2) := by decide +kernel
theorem c282_146 : cd 282 146 = some (.aload 0, 1) := by decide +kernel
theorem c282_147 : cd 282 147 = some (.getfield 522, 3) := by decide +kernel
theorem c282_150 : cd 282 150 = some (.iload 5, 2) := by decide +kernel
theorem c282_152 : cd 282 152 = some (.sipush 1, 1) := by decide +kernel
theorem c282_153 : cd 282 153 = some (.isub, 1) := by decide +kernel
theorem c282_154 : cd 282 154 = some (.iaload, 1) := by decide +kernel
theorem c282_155 : cd 282 155 = some (.aload 0, 1) := by decide +kernel
theorem c282_156 : cd 282 156 = some (.getfield 522, 3) := by decide +kernel
theorem c282_159 : cd 282 159 = some (.iload 5, 2) := by decide +kernel
theorem c282_161 : cd 282 161 = some (.iaload, 1) := by decide +kernel
theorem c282_162 : cd 282 162 = some (.invokestatic 302, 3) := by decide +kernel
theorem c282_165 : cd 282 165 = some (.iastore, 1) := by decide +kernel
theorem c282_166 : cd 282 166 = some (.iinc 6 1, 3) := by decide +kernel
theorem c282_169 : cd 282 169 = some (.goto 11, 3) := by decide +kernel
theorem c282_172 : cd 282 172 = some (.iload 5, 2) := by decide +kernel
theorem c282_174 : cd 282 174 = some (.ifCond .le 190, 3) := by decide +kernel
theorem c282_177 : cd 282 177 = some (.aload 0, 1) := by decide +kernel
theorem c282_178 : cd 282 178 = some (.getfield 522, 3) := by decide +kernel
theorem c282_181 : cd 282 181 = some (.sipush 0, 1) := by decide +kernel
theorem c282_182 : cd 282 182 = some (.iaload, 1) := by decide +kernel
theorem c282_183 : cd 282 183 = some (.ifCond .eq 190, 3) := by decide +kernel
theorem c282_186 : cd 282 186 = some (.sipush 1, 1) := by decide +kernel
theorem c282_187 : cd 282 187 = some (.goto 191, 3) := by decide +kernel
theorem c282_190 : cd 282 190 = some (.sipush 0, 1) := by decide +kernel
theorem c282_191 : cd 282 191 = some (.ireturn, 1) := by decide +kernel
theorem g282_0 {d : Nat} {a2 : Int} {x0 x3 x4 x5 x6 x7 x8 : Option aV} {w : aW} {Q : Option aV → aW → Prop} : T d 282 0 [x0, some (vr 69), some (vi a2), x3, x4, x5, x6, x7, x8] [] w Q = ((0 ≤ a2 ∧ a2 < 10) ∧ T d 282 11 [x0, some (vr 69), some (vi a2), x3, x4, some (vi 0), some (vi (w 76 a2)), x7, x8] [] w Q) := by
  rw [T_sipush c282_0, T_istore_5 c282_1, T_aload_1 c282_3, T_getR 8 15 15 c282_4 rfl rfl rfl rfl, rf_69_15, T_iload_2 c282_7, T_iald c282_8, T_istore_6 c282_9]
  all_goals try simp only [lay_69, ld_76, true_and, Nat.reduceAdd, eq_self_iff_true]
theorem g282_11 {d : Nat} {a2 a3 a4 a5 a6 : Int} {x7 x8 : Option aV} {w : aW} {Q : Option aV → aW → Prop} : T (d + 1) 282 11 [some (vr 16), some (vr 69), some (vi a2), some (vi a3), some (vi a4), some (vi a5), some (vi a6), x7, x8] [] w Q = ((0 ≤ a2 ∧ a2 < 10) ∧ ((w 77 a2 ≤ a6 → T (d + 1) 282 172 [some (vr 16), some (vr 69), some (vi a2), some (vi a3), some (vi a4), some (vi a5), some (vi a6), x7, x8] [] w Q) ∧ (¬ (w 77 a2 ≤ a6) → ((900 ≤ a6 → T (d + 1) 282 172 [some (vr 16), some (vr 69), some (vi a2), some (vi a3), some (vi a4), some (vi a5), some (vi a6), x7, x8] [] w Q) ∧ (¬ (900 ≤ a6) → ((0 ≤ a6 ∧ a6 < 900) ∧ ((0 ≤ a6 ∧ a6 < 900) ∧ ((3 < jdiv (w 78 a6) 1024 → ((¬ jdiv (w 78 a6) 1024 = 4 → ((a5 ≤ 1 → T (d + 1) 282 166 [some (vr 16), some (vr 69), some (vi a2), some (vi a3), some (vi a4), some (vi a5), some (vi a6), some (vi (jdiv (w 78 a6) 1024)), some (vi (jrem (w 78 a6) 1024))] [] w Q) ∧ (¬ (a5 ≤ 1) → ((0 ≤ w32 ((w32 (a5 + (-1))) - 1) ∧ w32 ((w32 (a5 + (-1))) - 1) < 64) ∧ ((0 ≤ w32 (a5 + (-1)) ∧ w32 (a5 + (-1)) < 64) ∧ T d 302 0 [some (vi (jdiv (w 78 a6) 1024)), some (vi (w 18 (w32 ((w32 (a5 + (-1))) - 1)))), some (vi (w 18 (w32 (a5 + (-1))))), none, none] [] w (fun r w1 => T (d + 1) 282 165 [some (vr 16), some (vr 69), some (vi a2), some (vi a3), some (vi a4), some (vi (w32 (a5 + (-1)))), some (vi a6), some (vi (jdiv (w 78 a6) 1024)), some (vi (jrem (w 78 a6) 1024))] (r.toList ++ [vi (w32 ((w32 (a5 + (-1))) - 1)), vr 18]) w1 Q)))))) ∧ (¬ (¬ jdiv (w 78 a6) 1024 = 4) → ((a5 ≤ 0 → T (d + 1) 282 166 [some (vr 16), some (vr 69), some (vi a2), some (vi a3), some (vi a4), some (vi a5), some (vi a6), some (vi (jdiv (w 78 a6) 1024)), some (vi (jrem (w 78 a6) 1024))] [] w Q) ∧ (¬ (a5 ≤ 0) → ((0 ≤ w32 (a5 - 1) ∧ w32 (a5 - 1) < 64) ∧ ((0 ≤ w32 (a5 - 1) ∧ w32 (a5 - 1) < 64) ∧ T (d + 1) 282 166 [some (vr 16), some (vr 69), some (vi a2), some (vi a3), some (vi a4), some (vi a5), some (vi a6), some (vi (jdiv (w 78 a6) 1024)), some (vi (jrem (w 78 a6) 1024))] [] (iup w 18 (w32 (a5 - 1)) (w32 (1 - (w 18 (w32 (a5 - 1)))))) Q))))))) ∧ (¬ (3 < jdiv (w 78 a6) 1024) → ((64 ≤ a5 → T (d + 1) 282 166 [some (vr 16), some (vr 69), some (vi a2), some (vi a3), some (vi a4), some (vi a5), some (vi a6), some (vi (jdiv (w 78 a6) 1024)), some (vi (jrem (w 78 a6) 1024))] [] w Q) ∧ (¬ (64 ≤ a5) → T d 301 0 [some (vi (jdiv (w 78 a6) 1024)), some (vi (jrem (w 78 a6) 1024)), some (vi a3), some (vi a2), some (vi a4)] [] w (fun r w1 => T (d + 1) 282 86 [some (vr 16), some (vr 69), some (vi a2), some (vi a3), some (vi a4), some (vi a5), some (vi a6), some (vi (jdiv (w 78 a6) 1024)), some (vi (jrem (w 78 a6) 1024))] (r.toList ++ [vi a5, vr 18]) w1 Q)))))))))))) := by
  rw [T_iload_6 c282_11, T_aload_1 c282_13, T_getR 8 16 16 c282_14 rfl rfl rfl rfl, rf_69_16, T_iload_2 c282_17, T_iald c282_18, T_icmp_ge 172 c282_19 rfl, T_iload_6 c282_22, T_sipush c282_24, T_icmp_ge 172 c282_27 rfl, T_aload_1 c282_30, T_getR 8 17 17 c282_31 rfl rfl rfl rfl, rf_69_17, T_iload_6 c282_34, T_iald c282_36, T_sipush c282_37, T_idiv c282_40, T_istore_7 c282_41, T_aload_1 c282_43, T_getR 8 17 17 c282_44 rfl rfl rfl rfl, rf_69_17, T_iload_6 c282_47, T_iald c282_49, T_sipush c282_50, T_irem c282_53, T_istore_8 c282_54, T_iload_7 c282_56, T_sipush c282_58, T_icmp_gt 93 c282_59 rfl, T_iload_7 c282_93, T_sipush c282_95, T_icmp_ne 127 c282_96 rfl, T_iload_5 c282_127, T_sipush c282_129, T_icmp_le 166 c282_130 rfl, T_iinc_5 c282_133, T_aload_0 c282_136, T_getR 2 2 2 c282_137 rfl rfl rfl rfl, rf_16_2, T_iload_5 c282_140, T_sipush c282_142, T_isub c282_143, T_iload_7 c282_144, T_aload_0 c282_146, T_getR 2 2 2 c282_147 rfl rfl rfl rfl, rf_16_2, T_iload_5 c282_150, T_sipush c282_152, T_isub c282_153, T_iald c282_154, T_aload_0 c282_155, T_getR 2 2 2 c282_156 rfl rfl rfl rfl, rf_16_2, T_iload_5 c282_159, T_iald c282_161, T_inv (es := [some (vi (jdiv (w 78 a6) 1024)), some (vi (w 18 (w32 ((w32 (a5 + (-1))) - 1)))), some (vi (w 18 (w32 (a5 + (-1))))), none, none]) (st := [vi (w 18 (w32 (a5 + (-1)))), vi (w 18 (w32 ((w32 (a5 + (-1))) - 1))), vi (jdiv (w 78 a6) 1024), vi (w32 ((w32 (a5 + (-1))) - 1)), vr 18]) (ks := [0, 0, 0]) (n := 5) (as := [vi (jdiv (w 78 a6) 1024), vi (w 18 (w32 ((w32 (a5 + (-1))) - 1))), vi (w 18 (w32 (a5 + (-1))))]) (rest := [vi (w32 ((w32 (a5 + (-1))) - 1)), vr 18]) c282_162 (by decide +kernel) (by decide +kernel) rfl rfl (Nat.le_of_ble_eq_true rfl), T_iload_5 c282_99, T_if_le 166 c282_101 rfl, T_aload_0 c282_104, T_getR 2 2 2 c282_105 rfl rfl rfl rfl, rf_16_2, T_iload_5 c282_108, T_sipush c282_110, T_isub c282_111, T_sipush c282_112, T_aload_0 c282_113, T_getR 2 2 2 c282_114 rfl rfl rfl rfl, rf_16_2, T_iload_5 c282_117, T_sipush c282_119, T_isub c282_120, T_iald c282_121, T_isub c282_122, T_iast c282_123, T_goto 166 c282_124 rfl, T_iload_5 c282_62, T_sipush c282_64, T_icmp_ge 166 c282_66 rfl, T_aload_0 c282_69, T_getR 2 2 2 c282_70 rfl rfl rfl rfl, rf_16_2, T_iload_5 c282_73, T_iload_7 c282_75, T_iload_8 c282_77, T_iload_3 c282_79, T_iload_2 c282_80, T_iload_4 c282_81, T_inv (es := [some (vi (jdiv (w 78 a6) 1024)), some (vi (jrem (w 78 a6) 1024)), some (vi a3), some (vi a2), some (vi a4)]) (st := [vi a4, vi a2, vi a3, vi (jrem (w 78 a6) 1024), vi (jdiv (w 78 a6) 1024), vi a5, vr 18]) (ks := [0, 0, 0, 0, 0]) (n := 5) (as := [vi (jdiv (w 78 a6) 1024), vi (jrem (w 78 a6) 1024), vi a3, vi a2, vi a4]) (rest := [vi a5, vr 18]) c282_83 (by decide +kernel) (by decide +kernel) rfl rfl (Nat.le_of_ble_eq_true rfl)]
  all_goals try simp only [Int.reduceEq, Int.reduceToNat, ia0_18, lay_16, lay_69, ld_18, ld_77, ld_78, ne_eq, not_false_eq_true, true_and, Nat.reduceAdd, eq_self_iff_true]
theorem g282_86 {d : Nat} {a5 s1 s2 : Int} {s0 : Nat} {x0 x1 x2 x3 x4 x6 x7 x8 : Option aV} {w : aW} {Q : Option aV → aW → Prop} : T d 282 86 [x0, x1, x2, x3, x4, some (vi a5), x6, x7, x8] [vi s2, vi s1, vr s0] w Q = (inA s0 0 s1 = true ∧ T d 282 166 [x0, x1, x2, x3, x4, some (vi (w32 (a5 + 1))), x6, x7, x8] [] (iup w s0 s1 s2) Q) := by
  rw [T_iast c282_86, T_iinc_5 c282_87, T_goto 166 c282_90 rfl]
  all_goals try simp only [true_and, Nat.reduceAdd, eq_self_iff_true]
theorem g282_165 {d : Nat} {s1 s2 : Int} {s0 : Nat} {x0 x1 x2 x3 x4 x5 x6 x7 x8 : Option aV} {w : aW} {Q : Option aV → aW → Prop} : T d 282 165 [x0, x1, x2, x3, x4, x5, x6, x7, x8] [vi s2, vi s1, vr s0] w Q = (inA s0 0 s1 = true ∧ T d 282 166 [x0, x1, x2, x3, x4, x5, x6, x7, x8] [] (iup w s0 s1 s2) Q) := by
  rw [T_iast c282_165]
  all_goals try simp only [true_and, Nat.reduceAdd, eq_self_iff_true]
theorem g282_166 {d : Nat} {a6 : Int} {x0 x1 x2 x3 x4 x5 x7 x8 : Option aV} {w : aW} {Q : Option aV → aW → Prop} : T d 282 166 [x0, x1, x2, x3, x4, x5, some (vi a6), x7, x8] [] w Q = T d 282 11 [x0, x1, x2, x3, x4, x5, some (vi (w32 (a6 + 1))), x7, x8] [] w Q := by
  rw [T_iinc_6 c282_166, T_goto 11 c282_169 rfl]
  all_goals try simp only [true_and, Nat.reduceAdd, eq_self_iff_true]
theorem g282_172 {d : Nat} {a5 : Int} {x1 x2 x3 x4 x6 x7 x8 : Option aV} {w : aW} {Q : Option aV → aW → Prop} : T d 282 172 [some (vr 16), x1, x2, x3, x4, some (vi a5), x6, x7, x8] [] w Q = ((a5 ≤ 0 → T d 282 190 [some (vr 16), x1, x2, x3, x4, some (vi a5), x6, x7, x8] [] w Q) ∧ (¬ (a5 ≤ 0) → ((w 18 0 = 0 → T d 282 190 [some (vr 16), x1, x2, x3, x4, some (vi a5), x6, x7, x8] [] w Q) ∧ (¬ (w 18 0 = 0) → T d 282 191 [some (vr 16), x1, x2, x3, x4, some (vi a5), x6, x7, x8] [vi 1] w Q)))) := by
  rw [T_iload_5 c282_172, T_if_le 190 c282_174 rfl, T_aload_0 c282_177, T_getR 2 2 2 c282_178 rfl rfl rfl rfl, rf_16_2, T_sipush c282_181, T_iald c282_182, T_if_eq 190 c282_183 rfl, T_sipush c282_186, T_goto 191 c282_187 rfl]
  all_goals try simp only [Int.reduceLE, Int.reduceLT, Int.reduceToNat, and_self, lay_16, ld_18, true_and, Nat.reduceAdd, eq_self_iff_true]
theorem g282_190 {d : Nat} {x0 x1 x2 x3 x4 x5 x6 x7 x8 : Option aV} {w : aW} {Q : Option aV → aW → Prop} : T d 282 190 [x0, x1, x2, x3, x4, x5, x6, x7, x8] [] w Q = T d 282 191 [x0, x1, x2, x3, x4, x5, x6, x7, x8] [vi 0] w Q := by
  rw [T_sipush c282_190]
  all_goals try simp only [true_and, Nat.reduceAdd, eq_self_iff_true]
theorem g282_191 {d : Nat} {s0 : Int} {x0 x1 x2 x3 x4 x5 x6 x7 x8 : Option aV} {w : aW} {Q : Option aV → aW → Prop} : T d 282 191 [x0, x1, x2, x3, x4, x5, x6, x7, x8] [vi s0] w Q = ((s0 = 0 ∨ s0 = 1) ∧ Q (some (vi s0)) w) := by
  rw [T_iretz c282_191 (by decide +kernel)]
  all_goals try simp only [true_and, Nat.reduceAdd, eq_self_iff_true]
/-! 283: StringHandsModel.between.(III)I -/
theorem c283_0 : cd 283 0 = some (.iload 0, 1) := by decide +kernel
theorem c283_1 : cd 283 1 = some (.sipush 3002, 3) := by decide +kernel
theorem c283_4 : cd 283 4 = some (.if_icmp .gt 74, 3) := by decide +kernel
theorem c283_7 : cd 283 7 = some (.iload 0, 1) := by decide +kernel
theorem c283_8 : cd 283 8 = some (.sipush 3000, 3) := by decide +kernel
theorem c283_11 : cd 283 11 = some (.if_icmp .ne 22, 3) := by decide +kernel
theorem c283_14 : cd 283 14 = some (.iload 1, 1) := by decide +kernel
theorem c283_15 : cd 283 15 = some (.i2l, 1) := by decide +kernel
theorem c283_16 : cd 283 16 = some (.iload 2, 1) := by decide +kernel
theorem c283_17 : cd 283 17 = some (.i2l, 1) := by decide +kernel
theorem c283_18 : cd 283 18 = some (.ladd, 1) := by decide +kernel
theorem c283_19 : cd 283 19 = some (.goto 42, 3) := by decide +kernel
theorem c283_22 : cd 283 22 = some (.iload 0, 1) := by decide +kernel
theorem c283_23 : cd 283 23 = some (.sipush 3001, 3) := by decide +kernel
theorem c283_26 : cd 283 26 = some (.if_icmp .ne 37, 3) := by decide +kernel
theorem c283_29 : cd 283 29 = some (.iload 1, 1) := by decide +kernel
theorem c283_30 : cd 283 30 = some (.i2l, 1) := by decide +kernel
theorem c283_31 : cd 283 31 = some (.iload 2, 1) := by decide +kernel
theorem c283_32 : cd 283 32 = some (.i2l, 1) := by decide +kernel
theorem c283_33 : cd 283 33 = some (.lsub, 1) := by decide +kernel
theorem c283_34 : cd 283 34 = some (.goto 42, 3) := by decide +kernel
theorem c283_37 : cd 283 37 = some (.iload 1, 1) := by decide +kernel
theorem c283_38 : cd 283 38 = some (.i2l, 1) := by decide +kernel
theorem c283_39 : cd 283 39 = some (.iload 2, 1) := by decide +kernel
theorem c283_40 : cd 283 40 = some (.i2l, 1) := by decide +kernel
theorem c283_41 : cd 283 41 = some (.lmul, 1) := by decide +kernel
theorem c283_42 : cd 283 42 = some (.lstore 3, 1) := by decide +kernel
theorem c283_43 : cd 283 43 = some (.lload 3, 1) := by decide +kernel
theorem c283_44 : cd 283 44 = some (.bipush 1000000, 3) := by decide +kernel
theorem c283_47 : cd 283 47 = some (.lcmp, 1) := by decide +kernel
theorem c283_48 : cd 283 48 = some (.ifCond .le 57, 3) := by decide +kernel
theorem c283_51 : cd 283 51 = some (.bipush 1000000, 3) := by decide +kernel
theorem c283_54 : cd 283 54 = some (.goto 72, 3) := by decide +kernel
theorem c283_57 : cd 283 57 = some (.lload 3, 1) := by decide +kernel
theorem c283_58 : cd 283 58 = some (.bipush (-1000000), 3) := by decide +kernel
theorem c283_61 : cd 283 61 = some (.lcmp, 1) := by decide +kernel
theorem c283_62 : cd 283 62 = some (.ifCond .ge 71, 3) := by decide +kernel
theorem c283_65 : cd 283 65 = some (.bipush (-1000000), 3) := by decide +kernel
theorem c283_68 : cd 283 68 = some (.goto 72, 3) := by decide +kernel
theorem c283_71 : cd 283 71 = some (.lload 3, 1) := by decide +kernel
theorem c283_72 : cd 283 72 = some (.l2i, 1) := by decide +kernel
theorem c283_73 : cd 283 73 = some (.ireturn, 1) := by decide +kernel
theorem c283_74 : cd 283 74 = some (.iload 0, 1) := by decide +kernel
theorem c283_75 : cd 283 75 = some (.sipush 3003, 3) := by decide +kernel
theorem c283_78 : cd 283 78 = some (.if_icmp .ne 94, 3) := by decide +kernel
theorem c283_81 : cd 283 81 = some (.iload 1, 1) := by decide +kernel
theorem c283_82 : cd 283 82 = some (.iload 2, 1) := by decide +kernel
theorem c283_83 : cd 283 83 = some (.if_icmp .ne 90, 3) := by decide +kernel
theorem c283_86 : cd 283 86 = some (.sipush 1, 1) := by decide +kernel
theorem c283_87 : cd 283 87 = some (.goto 167, 3) := by decide +kernel
theorem c283_90 : cd 283 90 = some (.sipush 0, 1) := by decide +kernel
theorem c283_91 : cd 283 91 = some (.goto 167, 3) := by decide +kernel
theorem c283_94 : cd 283 94 = some (.iload 0, 1) := by decide +kernel
theorem c283_95 : cd 283 95 = some (.sipush 3004, 3) := by decide +kernel
theorem c283_98 : cd 283 98 = some (.if_icmp .ne 114, 3) := by decide +kernel
theorem c283_101 : cd 283 101 = some (.iload 1, 1) := by decide +kernel
theorem c283_102 : cd 283 102 = some (.iload 2, 1) := by decide +kernel
theorem c283_103 : cd 283 103 = some (.if_icmp .ge 110, 3) := by decide +kernel
theorem c283_106 : cd 283 106 = some (.sipush 1, 1) := by decide +kernel
theorem c283_107 : cd 283 107 = some (.goto 167, 3) := by decide +kernel
theorem c283_110 : cd 283 110 = some (.sipush 0, 1) := by decide +kernel
theorem c283_111 : cd 283 111 = some (.goto 167, 3) := by decide +kernel
theorem c283_114 : cd 283 114 = some (.iload 0, 1) := by decide +kernel
theorem c283_115 : cd 283 115 = some (.sipush 3005, 3) := by decide +kernel
theorem c283_118 : cd 283 118 = some (.if_icmp .ne 134, 3) := by decide +kernel
theorem c283_121 : cd 283 121 = some (.iload 1, 1) := by decide +kernel
theorem c283_122 : cd 283 122 = some (.iload 2, 1) := by decide +kernel
theorem c283_123 : cd 283 123 = some (.if_icmp .le 130, 3) := by decide +kernel
theorem c283_126 : cd 283 126 = some (.sipush 1, 1) := by decide +kernel
theorem c283_127 : cd 283 127 = some (.goto 167, 3) := by decide +kernel
theorem c283_130 : cd 283 130 = some (.sipush 0, 1) := by decide +kernel
theorem c283_131 : cd 283 131 = some (.goto 167, 3) := by decide +kernel
theorem c283_134 : cd 283 134 = some (.iload 0, 1) := by decide +kernel
theorem c283_135 : cd 283 135 = some (.sipush 3006, 3) := by decide +kernel
theorem c283_138 : cd 283 138 = some (.if_icmp .ne 156, 3) := by decide +kernel
theorem c283_141 : cd 283 141 = some (.iload 1, 1) := by decide +kernel
theorem c283_142 : cd 283 142 = some (.iload 2, 1) := by decide +kernel
theorem c283_143 : cd 283 143 = some (.iadd, 1) := by decide +kernel
theorem c283_144 : cd 283 144 = some (.sipush 2, 1) := by decide +kernel
theorem c283_145 : cd 283 145 = some (.if_icmp .ne 152, 3) := by decide +kernel
theorem c283_148 : cd 283 148 = some (.sipush 1, 1) := by decide +kernel
theorem c283_149 : cd 283 149 = some (.goto 167, 3) := by decide +kernel
theorem c283_152 : cd 283 152 = some (.sipush 0, 1) := by decide +kernel
theorem c283_153 : cd 283 153 = some (.goto 167, 3) := by decide +kernel
theorem c283_156 : cd 283 156 = some (.iload 1, 1) := by decide +kernel
theorem c283_157 : cd 283 157 = some (.iload 2, 1) := by decide +kernel
theorem c283_158 : cd 283 158 = some (.iadd, 1) := by decide +kernel
theorem c283_159 : cd 283 159 = some (.ifCond .le 166, 3) := by decide +kernel
theorem c283_162 : cd 283 162 = some (.sipush 1, 1) := by decide +kernel
theorem c283_163 : cd 283 163 = some (.goto 167, 3) := by decide +kernel
theorem c283_166 : cd 283 166 = some (.sipush 0, 1) := by decide +kernel
theorem c283_167 : cd 283 167 = some (.istore 3, 1) := by decide +kernel
theorem c283_168 : cd 283 168 = some (.iload 3, 1) := by decide +kernel
theorem c283_169 : cd 283 169 = some (.ifCond .eq 176, 3) := by decide +kernel
theorem c283_172 : cd 283 172 = some (.sipush 1, 1) := by decide +kernel
theorem c283_173 : cd 283 173 = some (.goto 177, 3) := by decide +kernel
theorem c283_176 : cd 283 176 = some (.sipush 0, 1) := by decide +kernel
theorem c283_177 : cd 283 177 = some (.ireturn, 1) := by decide +kernel
theorem g283_0 {d : Nat} {a0 a1 a2 : Int} {x3 x4 : Option aV} {w : aW} {Q : Option aV → aW → Prop} : T d 283 0 [some (vi a0), some (vi a1), some (vi a2), x3, x4] [] w Q = ((3002 < a0 → ((¬ a0 = 3003 → ((¬ a0 = 3004 → ((¬ a0 = 3005 → ((¬ a0 = 3006 → ((w32 (a1 + a2) ≤ 0 → T d 283 167 [some (vi a0), some (vi a1), some (vi a2), x3, x4] [vi 0] w Q) ∧ (¬ (w32 (a1 + a2) ≤ 0) → T d 283 167 [some (vi a0), some (vi a1), some (vi a2), x3, x4] [vi 1] w Q))) ∧ (¬ (¬ a0 = 3006) → ((¬ w32 (a1 + a2) = 2 → T d 283 167 [some (vi a0), some (vi a1), some (vi a2), x3, x4] [vi 0] w Q) ∧ (¬ (¬ w32 (a1 + a2) = 2) → T d 283 167 [some (vi a0), some (vi a1), some (vi a2), x3, x4] [vi 1] w Q))))) ∧ (¬ (¬ a0 = 3005) → ((a1 ≤ a2 → T d 283 167 [some (vi a0), some (vi a1), some (vi a2), x3, x4] [vi 0] w Q) ∧ (¬ (a1 ≤ a2) → T d 283 167 [some (vi a0), some (vi a1), some (vi a2), x3, x4] [vi 1] w Q))))) ∧ (¬ (¬ a0 = 3004) → ((a2 ≤ a1 → T d 283 167 [some (vi a0), some (vi a1), some (vi a2), x3, x4] [vi 0] w Q) ∧ (¬ (a2 ≤ a1) → T d 283 167 [some (vi a0), some (vi a1), some (vi a2), x3, x4] [vi 1] w Q))))) ∧ (¬ (¬ a0 = 3003) → ((¬ a1 = a2 → T d 283 167 [some (vi a0), some (vi a1), some (vi a2), x3, x4] [vi 0] w Q) ∧ (¬ (¬ a1 = a2) → T d 283 167 [some (vi a0), some (vi a1), some (vi a2), x3, x4] [vi 1] w Q))))) ∧ (¬ (3002 < a0) → ((¬ a0 = 3000 → ((¬ a0 = 3001 → T d 283 42 [some (vi a0), some (vi a1), some (vi a2), x3, x4] [vl (w64 (a1 * a2))] w Q) ∧ (¬ (¬ a0 = 3001) → T d 283 42 [some (vi a0), some (vi a1), some (vi a2), x3, x4] [vl (w64 (a1 - a2))] w Q))) ∧ (¬ (¬ a0 = 3000) → T d 283 42 [some (vi a0), some (vi a1), some (vi a2), x3, x4] [vl (w64 (a1 + a2))] w Q)))) := by
  rw [T_iload_0 c283_0, T_sipush c283_1, T_icmp_gt 74 c283_4 rfl, T_iload_0 c283_74, T_sipush c283_75, T_icmp_ne 94 c283_78 rfl, T_iload_0 c283_94, T_sipush c283_95, T_icmp_ne 114 c283_98 rfl, T_iload_0 c283_114, T_sipush c283_115, T_icmp_ne 134 c283_118 rfl, T_iload_0 c283_134, T_sipush c283_135, T_icmp_ne 156 c283_138 rfl, T_iload_1 c283_156, T_iload_2 c283_157, T_iadd c283_158, T_if_le 166 c283_159 rfl, T_sipush c283_166, T_sipush c283_162, T_goto 167 c283_163 rfl, T_iload_1 c283_141, T_iload_2 c283_142, T_iadd c283_143, T_sipush c283_144, T_icmp_ne 152 c283_145 rfl, T_sipush c283_152, T_goto 167 c283_153 rfl, T_sipush c283_148, T_goto 167 c283_149 rfl, T_iload_1 c283_121, T_iload_2 c283_122, T_icmp_le 130 c283_123 rfl, T_sipush c283_130, T_goto 167 c283_131 rfl, T_sipush c283_126, T_goto 167 c283_127 rfl, T_iload_1 c283_101, T_iload_2 c283_102, T_icmp_ge 110 c283_103 rfl, T_sipush c283_110, T_goto 167 c283_111 rfl, T_sipush c283_106, T_goto 167 c283_107 rfl, T_iload_1 c283_81, T_iload_2 c283_82, T_icmp_ne 90 c283_83 rfl, T_sipush c283_90, T_goto 167 c283_91 rfl, T_sipush c283_86, T_goto 167 c283_87 rfl, T_iload_0 c283_7, T_sipush c283_8, T_icmp_ne 22 c283_11 rfl, T_iload_0 c283_22, T_sipush c283_23, T_icmp_ne 37 c283_26 rfl, T_iload_1 c283_37, T_i2l c283_38, T_iload_2 c283_39, T_i2l c283_40, T_lmul c283_41, T_iload_1 c283_29, T_i2l c283_30, T_iload_2 c283_31, T_i2l c283_32, T_lsub c283_33, T_goto 42 c283_34 rfl, T_iload_1 c283_14, T_i2l c283_15, T_iload_2 c283_16, T_i2l c283_17, T_ladd c283_18, T_goto 42 c283_19 rfl]
  all_goals try simp only [Int.reduceToNat, true_and, Nat.reduceAdd, eq_self_iff_true]
theorem g283_42 {d : Nat} {s0 : Int} {x0 x1 x2 x3 x4 : Option aV} {w : aW} {Q : Option aV → aW → Prop} : T d 283 42 [x0, x1, x2, x3, x4] [vl s0] w Q = ((kcmp s0 1000000 ≤ 0 → ((0 ≤ kcmp s0 (-1000000) → T d 283 72 [x0, x1, x2, some (vl s0), none] [vl s0] w Q) ∧ (¬ (0 ≤ kcmp s0 (-1000000)) → T d 283 72 [x0, x1, x2, some (vl s0), none] [vl (-1000000)] w Q))) ∧ (¬ (kcmp s0 1000000 ≤ 0) → T d 283 72 [x0, x1, x2, some (vl s0), none] [vl 1000000] w Q)) := by
  rw [T_lstore_3 c283_42, T_lload_3 c283_43, T_bipush c283_44, T_lcmp c283_47, T_if_le 57 c283_48 rfl, T_lload_3 c283_57, T_bipush c283_58, T_lcmp c283_61, T_if_ge 71 c283_62 rfl, T_lload_3 c283_71, T_bipush c283_65, T_goto 72 c283_68 rfl, T_bipush c283_51, T_goto 72 c283_54 rfl]
  all_goals try simp only [Int.reduceToNat, true_and, Nat.reduceAdd, eq_self_iff_true]
theorem g283_72 {d : Nat} {s0 : Int} {x0 x1 x2 x3 x4 : Option aV} {w : aW} {Q : Option aV → aW → Prop} : T d 283 72 [x0, x1, x2, x3, x4] [vl s0] w Q = Q (some (vi (w32 s0))) w := by
  rw [T_l2i c283_72, T_ireti c283_73 (by decide +kernel)]
  all_goals try simp only [true_and, Nat.reduceAdd, eq_self_iff_true]
theorem g283_167 {d : Nat} {s0 : Int} {x0 x1 x2 x3 x4 : Option aV} {w : aW} {Q : Option aV → aW → Prop} : T d 283 167 [x0, x1, x2, x3, x4] [vi s0] w Q = ((s0 = 0 → T d 283 177 [x0, x1, x2, some (vi s0), x4] [vi 0] w Q) ∧ (¬ (s0 = 0) → T d 283 177 [x0, x1, x2, some (vi s0), x4] [vi 1] w Q)) := by
  rw [T_istore_3 c283_167, T_iload_3 c283_168, T_if_eq 176 c283_169 rfl, T_sipush c283_176, T_sipush c283_172, T_goto 177 c283_173 rfl]
  all_goals try simp only [Int.reduceToNat, true_and, Nat.reduceAdd, eq_self_iff_true]
theorem g283_177 {d : Nat} {s0 : Int} {x0 x1 x2 x3 x4 : Option aV} {w : aW} {Q : Option aV → aW → Prop} : T d 283 177 [x0, x1, x2, x3, x4] [vi s0] w Q = Q (some (vi s0)) w := by
  rw [T_ireti c283_177 (by decide +kernel)]
  all_goals try simp only [true_and, Nat.reduceAdd, eq_self_iff_true]
/-! 284: StringHandsModel.areTangled.(II)Z -/
theorem c284_0 : cd 284 0 = some (.aload 0, 1) := by decide +kernel
theorem c284_1 : cd 284 1 = some (.getfield 3190, 3) := by decide +kernel
theorem c284_4 : cd 284 4 = some (.aload 0, 1) := by decide +kernel
theorem c284_5 : cd 284 5 = some (.getfield 3078, 3) := by decide +kernel
theorem c284_8 : cd 284 8 = some (.sipush 6, 2) := by decide +kernel
theorem c284_10 : cd 284 10 = some (.iload 1, 1) := by decide +kernel
theorem c284_11 : cd 284 11 = some (.iadd, 1) := by decide +kernel
theorem c284_12 : cd 284 12 = some (.iaload, 1) := by decide +kernel
theorem c284_13 : cd 284 13 = some (.iaload, 1) := by decide +kernel
theorem c284_14 : cd 284 14 = some (.aload 0, 1) := by decide +kernel
theorem c284_15 : cd 284 15 = some (.getfield 3190, 3) := by decide +kernel
theorem c284_18 : cd 284 18 = some (.aload 0, 1) := by decide +kernel
theorem c284_19 : cd 284 19 = some (.getfield 3078, 3) := by decide +kernel
theorem c284_22 : cd 284 22 = some (.sipush 6, 2) := by decide +kernel
theorem c284_24 : cd 284 24 = some (.iload 2, 1) := by decide +kernel
theorem c284_25 : cd 284 25 = some (.iadd, 1) := by decide +kernel
theorem c284_26 : cd 284 26 = some (.iaload, 1) := by decide +kernel
theorem c284_27 : cd 284 27 = some (.iaload, 1) := by decide +kernel
theorem c284_28 : cd 284 28 = some (.if_icmp .ge 66, 3) := by decide +kernel
theorem c284_31 : cd 284 31 = some (.aload 0, 1) := by decide +kernel
theorem c284_32 : cd 284 32 = some (.getfield 3190, 3) := by decide +kernel
theorem c284_35 : cd 284 35 = some (.aload 0, 1) := by decide +kernel
theorem c284_36 : cd 284 36 = some (.getfield 3078, 3) := by decide +kernel
theorem c284_39 : cd 284 39 = some (.sipush 64, 2) := by decide +kernel
theorem c284_41 : cd 284 41 = some (.iload 1, 1) := by decide +kernel
theorem c284_42 : cd 284 42 = some (.iadd, 1) := by decide +kernel
theorem c284_43 : cd 284 43 = some (.iaload, 1) := by decide +kernel
theorem c284_44 : cd 284 44 = some (.iaload, 1) := by decide +kernel
theorem c284_45 : cd 284 45 = some (.aload 0, 1) := by decide +kernel
theorem c284_46 : cd 284 46 = some (.getfield 3190, 3) := by decide +kernel
theorem c284_49 : cd 284 49 = some (.aload 0, 1) := by decide +kernel
theorem c284_50 : cd 284 50 = some (.getfield 3078, 3) := by decide +kernel
theorem c284_53 : cd 284 53 = some (.sipush 64, 2) := by decide +kernel
theorem c284_55 : cd 284 55 = some (.iload 2, 1) := by decide +kernel
theorem c284_56 : cd 284 56 = some (.iadd, 1) := by decide +kernel
theorem c284_57 : cd 284 57 = some (.iaload, 1) := by decide +kernel
theorem c284_58 : cd 284 58 = some (.iaload, 1) := by decide +kernel
theorem c284_59 : cd 284 59 = some (.if_icmp .le 66, 3) := by decide +kernel
theorem c284_62 : cd 284 62 = some (.sipush 1, 1) := by decide +kernel
theorem c284_63 : cd 284 63 = some (.goto 67, 3) := by decide +kernel
theorem c284_66 : cd 284 66 = some (.sipush 0, 1) := by decide +kernel
theorem c284_67 : cd 284 67 = some (.ireturn, 1) := by decide +kernel
theorem g284_0 {d : Nat} {a1 a2 : Int} {w : aW} {Q : Option aV → aW → Prop} : T d 284 0 [some (vr 167), some (vi a1), some (vi a2)] [] w Q = ((0 ≤ w32 (6 + a1) ∧ w32 (6 + a1) < 4932) ∧ ((0 ≤ w 168 (w32 (6 + a1)) ∧ w 168 (w32 (6 + a1)) < 10) ∧ ((0 ≤ w32 (6 + a2) ∧ w32 (6 + a2) < 4932) ∧ ((0 ≤ w 168 (w32 (6 + a2)) ∧ w 168 (w32 (6 + a2)) < 10) ∧ ((w 184 (w 168 (w32 (6 + a2))) ≤ w 184 (w 168 (w32 (6 + a1))) → T d 284 66 [some (vr 167), some (vi a1), some (vi a2)] [] w Q) ∧ (¬ (w 184 (w 168 (w32 (6 + a2))) ≤ w 184 (w 168 (w32 (6 + a1)))) → ((0 ≤ w32 (64 + a1) ∧ w32 (64 + a1) < 4932) ∧ ((0 ≤ w 168 (w32 (64 + a1)) ∧ w 168 (w32 (64 + a1)) < 10) ∧ ((0 ≤ w32 (64 + a2) ∧ w32 (64 + a2) < 4932) ∧ ((0 ≤ w 168 (w32 (64 + a2)) ∧ w 168 (w32 (64 + a2)) < 10) ∧ ((w 184 (w 168 (w32 (64 + a1))) ≤ w 184 (w 168 (w32 (64 + a2))) → T d 284 66 [some (vr 167), some (vi a1), some (vi a2)] [] w Q) ∧ (¬ (w 184 (w 168 (w32 (64 + a1))) ≤ w 184 (w 168 (w32 (64 + a2)))) → T d 284 67 [some (vr 167), some (vi a1), some (vi a2)] [vi 1] w Q)))))))))))) := by
  rw [T_aload_0 c284_0, T_getR 12 29 29 c284_1 rfl rfl rfl rfl, rf_167_29, T_aload_0 c284_4, T_getR 12 1 1 c284_5 rfl rfl rfl rfl, rf_167_1, T_sipush c284_8, T_iload_1 c284_10, T_iadd c284_11, T_iald c284_12, T_iald c284_13, T_aload_0 c284_14, T_getR 12 29 29 c284_15 rfl rfl rfl rfl, rf_167_29, T_aload_0 c284_18, T_getR 12 1 1 c284_19 rfl rfl rfl rfl, rf_167_1, T_sipush c284_22, T_iload_2 c284_24, T_iadd c284_25, T_iald c284_26, T_iald c284_27, T_icmp_ge 66 c284_28 rfl, T_aload_0 c284_31, T_getR 12 29 29 c284_32 rfl rfl rfl rfl, rf_167_29, T_aload_0 c284_35, T_getR 12 1 1 c284_36 rfl rfl rfl rfl, rf_167_1, T_sipush c284_39, T_iload_1 c284_41, T_iadd c284_42, T_iald c284_43, T_iald c284_44, T_aload_0 c284_45, T_getR 12 29 29 c284_46 rfl rfl rfl rfl, rf_167_29, T_aload_0 c284_49, T_getR 12 1 1 c284_50 rfl rfl rfl rfl, rf_167_1, T_sipush c284_53, T_iload_2 c284_55, T_iadd c284_56, T_iald c284_57, T_iald c284_58, T_icmp_le 66 c284_59 rfl, T_sipush c284_62, T_goto 67 c284_63 rfl]
  all_goals try simp only [Int.reduceToNat, lay_167, ld_168, ld_184, true_and, Nat.reduceAdd, eq_self_iff_true]
theorem g284_66 {d : Nat} {x0 x1 x2 : Option aV} {w : aW} {Q : Option aV → aW → Prop} : T d 284 66 [x0, x1, x2] [] w Q = T d 284 67 [x0, x1, x2] [vi 0] w Q := by
  rw [T_sipush c284_66]
  all_goals try simp only [true_and, Nat.reduceAdd, eq_self_iff_true]
theorem g284_67 {d : Nat} {s0 : Int} {x0 x1 x2 : Option aV} {w : aW} {Q : Option aV → aW → Prop} : T d 284 67 [x0, x1, x2] [vi s0] w Q = ((s0 = 0 ∨ s0 = 1) ∧ Q (some (vi s0)) w) := by
  rw [T_iretz c284_67 (by decide +kernel)]
  all_goals try simp only [true_and, Nat.reduceAdd, eq_self_iff_true]
/-! 285: StringHands$Follow.isFromSame.(LStringHands$Troupe;LStringHands$Stage;)Z -/
theorem c285_0 : cd 285 0 = some (.sipush 0, 1) := by decide +kernel
theorem c285_1 : cd 285 1 = some (.istore 3, 1) := by decide +kernel
theorem c285_2 : cd 285 2 = some (.iload 3, 1) := by decide +kernel
theorem c285_3 : cd 285 3 = some (.aload 1, 1) := by decide +kernel
theorem c285_4 : cd 285 4 = some (.getfield 2056, 3) := by decide +kernel
theorem c285_7 : cd 285 7 = some (.if_icmp .ge 33, 3) := by decide +kernel
theorem c285_10 : cd 285 10 = some (.aload 2, 1) := by decide +kernel
theorem c285_11 : cd 285 11 = some (.getfield 1546, 3) := by decide +kernel
theorem c285_14 : cd 285 14 = some (.iload 3, 1) := by decide +kernel
theorem c285_15 : cd 285 15 = some (.iaload, 1) := by decide +kernel
theorem c285_16 : cd 285 16 = some (.aload 0, 1) := by decide +kernel
theorem c285_17 : cd 285 17 = some (.getfield 46, 3) := by decide +kernel
theorem c285_20 : cd 285 20 = some (.iload 3, 1) := by decide +kernel
theorem c285_21 : cd 285 21 = some (.iaload, 1) := by decide +kernel
theorem c285_22 : cd 285 22 = some (.if_icmp .eq 27, 3) := by decide +kernel
theorem c285_25 : cd 285 25 = some (.sipush 0, 1) := by decide +kernel
theorem c285_26 : cd 285 26 = some (.ireturn, 1) := by decide +kernel
theorem c285_27 : cd 285 27 = some (.iinc 3 1, 3) := by decide +kernel
theorem c285_30 : cd 285 30 = some (.goto 2, 3) := by decide +kernel
theorem c285_33 : cd 285 33 = some (.sipush 1, 1) := by decide +kernel
theorem c285_34 : cd 285 34 = some (.ireturn, 1) := by decide +kernel
theorem g285_0 {d : Nat} {x0 x1 x2 x3 : Option aV} {w : aW} {Q : Option aV → aW → Prop} : T d 285 0 [x0, x1, x2, x3] [] w Q = T d 285 2 [x0, x1, x2, some (vi 0)] [] w Q := by
  rw [T_sipush c285_0, T_istore_3 c285_1]
  all_goals try simp only [true_and, Nat.reduceAdd, eq_self_iff_true]
theorem g285_2 {d : Nat} {a3 : Int} {r2 : Nat} {w : aW} {Q : Option aV → aW → Prop} : T d 285 2 [some (vr 19), some (vr 69), some (vr r2), some (vi a3)] [] w Q = ((w 69 2 ≤ a3 → Q (some (vi 1)) w) ∧ (¬ (w 69 2 ≤ a3) → (lay r2 = (6, 0) ∧ (ldok (rfA r2 2) a3 w ∧ ((0 ≤ a3 ∧ a3 < 16) ∧ ((w (rfA r2 2) a3 = w 26 a3 → T d 285 2 [some (vr 19), some (vr 69), some (vr r2), some (vi (w32 (a3 + 1)))] [] w Q) ∧ (¬ (w (rfA r2 2) a3 = w 26 a3) → Q (some (vi 0)) w))))))) := by
  rw [T_iload_3 c285_2, T_aload_1 c285_3, T_getI 8 2 2 c285_4 rfl rfl rfl rfl, T_icmp_ge 33 c285_7 rfl, T_sipush c285_33, T_iretz c285_34 (by decide +kernel), T_aload_2 c285_10, T_getR 6 2 2 c285_11 rfl rfl rfl rfl, T_iload_3 c285_14, T_iald c285_15, T_aload_0 c285_16, T_getR 0 11 11 c285_17 rfl rfl rfl rfl, rf_19_11, T_iload_3 c285_20, T_iald c285_21, T_icmp_eq 27 c285_22 rfl, T_iinc_3 c285_27, T_goto 2 c285_30 rfl, T_sipush c285_25, T_iretz c285_26 (by decide +kernel)]
  all_goals try simp only [Int.reduceToNat, lay_19, lay_69, ld_26, true_and, Nat.reduceAdd, eq_self_iff_true, zero_eq_1, one_eq_0, true_or, or_true]
/-! 286: StringHands$Follow.goAlong.(I)V -/
theorem c286_0 : cd 286 0 = some (.sipush 0, 1) := by decide +kernel
theorem c286_1 : cd 286 1 = some (.istore 2, 1) := by decide +kernel
theorem c286_2 : cd 286 2 = some (.iload 1, 1) := by decide +kernel
theorem c286_3 : cd 286 3 = some (.istore 3, 1) := by decide +kernel
theorem c286_4 : cd 286 4 = some (.iload 2, 1) := by decide +kernel
theorem c286_5 : cd 286 5 = some (.aload 0, 1) := by decide +kernel
theorem c286_6 : cd 286 6 = some (.getfield 0, 3) := by decide +kernel
theorem c286_9 : cd 286 9 = some (.if_icmp .ge 59, 3) := by decide +kernel
theorem c286_12 : cd 286 12 = some (.aload 0, 1) := by decide +kernel
theorem c286_13 : cd 286 13 = some (.getfield 18, 3) := by decide +kernel
theorem c286_16 : cd 286 16 = some (.iload 3, 1) := by decide +kernel
theorem c286_17 : cd 286 17 = some (.iaload, 1) := by decide +kernel
theorem c286_18 : cd 286 18 = some (.sipush (-1), 1) := by decide +kernel
theorem c286_19 : cd 286 19 = some (.if_icmp .ne 59, 3) := by decide +kernel
theorem c286_22 : cd 286 22 = some (.aload 0, 1) := by decide +kernel
theorem c286_23 : cd 286 23 = some (.getfield 26, 3) := by decide +kernel
theorem c286_26 : cd 286 26 = some (.iload 3, 1) := by decide +kernel
theorem c286_27 : cd 286 27 = some (.iaload, 1) := by decide +kernel
theorem c286_28 : cd 286 28 = some (.sipush (-1), 1) := by decide +kernel
theorem c286_29 : cd 286 29 = some (.if_icmp .ne 59, 3) := by decide +kernel
theorem c286_32 : cd 286 32 = some (.aload 0, 1) := by decide +kernel
theorem c286_33 : cd 286 33 = some (.getfield 26, 3) := by decide +kernel
theorem c286_36 : cd 286 36 = some (.iload 3, 1) := by decide +kernel
theorem c286_37 : cd 286 37 = some (.iload 2, 1) := by decide +kernel
theorem c286_38 : cd 286 38 = some (.iastore, 1) := by decide +kernel
theorem c286_39 : cd 286 39 = some (.aload 0, 1) := by decide +kernel
theorem c286_40 : cd 286 40 = some (.getfield 22, 3) := by decide +kernel
theorem c286_43 : cd 286 43 = some (.iload 2, 1) := by decide +kernel
theorem c286_44 : cd 286 44 = some (.iload 3, 1) := by decide +kernel
theorem c286_45 : cd 286 45 = some (.iastore, 1) := by decide +kernel
theorem c286_46 : cd 286 46 = some (.iinc 2 1, 3) := by decide +kernel
theorem c286_49 : cd 286 49 = some (.aload 0, 1) := by decide +kernel
theorem c286_50 : cd 286 50 = some (.getfield 6, 3) := by decide +kernel
theorem c286_53 : cd 286 53 = some (.iload 3, 1) := by decide +kernel
theorem c286_54 : cd 286 54 = some (.iaload, 1) := by decide +kernel
theorem c286_55 : cd 286 55 = some (.istore 3, 1) := by decide +kernel
theorem c286_56 : cd 286 56 = some (.goto 4, 3) := by decide +kernel
theorem c286_59 : cd 286 59 = some (.iload 2, 1) := by decide +kernel
theorem c286_60 : cd 286 60 = some (.istore 4, 2) := by decide +kernel
theorem c286_62 : cd 286 62 = some (.aload 0, 1) := by decide +kernel
theorem c286_63 : cd 286 63 = some (.getfield 18, 3) := by decide +kernel
theorem c286_66 : cd 286 66 = some (.iload 3, 1) := by decide +kernel
theorem c286_67 : cd 286 67 = some (.iaload, 1) := by decide +kernel
theorem c286_68 : cd 286 68 = some (.sipush (-1), 1) := by decide +kernel
theorem c286_69 : cd 286 69 = some (.if_icmp .ne 87, 3) := by decide +kernel
theorem c286_72 : cd 286 72 = some (.aload 0, 1) := by decide +kernel
theorem c286_73 : cd 286 73 = some (.getfield 26, 3) := by decide +kernel
theorem c286_76 : cd 286 76 = some (.iload 3, 1) := by decide +kernel
theorem c286_77 : cd 286 77 = some (.iaload, 1) := by decide +kernel
theorem c286_78 : cd 286 78 = some (.istore 4, 2) := by decide +kernel
theorem c286_80 : cd 286 80 = some (.aload 0, 1) := by decide +kernel
theorem c286_81 : cd 286 81 = some (.iload 4, 2) := by decide +kernel
theorem c286_83 : cd 286 83 = some (.iload 2, 1) := by decide +kernel
theorem c286_84 : cd 286 84 = some (.invokevirtual 303, 3) := by decide +kernel
theorem c286_87 : cd 286 87 = some (.iload 4, 2) := by decide +kernel
theorem c286_89 : cd 286 89 = some (.sipush 1, 1) := by decide +kernel
theorem c286_90 : cd 286 90 = some (.isub, 1) := by decide +kernel
theorem c286_91 : cd 286 91 = some (.istore 5, 2) := by decide +kernel
theorem c286_93 : cd 286 93 = some (.iload 5, 2) := by decide +kernel
theorem c286_95 : cd 286 95 = some (.ifCond .lt 166, 3) := by decide +kernel
theorem c286_98 : cd 286 98 = some (.aload 0, 1) := by decide +kernel
theorem c286_99 : cd 286 99 = some (.getfield 22, 3) := by decide +kernel
theorem c286_102 : cd 286 102 = some (.iload 5, 2) := by decide +kernel
theorem c286_104 : cd 286 104 = some (.iaload, 1) := by decide +kernel
theorem c286_105 : cd 286 105 = some (.istore 6, 2) := by decide +kernel
theorem c286_107 : cd 286 107 = some (.aload 0, 1) := by decide +kernel
theorem c286_108 : cd 286 108 = some (.getfield 6, 3) := by decide +kernel
theorem c286_111 : cd 286 111 = some (.iload 6, 2) := by decide +kernel
theorem c286_113 : cd 286 113 = some (.iaload, 1) := by decide +kernel
theorem c286_114 : cd 286 114 = some (.istore 7, 2) := by decide +kernel
theorem c286_116 : cd 286 116 = some (.aload 0, 1) := by decide +kernel
theorem c286_117 : cd 286 117 = some (.getfield 10, 3) := by decide +kernel
theorem c286_120 : cd 286 120 = some (.iload 6, 2) := by decide +kernel
theorem c286_122 : cd 286 122 = some (.aload 0, 1) := by decide +kernel
theorem c286_123 : cd 286 123 = some (.getfield 10, 3) := by decide +kernel
theorem c286_126 : cd 286 126 = some (.iload 7, 2) := by decide +kernel
theorem c286_128 : cd 286 128 = some (.iaload, 1) := by decide +kernel
theorem c286_129 : cd 286 129 = some (.sipush 1, 1) := by decide +kernel
theorem c286_130 : cd 286 130 = some (.iadd, 1) := by decide +kernel
theorem c286_131 : cd 286 131 = some (.iastore, 1) := by decide +kernel
theorem c286_132 : cd 286 132 = some (.aload 0, 1) := by decide +kernel
theorem c286_133 : cd 286 133 = some (.getfield 14, 3) := by decide +kernel
theorem c286_136 : cd 286 136 = some (.iload 6, 2) := by decide +kernel
theorem c286_138 : cd 286 138 = some (.aload 0, 1) := by decide +kernel
theorem c286_139 : cd 286 139 = some (.getfield 14, 3) := by decide +kernel
theorem c286_142 : cd 286 142 = some (.iload 7, 2) := by decide +kernel
theorem c286_144 : cd 286 144 = some (.iaload, 1) := by decide +kernel
theorem c286_145 : cd 286 145 = some (.iastore, 1) := by decide +kernel
theorem c286_146 : cd 286 146 = some (.aload 0, 1) := by decide +kernel
theorem c286_147 : cd 286 147 = some (.getfield 18, 3) := by decide +kernel
theorem c286_150 : cd 286 150 = some (.iload 6, 2) := by decide +kernel
theorem c286_152 : cd 286 152 = some (.aload 0, 1) := by decide +kernel
theorem c286_153 : cd 286 153 = some (.getfield 18, 3) := by decide +kernel
theorem c286_156 : cd 286 156 = some (.iload 7, 2) := by decide +kernel
theorem c286_158 : cd 286 158 = some (.iaload, 1) := by decide +kernel
theorem c286_159 : cd 286 159 = some (.iastore, 1) := by decide +kernel
theorem c286_160 : cd 286 160 = some (.iinc 5 (-1), 3) := by decide +kernel
theorem c286_163 : cd 286 163 = some (.goto 93, 3) := by decide +kernel
theorem c286_166 : cd 286 166 = some (.return_, 1) := by decide +kernel
theorem g286_0 {d : Nat} {a1 : Int} {x0 x2 x3 x4 x5 x6 x7 : Option aV} {w : aW} {Q : Option aV → aW → Prop} : T d 286 0 [x0, some (vi a1), x2, x3, x4, x5, x6, x7] [] w Q = T d 286 4 [x0, some (vi a1), some (vi 0), some (vi a1), x4, x5, x6, x7] [] w Q := by
  rw [T_sipush c286_0, T_istore_2 c286_1, T_iload_1 c286_2, T_istore_3 c286_3]
  all_goals try simp only [true_and, Nat.reduceAdd, eq_self_iff_true]
theorem g286_4 {d : Nat} {a2 a3 : Int} {x1 x4 x5 x6 x7 : Option aV} {w : aW} {Q : Option aV → aW → Prop} : T d 286 4 [some (vr 19), x1, some (vi a2), some (vi a3), x4, x5, x6, x7] [] w Q = ((w 19 0 ≤ a2 → T d 286 59 [some (vr 19), x1, some (vi a2), some (vi a3), x4, x5, x6, x7] [] w Q) ∧ (¬ (w 19 0 ≤ a2) → ((0 ≤ a3 ∧ a3 < 1024) ∧ ((¬ w 23 a3 = (-1) → T d 286 59 [some (vr 19), x1, some (vi a2), some (vi a3), x4, x5, x6, x7] [] w Q) ∧ (¬ (¬ w 23 a3 = (-1)) → ((0 ≤ a3 ∧ a3 < 1024) ∧ ((¬ w 25 a3 = (-1) → T d 286 59 [some (vr 19), x1, some (vi a2), some (vi a3), x4, x5, x6, x7] [] w Q) ∧ (¬ (¬ w 25 a3 = (-1)) → ((0 ≤ a3 ∧ a3 < 1024) ∧ ((0 ≤ a2 ∧ a2 < 1024) ∧ ((0 ≤ a3 ∧ a3 < 1024) ∧ T d 286 4 [some (vr 19), x1, some (vi (w32 (a2 + 1))), some (vi ((iup (iup w 25 a3 a2) 24 a2 a3) 20 a3)), x4, x5, x6, x7] [] (iup (iup w 25 a3 a2) 24 a2 a3) Q))))))))))) := by
  rw [T_iload_2 c286_4, T_aload_0 c286_5, T_getI 0 0 0 c286_6 rfl rfl rfl rfl, T_icmp_ge 59 c286_9 rfl, T_aload_0 c286_12, T_getR 0 4 4 c286_13 rfl rfl rfl rfl, rf_19_4, T_iload_3 c286_16, T_iald c286_17, T_sipush c286_18, T_icmp_ne 59 c286_19 rfl, T_aload_0 c286_22, T_getR 0 6 6 c286_23 rfl rfl rfl rfl, rf_19_6, T_iload_3 c286_26, T_iald c286_27, T_sipush c286_28, T_icmp_ne 59 c286_29 rfl, T_aload_0 c286_32, T_getR 0 6 6 c286_33 rfl rfl rfl rfl, rf_19_6, T_iload_3 c286_36, T_iload_2 c286_37, T_iast c286_38, T_aload_0 c286_39, T_getR 0 5 5 c286_40 rfl rfl rfl rfl, rf_19_5, T_iload_2 c286_43, T_iload_3 c286_44, T_iast c286_45, T_iinc_2 c286_46, T_aload_0 c286_49, T_getR 0 1 1 c286_50 rfl rfl rfl rfl, rf_19_1, T_iload_3 c286_53, T_iald c286_54, T_istore_3 c286_55, T_goto 4 c286_56 rfl]
  all_goals try simp only [Int.reduceToNat, ia0_24, ia0_25, lay_19, ld_20, ld_23, ld_25, true_and, Nat.reduceAdd, eq_self_iff_true]
theorem g286_59 {d : Nat} {a2 a3 : Int} {x1 x4 x5 x6 x7 : Option aV} {w : aW} {Q : Option aV → aW → Prop} : T (d + 1) 286 59 [some (vr 19), x1, some (vi a2), some (vi a3), x4, x5, x6, x7] [] w Q = ((0 ≤ a3 ∧ a3 < 1024) ∧ ((¬ w 23 a3 = (-1) → T (d + 1) 286 87 [some (vr 19), x1, some (vi a2), some (vi a3), some (vi a2), x5, x6, x7] [] w Q) ∧ (¬ (¬ w 23 a3 = (-1)) → ((0 ≤ a3 ∧ a3 < 1024) ∧ T d 303 0 [some (vr 19), some (vi (w 25 a3)), some (vi a2), none, none, none] [] w (fun r w1 => T (d + 1) 286 87 [some (vr 19), x1, some (vi a2), some (vi a3), some (vi (w 25 a3)), x5, x6, x7] (r.toList ++ []) w1 Q))))) := by
  rw [T_iload_2 c286_59, T_istore_4 c286_60, T_aload_0 c286_62, T_getR 0 4 4 c286_63 rfl rfl rfl rfl, rf_19_4, T_iload_3 c286_66, T_iald c286_67, T_sipush c286_68, T_icmp_ne 87 c286_69 rfl, T_aload_0 c286_72, T_getR 0 6 6 c286_73 rfl rfl rfl rfl, rf_19_6, T_iload_3 c286_76, T_iald c286_77, T_istore_4 c286_78, T_aload_0 c286_80, T_iload_4 c286_81, T_iload_2 c286_83, T_invv (es := [some (vr 19), some (vi (w 25 a3)), some (vi a2), none, none, none]) (st := [vi a2, vi (w 25 a3), vr 19]) (ks := [2, 0, 0]) (n := 6) (c := 0) (k := 19) (as := [vi (w 25 a3), vi a2]) (rest := []) c286_84 (by decide +kernel) (by decide +kernel) (by decide +kernel) (by decide) rfl rfl (Nat.le_of_ble_eq_true rfl)]
  all_goals try simp only [Int.reduceToNat, lay_19, ld_23, ld_25, true_and, Nat.reduceAdd, eq_self_iff_true]
theorem g286_87 {d : Nat} {a4 : Int} {x0 x1 x2 x3 x5 x6 x7 : Option aV} {w : aW} {Q : Option aV → aW → Prop} : T d 286 87 [x0, x1, x2, x3, some (vi a4), x5, x6, x7] [] w Q = T d 286 93 [x0, x1, x2, x3, some (vi a4), some (vi (w32 (a4 - 1))), x6, x7] [] w Q := by
  rw [T_iload_4 c286_87, T_sipush c286_89, T_isub c286_90, T_istore_5 c286_91]
  all_goals try simp only [true_and, Nat.reduceAdd, eq_self_iff_true]
theorem g286_93 {d : Nat} {a5 : Int} {x1 x2 x3 x4 x6 x7 : Option aV} {w : aW} {Q : Option aV → aW → Prop} : T d 286 93 [some (vr 19), x1, x2, x3, x4, some (vi a5), x6, x7] [] w Q = ((a5 < 0 → Q none w) ∧ (¬ (a5 < 0) → ((0 ≤ a5 ∧ a5 < 1024) ∧ ((0 ≤ w 24 a5 ∧ w 24 a5 < 1024) ∧ ((0 ≤ w 20 (w 24 a5) ∧ w 20 (w 24 a5) < 1024) ∧ ((0 ≤ w 24 a5 ∧ w 24 a5 < 1024) ∧ ((0 ≤ w 20 (w 24 a5) ∧ w 20 (w 24 a5) < 1024) ∧ ((0 ≤ w 24 a5 ∧ w 24 a5 < 1024) ∧ ((0 ≤ w 20 (w 24 a5) ∧ w 20 (w 24 a5) < 1024) ∧ ((0 ≤ w 24 a5 ∧ w 24 a5 < 1024) ∧ T d 286 93 [some (vr 19), x1, x2, x3, x4, some (vi (w32 (a5 + (-1)))), some (vi (w 24 a5)), some (vi (w 20 (w 24 a5)))] [] (iup (iup (iup w 21 (w 24 a5) (w32 ((w 21 (w 20 (w 24 a5))) + 1))) 22 (w 24 a5) ((iup w 21 (w 24 a5) (w32 ((w 21 (w 20 (w 24 a5))) + 1))) 22 (w 20 (w 24 a5)))) 23 (w 24 a5) ((iup (iup w 21 (w 24 a5) (w32 ((w 21 (w 20 (w 24 a5))) + 1))) 22 (w 24 a5) ((iup w 21 (w 24 a5) (w32 ((w 21 (w 20 (w 24 a5))) + 1))) 22 (w 20 (w 24 a5)))) 23 (w 20 (w 24 a5)))) Q)))))))))) := by
  rw [T_iload_5 c286_93, T_if_lt 166 c286_95 rfl, T_vret c286_166 (by decide +kernel), T_aload_0 c286_98, T_getR 0 5 5 c286_99 rfl rfl rfl rfl, rf_19_5, T_iload_5 c286_102, T_iald c286_104, T_istore_6 c286_105, T_aload_0 c286_107, T_getR 0 1 1 c286_108 rfl rfl rfl rfl, rf_19_1, T_iload_6 c286_111, T_iald c286_113, T_istore_7 c286_114, T_aload_0 c286_116, T_getR 0 2 2 c286_117 rfl rfl rfl rfl, rf_19_2, T_iload_6 c286_120, T_aload_0 c286_122, T_getR 0 2 2 c286_123 rfl rfl rfl rfl, rf_19_2, T_iload_7 c286_126, T_iald c286_128, T_sipush c286_129, T_iadd c286_130, T_iast c286_131, T_aload_0 c286_132, T_getR 0 3 3 c286_133 rfl rfl rfl rfl, rf_19_3, T_iload_6 c286_136, T_aload_0 c286_138, T_getR 0 3 3 c286_139 rfl rfl rfl rfl, rf_19_3, T_iload_7 c286_142, T_iald c286_144, T_iast c286_145, T_aload_0 c286_146, T_getR 0 4 4 c286_147 rfl rfl rfl rfl, rf_19_4, T_iload_6 c286_150, T_aload_0 c286_152, T_getR 0 4 4 c286_153 rfl rfl rfl rfl, rf_19_4, T_iload_7 c286_156, T_iald c286_158, T_iast c286_159, T_iinc_5 c286_160, T_goto 93 c286_163 rfl]
  all_goals try simp only [Int.reduceToNat, ia0_21, ia0_22, ia0_23, lay_19, ld_20, ld_21, ld_22, ld_23, ld_24, true_and, Nat.reduceAdd, eq_self_iff_true]
/-! 287: StringHands$Wishes.stepped.([III)I -/
theorem c287_0 : cd 287 0 = some (.aload 0, 1) := by decide +kernel
theorem c287_1 : cd 287 1 = some (.iload 2, 1) := by decide +kernel
theorem c287_2 : cd 287 2 = some (.sipush (-1), 1) := by decide +kernel
theorem c287_3 : cd 287 3 = some (.if_icmp .ne 10, 3) := by decide +kernel
theorem c287_6 : cd 287 6 = some (.iload 1, 1) := by decide +kernel
theorem c287_7 : cd 287 7 = some (.goto 15, 3) := by decide +kernel
theorem c287_10 : cd 287 10 = some (.iload 1, 1) := by decide +kernel
theorem c287_11 : cd 287 11 = some (.sipush 1, 1) := by decide +kernel
theorem c287_12 : cd 287 12 = some (.iload 2, 1) := by decide +kernel
theorem c287_13 : cd 287 13 = some (.ishl, 1) := by decide +kernel
theorem c287_14 : cd 287 14 = some (.ixor, 1) := by decide +kernel
theorem c287_15 : cd 287 15 = some (.iaload, 1) := by decide +kernel
theorem c287_16 : cd 287 16 = some (.ireturn, 1) := by decide +kernel
theorem g287_0 {d : Nat} {a1 a2 : Int} {w : aW} {Q : Option aV → aW → Prop} : T d 287 0 [some (vr 20), some (vi a1), some (vi a2)] [] w Q = ((¬ a2 = (-1) → T d 287 15 [some (vr 20), some (vi a1), some (vi a2)] [vi (jxor a1 (jshl 1 a2)), vr 20] w Q) ∧ (¬ (¬ a2 = (-1)) → T d 287 15 [some (vr 20), some (vi a1), some (vi a2)] [vi a1, vr 20] w Q)) := by
  rw [T_aload_0 c287_0, T_iload_2 c287_1, T_sipush c287_2, T_icmp_ne 10 c287_3 rfl, T_iload_1 c287_10, T_sipush c287_11, T_iload_2 c287_12, T_ishl c287_13, T_ixor c287_14, T_iload_1 c287_6, T_goto 15 c287_7 rfl]
  all_goals try simp only [Int.reduceToNat, true_and, Nat.reduceAdd, eq_self_iff_true]
theorem g287_15 {d : Nat} {s1 : Int} {s0 : Nat} {x0 x1 x2 : Option aV} {w : aW} {Q : Option aV → aW → Prop} : T d 287 15 [x0, x1, x2] [vi s1, vr s0] w Q = (ldok s0 s1 w ∧ Q (some (vi (w s0 s1))) w) := by
  rw [T_iald c287_15, T_ireti c287_16 (by decide +kernel)]
  all_goals try simp only [true_and, Nat.reduceAdd, eq_self_iff_true]
/-! 288: StringHands$Wishes.bestNudge.([III)I -/
theorem c288_0 : cd 288 0 = some (.sipush (-1), 1) := by decide +kernel
theorem c288_1 : cd 288 1 = some (.istore 4, 2) := by decide +kernel
theorem c288_3 : cd 288 3 = some (.iload 4, 2) := by decide +kernel
theorem c288_5 : cd 288 5 = some (.iload 2, 1) := by decide +kernel
theorem c288_6 : cd 288 6 = some (.if_icmp .ge 88, 3) := by decide +kernel
theorem c288_9 : cd 288 9 = some (.aload 1, 1) := by decide +kernel
theorem c288_10 : cd 288 10 = some (.iload 3, 1) := by decide +kernel
theorem c288_11 : cd 288 11 = some (.iload 4, 2) := by decide +kernel
theorem c288_13 : cd 288 13 = some (.invokestatic 287, 3) := by decide +kernel
theorem c288_16 : cd 288 16 = some (.istore 5, 2) := by decide +kernel
theorem c288_18 : cd 288 18 = some (.aload 0, 1) := by decide +kernel
theorem c288_19 : cd 288 19 = some (.getfield 2582, 3) := by decide +kernel
theorem c288_22 : cd 288 22 = some (.iload 5, 2) := by decide +kernel
theorem c288_24 : cd 288 24 = some (.iaload, 1) := by decide +kernel
theorem c288_25 : cd 288 25 = some (.iload 4, 2) := by decide +kernel
theorem c288_27 : cd 288 27 = some (.sipush (-1), 1) := by decide +kernel
theorem c288_28 : cd 288 28 = some (.if_icmp .ne 35, 3) := by decide +kernel
theorem c288_31 : cd 288 31 = some (.sipush 0, 1) := by decide +kernel
theorem c288_32 : cd 288 32 = some (.goto 36, 3) := by decide +kernel
theorem c288_35 : cd 288 35 = some (.sipush 1, 1) := by decide +kernel
theorem c288_36 : cd 288 36 = some (.iadd, 1) := by decide +kernel
theorem c288_37 : cd 288 37 = some (.istore 6, 2) := by decide +kernel
theorem c288_39 : cd 288 39 = some (.aload 0, 1) := by decide +kernel
theorem c288_40 : cd 288 40 = some (.getfield 2582, 3) := by decide +kernel
theorem c288_43 : cd 288 43 = some (.iload 5, 2) := by decide +kernel
theorem c288_45 : cd 288 45 = some (.iaload, 1) := by decide +kernel
theorem c288_46 : cd 288 46 = some (.sipush (-1), 1) := by decide +kernel
theorem c288_47 : cd 288 47 = some (.if_icmp .eq 82, 3) := by decide +kernel
theorem c288_50 : cd 288 50 = some (.aload 0, 1) := by decide +kernel
theorem c288_51 : cd 288 51 = some (.getfield 2574, 3) := by decide +kernel
theorem c288_54 : cd 288 54 = some (.iload 5, 2) := by decide +kernel
theorem c288_56 : cd 288 56 = some (.iaload, 1) := by decide +kernel
theorem c288_57 : cd 288 57 = some (.aload 0, 1) := by decide +kernel
theorem c288_58 : cd 288 58 = some (.getfield 2574, 3) := by decide +kernel
theorem c288_61 : cd 288 61 = some (.iload 3, 1) := by decide +kernel
theorem c288_62 : cd 288 62 = some (.iaload, 1) := by decide +kernel
theorem c288_63 : cd 288 63 = some (.sipush 1, 1) := by decide +kernel
theorem c288_64 : cd 288 64 = some (.iadd, 1) := by decide +kernel
theorem c288_65 : cd 288 65 = some (.if_icmp .ne 82, 3) := by decide +kernel
theorem c288_68 : cd 288 68 = some (.iload 6, 2) := by decide +kernel
theorem c288_70 : cd 288 70 = some (.aload 0, 1) := by decide +kernel
theorem c288_71 : cd 288 71 = some (.getfield 2582, 3) := by decide +kernel
theorem c288_74 : cd 288 74 = some (.iload 3, 1) := by decide +kernel
theorem c288_75 : cd 288 75 = some (.iaload, 1) := by decide +kernel
theorem c288_76 : cd 288 76 = some (.if_icmp .ne 82, 3) := by decide +kernel
theorem c288_79 : cd 288 79 = some (.iload 4, 2) := by decide +kernel
theorem c288_81 : cd 288 81 = some (.ireturn, 1) := by decide +kernel
theorem c288_82 : cd 288 82 = some (.iinc 4 1, 3) := by decide +kernel
theorem c288_85 : cd 288 85 = some (.goto 3, 3) := by decide +kernel
theorem c288_88 : cd 288 88 = some (.sipush (-1), 1) := by decide +kernel
theorem c288_89 : cd 288 89 = some (.ireturn, 1) := by decide +kernel
theorem g288_0 {d : Nat} {x0 x1 x2 x3 x4 x5 x6 : Option aV} {w : aW} {Q : Option aV → aW → Prop} : T d 288 0 [x0, x1, x2, x3, x4, x5, x6] [] w Q = T d 288 3 [x0, x1, x2, x3, some (vi (-1)), x5, x6] [] w Q := by
  rw [T_sipush c288_0, T_istore_4 c288_1]
  all_goals try simp only [true_and, Nat.reduceAdd, eq_self_iff_true]
theorem g288_3 {d : Nat} {a2 a3 a4 : Int} {x0 x5 x6 : Option aV} {w : aW} {Q : Option aV → aW → Prop} : T (d + 1) 288 3 [x0, some (vr 20), some (vi a2), some (vi a3), some (vi a4), x5, x6] [] w Q = ((a2 ≤ a4 → Q (some (vi (-1))) w) ∧ (¬ (a2 ≤ a4) → T d 287 0 [some (vr 20), some (vi a3), some (vi a4)] [] w (fun r w1 => T (d + 1) 288 16 [x0, some (vr 20), some (vi a2), some (vi a3), some (vi a4), x5, x6] (r.toList ++ []) w1 Q))) := by
  rw [T_iload_4 c288_3, T_iload_2 c288_5, T_icmp_ge 88 c288_6 rfl, T_sipush c288_88, T_ireti c288_89 (by decide +kernel), T_aload_1 c288_9, T_iload_3 c288_10, T_iload_4 c288_11, T_inv (es := [some (vr 20), some (vi a3), some (vi a4)]) (st := [vi a4, vi a3, vr 20]) (ks := [2, 0, 0]) (n := 3) (as := [vr 20, vi a3, vi a4]) (rest := []) c288_13 (by decide +kernel) (by decide +kernel) rfl rfl (Nat.le_of_ble_eq_true rfl)]
  all_goals try simp only [Int.reduceToNat, true_and, Nat.reduceAdd, eq_self_iff_true]
theorem g288_16 {d : Nat} {a4 s0 : Int} {x1 x2 x3 x5 x6 : Option aV} {w : aW} {Q : Option aV → aW → Prop} : T d 288 16 [some (vr 27), x1, x2, x3, some (vi a4), x5, x6] [vi s0] w Q = ((0 ≤ s0 ∧ s0 < 1024) ∧ ((¬ a4 = (-1) → T d 288 36 [some (vr 27), x1, x2, x3, some (vi a4), some (vi s0), x6] [vi 1, vi (w 31 s0)] w Q) ∧ (¬ (¬ a4 = (-1)) → T d 288 36 [some (vr 27), x1, x2, x3, some (vi a4), some (vi s0), x6] [vi 0, vi (w 31 s0)] w Q))) := by
  rw [T_istore_5 c288_16, T_aload_0 c288_18, T_getR 10 5 5 c288_19 rfl rfl rfl rfl, rf_27_5, T_iload_5 c288_22, T_iald c288_24, T_iload_4 c288_25, T_sipush c288_27, T_icmp_ne 35 c288_28 rfl, T_sipush c288_35, T_sipush c288_31, T_goto 36 c288_32 rfl]
  all_goals try simp only [Int.reduceToNat, lay_27, ld_31, true_and, Nat.reduceAdd, eq_self_iff_true]
theorem g288_36 {d : Nat} {a3 a4 a5 s0 s1 : Int} {x1 x2 x6 : Option aV} {w : aW} {Q : Option aV → aW → Prop} : T d 288 36 [some (vr 27), x1, x2, some (vi a3), some (vi a4), some (vi a5), x6] [vi s1, vi s0] w Q = ((0 ≤ a5 ∧ a5 < 1024) ∧ ((w 31 a5 = (-1) → T d 288 82 [some (vr 27), x1, x2, some (vi a3), some (vi a4), some (vi a5), some (vi (w32 (s0 + s1)))] [] w Q) ∧ (¬ (w 31 a5 = (-1)) → ((0 ≤ a5 ∧ a5 < 1024) ∧ ((0 ≤ a3 ∧ a3 < 1024) ∧ ((¬ w 29 a5 = w32 ((w 29 a3) + 1) → T d 288 82 [some (vr 27), x1, x2, some (vi a3), some (vi a4), some (vi a5), some (vi (w32 (s0 + s1)))] [] w Q) ∧ (¬ (¬ w 29 a5 = w32 ((w 29 a3) + 1)) → ((0 ≤ a3 ∧ a3 < 1024) ∧ ((¬ w32 (s0 + s1) = w 31 a3 → T d 288 82 [some (vr 27), x1, x2, some (vi a3), some (vi a4), some (vi a5), some (vi (w32 (s0 + s1)))] [] w Q) ∧ (¬ (¬ w32 (s0 + s1) = w 31 a3) → Q (some (vi a4)) w)))))))))) := by
  rw [T_iadd c288_36, T_istore_6 c288_37, T_aload_0 c288_39, T_getR 10 5 5 c288_40 rfl rfl rfl rfl, rf_27_5, T_iload_5 c288_43, T_iald c288_45, T_sipush c288_46, T_icmp_eq 82 c288_47 rfl, T_aload_0 c288_50, T_getR 10 3 3 c288_51 rfl rfl rfl rfl, rf_27_3, T_iload_5 c288_54, T_iald c288_56, T_aload_0 c288_57, T_getR 10 3 3 c288_58 rfl rfl rfl rfl, rf_27_3, T_iload_3 c288_61, T_iald c288_62, T_sipush c288_63, T_iadd c288_64, T_icmp_ne 82 c288_65 rfl, T_iload_6 c288_68, T_aload_0 c288_70, T_getR 10 5 5 c288_71 rfl rfl rfl rfl, rf_27_5, T_iload_3 c288_74, T_iald c288_75, T_icmp_ne 82 c288_76 rfl, T_iload_4 c288_79, T_ireti c288_81 (by decide +kernel)]
  all_goals try simp only [Int.reduceToNat, lay_27, ld_29, ld_31, true_and, Nat.reduceAdd, eq_self_iff_true]
theorem g288_82 {d : Nat} {a4 : Int} {x0 x1 x2 x3 x5 x6 : Option aV} {w : aW} {Q : Option aV → aW → Prop} : T d 288 82 [x0, x1, x2, x3, some (vi a4), x5, x6] [] w Q = T d 288 3 [x0, x1, x2, x3, some (vi (w32 (a4 + 1))), x5, x6] [] w Q := by
  rw [T_iinc_4 c288_82, T_goto 3 c288_85 rfl]
  all_goals try simp only [true_and, Nat.reduceAdd, eq_self_iff_true]
/-! 289: StringHands$Wishes.addCut.(IIII)V -/
theorem c289_0 : cd 289 0 = some (.iload 3, 1) := by decide +kernel
theorem c289_1 : cd 289 1 = some (.sipush 15, 2) := by decide +kernel
theorem c289_3 : cd 289 3 = some (.invokedynamic 1, 3) := by decide +kernel
theorem c289_6 : cd 289 6 = some (.istore 5, 2) := by decide +kernel
theorem c289_8 : cd 289 8 = some (.iload 5, 2) := by decide +kernel
theorem c289_10 : cd 289 10 = some (.ifCond .lt 102, 3) := by decide +kernel
theorem c289_13 : cd 289 13 = some (.sipush 0, 1) := by decide +kernel
theorem c289_14 : cd 289 14 = some (.istore 6, 2) := by decide +kernel
theorem c289_16 : cd 289 16 = some (.iload 6, 2) := by decide +kernel
theorem c289_18 : cd 289 18 = some (.iload 4, 2) := by decide +kernel
theorem c289_20 : cd 289 20 = some (.if_icmp .gt 96, 3) := by decide +kernel
theorem c289_23 : cd 289 23 = some (.iload 6, 2) := by decide +kernel
theorem c289_25 : cd 289 25 = some (.iload 2, 1) := by decide +kernel
theorem c289_26 : cd 289 26 = some (.iadd, 1) := by decide +kernel
theorem c289_27 : cd 289 27 = some (.sipush 48, 2) := by decide +kernel
theorem c289_29 : cd 289 29 = some (.if_icmp .gt 96, 3) := by decide +kernel
theorem c289_32 : cd 289 32 = some (.aload 0, 1) := by decide +kernel
theorem c289_33 : cd 289 33 = some (.getfield 2586, 3) := by decide +kernel
theorem c289_36 : cd 289 36 = some (.iload 5, 2) := by decide +kernel
theorem c289_38 : cd 289 38 = some (.aaload, 1) := by decide +kernel
theorem c289_39 : cd 289 39 = some (.iload 6, 2) := by decide +kernel
theorem c289_41 : cd 289 41 = some (.iaload, 1) := by decide +kernel
theorem c289_42 : cd 289 42 = some (.sipush (-1), 1) := by decide +kernel
theorem c289_43 : cd 289 43 = some (.if_icmp .eq 90, 3) := by decide +kernel
theorem c289_46 : cd 289 46 = some (.aload 0, 1) := by decide +kernel
theorem c289_47 : cd 289 47 = some (.getfield 2586, 3) := by decide +kernel
theorem c289_50 : cd 289 50 = some (.iload 5, 2) := by decide +kernel
theorem c289_52 : cd 289 52 = some (.sipush 1, 1) := by decide +kernel
theorem c289_53 : cd 289 53 = some (.iadd, 1) := by decide +kernel
theorem c289_54 : cd 289 54 = some (.aaload, 1) := by decide +kernel
theorem c289_55 : cd 289 55 = some (.iload 6, 2) := by decide +kernel
theorem c289_57 : cd 289 57 = some (.iload 2, 1) := by decide +kernel
theorem c289_58 : cd 289 58 = some (.iadd, 1) := by decide +kernel
theorem c289_59 : cd 289 59 = some (.iaload, 1) := by decide +kernel
theorem c289_60 : cd 289 60 = some (.sipush (-1), 1) := by decide +kernel
theorem c289_61 : cd 289 61 = some (.if_icmp .ne 90, 3) := by decide +kernel
theorem c289_64 : cd 289 64 = some (.aload 0, 1) := by decide +kernel
theorem c289_65 : cd 289 65 = some (.getfield 2586, 3) := by decide +kernel
theorem c289_68 : cd 289 68 = some (.iload 5, 2) := by decide +kernel
theorem c289_70 : cd 289 70 = some (.sipush 1, 1) := by decide +kernel
theorem c289_71 : cd 289 71 = some (.iadd, 1) := by decide +kernel
theorem c289_72 : cd 289 72 = some (.aaload, 1) := by decide +kernel
theorem c289_73 : cd 289 73 = some (.iload 6, 2) := by decide +kernel
theorem c289_75 : cd 289 75 = some (.iload 2, 1) := by decide +kernel
theorem c289_76 : cd 289 76 = some (.iadd, 1) := by decide +kernel
theorem c289_77 : cd 289 77 = some (.aload 0, 1) := by decide +kernel
theorem c289_78 : cd 289 78 = some (.getfield 2586, 3) := by decide +kernel
theorem c289_81 : cd 289 81 = some (.iload 5, 2) := by decide +kernel
theorem c289_83 : cd 289 83 = some (.aaload, 1) := by decide +kernel
theorem c289_84 : cd 289 84 = some (.iload 6, 2) := by decide +kernel
theorem c289_86 : cd 289 86 = some (.iaload, 1) := by decide +kernel
theorem c289_87 : cd 289 87 = some (.iload 1, 1) := by decide +kernel
theorem c289_88 : cd 289 88 = some (.ior, 1) := by decide +kernel
theorem c289_89 : cd 289 89 = some (.iastore, 1) := by decide +kernel
theorem c289_90 : cd 289 90 = some (.iinc 6 1, 3) := by decide +kernel
theorem c289_93 : cd 289 93 = some (.goto 16, 3) := by decide +kernel
theorem c289_96 : cd 289 96 = some (.iinc 5 (-1), 3) := by decide +kernel
theorem c289_99 : cd 289 99 = some (.goto 8, 3) := by decide +kernel
theorem c289_102 : cd 289 102 = some (.return_, 1) := by decide +kernel
theorem g289_0 {d : Nat} {a3 : Int} {x0 x1 x2 x4 x5 x6 : Option aV} {w : aW} {Q : Option aV → aW → Prop} : T d 289 0 [x0, x1, x2, some (vi a3), x4, x5, x6] [] w Q = T d 289 8 [x0, x1, x2, some (vi a3), x4, some (vi (if 15 < a3 then 15 else a3)), x6] [] w Q := by
  rw [T_iload_3 c289_0, T_sipush c289_1, T_min (st := []) c289_3 (Nat.le_of_ble_eq_true rfl), T_istore_5 c289_6]
  all_goals try simp only [true_and, Nat.reduceAdd, eq_self_iff_true]
theorem g289_8 {d : Nat} {a5 : Int} {x0 x1 x2 x3 x4 x6 : Option aV} {w : aW} {Q : Option aV → aW → Prop} : T d 289 8 [x0, x1, x2, x3, x4, some (vi a5), x6] [] w Q = ((a5 < 0 → Q none w) ∧ (¬ (a5 < 0) → T d 289 16 [x0, x1, x2, x3, x4, some (vi a5), some (vi 0)] [] w Q)) := by
  rw [T_iload_5 c289_8, T_if_lt 102 c289_10 rfl, T_vret c289_102 (by decide +kernel), T_sipush c289_13, T_istore_6 c289_14]
  all_goals try simp only [Int.reduceToNat, true_and, Nat.reduceAdd, eq_self_iff_true]
theorem g289_16 {d : Nat} {a1 a2 a4 a5 a6 : Int} {x3 : Option aV} {w : aW} {Q : Option aV → aW → Prop} : T d 289 16 [some (vr 27), some (vi a1), some (vi a2), x3, some (vi a4), some (vi a5), some (vi a6)] [] w Q = ((a4 < a6 → T d 289 96 [some (vr 27), some (vi a1), some (vi a2), x3, some (vi a4), some (vi a5), some (vi a6)] [] w Q) ∧ (¬ (a4 < a6) → ((48 < w32 (a6 + a2) → T d 289 96 [some (vr 27), some (vi a1), some (vi a2), x3, some (vi a4), some (vi a5), some (vi a6)] [] w Q) ∧ (¬ (48 < w32 (a6 + a2)) → ((isRA 32 a5 = true ∧ (32 = 87 → (w 87 a5).toNat < 191)) ∧ (ldok (rAt w 32 a5) a6 w ∧ ((w (rAt w 32 a5) a6 = (-1) → T d 289 90 [some (vr 27), some (vi a1), some (vi a2), x3, some (vi a4), some (vi a5), some (vi a6)] [] w Q) ∧ (¬ (w (rAt w 32 a5) a6 = (-1)) → ((isRA 32 (w32 (a5 + 1)) = true ∧ (32 = 87 → (w 87 (w32 (a5 + 1))).toNat < 191)) ∧ (ldok (rAt w 32 (w32 (a5 + 1))) (w32 (a6 + a2)) w ∧ ((¬ w (rAt w 32 (w32 (a5 + 1))) (w32 (a6 + a2)) = (-1) → T d 289 90 [some (vr 27), some (vi a1), some (vi a2), x3, some (vi a4), some (vi a5), some (vi a6)] [] w Q) ∧ (¬ (¬ w (rAt w 32 (w32 (a5 + 1))) (w32 (a6 + a2)) = (-1)) → ((isRA 32 (w32 (a5 + 1)) = true ∧ (32 = 87 → (w 87 (w32 (a5 + 1))).toNat < 191)) ∧ ((isRA 32 a5 = true ∧ (32 = 87 → (w 87 a5).toNat < 191)) ∧ (ldok (rAt w 32 a5) a6 w ∧ (inA (rAt w 32 (w32 (a5 + 1))) 0 (w32 (a6 + a2)) = true ∧ T d 289 90 [some (vr 27), some (vi a1), some (vi a2), x3, some (vi a4), some (vi a5), some (vi a6)] [] (iup w (rAt w 32 (w32 (a5 + 1))) (w32 (a6 + a2)) (jor (w (rAt w 32 a5) a6) a1)) Q)))))))))))))))) := by
  rw [T_iload_6 c289_16, T_iload_4 c289_18, T_icmp_gt 96 c289_20 rfl, T_iload_6 c289_23, T_iload_2 c289_25, T_iadd c289_26, T_sipush c289_27, T_icmp_gt 96 c289_29 rfl, T_aload_0 c289_32, T_getR 10 6 6 c289_33 rfl rfl rfl rfl, rf_27_6, T_iload_5 c289_36, T_aald c289_38, T_iload_6 c289_39, T_iald c289_41, T_sipush c289_42, T_icmp_eq 90 c289_43 rfl, T_aload_0 c289_46, T_getR 10 6 6 c289_47 rfl rfl rfl rfl, rf_27_6, T_iload_5 c289_50, T_sipush c289_52, T_iadd c289_53, T_aald c289_54, T_iload_6 c289_55, T_iload_2 c289_57, T_iadd c289_58, T_iald c289_59, T_sipush c289_60, T_icmp_ne 90 c289_61 rfl, T_aload_0 c289_64, T_getR 10 6 6 c289_65 rfl rfl rfl rfl, rf_27_6, T_iload_5 c289_68, T_sipush c289_70, T_iadd c289_71, T_aald c289_72, T_iload_6 c289_73, T_iload_2 c289_75, T_iadd c289_76, T_aload_0 c289_77, T_getR 10 6 6 c289_78 rfl rfl rfl rfl, rf_27_6, T_iload_5 c289_81, T_aald c289_83, T_iload_6 c289_84, T_iald c289_86, T_iload_1 c289_87, T_ior c289_88, T_iast c289_89]
  all_goals try simp only [Int.reduceToNat, lay_27, true_and, Nat.reduceAdd, eq_self_iff_true]
theorem g289_90 {d : Nat} {a6 : Int} {x0 x1 x2 x3 x4 x5 : Option aV} {w : aW} {Q : Option aV → aW → Prop} : T d 289 90 [x0, x1, x2, x3, x4, x5, some (vi a6)] [] w Q = T d 289 16 [x0, x1, x2, x3, x4, x5, some (vi (w32 (a6 + 1)))] [] w Q := by
  rw [T_iinc_6 c289_90, T_goto 16 c289_93 rfl]
  all_goals try simp only [true_and, Nat.reduceAdd, eq_self_iff_true]
theorem g289_96 {d : Nat} {a5 : Int} {x0 x1 x2 x3 x4 x6 : Option aV} {w : aW} {Q : Option aV → aW → Prop} : T d 289 96 [x0, x1, x2, x3, x4, some (vi a5), x6] [] w Q = T d 289 8 [x0, x1, x2, x3, x4, some (vi (w32 (a5 + (-1)))), x6] [] w Q := by
  rw [T_iinc_5 c289_96, T_goto 8 c289_99 rfl]
  all_goals try simp only [true_and, Nat.reduceAdd, eq_self_iff_true]
/-! 290: StringHands$Wishes.isStill.(LStringHands$Troupe;LStringHands$Mover;IIIZ)Z -/
theorem c290_0 : cd 290 0 = some (.aload 1, 1) := by decide +kernel
theorem c290_1 : cd 290 1 = some (.aload 0, 1) := by decide +kernel
theorem c290_2 : cd 290 2 = some (.iload 3, 1) := by decide +kernel
theorem c290_3 : cd 290 3 = some (.iload 2, 1) := by decide +kernel
theorem c290_4 : cd 290 4 = some (.iload 4, 2) := by decide +kernel
theorem c290_6 : cd 290 6 = some (.iload 5, 2) := by decide +kernel
theorem c290_8 : cd 290 8 = some (.invokevirtual 229, 3) := by decide +kernel
theorem c290_11 : cd 290 11 = some (.iload 2, 1) := by decide +kernel
theorem c290_12 : cd 290 12 = some (.iload 3, 1) := by decide +kernel
theorem c290_13 : cd 290 13 = some (.invokestatic 117, 3) := by decide +kernel
theorem c290_16 : cd 290 16 = some (.sipush 1, 1) := by decide +kernel
theorem c290_17 : cd 290 17 = some (.if_icmp .ne 24, 3) := by decide +kernel
theorem c290_20 : cd 290 20 = some (.sipush 1, 1) := by decide +kernel
theorem c290_21 : cd 290 21 = some (.goto 25, 3) := by decide +kernel
theorem c290_24 : cd 290 24 = some (.sipush 0, 1) := by decide +kernel
theorem c290_25 : cd 290 25 = some (.if_icmp .ne 32, 3) := by decide +kernel
theorem c290_28 : cd 290 28 = some (.sipush 1, 1) := by decide +kernel
theorem c290_29 : cd 290 29 = some (.goto 33, 3) := by decide +kernel
theorem c290_32 : cd 290 32 = some (.sipush 0, 1) := by decide +kernel
theorem c290_33 : cd 290 33 = some (.ireturn, 1) := by decide +kernel
theorem g290_0 {d : Nat} {a2 a3 a4 a5 : Int} {w : aW} {Q : Option aV → aW → Prop} : T (d + 1) 290 0 [some (vr 69), some (vr 16), some (vi a2), some (vi a3), some (vi a4), some (vi a5)] [] w Q = T d 229 0 [some (vr 16), some (vr 69), some (vi a3), some (vi a2), some (vi a4), some (vi a5)] [] w (fun r w1 => T (d + 1) 290 11 [some (vr 69), some (vr 16), some (vi a2), some (vi a3), some (vi a4), some (vi a5)] (r.toList ++ []) w1 Q) := by
  rw [T_aload_1 c290_0, T_aload_0 c290_1, T_iload_3 c290_2, T_iload_2 c290_3, T_iload_4 c290_4, T_iload_5 c290_6, T_invv (es := [some (vr 16), some (vr 69), some (vi a3), some (vi a2), some (vi a4), some (vi a5)]) (st := [vi a5, vi a4, vi a2, vi a3, vr 69, vr 16]) (ks := [2, 2, 0, 0, 0, 0]) (n := 6) (c := 2) (k := 16) (as := [vr 69, vi a3, vi a2, vi a4, vi a5]) (rest := []) c290_8 (by decide +kernel) (by decide +kernel) (by decide +kernel) (by decide) rfl rfl (Nat.le_of_ble_eq_true rfl)]
  all_goals try simp only [lay_16, true_and, Nat.reduceAdd, eq_self_iff_true]
theorem g290_11 {d : Nat} {a2 a3 s0 : Int} {x0 x1 x4 x5 : Option aV} {w : aW} {Q : Option aV → aW → Prop} : T (d + 1) 290 11 [x0, x1, some (vi a2), some (vi a3), x4, x5] [vi s0] w Q = T d 117 0 [some (vi a2), some (vi a3)] [] w (fun r w1 => T (d + 1) 290 16 [x0, x1, some (vi a2), some (vi a3), x4, x5] (r.toList ++ [vi s0]) w1 Q) := by
  rw [T_iload_2 c290_11, T_iload_3 c290_12, T_inv (es := [some (vi a2), some (vi a3)]) (st := [vi a3, vi a2, vi s0]) (ks := [0, 0]) (n := 2) (as := [vi a2, vi a3]) (rest := [vi s0]) c290_13 (by decide +kernel) (by decide +kernel) rfl rfl (Nat.le_of_ble_eq_true rfl)]
  all_goals try simp only [true_and, Nat.reduceAdd, eq_self_iff_true]
theorem g290_16 {d : Nat} {s0 s1 : Int} {x0 x1 x2 x3 x4 x5 : Option aV} {w : aW} {Q : Option aV → aW → Prop} : T d 290 16 [x0, x1, x2, x3, x4, x5] [vi s1, vi s0] w Q = ((¬ s1 = 1 → T d 290 25 [x0, x1, x2, x3, x4, x5] [vi 0, vi s0] w Q) ∧ (¬ (¬ s1 = 1) → T d 290 25 [x0, x1, x2, x3, x4, x5] [vi 1, vi s0] w Q)) := by
  rw [T_sipush c290_16, T_icmp_ne 24 c290_17 rfl, T_sipush c290_24, T_sipush c290_20, T_goto 25 c290_21 rfl]
  all_goals try simp only [Int.reduceToNat, true_and, Nat.reduceAdd, eq_self_iff_true]
theorem g290_25 {d : Nat} {s0 s1 : Int} {x0 x1 x2 x3 x4 x5 : Option aV} {w : aW} {Q : Option aV → aW → Prop} : T d 290 25 [x0, x1, x2, x3, x4, x5] [vi s1, vi s0] w Q = ((¬ s0 = s1 → T d 290 33 [x0, x1, x2, x3, x4, x5] [vi 0] w Q) ∧ (¬ (¬ s0 = s1) → T d 290 33 [x0, x1, x2, x3, x4, x5] [vi 1] w Q)) := by
  rw [T_icmp_ne 32 c290_25 rfl, T_sipush c290_32, T_sipush c290_28, T_goto 33 c290_29 rfl]
  all_goals try simp only [Int.reduceToNat, true_and, Nat.reduceAdd, eq_self_iff_true]
theorem g290_33 {d : Nat} {s0 : Int} {x0 x1 x2 x3 x4 x5 : Option aV} {w : aW} {Q : Option aV → aW → Prop} : T d 290 33 [x0, x1, x2, x3, x4, x5] [vi s0] w Q = ((s0 = 0 ∨ s0 = 1) ∧ Q (some (vi s0)) w) := by
  rw [T_iretz c290_33 (by decide +kernel)]
  all_goals try simp only [true_and, Nat.reduceAdd, eq_self_iff_true]
/-! 291: StringHands$Web.rulers.(LStringHands$Troupe;I)I -/
theorem c291_0 : cd 291 0 = some (.aload 0, 1) := by decide +kernel
theorem c291_1 : cd 291 1 = some (.getfield 2096, 3) := by decide +kernel
theorem c291_4 : cd 291 4 = some (.iload 1, 1) := by decide +kernel
theorem c291_5 : cd 291 5 = some (.invokestatic 117, 3) := by decide +kernel
theorem c291_8 : cd 291 8 = some (.sipush 1, 1) := by decide +kernel
theorem c291_9 : cd 291 9 = some (.if_icmp .ne 21, 3) := by decide +kernel
theorem c291_12 : cd 291 12 = some (.aload 0, 1) := by decide +kernel
theorem c291_13 : cd 291 13 = some (.getfield 2106, 3) := by decide +kernel
theorem c291_16 : cd 291 16 = some (.iload 1, 1) := by decide +kernel
theorem c291_17 : cd 291 17 = some (.iaload, 1) := by decide +kernel
theorem c291_18 : cd 291 18 = some (.goto 22, 3) := by decide +kernel
theorem c291_21 : cd 291 21 = some (.sipush 0, 1) := by decide +kernel
theorem c291_22 : cd 291 22 = some (.ireturn, 1) := by decide +kernel
theorem g291_0 {d : Nat} {a1 : Int} {w : aW} {Q : Option aV → aW → Prop} : T (d + 1) 291 0 [some (vr 69), some (vi a1)] [] w Q = T d 117 0 [some (vi (w 69 12)), some (vi a1)] [] w (fun r w1 => T (d + 1) 291 8 [some (vr 69), some (vi a1)] (r.toList ++ []) w1 Q) := by
  rw [T_aload_0 c291_0, T_getI 8 12 12 c291_1 rfl rfl rfl rfl, T_iload_1 c291_4, T_inv (es := [some (vi (w 69 12)), some (vi a1)]) (st := [vi a1, vi (w 69 12)]) (ks := [0, 0]) (n := 2) (as := [vi (w 69 12), vi a1]) (rest := []) c291_5 (by decide +kernel) (by decide +kernel) rfl rfl (Nat.le_of_ble_eq_true rfl)]
  all_goals try simp only [lay_69, true_and, Nat.reduceAdd, eq_self_iff_true]
theorem g291_8 {d : Nat} {a1 s0 : Int} {w : aW} {Q : Option aV → aW → Prop} : T d 291 8 [some (vr 69), some (vi a1)] [vi s0] w Q = ((¬ s0 = 1 → T d 291 22 [some (vr 69), some (vi a1)] [vi 0] w Q) ∧ (¬ (¬ s0 = 1) → ((0 ≤ a1 ∧ a1 < 10) ∧ T d 291 22 [some (vr 69), some (vi a1)] [vi (w 75 a1)] w Q))) := by
  rw [T_sipush c291_8, T_icmp_ne 21 c291_9 rfl, T_sipush c291_21, T_aload_0 c291_12, T_getR 8 14 14 c291_13 rfl rfl rfl rfl, rf_69_14, T_iload_1 c291_16, T_iald c291_17, T_goto 22 c291_18 rfl]
  all_goals try simp only [Int.reduceToNat, lay_69, ld_75, true_and, Nat.reduceAdd, eq_self_iff_true]
theorem g291_22 {d : Nat} {s0 : Int} {x0 x1 : Option aV} {w : aW} {Q : Option aV → aW → Prop} : T d 291 22 [x0, x1] [vi s0] w Q = Q (some (vi s0)) w := by
  rw [T_ireti c291_22 (by decide +kernel)]
  all_goals try simp only [true_and, Nat.reduceAdd, eq_self_iff_true]
/-! 292: StringHands$Tangler.addPair.(IIII)V -/
theorem c292_0 : cd 292 0 = some (.iload 1, 1) := by decide +kernel
theorem c292_1 : cd 292 1 = some (.iload 3, 1) := by decide +kernel
theorem c292_2 : cd 292 2 = some (.if_icmp .eq 11, 3) := by decide +kernel
theorem c292_5 : cd 292 5 = some (.iload 2, 1) := by decide +kernel
theorem c292_6 : cd 292 6 = some (.iload 4, 2) := by decide +kernel
theorem c292_8 : cd 292 8 = some (.if_icmp .ne 12, 3) := by decide +kernel
theorem c292_11 : cd 292 11 = some (.return_, 1) := by decide +kernel
theorem c292_12 : cd 292 12 = some (.aload 0, 1) := by decide +kernel
theorem c292_13 : cd 292 13 = some (.getfield 1816, 3) := by decide +kernel
theorem c292_16 : cd 292 16 = some (.sipush 64, 2) := by decide +kernel
theorem c292_18 : cd 292 18 = some (.if_icmp .ge 30, 3) := by decide +kernel
theorem c292_21 : cd 292 21 = some (.bipush 1, 1) := by decide +kernel
theorem c292_22 : cd 292 22 = some (.aload 0, 1) := by decide +kernel
theorem c292_23 : cd 292 23 = some (.getfield 1816, 3) := by decide +kernel
theorem c292_26 : cd 292 26 = some (.lshl, 1) := by decide +kernel
theorem c292_27 : cd 292 27 = some (.goto 31, 3) := by decide +kernel
theorem c292_30 : cd 292 30 = some (.bipush 0, 1) := by decide +kernel
theorem c292_31 : cd 292 31 = some (.lstore 5, 2) := by decide +kernel
theorem c292_33 : cd 292 33 = some (.aload 0, 1) := by decide +kernel
theorem c292_34 : cd 292 34 = some (.getfield 1816, 3) := by decide +kernel
theorem c292_37 : cd 292 37 = some (.sipush 64, 2) := by decide +kernel
theorem c292_39 : cd 292 39 = some (.if_icmp .ge 46, 3) := by decide +kernel
theorem c292_42 : cd 292 42 = some (.bipush 0, 1) := by decide +kernel
theorem c292_43 : cd 292 43 = some (.goto 55, 3) := by decide +kernel
theorem c292_46 : cd 292 46 = some (.bipush 1, 1) := by decide +kernel
theorem c292_47 : cd 292 47 = some (.aload 0, 1) := by decide +kernel
theorem c292_48 : cd 292 48 = some (.getfield 1816, 3) := by decide +kernel
theorem c292_51 : cd 292 51 = some (.sipush 64, 2) := by decide +kernel
theorem c292_53 : cd 292 53 = some (.isub, 1) := by decide +kernel
theorem c292_54 : cd 292 54 = some (.lshl, 1) := by decide +kernel
theorem c292_55 : cd 292 55 = some (.lstore 7, 2) := by decide +kernel
theorem c292_57 : cd 292 57 = some (.aload 0, 1) := by decide +kernel
theorem c292_58 : cd 292 58 = some (.dup, 1) := by decide +kernel
theorem c292_59 : cd 292 59 = some (.getfield 1816, 3) := by decide +kernel
theorem c292_62 : cd 292 62 = some (.sipush 1, 1) := by decide +kernel
theorem c292_63 : cd 292 63 = some (.iadd, 1) := by decide +kernel
theorem c292_64 : cd 292 64 = some (.putfield 1816, 3) := by decide +kernel
theorem c292_67 : cd 292 67 = some (.iload 1, 1) := by decide +kernel
theorem c292_68 : cd 292 68 = some (.iload 3, 1) := by decide +kernel
theorem c292_69 : cd 292 69 = some (.if_icmp .ge 76, 3) := by decide +kernel
theorem c292_72 : cd 292 72 = some (.sipush 1, 1) := by decide +kernel
theorem c292_73 : cd 292 73 = some (.goto 77, 3) := by decide +kernel
theorem c292_76 : cd 292 76 = some (.sipush 0, 1) := by decide +kernel
theorem c292_77 : cd 292 77 = some (.iload 2, 1) := by decide +kernel
theorem c292_78 : cd 292 78 = some (.iload 4, 2) := by decide +kernel
theorem c292_80 : cd 292 80 = some (.if_icmp .ge 87, 3) := by decide +kernel
theorem c292_83 : cd 292 83 = some (.sipush 1, 1) := by decide +kernel
theorem c292_84 : cd 292 84 = some (.goto 88, 3) := by decide +kernel
theorem c292_87 : cd 292 87 = some (.sipush 0, 1) := by decide +kernel
theorem c292_88 : cd 292 88 = some (.if_icmp .eq 113, 3) := by decide +kernel
theorem c292_91 : cd 292 91 = some (.aload 0, 1) := by decide +kernel
theorem c292_92 : cd 292 92 = some (.dup, 1) := by decide +kernel
theorem c292_93 : cd 292 93 = some (.getfield 1809, 3) := by decide +kernel
theorem c292_96 : cd 292 96 = some (.lload 5, 2) := by decide +kernel
theorem c292_98 : cd 292 98 = some (.lor, 1) := by decide +kernel
theorem c292_99 : cd 292 99 = some (.putfield 1809, 3) := by decide +kernel
theorem c292_102 : cd 292 102 = some (.aload 0, 1) := by decide +kernel
theorem c292_103 : cd 292 103 = some (.dup, 1) := by decide +kernel
theorem c292_104 : cd 292 104 = some (.getfield 1813, 3) := by decide +kernel
theorem c292_107 : cd 292 107 = some (.lload 7, 2) := by decide +kernel
theorem c292_109 : cd 292 109 = some (.lor, 1) := by decide +kernel
theorem c292_110 : cd 292 110 = some (.putfield 1813, 3) := by decide +kernel
theorem c292_113 : cd 292 113 = some (.aload 0, 1) := by decide +kernel
theorem c292_114 : cd 292 114 = some (.iload 1, 1) := by decide +kernel
theorem c292_115 : cd 292 115 = some (.iload 3, 1) := by decide +kernel
theorem c292_116 : cd 292 116 = some (.lload 5, 2) := by decide +kernel
theorem c292_118 : cd 292 118 = some (.lload 7, 2) := by decide +kernel
theorem c292_120 : cd 292 120 = some (.invokevirtual 304, 3) := by decide +kernel
theorem c292_123 : cd 292 123 = some (.aload 0, 1) := by decide +kernel
theorem c292_124 : cd 292 124 = some (.iload 2, 1) := by decide +kernel
theorem c292_125 : cd 292 125 = some (.iload 4, 2) := by decide +kernel
theorem c292_127 : cd 292 127 = some (.lload 5, 2) := by decide +kernel
theorem c292_129 : cd 292 129 = some (.lload 7, 2) := by decide +kernel
theorem c292_131 : cd 292 131 = some (.invokevirtual 304, 3) := by decide +kernel
theorem c292_134 : cd 292 134 = some (.return_, 1) := by decide +kernel
theorem g292_0 {d : Nat} {a1 a2 a3 a4 : Int} {x5 x6 x7 x8 : Option aV} {w : aW} {Q : Option aV → aW → Prop} : T d 292 0 [some (vr 52), some (vi a1), some (vi a2), some (vi a3), some (vi a4), x5, x6, x7, x8] [] w Q = ((a1 = a3 → T d 292 11 [some (vr 52), some (vi a1), some (vi a2), some (vi a3), some (vi a4), x5, x6, x7, x8] [] w Q) ∧ (¬ (a1 = a3) → ((¬ a2 = a4 → ((64 ≤ w 52 6 → T d 292 31 [some (vr 52), some (vi a1), some (vi a2), some (vi a3), some (vi a4), x5, x6, x7, x8] [vl 0] w Q) ∧ (¬ (64 ≤ w 52 6) → T d 292 31 [some (vr 52), some (vi a1), some (vi a2), some (vi a3), some (vi a4), x5, x6, x7, x8] [vl (kshl 1 (w 52 6))] w Q))) ∧ (¬ (¬ a2 = a4) → T d 292 11 [some (vr 52), some (vi a1), some (vi a2), some (vi a3), some (vi a4), x5, x6, x7, x8] [] w Q)))) := by
  rw [T_iload_1 c292_0, T_iload_3 c292_1, T_icmp_eq 11 c292_2 rfl, T_iload_2 c292_5, T_iload_4 c292_6, T_icmp_ne 12 c292_8 rfl, T_aload_0 c292_12, T_getI 7 6 6 c292_13 rfl rfl rfl rfl, T_sipush c292_16, T_icmp_ge 30 c292_18 rfl, T_bipush c292_30, T_bipush c292_21, T_aload_0 c292_22, T_getI 7 6 6 c292_23 rfl rfl rfl rfl, T_lshl c292_26, T_goto 31 c292_27 rfl]
  all_goals try simp only [Int.reduceToNat, lay_52, true_and, Nat.reduceAdd, eq_self_iff_true]
theorem g292_11 {d : Nat} {x0 x1 x2 x3 x4 x5 x6 x7 x8 : Option aV} {w : aW} {Q : Option aV → aW → Prop} : T d 292 11 [x0, x1, x2, x3, x4, x5, x6, x7, x8] [] w Q = Q none w := by
  rw [T_vret c292_11 (by decide +kernel)]
  all_goals try simp only [true_and, Nat.reduceAdd, eq_self_iff_true]
theorem g292_31 {d : Nat} {s0 : Int} {x1 x2 x3 x4 x5 x6 x7 x8 : Option aV} {w : aW} {Q : Option aV → aW → Prop} : T d 292 31 [some (vr 52), x1, x2, x3, x4, x5, x6, x7, x8] [vl s0] w Q = ((64 ≤ w 52 6 → T d 292 55 [some (vr 52), x1, x2, x3, x4, some (vl s0), none, x7, x8] [vl (kshl 1 (w32 ((w 52 6) - 64)))] w Q) ∧ (¬ (64 ≤ w 52 6) → T d 292 55 [some (vr 52), x1, x2, x3, x4, some (vl s0), none, x7, x8] [vl 0] w Q)) := by
  rw [T_lstore_5 c292_31, T_aload_0 c292_33, T_getI 7 6 6 c292_34 rfl rfl rfl rfl, T_sipush c292_37, T_icmp_ge 46 c292_39 rfl, T_bipush c292_46, T_aload_0 c292_47, T_getI 7 6 6 c292_48 rfl rfl rfl rfl, T_sipush c292_51, T_isub c292_53, T_lshl c292_54, T_bipush c292_42, T_goto 55 c292_43 rfl]
  all_goals try simp only [Int.reduceToNat, lay_52, true_and, Nat.reduceAdd, eq_self_iff_true]
theorem g292_55 {d : Nat} {a1 a3 s0 : Int} {x2 x4 x5 x6 x7 x8 : Option aV} {w : aW} {Q : Option aV → aW → Prop} : T d 292 55 [some (vr 52), some (vi a1), x2, some (vi a3), x4, x5, x6, x7, x8] [vl s0] w Q = ((a3 ≤ a1 → T d 292 77 [some (vr 52), some (vi a1), x2, some (vi a3), x4, x5, x6, some (vl s0), none] [vi 0] (iup w 52 6 (w32 ((w 52 6) + 1))) Q) ∧ (¬ (a3 ≤ a1) → T d 292 77 [some (vr 52), some (vi a1), x2, some (vi a3), x4, x5, x6, some (vl s0), none] [vi 1] (iup w 52 6 (w32 ((w 52 6) + 1))) Q)) := by
  rw [T_lstore_7 c292_55, T_aload_0 c292_57, T_dup_r c292_58, T_getI 7 6 6 c292_59 rfl rfl rfl rfl, T_sipush c292_62, T_iadd c292_63, T_putI 7 6 6 c292_64 rfl rfl rfl rfl, T_iload_1 c292_67, T_iload_3 c292_68, T_icmp_ge 76 c292_69 rfl, T_sipush c292_76, T_sipush c292_72, T_goto 77 c292_73 rfl]
  all_goals try simp only [Int.reduceToNat, lay_52, true_and, Nat.reduceAdd, eq_self_iff_true]
theorem g292_77 {d : Nat} {a2 a4 s0 : Int} {x0 x1 x3 x5 x6 x7 x8 : Option aV} {w : aW} {Q : Option aV → aW → Prop} : T d 292 77 [x0, x1, some (vi a2), x3, some (vi a4), x5, x6, x7, x8] [vi s0] w Q = ((a4 ≤ a2 → T d 292 88 [x0, x1, some (vi a2), x3, some (vi a4), x5, x6, x7, x8] [vi 0, vi s0] w Q) ∧ (¬ (a4 ≤ a2) → T d 292 88 [x0, x1, some (vi a2), x3, some (vi a4), x5, x6, x7, x8] [vi 1, vi s0] w Q)) := by
  rw [T_iload_2 c292_77, T_iload_4 c292_78, T_icmp_ge 87 c292_80 rfl, T_sipush c292_87, T_sipush c292_83, T_goto 88 c292_84 rfl]
  all_goals try simp only [Int.reduceToNat, true_and, Nat.reduceAdd, eq_self_iff_true]
theorem g292_88 {d : Nat} {b5 b7 s0 s1 : Int} {x1 x2 x3 x4 : Option aV} {w : aW} {Q : Option aV → aW → Prop} : T d 292 88 [some (vr 52), x1, x2, x3, x4, some (vl b5), none, some (vl b7), none] [vi s1, vi s0] w Q = ((s0 = s1 → T d 292 113 [some (vr 52), x1, x2, x3, x4, some (vl b5), none, some (vl b7), none] [] w Q) ∧ (¬ (s0 = s1) → T d 292 113 [some (vr 52), x1, x2, x3, x4, some (vl b5), none, some (vl b7), none] [] (iup (iup w 52 4 (kor (w 52 4) b5)) 52 5 (kor ((iup w 52 4 (kor (w 52 4) b5)) 52 5) b7)) Q)) := by
  rw [T_icmp_eq 113 c292_88 rfl, T_aload_0 c292_91, T_dup_r c292_92, T_getL 7 4 4 c292_93 rfl rfl rfl rfl, T_lload_5 c292_96, T_lor c292_98, T_putL 7 4 4 c292_99 rfl rfl rfl rfl, T_aload_0 c292_102, T_dup_r c292_103, T_getL 7 5 5 c292_104 rfl rfl rfl rfl, T_lload_7 c292_107, T_lor c292_109, T_putL 7 5 5 c292_110 rfl rfl rfl rfl]
  all_goals try simp only [Int.reduceToNat, lay_52, true_and, Nat.reduceAdd, eq_self_iff_true]
theorem g292_113 {d : Nat} {a1 a3 b5 b7 : Int} {x2 x4 : Option aV} {w : aW} {Q : Option aV → aW → Prop} : T (d + 1) 292 113 [some (vr 52), some (vi a1), x2, some (vi a3), x4, some (vl b5), none, some (vl b7), none] [] w Q = T d 304 0 [some (vr 52), some (vi a1), some (vi a3), some (vl b5), none, some (vl b7), none, none] [] w (fun r w1 => T (d + 1) 292 123 [some (vr 52), some (vi a1), x2, some (vi a3), x4, some (vl b5), none, some (vl b7), none] (r.toList ++ []) w1 Q) := by
  rw [T_aload_0 c292_113, T_iload_1 c292_114, T_iload_3 c292_115, T_lload_5 c292_116, T_lload_7 c292_118, T_invv (es := [some (vr 52), some (vi a1), some (vi a3), some (vl b5), none, some (vl b7), none, none]) (st := [vl b7, vl b5, vi a3, vi a1, vr 52]) (ks := [2, 0, 0, 1, 1]) (n := 8) (c := 7) (k := 52) (as := [vi a1, vi a3, vl b5, vl b7]) (rest := []) c292_120 (by decide +kernel) (by decide +kernel) (by decide +kernel) (by decide) rfl rfl (Nat.le_of_ble_eq_true rfl)]
  all_goals try simp only [lay_52, true_and, Nat.reduceAdd, eq_self_iff_true]
theorem g292_123 {d : Nat} {a2 a4 b5 b7 : Int} {x1 x3 : Option aV} {w : aW} {Q : Option aV → aW → Prop} : T (d + 1) 292 123 [some (vr 52), x1, some (vi a2), x3, some (vi a4), some (vl b5), none, some (vl b7), none] [] w Q = T d 304 0 [some (vr 52), some (vi a2), some (vi a4), some (vl b5), none, some (vl b7), none, none] [] w (fun r w1 => T (d + 1) 292 134 [some (vr 52), x1, some (vi a2), x3, some (vi a4), some (vl b5), none, some (vl b7), none] (r.toList ++ []) w1 Q) := by
  rw [T_aload_0 c292_123, T_iload_2 c292_124, T_iload_4 c292_125, T_lload_5 c292_127, T_lload_7 c292_129, T_invv (es := [some (vr 52), some (vi a2), some (vi a4), some (vl b5), none, some (vl b7), none, none]) (st := [vl b7, vl b5, vi a4, vi a2, vr 52]) (ks := [2, 0, 0, 1, 1]) (n := 8) (c := 7) (k := 52) (as := [vi a2, vi a4, vl b5, vl b7]) (rest := []) c292_131 (by decide +kernel) (by decide +kernel) (by decide +kernel) (by decide) rfl rfl (Nat.le_of_ble_eq_true rfl)]
  all_goals try simp only [lay_52, true_and, Nat.reduceAdd, eq_self_iff_true]
theorem g292_134 {d : Nat} {x0 x1 x2 x3 x4 x5 x6 x7 x8 : Option aV} {w : aW} {Q : Option aV → aW → Prop} : T d 292 134 [x0, x1, x2, x3, x4, x5, x6, x7, x8] [] w Q = Q none w := by
  rw [T_vret c292_134 (by decide +kernel)]
  all_goals try simp only [true_and, Nat.reduceAdd, eq_self_iff_true]
/-! 293: StringHands$Tangler.spot.(II)I -/
theorem c293_0 : cd 293 0 = some (.iload 0, 1) := by decide +kernel
theorem c293_1 : cd 293 1 = some (.iload 1, 1) := by decide +kernel
theorem c293_2 : cd 293 2 = some (.invokedynamic 1, 3) := by decide +kernel
theorem c293_5 : cd 293 5 = some (.sipush 7, 2) := by decide +kernel
theorem c293_7 : cd 293 7 = some (.imul, 1) := by decide +kernel
theorem c293_8 : cd 293 8 = some (.iload 0, 1) := by decide +kernel
theorem c293_9 : cd 293 9 = some (.iload 1, 1) := by decide +kernel
theorem c293_10 : cd 293 10 = some (.invokedynamic 2, 3) := by decide +kernel
theorem c293_13 : cd 293 13 = some (.iadd, 1) := by decide +kernel
theorem c293_14 : cd 293 14 = some (.ireturn, 1) := by decide +kernel
theorem g293_0 {d : Nat} {a0 a1 : Int} {w : aW} {Q : Option aV → aW → Prop} : T d 293 0 [some (vi a0), some (vi a1)] [] w Q = Q (some (vi (w32 ((w32 ((if a1 < a0 then a1 else a0) * 7)) + (if a0 < a1 then a1 else a0))))) w := by
  rw [T_iload_0 c293_0, T_iload_1 c293_1, T_min (st := []) c293_2 (Nat.le_of_ble_eq_true rfl), T_sipush c293_5, T_imul c293_7, T_iload_0 c293_8, T_iload_1 c293_9, T_max (st := [vi (w32 ((if a1 < a0 then a1 else a0) * 7))]) c293_10 (Nat.le_of_ble_eq_true rfl), T_iadd c293_13, T_ireti c293_14 (by decide +kernel)]
  all_goals try simp only [true_and, Nat.reduceAdd, eq_self_iff_true]
/-! 294: StringHands$Guesses.addSet.(II)V -/
theorem c294_0 : cd 294 0 = some (.sipush 1, 1) := by decide +kernel
theorem c294_1 : cd 294 1 = some (.istore 3, 1) := by decide +kernel
theorem c294_2 : cd 294 2 = some (.iload 1, 1) := by decide +kernel
theorem c294_3 : cd 294 3 = some (.invokestatic 132, 3) := by decide +kernel
theorem c294_6 : cd 294 6 = some (.istore 4, 2) := by decide +kernel
theorem c294_8 : cd 294 8 = some (.sipush 0, 1) := by decide +kernel
theorem c294_9 : cd 294 9 = some (.istore 5, 2) := by decide +kernel
theorem c294_11 : cd 294 11 = some (.iload 5, 2) := by decide +kernel
theorem c294_13 : cd 294 13 = some (.sipush 1, 1) := by decide +kernel
theorem c294_14 : cd 294 14 = some (.iadd, 1) := by decide +kernel
theorem c294_15 : cd 294 15 = some (.aload 0, 1) := by decide +kernel
theorem c294_16 : cd 294 16 = some (.getfield 280, 3) := by decide +kernel
theorem c294_19 : cd 294 19 = some (.if_icmp .ge 86, 3) := by decide +kernel
theorem c294_22 : cd 294 22 = some (.iload 3, 1) := by decide +kernel
theorem c294_23 : cd 294 23 = some (.iload 4, 2) := by decide +kernel
theorem c294_25 : cd 294 25 = some (.if_icmp .gt 86, 3) := by decide +kernel
theorem c294_28 : cd 294 28 = some (.aload 0, 1) := by decide +kernel
theorem c294_29 : cd 294 29 = some (.getfield 278, 3) := by decide +kernel
theorem c294_32 : cd 294 32 = some (.iload 5, 2) := by decide +kernel
theorem c294_34 : cd 294 34 = some (.iaload, 1) := by decide +kernel
theorem c294_35 : cd 294 35 = some (.iload 1, 1) := by decide +kernel
theorem c294_36 : cd 294 36 = some (.iand, 1) := by decide +kernel
theorem c294_37 : cd 294 37 = some (.invokestatic 132, 3) := by decide +kernel
theorem c294_40 : cd 294 40 = some (.istore 6, 2) := by decide +kernel
theorem c294_42 : cd 294 42 = some (.aload 0, 1) := by decide +kernel
theorem c294_43 : cd 294 43 = some (.getfield 278, 3) := by decide +kernel
theorem c294_46 : cd 294 46 = some (.iload 5, 2) := by decide +kernel
theorem c294_48 : cd 294 48 = some (.sipush 1, 1) := by decide +kernel
theorem c294_49 : cd 294 49 = some (.iadd, 1) := by decide +kernel
theorem c294_50 : cd 294 50 = some (.iaload, 1) := by decide +kernel
theorem c294_51 : cd 294 51 = some (.iload 2, 1) := by decide +kernel
theorem c294_52 : cd 294 52 = some (.invokestatic 117, 3) := by decide +kernel
theorem c294_55 : cd 294 55 = some (.sipush 1, 1) := by decide +kernel
theorem c294_56 : cd 294 56 = some (.if_icmp .ne 71, 3) := by decide +kernel
theorem c294_59 : cd 294 59 = some (.iload 4, 2) := by decide +kernel
theorem c294_61 : cd 294 61 = some (.iload 6, 2) := by decide +kernel
theorem c294_63 : cd 294 63 = some (.invokedynamic 1, 3) := by decide +kernel
theorem c294_66 : cd 294 66 = some (.istore 4, 2) := by decide +kernel
theorem c294_68 : cd 294 68 = some (.goto 80, 3) := by decide +kernel
theorem c294_71 : cd 294 71 = some (.iload 3, 1) := by decide +kernel
theorem c294_72 : cd 294 72 = some (.iload 6, 2) := by decide +kernel
theorem c294_74 : cd 294 74 = some (.sipush 1, 1) := by decide +kernel
theorem c294_75 : cd 294 75 = some (.iadd, 1) := by decide +kernel
theorem c294_76 : cd 294 76 = some (.invokedynamic 2, 3) := by decide +kernel
theorem c294_79 : cd 294 79 = some (.istore 3, 1) := by decide +kernel
theorem c294_80 : cd 294 80 = some (.iinc 5 1, 3) := by decide +kernel
theorem c294_83 : cd 294 83 = some (.goto 11, 3) := by decide +kernel
theorem c294_86 : cd 294 86 = some (.iload 3, 1) := by decide +kernel
theorem c294_87 : cd 294 87 = some (.iload 4, 2) := by decide +kernel
theorem c294_89 : cd 294 89 = some (.if_icmp .gt 148, 3) := by decide +kernel
theorem c294_92 : cd 294 92 = some (.aload 0, 1) := by decide +kernel
theorem c294_93 : cd 294 93 = some (.getfield 262, 3) := by decide +kernel
theorem c294_96 : cd 294 96 = some (.aload 0, 1) := by decide +kernel
theorem c294_97 : cd 294 97 = some (.getfield 272, 3) := by decide +kernel
theorem c294_100 : cd 294 100 = some (.iload 1, 1) := by decide +kernel
theorem c294_101 : cd 294 101 = some (.iastore, 1) := by decide +kernel
theorem c294_102 : cd 294 102 = some (.aload 0, 1) := by decide +kernel
theorem c294_103 : cd 294 103 = some (.getfield 266, 3) := by decide +kernel
theorem c294_106 : cd 294 106 = some (.aload 0, 1) := by decide +kernel
theorem c294_107 : cd 294 107 = some (.getfield 272, 3) := by decide +kernel
theorem c294_110 : cd 294 110 = some (.iload 3, 1) := by decide +kernel
theorem c294_111 : cd 294 111 = some (.iastore, 1) := by decide +kernel
theorem c294_112 : cd 294 112 = some (.aload 0, 1) := by decide +kernel
theorem c294_113 : cd 294 113 = some (.getfield 270, 3) := by decide +kernel
theorem c294_116 : cd 294 116 = some (.aload 0, 1) := by decide +kernel
theorem c294_117 : cd 294 117 = some (.getfield 272, 3) := by decide +kernel
theorem c294_120 : cd 294 120 = some (.iload 4, 2) := by decide +kernel
theorem c294_122 : cd 294 122 = some (.iastore, 1) := by decide +kernel
theorem c294_123 : cd 294 123 = some (.aload 0, 1) := by decide +kernel
theorem c294_124 : cd 294 124 = some (.dup, 1) := by decide +kernel
theorem c294_125 : cd 294 125 = some (.getfield 272, 3) := by decide +kernel
theorem c294_128 : cd 294 128 = some (.sipush 1, 1) := by decide +kernel
theorem c294_129 : cd 294 129 = some (.iadd, 1) := by decide +kernel
theorem c294_130 : cd 294 130 = some (.putfield 272, 3) := by decide +kernel
theorem c294_133 : cd 294 133 = some (.aload 0, 1) := by decide +kernel
theorem c294_134 : cd 294 134 = some (.dup, 1) := by decide +kernel
theorem c294_135 : cd 294 135 = some (.getfield 256, 3) := by decide +kernel
theorem c294_138 : cd 294 138 = some (.iload 4, 2) := by decide +kernel
theorem c294_140 : cd 294 140 = some (.iload 3, 1) := by decide +kernel
theorem c294_141 : cd 294 141 = some (.isub, 1) := by decide +kernel
theorem c294_142 : cd 294 142 = some (.sipush 1, 1) := by decide +kernel
theorem c294_143 : cd 294 143 = some (.iadd, 1) := by decide +kernel
theorem c294_144 : cd 294 144 = some (.iadd, 1) := by decide +kernel
theorem c294_145 : cd 294 145 = some (.putfield 256, 3) := by decide +kernel
theorem c294_148 : cd 294 148 = some (.return_, 1) := by decide +kernel
theorem g294_0 {d : Nat} {a1 : Int} {x0 x2 x3 x4 x5 x6 : Option aV} {w : aW} {Q : Option aV → aW → Prop} : T (d + 1) 294 0 [x0, some (vi a1), x2, x3, x4, x5, x6] [] w Q = T d 132 0 [some (vi a1)] [] w (fun r w1 => T (d + 1) 294 6 [x0, some (vi a1), x2, some (vi 1), x4, x5, x6] (r.toList ++ []) w1 Q) := by
  rw [T_sipush c294_0, T_istore_3 c294_1, T_iload_1 c294_2, T_inv (es := [some (vi a1)]) (st := [vi a1]) (ks := [0]) (n := 1) (as := [vi a1]) (rest := []) c294_3 (by decide +kernel) (by decide +kernel) rfl rfl (Nat.le_of_ble_eq_true rfl)]
  all_goals try simp only [true_and, Nat.reduceAdd, eq_self_iff_true]
theorem g294_6 {d : Nat} {s0 : Int} {x0 x1 x2 x3 x4 x5 x6 : Option aV} {w : aW} {Q : Option aV → aW → Prop} : T d 294 6 [x0, x1, x2, x3, x4, x5, x6] [vi s0] w Q = T d 294 11 [x0, x1, x2, x3, some (vi s0), some (vi 0), x6] [] w Q := by
  rw [T_istore_4 c294_6, T_sipush c294_8, T_istore_5 c294_9]
  all_goals try simp only [true_and, Nat.reduceAdd, eq_self_iff_true]
theorem g294_11 {d : Nat} {a1 a3 a4 a5 : Int} {x2 x6 : Option aV} {w : aW} {Q : Option aV → aW → Prop} : T (d + 1) 294 11 [some (vr 64), some (vi a1), x2, some (vi a3), some (vi a4), some (vi a5), x6] [] w Q = ((w 64 6 ≤ w32 (a5 + 1) → T (d + 1) 294 86 [some (vr 64), some (vi a1), x2, some (vi a3), some (vi a4), some (vi a5), x6] [] w Q) ∧ (¬ (w 64 6 ≤ w32 (a5 + 1)) → ((a4 < a3 → T (d + 1) 294 86 [some (vr 64), some (vi a1), x2, some (vi a3), some (vi a4), some (vi a5), x6] [] w Q) ∧ (¬ (a4 < a3) → ((0 ≤ a5 ∧ a5 < 30) ∧ T d 132 0 [some (vi (jand (w 68 a5) a1))] [] w (fun r w1 => T (d + 1) 294 40 [some (vr 64), some (vi a1), x2, some (vi a3), some (vi a4), some (vi a5), x6] (r.toList ++ []) w1 Q)))))) := by
  rw [T_iload_5 c294_11, T_sipush c294_13, T_iadd c294_14, T_aload_0 c294_15, T_getI 1 6 6 c294_16 rfl rfl rfl rfl, T_icmp_ge 86 c294_19 rfl, T_iload_3 c294_22, T_iload_4 c294_23, T_icmp_gt 86 c294_25 rfl, T_aload_0 c294_28, T_getR 1 5 5 c294_29 rfl rfl rfl rfl, rf_64_5, T_iload_5 c294_32, T_iald c294_34, T_iload_1 c294_35, T_iand c294_36, T_inv (es := [some (vi (jand (w 68 a5) a1))]) (st := [vi (jand (w 68 a5) a1)]) (ks := [0]) (n := 1) (as := [vi (jand (w 68 a5) a1)]) (rest := []) c294_37 (by decide +kernel) (by decide +kernel) rfl rfl (Nat.le_of_ble_eq_true rfl)]
  all_goals try simp only [Int.reduceToNat, lay_64, ld_68, true_and, Nat.reduceAdd, eq_self_iff_true]
theorem g294_40 {d : Nat} {a2 a5 s0 : Int} {x1 x3 x4 x6 : Option aV} {w : aW} {Q : Option aV → aW → Prop} : T (d + 1) 294 40 [some (vr 64), x1, some (vi a2), x3, x4, some (vi a5), x6] [vi s0] w Q = ((0 ≤ w32 (a5 + 1) ∧ w32 (a5 + 1) < 30) ∧ T d 117 0 [some (vi (w 68 (w32 (a5 + 1)))), some (vi a2)] [] w (fun r w1 => T (d + 1) 294 55 [some (vr 64), x1, some (vi a2), x3, x4, some (vi a5), some (vi s0)] (r.toList ++ []) w1 Q)) := by
  rw [T_istore_6 c294_40, T_aload_0 c294_42, T_getR 1 5 5 c294_43 rfl rfl rfl rfl, rf_64_5, T_iload_5 c294_46, T_sipush c294_48, T_iadd c294_49, T_iald c294_50, T_iload_2 c294_51, T_inv (es := [some (vi (w 68 (w32 (a5 + 1)))), some (vi a2)]) (st := [vi a2, vi (w 68 (w32 (a5 + 1)))]) (ks := [0, 0]) (n := 2) (as := [vi (w 68 (w32 (a5 + 1))), vi a2]) (rest := []) c294_52 (by decide +kernel) (by decide +kernel) rfl rfl (Nat.le_of_ble_eq_true rfl)]
  all_goals try simp only [lay_64, ld_68, true_and, Nat.reduceAdd, eq_self_iff_true]
theorem g294_55 {d : Nat} {a3 a4 a6 s0 : Int} {x0 x1 x2 x5 : Option aV} {w : aW} {Q : Option aV → aW → Prop} : T d 294 55 [x0, x1, x2, some (vi a3), some (vi a4), x5, some (vi a6)] [vi s0] w Q = ((¬ s0 = 1 → T d 294 80 [x0, x1, x2, some (vi (if a3 < w32 (a6 + 1) then w32 (a6 + 1) else a3)), some (vi a4), x5, some (vi a6)] [] w Q) ∧ (¬ (¬ s0 = 1) → T d 294 80 [x0, x1, x2, some (vi a3), some (vi (if a6 < a4 then a6 else a4)), x5, some (vi a6)] [] w Q)) := by
  rw [T_sipush c294_55, T_icmp_ne 71 c294_56 rfl, T_iload_3 c294_71, T_iload_6 c294_72, T_sipush c294_74, T_iadd c294_75, T_max (st := []) c294_76 (Nat.le_of_ble_eq_true rfl), T_istore_3 c294_79, T_iload_4 c294_59, T_iload_6 c294_61, T_min (st := []) c294_63 (Nat.le_of_ble_eq_true rfl), T_istore_4 c294_66, T_goto 80 c294_68 rfl]
  all_goals try simp only [Int.reduceToNat, true_and, Nat.reduceAdd, eq_self_iff_true]
theorem g294_80 {d : Nat} {a5 : Int} {x0 x1 x2 x3 x4 x6 : Option aV} {w : aW} {Q : Option aV → aW → Prop} : T d 294 80 [x0, x1, x2, x3, x4, some (vi a5), x6] [] w Q = T d 294 11 [x0, x1, x2, x3, x4, some (vi (w32 (a5 + 1))), x6] [] w Q := by
  rw [T_iinc_5 c294_80, T_goto 11 c294_83 rfl]
  all_goals try simp only [true_and, Nat.reduceAdd, eq_self_iff_true]
theorem g294_86 {d : Nat} {a1 a3 a4 : Int} {x2 x5 x6 : Option aV} {w : aW} {Q : Option aV → aW → Prop} : T d 294 86 [some (vr 64), some (vi a1), x2, some (vi a3), some (vi a4), x5, x6] [] w Q = ((a4 < a3 → T d 294 148 [some (vr 64), some (vi a1), x2, some (vi a3), some (vi a4), x5, x6] [] w Q) ∧ (¬ (a4 < a3) → ((0 ≤ w 64 4 ∧ w 64 4 < 1024) ∧ ((0 ≤ (iup w 65 (w 64 4) a1) 64 4 ∧ (iup w 65 (w 64 4) a1) 64 4 < 1024) ∧ ((0 ≤ (iup (iup w 65 (w 64 4) a1) 66 ((iup w 65 (w 64 4) a1) 64 4) a3) 64 4 ∧ (iup (iup w 65 (w 64 4) a1) 66 ((iup w 65 (w 64 4) a1) 64 4) a3) 64 4 < 1024) ∧ T d 294 148 [some (vr 64), some (vi a1), x2, some (vi a3), some (vi a4), x5, x6] [] (iup (iup (iup (iup (iup w 65 (w 64 4) a1) 66 ((iup w 65 (w 64 4) a1) 64 4) a3) 67 ((iup (iup w 65 (w 64 4) a1) 66 ((iup w 65 (w 64 4) a1) 64 4) a3) 64 4) a4) 64 4 (w32 (((iup (iup (iup w 65 (w 64 4) a1) 66 ((iup w 65 (w 64 4) a1) 64 4) a3) 67 ((iup (iup w 65 (w 64 4) a1) 66 ((iup w 65 (w 64 4) a1) 64 4) a3) 64 4) a4) 64 4) + 1))) 64 0 (w32 (((iup (iup (iup (iup w 65 (w 64 4) a1) 66 ((iup w 65 (w 64 4) a1) 64 4) a3) 67 ((iup (iup w 65 (w 64 4) a1) 66 ((iup w 65 (w 64 4) a1) 64 4) a3) 64 4) a4) 64 4 (w32 (((iup (iup (iup w 65 (w 64 4) a1) 66 ((iup w 65 (w 64 4) a1) 64 4) a3) 67 ((iup (iup w 65 (w 64 4) a1) 66 ((iup w 65 (w 64 4) a1) 64 4) a3) 64 4) a4) 64 4) + 1))) 64 0) + (w32 ((w32 (a4 - a3)) + 1))))) Q))))) := by
  rw [T_iload_3 c294_86, T_iload_4 c294_87, T_icmp_gt 148 c294_89 rfl, T_aload_0 c294_92, T_getR 1 1 1 c294_93 rfl rfl rfl rfl, rf_64_1, T_aload_0 c294_96, T_getI 1 4 4 c294_97 rfl rfl rfl rfl, T_iload_1 c294_100, T_iast c294_101, T_aload_0 c294_102, T_getR 1 2 2 c294_103 rfl rfl rfl rfl, rf_64_2, T_aload_0 c294_106, T_getI 1 4 4 c294_107 rfl rfl rfl rfl, T_iload_3 c294_110, T_iast c294_111, T_aload_0 c294_112, T_getR 1 3 3 c294_113 rfl rfl rfl rfl, rf_64_3, T_aload_0 c294_116, T_getI 1 4 4 c294_117 rfl rfl rfl rfl, T_iload_4 c294_120, T_iast c294_122, T_aload_0 c294_123, T_dup_r c294_124, T_getI 1 4 4 c294_125 rfl rfl rfl rfl, T_sipush c294_128, T_iadd c294_129, T_putI 1 4 4 c294_130 rfl rfl rfl rfl, T_aload_0 c294_133, T_dup_r c294_134, T_getI 1 0 0 c294_135 rfl rfl rfl rfl, T_iload_4 c294_138, T_iload_3 c294_140, T_isub c294_141, T_sipush c294_142, T_iadd c294_143, T_iadd c294_144, T_putI 1 0 0 c294_145 rfl rfl rfl rfl]
  all_goals try simp only [Int.reduceToNat, ia0_65, ia0_66, ia0_67, lay_64, true_and, Nat.reduceAdd, eq_self_iff_true]
theorem g294_148 {d : Nat} {x0 x1 x2 x3 x4 x5 x6 : Option aV} {w : aW} {Q : Option aV → aW → Prop} : T d 294 148 [x0, x1, x2, x3, x4, x5, x6] [] w Q = Q none w := by
  rw [T_vret c294_148 (by decide +kernel)]
  all_goals try simp only [true_and, Nat.reduceAdd, eq_self_iff_true]
