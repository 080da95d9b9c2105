/-! the cells, one by one -/
theorem zero_eq_1 : ((0 : Int) = 1) = False := eq_false (by decide)
theorem one_eq_0 : ((1 : Int) = 0) = False := eq_false (by decide)
theorem ia_of {k t n : Nat} {i : Int} (h : lay k = (100 + t, n)) : (inA k t i = true) = (0 ≤ i ∧ i < (n : Int)) := by
  apply propext
  simp [inA, h]
theorem ld_of {k n : Nat} {i : Int} {w : aW} (hk : k ≠ 999) (h : lay k = (100, n)) : ldok k i w = (0 ≤ i ∧ i < (n : Int)) := by
  unfold ldok; rw [if_neg hk]; exact ia_of (t := 0) h
theorem ld_999 {i : Int} {w : aW} : ldok 999 i w = (0 ≤ i ∧ i < w 999 (-1)) := by
  unfold ldok; rw [if_pos rfl]
theorem lb_of {k n : Nat} {i : Int} (hk : k < 1100) (h : lay k = (102, n) ∨ lay k = (103, n)) : ldbk k i = (0 ≤ i ∧ i < (n : Int)) := by
  unfold ldbk; rw [if_neg (by omega)]
  apply propext
  rcases h with h | h <;> simp [inA, h]
theorem lbv_of {w : aW} {k : Nat} {i : Int} (hk : k < 1100) : ldbv w k i = w k i := by
  unfold ldbv; rw [if_neg (by omega)]
theorem lay_0 : lay 0 = (11, 0) := by decide +kernel
theorem rf_0_0 : rfA 0 0 = 1 := by decide +kernel
theorem rf_0_1 : rfA 0 1 = 16 := by decide +kernel
theorem rf_0_2 : rfA 0 2 = 19 := by decide +kernel
theorem rf_0_3 : rfA 0 3 = 27 := by decide +kernel
theorem rf_0_4 : rfA 0 4 = 50 := by decide +kernel
theorem rf_0_5 : rfA 0 5 = 52 := by decide +kernel
theorem rf_0_6 : rfA 0 6 = 57 := by decide +kernel
theorem rf_0_7 : rfA 0 7 = 64 := by decide +kernel
theorem rf_0_8 : rfA 0 8 = 69 := by decide +kernel
theorem rf_0_9 : rfA 0 9 = 79 := by decide +kernel
theorem rf_0_10 : rfA 0 10 = 83 := by decide +kernel
theorem rf_0_11 : rfA 0 11 = 87 := by decide +kernel
theorem rf_0_13 : rfA 0 13 = 88 := by decide +kernel
theorem rf_0_14 : rfA 0 14 = 89 := by decide +kernel
theorem rf_0_15 : rfA 0 15 = 90 := by decide +kernel
theorem lay_1 : lay 1 = (4, 0) := by decide +kernel
theorem rf_1_0 : rfA 1 0 = 2 := by decide +kernel
theorem rf_1_4 : rfA 1 4 = 3 := by decide +kernel
theorem rf_1_5 : rfA 1 5 = 13 := by decide +kernel
theorem rf_1_6 : rfA 1 6 = 14 := by decide +kernel
theorem rf_1_7 : rfA 1 7 = 15 := by decide +kernel
theorem lay_2 : lay 2 = (102, 900) := by decide +kernel
theorem ia2_2 {i : Int} : (inA 2 2 i = true) = (0 ≤ i ∧ i < 900) := ia_of (t := 2) (n := 900) lay_2
theorem lb_2 {i : Int} : ldbk 2 i = (0 ≤ i ∧ i < 900) := lb_of (n := 900) (by decide) (Or.inl lay_2)
theorem lbv_2 {w : aW} {i : Int} : ldbv w 2 i = w 2 i := lbv_of (by decide)
theorem lay_3 : lay 3 = (8, 0) := by decide +kernel
theorem rf_3_6 : rfA 3 6 = 4 := by decide +kernel
theorem rf_3_7 : rfA 3 7 = 5 := by decide +kernel
theorem rf_3_8 : rfA 3 8 = 6 := by decide +kernel
theorem rf_3_9 : rfA 3 9 = 7 := by decide +kernel
theorem rf_3_10 : rfA 3 10 = 8 := by decide +kernel
theorem rf_3_14 : rfA 3 14 = 9 := by decide +kernel
theorem rf_3_15 : rfA 3 15 = 10 := by decide +kernel
theorem rf_3_16 : rfA 3 16 = 11 := by decide +kernel
theorem rf_3_17 : rfA 3 17 = 12 := by decide +kernel
theorem lay_4 : lay 4 = (100, 10) := by decide +kernel
theorem ia0_4 {i : Int} : (inA 4 0 i = true) = (0 ≤ i ∧ i < 10) := ia_of (t := 0) (n := 10) lay_4
theorem ld_4 {i : Int} {w : aW} : ldok 4 i w = (0 ≤ i ∧ i < 10) := ld_of (n := 10) (by decide) lay_4
theorem lay_5 : lay 5 = (100, 10) := by decide +kernel
theorem ia0_5 {i : Int} : (inA 5 0 i = true) = (0 ≤ i ∧ i < 10) := ia_of (t := 0) (n := 10) lay_5
theorem ld_5 {i : Int} {w : aW} : ldok 5 i w = (0 ≤ i ∧ i < 10) := ld_of (n := 10) (by decide) lay_5
theorem lay_6 : lay 6 = (100, 16) := by decide +kernel
theorem ia0_6 {i : Int} : (inA 6 0 i = true) = (0 ≤ i ∧ i < 16) := ia_of (t := 0) (n := 16) lay_6
theorem ld_6 {i : Int} {w : aW} : ldok 6 i w = (0 ≤ i ∧ i < 16) := ld_of (n := 16) (by decide) lay_6
theorem lay_7 : lay 7 = (100, 16) := by decide +kernel
theorem ia0_7 {i : Int} : (inA 7 0 i = true) = (0 ≤ i ∧ i < 16) := ia_of (t := 0) (n := 16) lay_7
theorem ld_7 {i : Int} {w : aW} : ldok 7 i w = (0 ≤ i ∧ i < 16) := ld_of (n := 16) (by decide) lay_7
theorem lay_8 : lay 8 = (100, 16) := by decide +kernel
theorem ia0_8 {i : Int} : (inA 8 0 i = true) = (0 ≤ i ∧ i < 16) := ia_of (t := 0) (n := 16) lay_8
theorem ld_8 {i : Int} {w : aW} : ldok 8 i w = (0 ≤ i ∧ i < 16) := ld_of (n := 16) (by decide) lay_8
theorem lay_9 : lay 9 = (100, 10) := by decide +kernel
theorem ia0_9 {i : Int} : (inA 9 0 i = true) = (0 ≤ i ∧ i < 10) := ia_of (t := 0) (n := 10) lay_9
theorem ld_9 {i : Int} {w : aW} : ldok 9 i w = (0 ≤ i ∧ i < 10) := ld_of (n := 10) (by decide) lay_9
theorem lay_10 : lay 10 = (100, 10) := by decide +kernel
theorem ia0_10 {i : Int} : (inA 10 0 i = true) = (0 ≤ i ∧ i < 10) := ia_of (t := 0) (n := 10) lay_10
theorem ld_10 {i : Int} {w : aW} : ldok 10 i w = (0 ≤ i ∧ i < 10) := ld_of (n := 10) (by decide) lay_10
theorem lay_11 : lay 11 = (100, 10) := by decide +kernel
theorem ia0_11 {i : Int} : (inA 11 0 i = true) = (0 ≤ i ∧ i < 10) := ia_of (t := 0) (n := 10) lay_11
theorem ld_11 {i : Int} {w : aW} : ldok 11 i w = (0 ≤ i ∧ i < 10) := ld_of (n := 10) (by decide) lay_11
theorem lay_12 : lay 12 = (100, 900) := by decide +kernel
theorem ia0_12 {i : Int} : (inA 12 0 i = true) = (0 ≤ i ∧ i < 900) := ia_of (t := 0) (n := 900) lay_12
theorem ld_12 {i : Int} {w : aW} : ldok 12 i w = (0 ≤ i ∧ i < 900) := ld_of (n := 900) (by decide) lay_12
theorem lay_13 : lay 13 = (100, 901) := by decide +kernel
theorem ia0_13 {i : Int} : (inA 13 0 i = true) = (0 ≤ i ∧ i < 901) := ia_of (t := 0) (n := 901) lay_13
theorem ld_13 {i : Int} {w : aW} : ldok 13 i w = (0 ≤ i ∧ i < 901) := ld_of (n := 901) (by decide) lay_13
theorem lay_14 : lay 14 = (100, 901) := by decide +kernel
theorem ia0_14 {i : Int} : (inA 14 0 i = true) = (0 ≤ i ∧ i < 901) := ia_of (t := 0) (n := 901) lay_14
theorem ld_14 {i : Int} {w : aW} : ldok 14 i w = (0 ≤ i ∧ i < 901) := ld_of (n := 901) (by decide) lay_14
theorem lay_15 : lay 15 = (100, 901) := by decide +kernel
theorem ia0_15 {i : Int} : (inA 15 0 i = true) = (0 ≤ i ∧ i < 901) := ia_of (t := 0) (n := 901) lay_15
theorem ld_15 {i : Int} {w : aW} : ldok 15 i w = (0 ≤ i ∧ i < 901) := ld_of (n := 901) (by decide) lay_15
theorem lay_16 : lay 16 = (2, 0) := by decide +kernel
theorem rf_16_0 : rfA 16 0 = 17 := by decide +kernel
theorem rf_16_2 : rfA 16 2 = 18 := by decide +kernel
theorem lay_17 : lay 17 = (100, 10) := by decide +kernel
theorem ia0_17 {i : Int} : (inA 17 0 i = true) = (0 ≤ i ∧ i < 10) := ia_of (t := 0) (n := 10) lay_17
theorem ld_17 {i : Int} {w : aW} : ldok 17 i w = (0 ≤ i ∧ i < 10) := ld_of (n := 10) (by decide) lay_17
theorem lay_18 : lay 18 = (100, 64) := by decide +kernel
theorem ia0_18 {i : Int} : (inA 18 0 i = true) = (0 ≤ i ∧ i < 64) := ia_of (t := 0) (n := 64) lay_18
theorem ld_18 {i : Int} {w : aW} : ldok 18 i w = (0 ≤ i ∧ i < 64) := ld_of (n := 64) (by decide) lay_18
theorem lay_19 : lay 19 = (0, 0) := by decide +kernel
theorem rf_19_1 : rfA 19 1 = 20 := by decide +kernel
theorem rf_19_2 : rfA 19 2 = 21 := by decide +kernel
theorem rf_19_3 : rfA 19 3 = 22 := by decide +kernel
theorem rf_19_4 : rfA 19 4 = 23 := by decide +kernel
theorem rf_19_5 : rfA 19 5 = 24 := by decide +kernel
theorem rf_19_6 : rfA 19 6 = 25 := by decide +kernel
theorem rf_19_11 : rfA 19 11 = 26 := by decide +kernel
theorem lay_20 : lay 20 = (100, 1024) := by decide +kernel
theorem ia0_20 {i : Int} : (inA 20 0 i = true) = (0 ≤ i ∧ i < 1024) := ia_of (t := 0) (n := 1024) lay_20
theorem ld_20 {i : Int} {w : aW} : ldok 20 i w = (0 ≤ i ∧ i < 1024) := ld_of (n := 1024) (by decide) lay_20
theorem lay_21 : lay 21 = (100, 1024) := by decide +kernel
theorem ia0_21 {i : Int} : (inA 21 0 i = true) = (0 ≤ i ∧ i < 1024) := ia_of (t := 0) (n := 1024) lay_21
theorem ld_21 {i : Int} {w : aW} : ldok 21 i w = (0 ≤ i ∧ i < 1024) := ld_of (n := 1024) (by decide) lay_21
theorem lay_22 : lay 22 = (100, 1024) := by decide +kernel
theorem ia0_22 {i : Int} : (inA 22 0 i = true) = (0 ≤ i ∧ i < 1024) := ia_of (t := 0) (n := 1024) lay_22
theorem ld_22 {i : Int} {w : aW} : ldok 22 i w = (0 ≤ i ∧ i < 1024) := ld_of (n := 1024) (by decide) lay_22
theorem lay_23 : lay 23 = (100, 1024) := by decide +kernel
theorem ia0_23 {i : Int} : (inA 23 0 i = true) = (0 ≤ i ∧ i < 1024) := ia_of (t := 0) (n := 1024) lay_23
theorem ld_23 {i : Int} {w : aW} : ldok 23 i w = (0 ≤ i ∧ i < 1024) := ld_of (n := 1024) (by decide) lay_23
theorem lay_24 : lay 24 = (100, 1024) := by decide +kernel
theorem ia0_24 {i : Int} : (inA 24 0 i = true) = (0 ≤ i ∧ i < 1024) := ia_of (t := 0) (n := 1024) lay_24
theorem ld_24 {i : Int} {w : aW} : ldok 24 i w = (0 ≤ i ∧ i < 1024) := ld_of (n := 1024) (by decide) lay_24
theorem lay_25 : lay 25 = (100, 1024) := by decide +kernel
theorem ia0_25 {i : Int} : (inA 25 0 i = true) = (0 ≤ i ∧ i < 1024) := ia_of (t := 0) (n := 1024) lay_25
theorem ld_25 {i : Int} {w : aW} : ldok 25 i w = (0 ≤ i ∧ i < 1024) := ld_of (n := 1024) (by decide) lay_25
theorem lay_26 : lay 26 = (100, 16) := by decide +kernel
theorem ia0_26 {i : Int} : (inA 26 0 i = true) = (0 ≤ i ∧ i < 16) := ia_of (t := 0) (n := 16) lay_26
theorem ld_26 {i : Int} {w : aW} : ldok 26 i w = (0 ≤ i ∧ i < 16) := ld_of (n := 16) (by decide) lay_26
theorem lay_27 : lay 27 = (10, 0) := by decide +kernel
theorem rf_27_2 : rfA 27 2 = 28 := by decide +kernel
theorem rf_27_3 : rfA 27 3 = 29 := by decide +kernel
theorem rf_27_4 : rfA 27 4 = 30 := by decide +kernel
theorem rf_27_5 : rfA 27 5 = 31 := by decide +kernel
theorem rf_27_6 : rfA 27 6 = 32 := by decide +kernel
theorem lay_28 : lay 28 = (100, 40) := by decide +kernel
theorem ia0_28 {i : Int} : (inA 28 0 i = true) = (0 ≤ i ∧ i < 40) := ia_of (t := 0) (n := 40) lay_28
theorem ld_28 {i : Int} {w : aW} : ldok 28 i w = (0 ≤ i ∧ i < 40) := ld_of (n := 40) (by decide) lay_28
theorem lay_29 : lay 29 = (100, 1024) := by decide +kernel
theorem ia0_29 {i : Int} : (inA 29 0 i = true) = (0 ≤ i ∧ i < 1024) := ia_of (t := 0) (n := 1024) lay_29
theorem ld_29 {i : Int} {w : aW} : ldok 29 i w = (0 ≤ i ∧ i < 1024) := ld_of (n := 1024) (by decide) lay_29
theorem lay_30 : lay 30 = (100, 1024) := by decide +kernel
theorem ia0_30 {i : Int} : (inA 30 0 i = true) = (0 ≤ i ∧ i < 1024) := ia_of (t := 0) (n := 1024) lay_30
theorem ld_30 {i : Int} {w : aW} : ldok 30 i w = (0 ≤ i ∧ i < 1024) := ld_of (n := 1024) (by decide) lay_30
theorem lay_31 : lay 31 = (100, 1024) := by decide +kernel
theorem ia0_31 {i : Int} : (inA 31 0 i = true) = (0 ≤ i ∧ i < 1024) := ia_of (t := 0) (n := 1024) lay_31
theorem ld_31 {i : Int} {w : aW} : ldok 31 i w = (0 ≤ i ∧ i < 1024) := ld_of (n := 1024) (by decide) lay_31
theorem lay_32 : lay 32 = (107, 17) := by decide +kernel
theorem lay_33 : lay 33 = (100, 49) := by decide +kernel
theorem ia0_33 {i : Int} : (inA 33 0 i = true) = (0 ≤ i ∧ i < 49) := ia_of (t := 0) (n := 49) lay_33
theorem ld_33 {i : Int} {w : aW} : ldok 33 i w = (0 ≤ i ∧ i < 49) := ld_of (n := 49) (by decide) lay_33
theorem lay_34 : lay 34 = (100, 49) := by decide +kernel
theorem ia0_34 {i : Int} : (inA 34 0 i = true) = (0 ≤ i ∧ i < 49) := ia_of (t := 0) (n := 49) lay_34
theorem ld_34 {i : Int} {w : aW} : ldok 34 i w = (0 ≤ i ∧ i < 49) := ld_of (n := 49) (by decide) lay_34
theorem lay_35 : lay 35 = (100, 49) := by decide +kernel
theorem ia0_35 {i : Int} : (inA 35 0 i = true) = (0 ≤ i ∧ i < 49) := ia_of (t := 0) (n := 49) lay_35
theorem ld_35 {i : Int} {w : aW} : ldok 35 i w = (0 ≤ i ∧ i < 49) := ld_of (n := 49) (by decide) lay_35
theorem lay_36 : lay 36 = (100, 49) := by decide +kernel
theorem ia0_36 {i : Int} : (inA 36 0 i = true) = (0 ≤ i ∧ i < 49) := ia_of (t := 0) (n := 49) lay_36
theorem ld_36 {i : Int} {w : aW} : ldok 36 i w = (0 ≤ i ∧ i < 49) := ld_of (n := 49) (by decide) lay_36
theorem lay_37 : lay 37 = (100, 49) := by decide +kernel
theorem ia0_37 {i : Int} : (inA 37 0 i = true) = (0 ≤ i ∧ i < 49) := ia_of (t := 0) (n := 49) lay_37
theorem ld_37 {i : Int} {w : aW} : ldok 37 i w = (0 ≤ i ∧ i < 49) := ld_of (n := 49) (by decide) lay_37
theorem lay_38 : lay 38 = (100, 49) := by decide +kernel
theorem ia0_38 {i : Int} : (inA 38 0 i = true) = (0 ≤ i ∧ i < 49) := ia_of (t := 0) (n := 49) lay_38
theorem ld_38 {i : Int} {w : aW} : ldok 38 i w = (0 ≤ i ∧ i < 49) := ld_of (n := 49) (by decide) lay_38
theorem lay_39 : lay 39 = (100, 49) := by decide +kernel
theorem ia0_39 {i : Int} : (inA 39 0 i = true) = (0 ≤ i ∧ i < 49) := ia_of (t := 0) (n := 49) lay_39
theorem ld_39 {i : Int} {w : aW} : ldok 39 i w = (0 ≤ i ∧ i < 49) := ld_of (n := 49) (by decide) lay_39
theorem lay_40 : lay 40 = (100, 49) := by decide +kernel
theorem ia0_40 {i : Int} : (inA 40 0 i = true) = (0 ≤ i ∧ i < 49) := ia_of (t := 0) (n := 49) lay_40
theorem ld_40 {i : Int} {w : aW} : ldok 40 i w = (0 ≤ i ∧ i < 49) := ld_of (n := 49) (by decide) lay_40
theorem lay_41 : lay 41 = (100, 49) := by decide +kernel
theorem ia0_41 {i : Int} : (inA 41 0 i = true) = (0 ≤ i ∧ i < 49) := ia_of (t := 0) (n := 49) lay_41
theorem ld_41 {i : Int} {w : aW} : ldok 41 i w = (0 ≤ i ∧ i < 49) := ld_of (n := 49) (by decide) lay_41
theorem lay_42 : lay 42 = (100, 49) := by decide +kernel
theorem ia0_42 {i : Int} : (inA 42 0 i = true) = (0 ≤ i ∧ i < 49) := ia_of (t := 0) (n := 49) lay_42
theorem ld_42 {i : Int} {w : aW} : ldok 42 i w = (0 ≤ i ∧ i < 49) := ld_of (n := 49) (by decide) lay_42
theorem lay_43 : lay 43 = (100, 49) := by decide +kernel
theorem ia0_43 {i : Int} : (inA 43 0 i = true) = (0 ≤ i ∧ i < 49) := ia_of (t := 0) (n := 49) lay_43
theorem ld_43 {i : Int} {w : aW} : ldok 43 i w = (0 ≤ i ∧ i < 49) := ld_of (n := 49) (by decide) lay_43
theorem lay_44 : lay 44 = (100, 49) := by decide +kernel
theorem ia0_44 {i : Int} : (inA 44 0 i = true) = (0 ≤ i ∧ i < 49) := ia_of (t := 0) (n := 49) lay_44
theorem ld_44 {i : Int} {w : aW} : ldok 44 i w = (0 ≤ i ∧ i < 49) := ld_of (n := 49) (by decide) lay_44
theorem lay_45 : lay 45 = (100, 49) := by decide +kernel
theorem ia0_45 {i : Int} : (inA 45 0 i = true) = (0 ≤ i ∧ i < 49) := ia_of (t := 0) (n := 49) lay_45
theorem ld_45 {i : Int} {w : aW} : ldok 45 i w = (0 ≤ i ∧ i < 49) := ld_of (n := 49) (by decide) lay_45
theorem lay_46 : lay 46 = (100, 49) := by decide +kernel
theorem ia0_46 {i : Int} : (inA 46 0 i = true) = (0 ≤ i ∧ i < 49) := ia_of (t := 0) (n := 49) lay_46
theorem ld_46 {i : Int} {w : aW} : ldok 46 i w = (0 ≤ i ∧ i < 49) := ld_of (n := 49) (by decide) lay_46
theorem lay_47 : lay 47 = (100, 49) := by decide +kernel
theorem ia0_47 {i : Int} : (inA 47 0 i = true) = (0 ≤ i ∧ i < 49) := ia_of (t := 0) (n := 49) lay_47
theorem ld_47 {i : Int} {w : aW} : ldok 47 i w = (0 ≤ i ∧ i < 49) := ld_of (n := 49) (by decide) lay_47
theorem lay_48 : lay 48 = (100, 49) := by decide +kernel
theorem ia0_48 {i : Int} : (inA 48 0 i = true) = (0 ≤ i ∧ i < 49) := ia_of (t := 0) (n := 49) lay_48
theorem ld_48 {i : Int} {w : aW} : ldok 48 i w = (0 ≤ i ∧ i < 49) := ld_of (n := 49) (by decide) lay_48
theorem lay_49 : lay 49 = (100, 49) := by decide +kernel
theorem ia0_49 {i : Int} : (inA 49 0 i = true) = (0 ≤ i ∧ i < 49) := ia_of (t := 0) (n := 49) lay_49
theorem ld_49 {i : Int} {w : aW} : ldok 49 i w = (0 ≤ i ∧ i < 49) := ld_of (n := 49) (by decide) lay_49
theorem lay_50 : lay 50 = (9, 0) := by decide +kernel
theorem rf_50_0 : rfA 50 0 = 51 := by decide +kernel
theorem lay_51 : lay 51 = (100, 10) := by decide +kernel
theorem ia0_51 {i : Int} : (inA 51 0 i = true) = (0 ≤ i ∧ i < 10) := ia_of (t := 0) (n := 10) lay_51
theorem ld_51 {i : Int} {w : aW} : ldok 51 i w = (0 ≤ i ∧ i < 10) := ld_of (n := 10) (by decide) lay_51
theorem lay_52 : lay 52 = (7, 0) := by decide +kernel
theorem rf_52_0 : rfA 52 0 = 53 := by decide +kernel
theorem rf_52_1 : rfA 52 1 = 54 := by decide +kernel
theorem rf_52_2 : rfA 52 2 = 55 := by decide +kernel
theorem rf_52_3 : rfA 52 3 = 56 := by decide +kernel
theorem lay_53 : lay 53 = (100, 7) := by decide +kernel
theorem ia0_53 {i : Int} : (inA 53 0 i = true) = (0 ≤ i ∧ i < 7) := ia_of (t := 0) (n := 7) lay_53
theorem ld_53 {i : Int} {w : aW} : ldok 53 i w = (0 ≤ i ∧ i < 7) := ld_of (n := 7) (by decide) lay_53
theorem lay_54 : lay 54 = (100, 7) := by decide +kernel
theorem ia0_54 {i : Int} : (inA 54 0 i = true) = (0 ≤ i ∧ i < 7) := ia_of (t := 0) (n := 7) lay_54
theorem ld_54 {i : Int} {w : aW} : ldok 54 i w = (0 ≤ i ∧ i < 7) := ld_of (n := 7) (by decide) lay_54
theorem lay_55 : lay 55 = (101, 49) := by decide +kernel
theorem ia1_55 {i : Int} : (inA 55 1 i = true) = (0 ≤ i ∧ i < 49) := ia_of (t := 1) (n := 49) lay_55
theorem lay_56 : lay 56 = (101, 49) := by decide +kernel
theorem ia1_56 {i : Int} : (inA 56 1 i = true) = (0 ≤ i ∧ i < 49) := ia_of (t := 1) (n := 49) lay_56
theorem lay_57 : lay 57 = (5, 0) := by decide +kernel
theorem rf_57_0 : rfA 57 0 = 58 := by decide +kernel
theorem rf_57_1 : rfA 57 1 = 59 := by decide +kernel
theorem rf_57_3 : rfA 57 3 = 60 := by decide +kernel
theorem rf_57_4 : rfA 57 4 = 61 := by decide +kernel
theorem rf_57_5 : rfA 57 5 = 62 := by decide +kernel
theorem rf_57_6 : rfA 57 6 = 63 := by decide +kernel
theorem lay_58 : lay 58 = (100, 9) := by decide +kernel
theorem ia0_58 {i : Int} : (inA 58 0 i = true) = (0 ≤ i ∧ i < 9) := ia_of (t := 0) (n := 9) lay_58
theorem ld_58 {i : Int} {w : aW} : ldok 58 i w = (0 ≤ i ∧ i < 9) := ld_of (n := 9) (by decide) lay_58
theorem lay_59 : lay 59 = (100, 9) := by decide +kernel
theorem ia0_59 {i : Int} : (inA 59 0 i = true) = (0 ≤ i ∧ i < 9) := ia_of (t := 0) (n := 9) lay_59
theorem ld_59 {i : Int} {w : aW} : ldok 59 i w = (0 ≤ i ∧ i < 9) := ld_of (n := 9) (by decide) lay_59
theorem lay_60 : lay 60 = (100, 12) := by decide +kernel
theorem ia0_60 {i : Int} : (inA 60 0 i = true) = (0 ≤ i ∧ i < 12) := ia_of (t := 0) (n := 12) lay_60
theorem ld_60 {i : Int} {w : aW} : ldok 60 i w = (0 ≤ i ∧ i < 12) := ld_of (n := 12) (by decide) lay_60
theorem lay_61 : lay 61 = (100, 12) := by decide +kernel
theorem ia0_61 {i : Int} : (inA 61 0 i = true) = (0 ≤ i ∧ i < 12) := ia_of (t := 0) (n := 12) lay_61
theorem ld_61 {i : Int} {w : aW} : ldok 61 i w = (0 ≤ i ∧ i < 12) := ld_of (n := 12) (by decide) lay_61
theorem lay_62 : lay 62 = (100, 1024) := by decide +kernel
theorem ia0_62 {i : Int} : (inA 62 0 i = true) = (0 ≤ i ∧ i < 1024) := ia_of (t := 0) (n := 1024) lay_62
theorem ld_62 {i : Int} {w : aW} : ldok 62 i w = (0 ≤ i ∧ i < 1024) := ld_of (n := 1024) (by decide) lay_62
theorem lay_63 : lay 63 = (100, 1024) := by decide +kernel
theorem ia0_63 {i : Int} : (inA 63 0 i = true) = (0 ≤ i ∧ i < 1024) := ia_of (t := 0) (n := 1024) lay_63
theorem ld_63 {i : Int} {w : aW} : ldok 63 i w = (0 ≤ i ∧ i < 1024) := ld_of (n := 1024) (by decide) lay_63
theorem lay_64 : lay 64 = (1, 0) := by decide +kernel
theorem rf_64_1 : rfA 64 1 = 65 := by decide +kernel
theorem rf_64_2 : rfA 64 2 = 66 := by decide +kernel
theorem rf_64_3 : rfA 64 3 = 67 := by decide +kernel
theorem rf_64_5 : rfA 64 5 = 68 := by decide +kernel
theorem lay_65 : lay 65 = (100, 1024) := by decide +kernel
theorem ia0_65 {i : Int} : (inA 65 0 i = true) = (0 ≤ i ∧ i < 1024) := ia_of (t := 0) (n := 1024) lay_65
theorem ld_65 {i : Int} {w : aW} : ldok 65 i w = (0 ≤ i ∧ i < 1024) := ld_of (n := 1024) (by decide) lay_65
theorem lay_66 : lay 66 = (100, 1024) := by decide +kernel
theorem ia0_66 {i : Int} : (inA 66 0 i = true) = (0 ≤ i ∧ i < 1024) := ia_of (t := 0) (n := 1024) lay_66
theorem ld_66 {i : Int} {w : aW} : ldok 66 i w = (0 ≤ i ∧ i < 1024) := ld_of (n := 1024) (by decide) lay_66
theorem lay_67 : lay 67 = (100, 1024) := by decide +kernel
theorem ia0_67 {i : Int} : (inA 67 0 i = true) = (0 ≤ i ∧ i < 1024) := ia_of (t := 0) (n := 1024) lay_67
theorem ld_67 {i : Int} {w : aW} : ldok 67 i w = (0 ≤ i ∧ i < 1024) := ld_of (n := 1024) (by decide) lay_67
theorem lay_68 : lay 68 = (100, 30) := by decide +kernel
theorem ia0_68 {i : Int} : (inA 68 0 i = true) = (0 ≤ i ∧ i < 30) := ia_of (t := 0) (n := 30) lay_68
theorem ld_68 {i : Int} {w : aW} : ldok 68 i w = (0 ≤ i ∧ i < 30) := ld_of (n := 30) (by decide) lay_68
theorem lay_69 : lay 69 = (8, 0) := by decide +kernel
theorem rf_69_6 : rfA 69 6 = 70 := by decide +kernel
theorem rf_69_7 : rfA 69 7 = 71 := by decide +kernel
theorem rf_69_8 : rfA 69 8 = 72 := by decide +kernel
theorem rf_69_9 : rfA 69 9 = 73 := by decide +kernel
theorem rf_69_10 : rfA 69 10 = 74 := by decide +kernel
theorem rf_69_14 : rfA 69 14 = 75 := by decide +kernel
theorem rf_69_15 : rfA 69 15 = 76 := by decide +kernel
theorem rf_69_16 : rfA 69 16 = 77 := by decide +kernel
theorem rf_69_17 : rfA 69 17 = 78 := by decide +kernel
theorem lay_70 : lay 70 = (100, 10) := by decide +kernel
theorem ia0_70 {i : Int} : (inA 70 0 i = true) = (0 ≤ i ∧ i < 10) := ia_of (t := 0) (n := 10) lay_70
theorem ld_70 {i : Int} {w : aW} : ldok 70 i w = (0 ≤ i ∧ i < 10) := ld_of (n := 10) (by decide) lay_70
theorem lay_71 : lay 71 = (100, 10) := by decide +kernel
theorem ia0_71 {i : Int} : (inA 71 0 i = true) = (0 ≤ i ∧ i < 10) := ia_of (t := 0) (n := 10) lay_71
theorem ld_71 {i : Int} {w : aW} : ldok 71 i w = (0 ≤ i ∧ i < 10) := ld_of (n := 10) (by decide) lay_71
theorem lay_72 : lay 72 = (100, 16) := by decide +kernel
theorem ia0_72 {i : Int} : (inA 72 0 i = true) = (0 ≤ i ∧ i < 16) := ia_of (t := 0) (n := 16) lay_72
theorem ld_72 {i : Int} {w : aW} : ldok 72 i w = (0 ≤ i ∧ i < 16) := ld_of (n := 16) (by decide) lay_72
theorem lay_73 : lay 73 = (100, 16) := by decide +kernel
theorem ia0_73 {i : Int} : (inA 73 0 i = true) = (0 ≤ i ∧ i < 16) := ia_of (t := 0) (n := 16) lay_73
theorem ld_73 {i : Int} {w : aW} : ldok 73 i w = (0 ≤ i ∧ i < 16) := ld_of (n := 16) (by decide) lay_73
theorem lay_74 : lay 74 = (100, 16) := by decide +kernel
theorem ia0_74 {i : Int} : (inA 74 0 i = true) = (0 ≤ i ∧ i < 16) := ia_of (t := 0) (n := 16) lay_74
theorem ld_74 {i : Int} {w : aW} : ldok 74 i w = (0 ≤ i ∧ i < 16) := ld_of (n := 16) (by decide) lay_74
theorem lay_75 : lay 75 = (100, 10) := by decide +kernel
theorem ia0_75 {i : Int} : (inA 75 0 i = true) = (0 ≤ i ∧ i < 10) := ia_of (t := 0) (n := 10) lay_75
theorem ld_75 {i : Int} {w : aW} : ldok 75 i w = (0 ≤ i ∧ i < 10) := ld_of (n := 10) (by decide) lay_75
theorem lay_76 : lay 76 = (100, 10) := by decide +kernel
theorem ia0_76 {i : Int} : (inA 76 0 i = true) = (0 ≤ i ∧ i < 10) := ia_of (t := 0) (n := 10) lay_76
theorem ld_76 {i : Int} {w : aW} : ldok 76 i w = (0 ≤ i ∧ i < 10) := ld_of (n := 10) (by decide) lay_76
theorem lay_77 : lay 77 = (100, 10) := by decide +kernel
theorem ia0_77 {i : Int} : (inA 77 0 i = true) = (0 ≤ i ∧ i < 10) := ia_of (t := 0) (n := 10) lay_77
theorem ld_77 {i : Int} {w : aW} : ldok 77 i w = (0 ≤ i ∧ i < 10) := ld_of (n := 10) (by decide) lay_77
theorem lay_78 : lay 78 = (100, 900) := by decide +kernel
theorem ia0_78 {i : Int} : (inA 78 0 i = true) = (0 ≤ i ∧ i < 900) := ia_of (t := 0) (n := 900) lay_78
theorem ld_78 {i : Int} {w : aW} : ldok 78 i w = (0 ≤ i ∧ i < 900) := ld_of (n := 900) (by decide) lay_78
theorem lay_79 : lay 79 = (6, 0) := by decide +kernel
theorem rf_79_2 : rfA 79 2 = 80 := by decide +kernel
theorem rf_79_3 : rfA 79 3 = 81 := by decide +kernel
theorem rf_79_4 : rfA 79 4 = 82 := by decide +kernel
theorem lay_80 : lay 80 = (100, 16) := by decide +kernel
theorem ia0_80 {i : Int} : (inA 80 0 i = true) = (0 ≤ i ∧ i < 16) := ia_of (t := 0) (n := 16) lay_80
theorem ld_80 {i : Int} {w : aW} : ldok 80 i w = (0 ≤ i ∧ i < 16) := ld_of (n := 16) (by decide) lay_80
theorem lay_81 : lay 81 = (100, 16) := by decide +kernel
theorem ia0_81 {i : Int} : (inA 81 0 i = true) = (0 ≤ i ∧ i < 16) := ia_of (t := 0) (n := 16) lay_81
theorem ld_81 {i : Int} {w : aW} : ldok 81 i w = (0 ≤ i ∧ i < 16) := ld_of (n := 16) (by decide) lay_81
theorem lay_82 : lay 82 = (100, 10) := by decide +kernel
theorem ia0_82 {i : Int} : (inA 82 0 i = true) = (0 ≤ i ∧ i < 10) := ia_of (t := 0) (n := 10) lay_82
theorem ld_82 {i : Int} {w : aW} : ldok 82 i w = (0 ≤ i ∧ i < 10) := ld_of (n := 10) (by decide) lay_82
theorem lay_83 : lay 83 = (6, 0) := by decide +kernel
theorem rf_83_2 : rfA 83 2 = 84 := by decide +kernel
theorem rf_83_3 : rfA 83 3 = 85 := by decide +kernel
theorem rf_83_4 : rfA 83 4 = 86 := by decide +kernel
theorem lay_84 : lay 84 = (100, 16) := by decide +kernel
theorem ia0_84 {i : Int} : (inA 84 0 i = true) = (0 ≤ i ∧ i < 16) := ia_of (t := 0) (n := 16) lay_84
theorem ld_84 {i : Int} {w : aW} : ldok 84 i w = (0 ≤ i ∧ i < 16) := ld_of (n := 16) (by decide) lay_84
theorem lay_85 : lay 85 = (100, 16) := by decide +kernel
theorem ia0_85 {i : Int} : (inA 85 0 i = true) = (0 ≤ i ∧ i < 16) := ia_of (t := 0) (n := 16) lay_85
theorem ld_85 {i : Int} {w : aW} : ldok 85 i w = (0 ≤ i ∧ i < 16) := ld_of (n := 16) (by decide) lay_85
theorem lay_86 : lay 86 = (100, 10) := by decide +kernel
theorem ia0_86 {i : Int} : (inA 86 0 i = true) = (0 ≤ i ∧ i < 10) := ia_of (t := 0) (n := 10) lay_86
theorem ld_86 {i : Int} {w : aW} : ldok 86 i w = (0 ≤ i ∧ i < 10) := ld_of (n := 10) (by decide) lay_86
theorem lay_87 : lay 87 = (104, 10) := by decide +kernel
theorem lay_88 : lay 88 = (105, 4) := by decide +kernel
theorem lay_89 : lay 89 = (106, 2) := by decide +kernel
theorem lay_90 : lay 90 = (104, 2) := by decide +kernel
theorem lay_91 : lay 91 = (6, 0) := by decide +kernel
theorem rf_91_2 : rfA 91 2 = 92 := by decide +kernel
theorem rf_91_3 : rfA 91 3 = 93 := by decide +kernel
theorem rf_91_4 : rfA 91 4 = 94 := by decide +kernel
theorem lay_92 : lay 92 = (100, 16) := by decide +kernel
theorem ia0_92 {i : Int} : (inA 92 0 i = true) = (0 ≤ i ∧ i < 16) := ia_of (t := 0) (n := 16) lay_92
theorem ld_92 {i : Int} {w : aW} : ldok 92 i w = (0 ≤ i ∧ i < 16) := ld_of (n := 16) (by decide) lay_92
theorem lay_93 : lay 93 = (100, 16) := by decide +kernel
theorem ia0_93 {i : Int} : (inA 93 0 i = true) = (0 ≤ i ∧ i < 16) := ia_of (t := 0) (n := 16) lay_93
theorem ld_93 {i : Int} {w : aW} : ldok 93 i w = (0 ≤ i ∧ i < 16) := ld_of (n := 16) (by decide) lay_93
theorem lay_94 : lay 94 = (100, 10) := by decide +kernel
theorem ia0_94 {i : Int} : (inA 94 0 i = true) = (0 ≤ i ∧ i < 10) := ia_of (t := 0) (n := 10) lay_94
theorem ld_94 {i : Int} {w : aW} : ldok 94 i w = (0 ≤ i ∧ i < 10) := ld_of (n := 10) (by decide) lay_94
theorem lay_95 : lay 95 = (6, 0) := by decide +kernel
theorem rf_95_2 : rfA 95 2 = 96 := by decide +kernel
theorem rf_95_3 : rfA 95 3 = 97 := by decide +kernel
theorem rf_95_4 : rfA 95 4 = 98 := by decide +kernel
theorem lay_96 : lay 96 = (100, 16) := by decide +kernel
theorem ia0_96 {i : Int} : (inA 96 0 i = true) = (0 ≤ i ∧ i < 16) := ia_of (t := 0) (n := 16) lay_96
theorem ld_96 {i : Int} {w : aW} : ldok 96 i w = (0 ≤ i ∧ i < 16) := ld_of (n := 16) (by decide) lay_96
theorem lay_97 : lay 97 = (100, 16) := by decide +kernel
theorem ia0_97 {i : Int} : (inA 97 0 i = true) = (0 ≤ i ∧ i < 16) := ia_of (t := 0) (n := 16) lay_97
theorem ld_97 {i : Int} {w : aW} : ldok 97 i w = (0 ≤ i ∧ i < 16) := ld_of (n := 16) (by decide) lay_97
theorem lay_98 : lay 98 = (100, 10) := by decide +kernel
theorem ia0_98 {i : Int} : (inA 98 0 i = true) = (0 ≤ i ∧ i < 10) := ia_of (t := 0) (n := 10) lay_98
theorem ld_98 {i : Int} {w : aW} : ldok 98 i w = (0 ≤ i ∧ i < 10) := ld_of (n := 10) (by decide) lay_98
theorem lay_99 : lay 99 = (6, 0) := by decide +kernel
theorem rf_99_2 : rfA 99 2 = 100 := by decide +kernel
theorem rf_99_3 : rfA 99 3 = 101 := by decide +kernel
theorem rf_99_4 : rfA 99 4 = 102 := by decide +kernel
theorem lay_100 : lay 100 = (100, 16) := by decide +kernel
theorem ia0_100 {i : Int} : (inA 100 0 i = true) = (0 ≤ i ∧ i < 16) := ia_of (t := 0) (n := 16) lay_100
theorem ld_100 {i : Int} {w : aW} : ldok 100 i w = (0 ≤ i ∧ i < 16) := ld_of (n := 16) (by decide) lay_100
theorem lay_101 : lay 101 = (100, 16) := by decide +kernel
theorem ia0_101 {i : Int} : (inA 101 0 i = true) = (0 ≤ i ∧ i < 16) := ia_of (t := 0) (n := 16) lay_101
theorem ld_101 {i : Int} {w : aW} : ldok 101 i w = (0 ≤ i ∧ i < 16) := ld_of (n := 16) (by decide) lay_101
theorem lay_102 : lay 102 = (100, 10) := by decide +kernel
theorem ia0_102 {i : Int} : (inA 102 0 i = true) = (0 ≤ i ∧ i < 10) := ia_of (t := 0) (n := 10) lay_102
theorem ld_102 {i : Int} {w : aW} : ldok 102 i w = (0 ≤ i ∧ i < 10) := ld_of (n := 10) (by decide) lay_102
theorem lay_103 : lay 103 = (6, 0) := by decide +kernel
theorem rf_103_2 : rfA 103 2 = 104 := by decide +kernel
theorem rf_103_3 : rfA 103 3 = 105 := by decide +kernel
theorem rf_103_4 : rfA 103 4 = 106 := by decide +kernel
theorem lay_104 : lay 104 = (100, 16) := by decide +kernel
theorem ia0_104 {i : Int} : (inA 104 0 i = true) = (0 ≤ i ∧ i < 16) := ia_of (t := 0) (n := 16) lay_104
theorem ld_104 {i : Int} {w : aW} : ldok 104 i w = (0 ≤ i ∧ i < 16) := ld_of (n := 16) (by decide) lay_104
theorem lay_105 : lay 105 = (100, 16) := by decide +kernel
theorem ia0_105 {i : Int} : (inA 105 0 i = true) = (0 ≤ i ∧ i < 16) := ia_of (t := 0) (n := 16) lay_105
theorem ld_105 {i : Int} {w : aW} : ldok 105 i w = (0 ≤ i ∧ i < 16) := ld_of (n := 16) (by decide) lay_105
theorem lay_106 : lay 106 = (100, 10) := by decide +kernel
theorem ia0_106 {i : Int} : (inA 106 0 i = true) = (0 ≤ i ∧ i < 10) := ia_of (t := 0) (n := 10) lay_106
theorem ld_106 {i : Int} {w : aW} : ldok 106 i w = (0 ≤ i ∧ i < 10) := ld_of (n := 10) (by decide) lay_106
theorem lay_107 : lay 107 = (6, 0) := by decide +kernel
theorem rf_107_2 : rfA 107 2 = 108 := by decide +kernel
theorem rf_107_3 : rfA 107 3 = 109 := by decide +kernel
theorem rf_107_4 : rfA 107 4 = 110 := by decide +kernel
theorem lay_108 : lay 108 = (100, 16) := by decide +kernel
theorem ia0_108 {i : Int} : (inA 108 0 i = true) = (0 ≤ i ∧ i < 16) := ia_of (t := 0) (n := 16) lay_108
theorem ld_108 {i : Int} {w : aW} : ldok 108 i w = (0 ≤ i ∧ i < 16) := ld_of (n := 16) (by decide) lay_108
theorem lay_109 : lay 109 = (100, 16) := by decide +kernel
theorem ia0_109 {i : Int} : (inA 109 0 i = true) = (0 ≤ i ∧ i < 16) := ia_of (t := 0) (n := 16) lay_109
theorem ld_109 {i : Int} {w : aW} : ldok 109 i w = (0 ≤ i ∧ i < 16) := ld_of (n := 16) (by decide) lay_109
theorem lay_110 : lay 110 = (100, 10) := by decide +kernel
theorem ia0_110 {i : Int} : (inA 110 0 i = true) = (0 ≤ i ∧ i < 10) := ia_of (t := 0) (n := 10) lay_110
theorem ld_110 {i : Int} {w : aW} : ldok 110 i w = (0 ≤ i ∧ i < 10) := ld_of (n := 10) (by decide) lay_110
theorem lay_111 : lay 111 = (6, 0) := by decide +kernel
theorem rf_111_2 : rfA 111 2 = 112 := by decide +kernel
theorem rf_111_3 : rfA 111 3 = 113 := by decide +kernel
theorem rf_111_4 : rfA 111 4 = 114 := by decide +kernel
theorem lay_112 : lay 112 = (100, 16) := by decide +kernel
theorem ia0_112 {i : Int} : (inA 112 0 i = true) = (0 ≤ i ∧ i < 16) := ia_of (t := 0) (n := 16) lay_112
theorem ld_112 {i : Int} {w : aW} : ldok 112 i w = (0 ≤ i ∧ i < 16) := ld_of (n := 16) (by decide) lay_112
theorem lay_113 : lay 113 = (100, 16) := by decide +kernel
theorem ia0_113 {i : Int} : (inA 113 0 i = true) = (0 ≤ i ∧ i < 16) := ia_of (t := 0) (n := 16) lay_113
theorem ld_113 {i : Int} {w : aW} : ldok 113 i w = (0 ≤ i ∧ i < 16) := ld_of (n := 16) (by decide) lay_113
theorem lay_114 : lay 114 = (100, 10) := by decide +kernel
theorem ia0_114 {i : Int} : (inA 114 0 i = true) = (0 ≤ i ∧ i < 10) := ia_of (t := 0) (n := 10) lay_114
theorem ld_114 {i : Int} {w : aW} : ldok 114 i w = (0 ≤ i ∧ i < 10) := ld_of (n := 10) (by decide) lay_114
theorem lay_115 : lay 115 = (6, 0) := by decide +kernel
theorem rf_115_2 : rfA 115 2 = 116 := by decide +kernel
theorem rf_115_3 : rfA 115 3 = 117 := by decide +kernel
theorem rf_115_4 : rfA 115 4 = 118 := by decide +kernel
theorem lay_116 : lay 116 = (100, 16) := by decide +kernel
theorem ia0_116 {i : Int} : (inA 116 0 i = true) = (0 ≤ i ∧ i < 16) := ia_of (t := 0) (n := 16) lay_116
theorem ld_116 {i : Int} {w : aW} : ldok 116 i w = (0 ≤ i ∧ i < 16) := ld_of (n := 16) (by decide) lay_116
theorem lay_117 : lay 117 = (100, 16) := by decide +kernel
theorem ia0_117 {i : Int} : (inA 117 0 i = true) = (0 ≤ i ∧ i < 16) := ia_of (t := 0) (n := 16) lay_117
theorem ld_117 {i : Int} {w : aW} : ldok 117 i w = (0 ≤ i ∧ i < 16) := ld_of (n := 16) (by decide) lay_117
theorem lay_118 : lay 118 = (100, 10) := by decide +kernel
theorem ia0_118 {i : Int} : (inA 118 0 i = true) = (0 ≤ i ∧ i < 10) := ia_of (t := 0) (n := 10) lay_118
theorem ld_118 {i : Int} {w : aW} : ldok 118 i w = (0 ≤ i ∧ i < 10) := ld_of (n := 10) (by decide) lay_118
theorem lay_119 : lay 119 = (6, 0) := by decide +kernel
theorem rf_119_2 : rfA 119 2 = 120 := by decide +kernel
theorem rf_119_3 : rfA 119 3 = 121 := by decide +kernel
theorem rf_119_4 : rfA 119 4 = 122 := by decide +kernel
theorem lay_120 : lay 120 = (100, 16) := by decide +kernel
theorem ia0_120 {i : Int} : (inA 120 0 i = true) = (0 ≤ i ∧ i < 16) := ia_of (t := 0) (n := 16) lay_120
theorem ld_120 {i : Int} {w : aW} : ldok 120 i w = (0 ≤ i ∧ i < 16) := ld_of (n := 16) (by decide) lay_120
theorem lay_121 : lay 121 = (100, 16) := by decide +kernel
theorem ia0_121 {i : Int} : (inA 121 0 i = true) = (0 ≤ i ∧ i < 16) := ia_of (t := 0) (n := 16) lay_121
theorem ld_121 {i : Int} {w : aW} : ldok 121 i w = (0 ≤ i ∧ i < 16) := ld_of (n := 16) (by decide) lay_121
theorem lay_122 : lay 122 = (100, 10) := by decide +kernel
theorem ia0_122 {i : Int} : (inA 122 0 i = true) = (0 ≤ i ∧ i < 10) := ia_of (t := 0) (n := 10) lay_122
theorem ld_122 {i : Int} {w : aW} : ldok 122 i w = (0 ≤ i ∧ i < 10) := ld_of (n := 10) (by decide) lay_122
theorem lay_123 : lay 123 = (6, 0) := by decide +kernel
theorem rf_123_2 : rfA 123 2 = 124 := by decide +kernel
theorem rf_123_3 : rfA 123 3 = 125 := by decide +kernel
theorem rf_123_4 : rfA 123 4 = 126 := by decide +kernel
theorem lay_124 : lay 124 = (100, 16) := by decide +kernel
theorem ia0_124 {i : Int} : (inA 124 0 i = true) = (0 ≤ i ∧ i < 16) := ia_of (t := 0) (n := 16) lay_124
theorem ld_124 {i : Int} {w : aW} : ldok 124 i w = (0 ≤ i ∧ i < 16) := ld_of (n := 16) (by decide) lay_124
theorem lay_125 : lay 125 = (100, 16) := by decide +kernel
theorem ia0_125 {i : Int} : (inA 125 0 i = true) = (0 ≤ i ∧ i < 16) := ia_of (t := 0) (n := 16) lay_125
theorem ld_125 {i : Int} {w : aW} : ldok 125 i w = (0 ≤ i ∧ i < 16) := ld_of (n := 16) (by decide) lay_125
theorem lay_126 : lay 126 = (100, 10) := by decide +kernel
theorem ia0_126 {i : Int} : (inA 126 0 i = true) = (0 ≤ i ∧ i < 10) := ia_of (t := 0) (n := 10) lay_126
theorem ld_126 {i : Int} {w : aW} : ldok 126 i w = (0 ≤ i ∧ i < 10) := ld_of (n := 10) (by decide) lay_126
theorem lay_127 : lay 127 = (6, 0) := by decide +kernel
theorem rf_127_2 : rfA 127 2 = 128 := by decide +kernel
theorem rf_127_3 : rfA 127 3 = 129 := by decide +kernel
theorem rf_127_4 : rfA 127 4 = 130 := by decide +kernel
theorem lay_128 : lay 128 = (100, 16) := by decide +kernel
theorem ia0_128 {i : Int} : (inA 128 0 i = true) = (0 ≤ i ∧ i < 16) := ia_of (t := 0) (n := 16) lay_128
theorem ld_128 {i : Int} {w : aW} : ldok 128 i w = (0 ≤ i ∧ i < 16) := ld_of (n := 16) (by decide) lay_128
theorem lay_129 : lay 129 = (100, 16) := by decide +kernel
theorem ia0_129 {i : Int} : (inA 129 0 i = true) = (0 ≤ i ∧ i < 16) := ia_of (t := 0) (n := 16) lay_129
theorem ld_129 {i : Int} {w : aW} : ldok 129 i w = (0 ≤ i ∧ i < 16) := ld_of (n := 16) (by decide) lay_129
theorem lay_130 : lay 130 = (100, 10) := by decide +kernel
theorem ia0_130 {i : Int} : (inA 130 0 i = true) = (0 ≤ i ∧ i < 10) := ia_of (t := 0) (n := 10) lay_130
theorem ld_130 {i : Int} {w : aW} : ldok 130 i w = (0 ≤ i ∧ i < 10) := ld_of (n := 10) (by decide) lay_130
theorem lay_131 : lay 131 = (3, 0) := by decide +kernel
theorem rf_131_1 : rfA 131 1 = 132 := by decide +kernel
theorem lay_132 : lay 132 = (101, 40) := by decide +kernel
theorem ia1_132 {i : Int} : (inA 132 1 i = true) = (0 ≤ i ∧ i < 40) := ia_of (t := 1) (n := 40) lay_132
theorem lay_133 : lay 133 = (3, 0) := by decide +kernel
theorem rf_133_1 : rfA 133 1 = 134 := by decide +kernel
theorem lay_134 : lay 134 = (101, 40) := by decide +kernel
theorem ia1_134 {i : Int} : (inA 134 1 i = true) = (0 ≤ i ∧ i < 40) := ia_of (t := 1) (n := 40) lay_134
theorem lay_135 : lay 135 = (3, 0) := by decide +kernel
theorem rf_135_1 : rfA 135 1 = 136 := by decide +kernel
theorem lay_136 : lay 136 = (101, 40) := by decide +kernel
theorem ia1_136 {i : Int} : (inA 136 1 i = true) = (0 ≤ i ∧ i < 40) := ia_of (t := 1) (n := 40) lay_136
theorem lay_137 : lay 137 = (3, 0) := by decide +kernel
theorem rf_137_1 : rfA 137 1 = 138 := by decide +kernel
theorem lay_138 : lay 138 = (101, 40) := by decide +kernel
theorem ia1_138 {i : Int} : (inA 138 1 i = true) = (0 ≤ i ∧ i < 40) := ia_of (t := 1) (n := 40) lay_138
theorem lay_139 : lay 139 = (8, 0) := by decide +kernel
theorem rf_139_6 : rfA 139 6 = 140 := by decide +kernel
theorem rf_139_7 : rfA 139 7 = 141 := by decide +kernel
theorem rf_139_8 : rfA 139 8 = 142 := by decide +kernel
theorem rf_139_9 : rfA 139 9 = 143 := by decide +kernel
theorem rf_139_10 : rfA 139 10 = 144 := by decide +kernel
theorem rf_139_14 : rfA 139 14 = 145 := by decide +kernel
theorem rf_139_15 : rfA 139 15 = 146 := by decide +kernel
theorem rf_139_16 : rfA 139 16 = 147 := by decide +kernel
theorem rf_139_17 : rfA 139 17 = 148 := by decide +kernel
theorem lay_140 : lay 140 = (100, 10) := by decide +kernel
theorem ia0_140 {i : Int} : (inA 140 0 i = true) = (0 ≤ i ∧ i < 10) := ia_of (t := 0) (n := 10) lay_140
theorem ld_140 {i : Int} {w : aW} : ldok 140 i w = (0 ≤ i ∧ i < 10) := ld_of (n := 10) (by decide) lay_140
theorem lay_141 : lay 141 = (100, 10) := by decide +kernel
theorem ia0_141 {i : Int} : (inA 141 0 i = true) = (0 ≤ i ∧ i < 10) := ia_of (t := 0) (n := 10) lay_141
theorem ld_141 {i : Int} {w : aW} : ldok 141 i w = (0 ≤ i ∧ i < 10) := ld_of (n := 10) (by decide) lay_141
theorem lay_142 : lay 142 = (100, 16) := by decide +kernel
theorem ia0_142 {i : Int} : (inA 142 0 i = true) = (0 ≤ i ∧ i < 16) := ia_of (t := 0) (n := 16) lay_142
theorem ld_142 {i : Int} {w : aW} : ldok 142 i w = (0 ≤ i ∧ i < 16) := ld_of (n := 16) (by decide) lay_142
theorem lay_143 : lay 143 = (100, 16) := by decide +kernel
theorem ia0_143 {i : Int} : (inA 143 0 i = true) = (0 ≤ i ∧ i < 16) := ia_of (t := 0) (n := 16) lay_143
theorem ld_143 {i : Int} {w : aW} : ldok 143 i w = (0 ≤ i ∧ i < 16) := ld_of (n := 16) (by decide) lay_143
theorem lay_144 : lay 144 = (100, 16) := by decide +kernel
theorem ia0_144 {i : Int} : (inA 144 0 i = true) = (0 ≤ i ∧ i < 16) := ia_of (t := 0) (n := 16) lay_144
theorem ld_144 {i : Int} {w : aW} : ldok 144 i w = (0 ≤ i ∧ i < 16) := ld_of (n := 16) (by decide) lay_144
theorem lay_145 : lay 145 = (100, 10) := by decide +kernel
theorem ia0_145 {i : Int} : (inA 145 0 i = true) = (0 ≤ i ∧ i < 10) := ia_of (t := 0) (n := 10) lay_145
theorem ld_145 {i : Int} {w : aW} : ldok 145 i w = (0 ≤ i ∧ i < 10) := ld_of (n := 10) (by decide) lay_145
theorem lay_146 : lay 146 = (100, 10) := by decide +kernel
theorem ia0_146 {i : Int} : (inA 146 0 i = true) = (0 ≤ i ∧ i < 10) := ia_of (t := 0) (n := 10) lay_146
theorem ld_146 {i : Int} {w : aW} : ldok 146 i w = (0 ≤ i ∧ i < 10) := ld_of (n := 10) (by decide) lay_146
theorem lay_147 : lay 147 = (100, 10) := by decide +kernel
theorem ia0_147 {i : Int} : (inA 147 0 i = true) = (0 ≤ i ∧ i < 10) := ia_of (t := 0) (n := 10) lay_147
theorem ld_147 {i : Int} {w : aW} : ldok 147 i w = (0 ≤ i ∧ i < 10) := ld_of (n := 10) (by decide) lay_147
theorem lay_148 : lay 148 = (100, 900) := by decide +kernel
theorem ia0_148 {i : Int} : (inA 148 0 i = true) = (0 ≤ i ∧ i < 900) := ia_of (t := 0) (n := 900) lay_148
theorem ld_148 {i : Int} {w : aW} : ldok 148 i w = (0 ≤ i ∧ i < 900) := ld_of (n := 900) (by decide) lay_148
theorem lay_149 : lay 149 = (6, 0) := by decide +kernel
theorem rf_149_2 : rfA 149 2 = 150 := by decide +kernel
theorem rf_149_3 : rfA 149 3 = 151 := by decide +kernel
theorem rf_149_4 : rfA 149 4 = 152 := by decide +kernel
theorem lay_150 : lay 150 = (100, 16) := by decide +kernel
theorem ia0_150 {i : Int} : (inA 150 0 i = true) = (0 ≤ i ∧ i < 16) := ia_of (t := 0) (n := 16) lay_150
theorem ld_150 {i : Int} {w : aW} : ldok 150 i w = (0 ≤ i ∧ i < 16) := ld_of (n := 16) (by decide) lay_150
theorem lay_151 : lay 151 = (100, 16) := by decide +kernel
theorem ia0_151 {i : Int} : (inA 151 0 i = true) = (0 ≤ i ∧ i < 16) := ia_of (t := 0) (n := 16) lay_151
theorem ld_151 {i : Int} {w : aW} : ldok 151 i w = (0 ≤ i ∧ i < 16) := ld_of (n := 16) (by decide) lay_151
theorem lay_152 : lay 152 = (100, 10) := by decide +kernel
theorem ia0_152 {i : Int} : (inA 152 0 i = true) = (0 ≤ i ∧ i < 10) := ia_of (t := 0) (n := 10) lay_152
theorem ld_152 {i : Int} {w : aW} : ldok 152 i w = (0 ≤ i ∧ i < 10) := ld_of (n := 10) (by decide) lay_152
theorem lay_153 : lay 153 = (8, 0) := by decide +kernel
theorem rf_153_6 : rfA 153 6 = 154 := by decide +kernel
theorem rf_153_7 : rfA 153 7 = 155 := by decide +kernel
theorem rf_153_8 : rfA 153 8 = 156 := by decide +kernel
theorem rf_153_9 : rfA 153 9 = 157 := by decide +kernel
theorem rf_153_10 : rfA 153 10 = 158 := by decide +kernel
theorem rf_153_14 : rfA 153 14 = 159 := by decide +kernel
theorem rf_153_15 : rfA 153 15 = 160 := by decide +kernel
theorem rf_153_16 : rfA 153 16 = 161 := by decide +kernel
theorem rf_153_17 : rfA 153 17 = 162 := by decide +kernel
theorem lay_154 : lay 154 = (100, 10) := by decide +kernel
theorem ia0_154 {i : Int} : (inA 154 0 i = true) = (0 ≤ i ∧ i < 10) := ia_of (t := 0) (n := 10) lay_154
theorem ld_154 {i : Int} {w : aW} : ldok 154 i w = (0 ≤ i ∧ i < 10) := ld_of (n := 10) (by decide) lay_154
theorem lay_155 : lay 155 = (100, 10) := by decide +kernel
theorem ia0_155 {i : Int} : (inA 155 0 i = true) = (0 ≤ i ∧ i < 10) := ia_of (t := 0) (n := 10) lay_155
theorem ld_155 {i : Int} {w : aW} : ldok 155 i w = (0 ≤ i ∧ i < 10) := ld_of (n := 10) (by decide) lay_155
theorem lay_156 : lay 156 = (100, 16) := by decide +kernel
theorem ia0_156 {i : Int} : (inA 156 0 i = true) = (0 ≤ i ∧ i < 16) := ia_of (t := 0) (n := 16) lay_156
theorem ld_156 {i : Int} {w : aW} : ldok 156 i w = (0 ≤ i ∧ i < 16) := ld_of (n := 16) (by decide) lay_156
theorem lay_157 : lay 157 = (100, 16) := by decide +kernel
theorem ia0_157 {i : Int} : (inA 157 0 i = true) = (0 ≤ i ∧ i < 16) := ia_of (t := 0) (n := 16) lay_157
theorem ld_157 {i : Int} {w : aW} : ldok 157 i w = (0 ≤ i ∧ i < 16) := ld_of (n := 16) (by decide) lay_157
theorem lay_158 : lay 158 = (100, 16) := by decide +kernel
theorem ia0_158 {i : Int} : (inA 158 0 i = true) = (0 ≤ i ∧ i < 16) := ia_of (t := 0) (n := 16) lay_158
theorem ld_158 {i : Int} {w : aW} : ldok 158 i w = (0 ≤ i ∧ i < 16) := ld_of (n := 16) (by decide) lay_158
theorem lay_159 : lay 159 = (100, 10) := by decide +kernel
theorem ia0_159 {i : Int} : (inA 159 0 i = true) = (0 ≤ i ∧ i < 10) := ia_of (t := 0) (n := 10) lay_159
theorem ld_159 {i : Int} {w : aW} : ldok 159 i w = (0 ≤ i ∧ i < 10) := ld_of (n := 10) (by decide) lay_159
theorem lay_160 : lay 160 = (100, 10) := by decide +kernel
theorem ia0_160 {i : Int} : (inA 160 0 i = true) = (0 ≤ i ∧ i < 10) := ia_of (t := 0) (n := 10) lay_160
theorem ld_160 {i : Int} {w : aW} : ldok 160 i w = (0 ≤ i ∧ i < 10) := ld_of (n := 10) (by decide) lay_160
theorem lay_161 : lay 161 = (100, 10) := by decide +kernel
theorem ia0_161 {i : Int} : (inA 161 0 i = true) = (0 ≤ i ∧ i < 10) := ia_of (t := 0) (n := 10) lay_161
theorem ld_161 {i : Int} {w : aW} : ldok 161 i w = (0 ≤ i ∧ i < 10) := ld_of (n := 10) (by decide) lay_161
theorem lay_162 : lay 162 = (100, 900) := by decide +kernel
theorem ia0_162 {i : Int} : (inA 162 0 i = true) = (0 ≤ i ∧ i < 900) := ia_of (t := 0) (n := 900) lay_162
theorem ld_162 {i : Int} {w : aW} : ldok 162 i w = (0 ≤ i ∧ i < 900) := ld_of (n := 900) (by decide) lay_162
theorem lay_163 : lay 163 = (6, 0) := by decide +kernel
theorem rf_163_2 : rfA 163 2 = 164 := by decide +kernel
theorem rf_163_3 : rfA 163 3 = 165 := by decide +kernel
theorem rf_163_4 : rfA 163 4 = 166 := by decide +kernel
theorem lay_164 : lay 164 = (100, 16) := by decide +kernel
theorem ia0_164 {i : Int} : (inA 164 0 i = true) = (0 ≤ i ∧ i < 16) := ia_of (t := 0) (n := 16) lay_164
theorem ld_164 {i : Int} {w : aW} : ldok 164 i w = (0 ≤ i ∧ i < 16) := ld_of (n := 16) (by decide) lay_164
theorem lay_165 : lay 165 = (100, 16) := by decide +kernel
theorem ia0_165 {i : Int} : (inA 165 0 i = true) = (0 ≤ i ∧ i < 16) := ia_of (t := 0) (n := 16) lay_165
theorem ld_165 {i : Int} {w : aW} : ldok 165 i w = (0 ≤ i ∧ i < 16) := ld_of (n := 16) (by decide) lay_165
theorem lay_166 : lay 166 = (100, 10) := by decide +kernel
theorem ia0_166 {i : Int} : (inA 166 0 i = true) = (0 ≤ i ∧ i < 10) := ia_of (t := 0) (n := 10) lay_166
theorem ld_166 {i : Int} {w : aW} : ldok 166 i w = (0 ≤ i ∧ i < 10) := ld_of (n := 10) (by decide) lay_166
theorem lay_167 : lay 167 = (12, 0) := by decide +kernel
theorem rf_167_1 : rfA 167 1 = 168 := by decide +kernel
theorem rf_167_2 : rfA 167 2 = 169 := by decide +kernel
theorem rf_167_3 : rfA 167 3 = 170 := by decide +kernel
theorem rf_167_4 : rfA 167 4 = 171 := by decide +kernel
theorem rf_167_15 : rfA 167 15 = 172 := by decide +kernel
theorem rf_167_16 : rfA 167 16 = 173 := by decide +kernel
theorem rf_167_19 : rfA 167 19 = 174 := by decide +kernel
theorem rf_167_20 : rfA 167 20 = 175 := by decide +kernel
theorem rf_167_21 : rfA 167 21 = 176 := by decide +kernel
theorem rf_167_22 : rfA 167 22 = 177 := by decide +kernel
theorem rf_167_23 : rfA 167 23 = 178 := by decide +kernel
theorem rf_167_24 : rfA 167 24 = 179 := by decide +kernel
theorem rf_167_25 : rfA 167 25 = 180 := by decide +kernel
theorem rf_167_26 : rfA 167 26 = 181 := by decide +kernel
theorem rf_167_27 : rfA 167 27 = 182 := by decide +kernel
theorem rf_167_28 : rfA 167 28 = 183 := by decide +kernel
theorem rf_167_29 : rfA 167 29 = 184 := by decide +kernel
theorem rf_167_30 : rfA 167 30 = 185 := by decide +kernel
theorem rf_167_31 : rfA 167 31 = 186 := by decide +kernel
theorem rf_167_32 : rfA 167 32 = 187 := by decide +kernel
theorem rf_167_34 : rfA 167 34 = 188 := by decide +kernel
theorem rf_167_35 : rfA 167 35 = 189 := by decide +kernel
theorem rf_167_36 : rfA 167 36 = 190 := by decide +kernel
theorem lay_168 : lay 168 = (100, 4932) := by decide +kernel
theorem ia0_168 {i : Int} : (inA 168 0 i = true) = (0 ≤ i ∧ i < 4932) := ia_of (t := 0) (n := 4932) lay_168
theorem ld_168 {i : Int} {w : aW} : ldok 168 i w = (0 ≤ i ∧ i < 4932) := ld_of (n := 4932) (by decide) lay_168
theorem lay_169 : lay 169 = (103, 2) := by decide +kernel
theorem ia3_169 {i : Int} : (inA 169 3 i = true) = (0 ≤ i ∧ i < 2) := ia_of (t := 3) (n := 2) lay_169
theorem lb_169 {i : Int} : ldbk 169 i = (0 ≤ i ∧ i < 2) := lb_of (n := 2) (by decide) (Or.inr lay_169)
theorem lbv_169 {w : aW} {i : Int} : ldbv w 169 i = w 169 i := lbv_of (by decide)
theorem lay_170 : lay 170 = (100, 900) := by decide +kernel
theorem ia0_170 {i : Int} : (inA 170 0 i = true) = (0 ≤ i ∧ i < 900) := ia_of (t := 0) (n := 900) lay_170
theorem ld_170 {i : Int} {w : aW} : ldok 170 i w = (0 ≤ i ∧ i < 900) := ld_of (n := 900) (by decide) lay_170
theorem lay_171 : lay 171 = (100, 1644) := by decide +kernel
theorem ia0_171 {i : Int} : (inA 171 0 i = true) = (0 ≤ i ∧ i < 1644) := ia_of (t := 0) (n := 1644) lay_171
theorem ld_171 {i : Int} {w : aW} : ldok 171 i w = (0 ≤ i ∧ i < 1644) := ld_of (n := 1644) (by decide) lay_171
theorem lay_172 : lay 172 = (100, 900) := by decide +kernel
theorem ia0_172 {i : Int} : (inA 172 0 i = true) = (0 ≤ i ∧ i < 900) := ia_of (t := 0) (n := 900) lay_172
theorem ld_172 {i : Int} {w : aW} : ldok 172 i w = (0 ≤ i ∧ i < 900) := ld_of (n := 900) (by decide) lay_172
theorem lay_173 : lay 173 = (100, 59) := by decide +kernel
theorem ia0_173 {i : Int} : (inA 173 0 i = true) = (0 ≤ i ∧ i < 59) := ia_of (t := 0) (n := 59) lay_173
theorem ld_173 {i : Int} {w : aW} : ldok 173 i w = (0 ≤ i ∧ i < 59) := ld_of (n := 59) (by decide) lay_173
theorem lay_174 : lay 174 = (100, 1024) := by decide +kernel
theorem ia0_174 {i : Int} : (inA 174 0 i = true) = (0 ≤ i ∧ i < 1024) := ia_of (t := 0) (n := 1024) lay_174
theorem ld_174 {i : Int} {w : aW} : ldok 174 i w = (0 ≤ i ∧ i < 1024) := ld_of (n := 1024) (by decide) lay_174
theorem lay_175 : lay 175 = (100, 1024) := by decide +kernel
theorem ia0_175 {i : Int} : (inA 175 0 i = true) = (0 ≤ i ∧ i < 1024) := ia_of (t := 0) (n := 1024) lay_175
theorem ld_175 {i : Int} {w : aW} : ldok 175 i w = (0 ≤ i ∧ i < 1024) := ld_of (n := 1024) (by decide) lay_175
theorem lay_176 : lay 176 = (100, 1024) := by decide +kernel
theorem ia0_176 {i : Int} : (inA 176 0 i = true) = (0 ≤ i ∧ i < 1024) := ia_of (t := 0) (n := 1024) lay_176
theorem ld_176 {i : Int} {w : aW} : ldok 176 i w = (0 ≤ i ∧ i < 1024) := ld_of (n := 1024) (by decide) lay_176
theorem lay_177 : lay 177 = (100, 1024) := by decide +kernel
theorem ia0_177 {i : Int} : (inA 177 0 i = true) = (0 ≤ i ∧ i < 1024) := ia_of (t := 0) (n := 1024) lay_177
theorem ld_177 {i : Int} {w : aW} : ldok 177 i w = (0 ≤ i ∧ i < 1024) := ld_of (n := 1024) (by decide) lay_177
theorem lay_178 : lay 178 = (100, 41984) := by decide +kernel
theorem ia0_178 {i : Int} : (inA 178 0 i = true) = (0 ≤ i ∧ i < 41984) := ia_of (t := 0) (n := 41984) lay_178
theorem ld_178 {i : Int} {w : aW} : ldok 178 i w = (0 ≤ i ∧ i < 41984) := ld_of (n := 41984) (by decide) lay_178
theorem lay_179 : lay 179 = (100, 10) := by decide +kernel
theorem ia0_179 {i : Int} : (inA 179 0 i = true) = (0 ≤ i ∧ i < 10) := ia_of (t := 0) (n := 10) lay_179
theorem ld_179 {i : Int} {w : aW} : ldok 179 i w = (0 ≤ i ∧ i < 10) := ld_of (n := 10) (by decide) lay_179
theorem lay_180 : lay 180 = (100, 100) := by decide +kernel
theorem ia0_180 {i : Int} : (inA 180 0 i = true) = (0 ≤ i ∧ i < 100) := ia_of (t := 0) (n := 100) lay_180
theorem ld_180 {i : Int} {w : aW} : ldok 180 i w = (0 ≤ i ∧ i < 100) := ld_of (n := 100) (by decide) lay_180
theorem lay_181 : lay 181 = (100, 10) := by decide +kernel
theorem ia0_181 {i : Int} : (inA 181 0 i = true) = (0 ≤ i ∧ i < 10) := ia_of (t := 0) (n := 10) lay_181
theorem ld_181 {i : Int} {w : aW} : ldok 181 i w = (0 ≤ i ∧ i < 10) := ld_of (n := 10) (by decide) lay_181
theorem lay_182 : lay 182 = (100, 1024) := by decide +kernel
theorem ia0_182 {i : Int} : (inA 182 0 i = true) = (0 ≤ i ∧ i < 1024) := ia_of (t := 0) (n := 1024) lay_182
theorem ld_182 {i : Int} {w : aW} : ldok 182 i w = (0 ≤ i ∧ i < 1024) := ld_of (n := 1024) (by decide) lay_182
theorem lay_183 : lay 183 = (100, 1024) := by decide +kernel
theorem ia0_183 {i : Int} : (inA 183 0 i = true) = (0 ≤ i ∧ i < 1024) := ia_of (t := 0) (n := 1024) lay_183
theorem ld_183 {i : Int} {w : aW} : ldok 183 i w = (0 ≤ i ∧ i < 1024) := ld_of (n := 1024) (by decide) lay_183
theorem lay_184 : lay 184 = (100, 10) := by decide +kernel
theorem ia0_184 {i : Int} : (inA 184 0 i = true) = (0 ≤ i ∧ i < 10) := ia_of (t := 0) (n := 10) lay_184
theorem ld_184 {i : Int} {w : aW} : ldok 184 i w = (0 ≤ i ∧ i < 10) := ld_of (n := 10) (by decide) lay_184
theorem lay_185 : lay 185 = (100, 30) := by decide +kernel
theorem ia0_185 {i : Int} : (inA 185 0 i = true) = (0 ≤ i ∧ i < 30) := ia_of (t := 0) (n := 30) lay_185
theorem ld_185 {i : Int} {w : aW} : ldok 185 i w = (0 ≤ i ∧ i < 30) := ld_of (n := 30) (by decide) lay_185
theorem lay_186 : lay 186 = (100, 30) := by decide +kernel
theorem ia0_186 {i : Int} : (inA 186 0 i = true) = (0 ≤ i ∧ i < 30) := ia_of (t := 0) (n := 30) lay_186
theorem ld_186 {i : Int} {w : aW} : ldok 186 i w = (0 ≤ i ∧ i < 30) := ld_of (n := 30) (by decide) lay_186
theorem lay_187 : lay 187 = (100, 2400) := by decide +kernel
theorem ia0_187 {i : Int} : (inA 187 0 i = true) = (0 ≤ i ∧ i < 2400) := ia_of (t := 0) (n := 2400) lay_187
theorem ld_187 {i : Int} {w : aW} : ldok 187 i w = (0 ≤ i ∧ i < 2400) := ld_of (n := 2400) (by decide) lay_187
theorem lay_188 : lay 188 = (100, 4) := by decide +kernel
theorem ia0_188 {i : Int} : (inA 188 0 i = true) = (0 ≤ i ∧ i < 4) := ia_of (t := 0) (n := 4) lay_188
theorem ld_188 {i : Int} {w : aW} : ldok 188 i w = (0 ≤ i ∧ i < 4) := ld_of (n := 4) (by decide) lay_188
theorem lay_189 : lay 189 = (100, 4) := by decide +kernel
theorem ia0_189 {i : Int} : (inA 189 0 i = true) = (0 ≤ i ∧ i < 4) := ia_of (t := 0) (n := 4) lay_189
theorem ld_189 {i : Int} {w : aW} : ldok 189 i w = (0 ≤ i ∧ i < 4) := ld_of (n := 4) (by decide) lay_189
theorem lay_190 : lay 190 = (101, 160) := by decide +kernel
theorem ia1_190 {i : Int} : (inA 190 1 i = true) = (0 ≤ i ∧ i < 160) := ia_of (t := 1) (n := 160) lay_190
