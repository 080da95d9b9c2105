/-! MAKING THE FIRST WORLD: constructors (printed by wip/whole/mk.py). -/
def wI6 (cA : Nat → ClassId) (h0 : Nat) (q : Nat → Nat) : va_W := [(h0, .inr (6, [.int 0, .int 0, .ref (q 0), .ref (q 1), .ref (q 2)]))] ++ ([(q 0, .inl (cA 0, zA 0 16))] ++ ([(q 1, .inl (cA 0, zA 0 16))] ++ ([(q 2, .inl (cA 0, zA 0 10))])))
theorem zX6_0 : decode (byI 6) 0 = .ok (.aload_n 0, 1) := by decide +kernel
theorem zX6_1 : decode (byI 6) 1 = .ok (.invokespecial 3, 3) := by decide +kernel
theorem zX6_4 : decode (byI 6) 4 = .ok (.aload_n 0, 1) := by decide +kernel
theorem zX6_5 : decode (byI 6) 5 = .ok (.bipush 16, 2) := by decide +kernel
theorem zX6_7 : decode (byI 6) 7 = .ok (.newarray .int, 2) := by decide +kernel
theorem zX6_9 : decode (byI 6) 9 = .ok (.putfield 9, 3) := by decide +kernel
theorem zX6_12 : decode (byI 6) 12 = .ok (.aload_n 0, 1) := by decide +kernel
theorem zX6_13 : decode (byI 6) 13 = .ok (.bipush 16, 2) := by decide +kernel
theorem zX6_15 : decode (byI 6) 15 = .ok (.newarray .int, 2) := by decide +kernel
theorem zX6_17 : decode (byI 6) 17 = .ok (.putfield 15, 3) := by decide +kernel
theorem zX6_20 : decode (byI 6) 20 = .ok (.aload_n 0, 1) := by decide +kernel
theorem zX6_21 : decode (byI 6) 21 = .ok (.bipush 10, 2) := by decide +kernel
theorem zX6_23 : decode (byI 6) 23 = .ok (.newarray .int, 2) := by decide +kernel
theorem zX6_25 : decode (byI 6) 25 = .ok (.putfield 18, 3) := by decide +kernel
theorem zX6_28 : decode (byI 6) 28 = .ok (.return_, 1) := by decide +kernel
set_option maxHeartbeats 4000000 in
set_option maxRecDepth 100000 in
/-- new StringHands$Stage() -/
theorem cI6 (l : Launch) (D : va_G) (cA : Nat → ClassId) : MkI l D cA 6 1 1 3 42 (wI6 cA) := by
  refine c_ent (by decide) (by decide) (by decide) zX6_0 zX6_1 (gWs_in 0 (by decide +kernel)) (gWs_in 1 (by decide +kernel)) (gWs_in 2 rfl) (fun p e s m args below meth c1 h0 ls C hl hP hD hS => ?_)
  have hl0 := lv_at hl 0 rfl
  generalize hAe : va_A [(h0, .inr (6, zF 6))] s.heap.size = A at C hD hS ⊢
  refine k_arr (n := 16) (N := 16) (lp := 2) (t := 0) C hl0 hP hD hS zX6_4 (fun h => lv_bipush C.1 C.2.1 zX6_5 (by decide +kernel) h) zX6_7 zX6_9 (by decide) rfl (gWs_in 3 (by decide +kernel)) (by decide +kernel) (by decide +kernel) (by decide +kernel) (by decide +kernel) (by decide +kernel) (k := 2) (by decide +kernel) (gWs_in 4 (by decide +kernel)) (by decide +kernel) (by decide +kernel) (Or.inl ⟨_, rfl⟩) (by simp only [List.length_set, zF_len]; decide +kernel) (fun q0 H locs hP hD hS => ?_)
  refine k_arr (n := 16) (N := 16) (lp := 2) (t := 0) C hl0 hP hD hS zX6_12 (fun h => lv_bipush C.1 C.2.1 zX6_13 (by decide +kernel) h) zX6_15 zX6_17 (by decide) rfl (gWs_in 3 (by decide +kernel)) (by decide +kernel) (by decide +kernel) (by decide +kernel) (by decide +kernel) (by decide +kernel) (k := 3) (by decide +kernel) (gWs_in 5 (by decide +kernel)) (by decide +kernel) (by decide +kernel) (Or.inl ⟨_, rfl⟩) (by simp only [List.length_set, zF_len]; decide +kernel) (fun q1 H locs hP hD hS => ?_)
  refine k_arr (n := 10) (N := 10) (lp := 2) (t := 0) C hl0 hP hD hS zX6_20 (fun h => lv_bipush C.1 C.2.1 zX6_21 (by decide +kernel) h) zX6_23 zX6_25 (by decide) rfl (gWs_in 3 (by decide +kernel)) (by decide +kernel) (by decide +kernel) (by decide +kernel) (by decide +kernel) (by decide +kernel) (k := 4) (by decide +kernel) (gWs_in 6 (by decide +kernel)) (by decide +kernel) (by decide +kernel) (Or.inl ⟨_, rfl⟩) (by simp only [List.length_set, zF_len]; decide +kernel) (fun q2 H locs hP hD hS => ?_)
  subst hAe
  exact c_end (q := fun k => ([q0, q1, q2] : List Nat).getD k 0) C hP hD hS (by decide +kernel) (by decide +kernel) zX6_28
def wI3 (cA : Nat → ClassId) (h0 : Nat) (q : Nat → Nat) : va_W := [(h0, .inr (3, [.int (-1), .ref (q 0), .int 0]))] ++ ([(q 0, .inl (cA 1, zA 1 40))])
theorem zX3_0 : decode (byI 3) 0 = .ok (.aload_n 0, 1) := by decide +kernel
theorem zX3_1 : decode (byI 3) 1 = .ok (.invokespecial 3, 3) := by decide +kernel
theorem zX3_4 : decode (byI 3) 4 = .ok (.aload_n 0, 1) := by decide +kernel
theorem zX3_5 : decode (byI 3) 5 = .ok (.iconst (-1), 1) := by decide +kernel
theorem zX3_6 : decode (byI 3) 6 = .ok (.putfield 9, 3) := by decide +kernel
theorem zX3_9 : decode (byI 3) 9 = .ok (.aload_n 0, 1) := by decide +kernel
theorem zX3_10 : decode (byI 3) 10 = .ok (.bipush 40, 2) := by decide +kernel
theorem zX3_12 : decode (byI 3) 12 = .ok (.newarray .long, 2) := by decide +kernel
theorem zX3_14 : decode (byI 3) 14 = .ok (.putfield 15, 3) := by decide +kernel
theorem zX3_17 : decode (byI 3) 17 = .ok (.return_, 1) := by decide +kernel
set_option maxHeartbeats 4000000 in
set_option maxRecDepth 100000 in
/-- new StringHands$NumberRow() -/
theorem cI3 (l : Launch) (D : va_G) (cA : Nat → ClassId) : MkI l D cA 3 1 1 1 40 (wI3 cA) := by
  refine c_ent (by decide) (by decide) (by decide) zX3_0 zX3_1 (gWs_in 7 (by decide +kernel)) (gWs_in 1 (by decide +kernel)) (gWs_in 2 rfl) (fun p e s m args below meth c1 h0 ls C hl hP hD hS => ?_)
  have hl0 := lv_at hl 0 rfl
  generalize hAe : va_A [(h0, .inr (3, zF 3))] s.heap.size = A at C hD hS ⊢
  refine lv_aload_n C.1 C.2.1 zX3_4 rfl hl0 ?_
  refine lv_iconst (v := -1) C.1 C.2.1 zX3_5 (by decide +kernel) ?_
  refine k_setI (k := 0) C hP hD hS zX3_6 (by decide +kernel) (gWs_in 8 (by decide +kernel)) (by decide +kernel) ⟨rfl, rfl⟩ (by simp only [List.length_set, zF_len]; decide +kernel) (fun H locs hP hD hS => ?_)
  refine k_arr (n := 40) (N := 40) (lp := 2) (t := 1) C hl0 hP hD hS zX3_9 (fun h => lv_bipush C.1 C.2.1 zX3_10 (by decide +kernel) h) zX3_12 zX3_14 (by decide) rfl (gWs_in 9 (by decide +kernel)) (by decide +kernel) (by decide +kernel) (by decide +kernel) (by decide +kernel) (by decide +kernel) (k := 1) (by decide +kernel) (gWs_in 10 (by decide +kernel)) (by decide +kernel) (by decide +kernel) (Or.inl ⟨_, rfl⟩) (by simp only [List.length_set, zF_len]; decide +kernel) (fun q0 H locs hP hD hS => ?_)
  subst hAe
  exact c_end (q := fun k => ([q0] : List Nat).getD k 0) C hP hD hS (by decide +kernel) (by decide +kernel) zX3_17
def wI8 (cA : Nat → ClassId) (h0 : Nat) (q : Nat → Nat) : va_W := [(h0, .inr (8, [.int 0, .int 0, .int 0, .int 0, .int 0, .int 0, .ref (q 0), .ref (q 1), .ref (q 2), .ref (q 3), .ref (q 4), .int 0, .int 0, .int 0, .ref (q 5), .ref (q 6), .ref (q 7), .ref (q 8), .int 0]))] ++ ([(q 0, .inl (cA 0, zA 0 10))] ++ ([(q 1, .inl (cA 0, zA 0 10))] ++ ([(q 2, .inl (cA 0, zA 0 16))] ++ ([(q 3, .inl (cA 0, zA 0 16))] ++ ([(q 4, .inl (cA 0, zA 0 16))] ++ ([(q 5, .inl (cA 0, zA 0 10))] ++ ([(q 6, .inl (cA 0, zA 0 10))] ++ ([(q 7, .inl (cA 0, zA 0 10))] ++ ([(q 8, .inl (cA 0, zA 0 900))])))))))))
theorem zX8_0 : decode (byI 8) 0 = .ok (.aload_n 0, 1) := by decide +kernel
theorem zX8_1 : decode (byI 8) 1 = .ok (.invokespecial 3, 3) := by decide +kernel
theorem zX8_4 : decode (byI 8) 4 = .ok (.aload_n 0, 1) := by decide +kernel
theorem zX8_5 : decode (byI 8) 5 = .ok (.bipush 10, 2) := by decide +kernel
theorem zX8_7 : decode (byI 8) 7 = .ok (.newarray .int, 2) := by decide +kernel
theorem zX8_9 : decode (byI 8) 9 = .ok (.putfield 9, 3) := by decide +kernel
theorem zX8_12 : decode (byI 8) 12 = .ok (.aload_n 0, 1) := by decide +kernel
theorem zX8_13 : decode (byI 8) 13 = .ok (.bipush 10, 2) := by decide +kernel
theorem zX8_15 : decode (byI 8) 15 = .ok (.newarray .int, 2) := by decide +kernel
theorem zX8_17 : decode (byI 8) 17 = .ok (.putfield 15, 3) := by decide +kernel
theorem zX8_20 : decode (byI 8) 20 = .ok (.aload_n 0, 1) := by decide +kernel
theorem zX8_21 : decode (byI 8) 21 = .ok (.bipush 16, 2) := by decide +kernel
theorem zX8_23 : decode (byI 8) 23 = .ok (.newarray .int, 2) := by decide +kernel
theorem zX8_25 : decode (byI 8) 25 = .ok (.putfield 18, 3) := by decide +kernel
theorem zX8_28 : decode (byI 8) 28 = .ok (.aload_n 0, 1) := by decide +kernel
theorem zX8_29 : decode (byI 8) 29 = .ok (.bipush 16, 2) := by decide +kernel
theorem zX8_31 : decode (byI 8) 31 = .ok (.newarray .int, 2) := by decide +kernel
theorem zX8_33 : decode (byI 8) 33 = .ok (.putfield 21, 3) := by decide +kernel
theorem zX8_36 : decode (byI 8) 36 = .ok (.aload_n 0, 1) := by decide +kernel
theorem zX8_37 : decode (byI 8) 37 = .ok (.bipush 16, 2) := by decide +kernel
theorem zX8_39 : decode (byI 8) 39 = .ok (.newarray .int, 2) := by decide +kernel
theorem zX8_41 : decode (byI 8) 41 = .ok (.putfield 24, 3) := by decide +kernel
theorem zX8_44 : decode (byI 8) 44 = .ok (.aload_n 0, 1) := by decide +kernel
theorem zX8_45 : decode (byI 8) 45 = .ok (.bipush 10, 2) := by decide +kernel
theorem zX8_47 : decode (byI 8) 47 = .ok (.newarray .int, 2) := by decide +kernel
theorem zX8_49 : decode (byI 8) 49 = .ok (.putfield 27, 3) := by decide +kernel
theorem zX8_52 : decode (byI 8) 52 = .ok (.aload_n 0, 1) := by decide +kernel
theorem zX8_53 : decode (byI 8) 53 = .ok (.bipush 10, 2) := by decide +kernel
theorem zX8_55 : decode (byI 8) 55 = .ok (.newarray .int, 2) := by decide +kernel
theorem zX8_57 : decode (byI 8) 57 = .ok (.putfield 30, 3) := by decide +kernel
theorem zX8_60 : decode (byI 8) 60 = .ok (.aload_n 0, 1) := by decide +kernel
theorem zX8_61 : decode (byI 8) 61 = .ok (.bipush 10, 2) := by decide +kernel
theorem zX8_63 : decode (byI 8) 63 = .ok (.newarray .int, 2) := by decide +kernel
theorem zX8_65 : decode (byI 8) 65 = .ok (.putfield 33, 3) := by decide +kernel
theorem zX8_68 : decode (byI 8) 68 = .ok (.aload_n 0, 1) := by decide +kernel
theorem zX8_69 : decode (byI 8) 69 = .ok (.sipush 900, 3) := by decide +kernel
theorem zX8_72 : decode (byI 8) 72 = .ok (.newarray .int, 2) := by decide +kernel
theorem zX8_74 : decode (byI 8) 74 = .ok (.putfield 36, 3) := by decide +kernel
theorem zX8_77 : decode (byI 8) 77 = .ok (.return_, 1) := by decide +kernel
set_option maxHeartbeats 4000000 in
set_option maxRecDepth 100000 in
/-- new StringHands$Troupe() -/
theorem cI8 (l : Launch) (D : va_G) (cA : Nat → ClassId) : MkI l D cA 8 1 1 9 998 (wI8 cA) := by
  refine c_ent (by decide) (by decide) (by decide) zX8_0 zX8_1 (gWs_in 11 (by decide +kernel)) (gWs_in 1 (by decide +kernel)) (gWs_in 2 rfl) (fun p e s m args below meth c1 h0 ls C hl hP hD hS => ?_)
  have hl0 := lv_at hl 0 rfl
  generalize hAe : va_A [(h0, .inr (8, zF 8))] s.heap.size = A at C hD hS ⊢
  refine k_arr (n := 10) (N := 10) (lp := 2) (t := 0) C hl0 hP hD hS zX8_4 (fun h => lv_bipush C.1 C.2.1 zX8_5 (by decide +kernel) h) zX8_7 zX8_9 (by decide) rfl (gWs_in 3 (by decide +kernel)) (by decide +kernel) (by decide +kernel) (by decide +kernel) (by decide +kernel) (by decide +kernel) (k := 6) (by decide +kernel) (gWs_in 12 (by decide +kernel)) (by decide +kernel) (by decide +kernel) (Or.inl ⟨_, rfl⟩) (by simp only [List.length_set, zF_len]; decide +kernel) (fun q0 H locs hP hD hS => ?_)
  refine k_arr (n := 10) (N := 10) (lp := 2) (t := 0) C hl0 hP hD hS zX8_12 (fun h => lv_bipush C.1 C.2.1 zX8_13 (by decide +kernel) h) zX8_15 zX8_17 (by decide) rfl (gWs_in 3 (by decide +kernel)) (by decide +kernel) (by decide +kernel) (by decide +kernel) (by decide +kernel) (by decide +kernel) (k := 7) (by decide +kernel) (gWs_in 13 (by decide +kernel)) (by decide +kernel) (by decide +kernel) (Or.inl ⟨_, rfl⟩) (by simp only [List.length_set, zF_len]; decide +kernel) (fun q1 H locs hP hD hS => ?_)
  refine k_arr (n := 16) (N := 16) (lp := 2) (t := 0) C hl0 hP hD hS zX8_20 (fun h => lv_bipush C.1 C.2.1 zX8_21 (by decide +kernel) h) zX8_23 zX8_25 (by decide) rfl (gWs_in 3 (by decide +kernel)) (by decide +kernel) (by decide +kernel) (by decide +kernel) (by decide +kernel) (by decide +kernel) (k := 8) (by decide +kernel) (gWs_in 14 (by decide +kernel)) (by decide +kernel) (by decide +kernel) (Or.inl ⟨_, rfl⟩) (by simp only [List.length_set, zF_len]; decide +kernel) (fun q2 H locs hP hD hS => ?_)
  refine k_arr (n := 16) (N := 16) (lp := 2) (t := 0) C hl0 hP hD hS zX8_28 (fun h => lv_bipush C.1 C.2.1 zX8_29 (by decide +kernel) h) zX8_31 zX8_33 (by decide) rfl (gWs_in 3 (by decide +kernel)) (by decide +kernel) (by decide +kernel) (by decide +kernel) (by decide +kernel) (by decide +kernel) (k := 9) (by decide +kernel) (gWs_in 15 (by decide +kernel)) (by decide +kernel) (by decide +kernel) (Or.inl ⟨_, rfl⟩) (by simp only [List.length_set, zF_len]; decide +kernel) (fun q3 H locs hP hD hS => ?_)
  refine k_arr (n := 16) (N := 16) (lp := 2) (t := 0) C hl0 hP hD hS zX8_36 (fun h => lv_bipush C.1 C.2.1 zX8_37 (by decide +kernel) h) zX8_39 zX8_41 (by decide) rfl (gWs_in 3 (by decide +kernel)) (by decide +kernel) (by decide +kernel) (by decide +kernel) (by decide +kernel) (by decide +kernel) (k := 10) (by decide +kernel) (gWs_in 16 (by decide +kernel)) (by decide +kernel) (by decide +kernel) (Or.inl ⟨_, rfl⟩) (by simp only [List.length_set, zF_len]; decide +kernel) (fun q4 H locs hP hD hS => ?_)
  refine k_arr (n := 10) (N := 10) (lp := 2) (t := 0) C hl0 hP hD hS zX8_44 (fun h => lv_bipush C.1 C.2.1 zX8_45 (by decide +kernel) h) zX8_47 zX8_49 (by decide) rfl (gWs_in 3 (by decide +kernel)) (by decide +kernel) (by decide +kernel) (by decide +kernel) (by decide +kernel) (by decide +kernel) (k := 14) (by decide +kernel) (gWs_in 17 (by decide +kernel)) (by decide +kernel) (by decide +kernel) (Or.inl ⟨_, rfl⟩) (by simp only [List.length_set, zF_len]; decide +kernel) (fun q5 H locs hP hD hS => ?_)
  refine k_arr (n := 10) (N := 10) (lp := 2) (t := 0) C hl0 hP hD hS zX8_52 (fun h => lv_bipush C.1 C.2.1 zX8_53 (by decide +kernel) h) zX8_55 zX8_57 (by decide) rfl (gWs_in 3 (by decide +kernel)) (by decide +kernel) (by decide +kernel) (by decide +kernel) (by decide +kernel) (by decide +kernel) (k := 15) (by decide +kernel) (gWs_in 18 (by decide +kernel)) (by decide +kernel) (by decide +kernel) (Or.inl ⟨_, rfl⟩) (by simp only [List.length_set, zF_len]; decide +kernel) (fun q6 H locs hP hD hS => ?_)
  refine k_arr (n := 10) (N := 10) (lp := 2) (t := 0) C hl0 hP hD hS zX8_60 (fun h => lv_bipush C.1 C.2.1 zX8_61 (by decide +kernel) h) zX8_63 zX8_65 (by decide) rfl (gWs_in 3 (by decide +kernel)) (by decide +kernel) (by decide +kernel) (by decide +kernel) (by decide +kernel) (by decide +kernel) (k := 16) (by decide +kernel) (gWs_in 19 (by decide +kernel)) (by decide +kernel) (by decide +kernel) (Or.inl ⟨_, rfl⟩) (by simp only [List.length_set, zF_len]; decide +kernel) (fun q7 H locs hP hD hS => ?_)
  refine k_arr (n := 900) (N := 900) (lp := 3) (t := 0) C hl0 hP hD hS zX8_68 (fun h => lv_sipush C.1 C.2.1 zX8_69 (by decide +kernel) h) zX8_72 zX8_74 (by decide) rfl (gWs_in 3 (by decide +kernel)) (by decide +kernel) (by decide +kernel) (by decide +kernel) (by decide +kernel) (by decide +kernel) (k := 17) (by decide +kernel) (gWs_in 20 (by decide +kernel)) (by decide +kernel) (by decide +kernel) (Or.inl ⟨_, rfl⟩) (by simp only [List.length_set, zF_len]; decide +kernel) (fun q8 H locs hP hD hS => ?_)
  subst hAe
  exact c_end (q := fun k => ([q0, q1, q2, q3, q4, q5, q6, q7, q8] : List Nat).getD k 0) C hP hD hS (by decide +kernel) (by decide +kernel) zX8_77
def wI2 (cA : Nat → ClassId) (h0 : Nat) (q : Nat → Nat) : va_W := [(h0, .inr (2, [.ref (q 0), .int 0, .ref (q 1), .int 0]))] ++ ([(q 0, .inl (cA 0, zA 0 10))] ++ ([(q 1, .inl (cA 0, zA 0 64))]))
theorem zX2_0 : decode (byI 2) 0 = .ok (.aload_n 0, 1) := by decide +kernel
theorem zX2_1 : decode (byI 2) 1 = .ok (.invokespecial 3, 3) := by decide +kernel
theorem zX2_4 : decode (byI 2) 4 = .ok (.aload_n 0, 1) := by decide +kernel
theorem zX2_5 : decode (byI 2) 5 = .ok (.bipush 10, 2) := by decide +kernel
theorem zX2_7 : decode (byI 2) 7 = .ok (.newarray .int, 2) := by decide +kernel
theorem zX2_9 : decode (byI 2) 9 = .ok (.putfield 9, 3) := by decide +kernel
theorem zX2_12 : decode (byI 2) 12 = .ok (.aload_n 0, 1) := by decide +kernel
theorem zX2_13 : decode (byI 2) 13 = .ok (.bipush 64, 2) := by decide +kernel
theorem zX2_15 : decode (byI 2) 15 = .ok (.newarray .int, 2) := by decide +kernel
theorem zX2_17 : decode (byI 2) 17 = .ok (.putfield 15, 3) := by decide +kernel
theorem zX2_20 : decode (byI 2) 20 = .ok (.return_, 1) := by decide +kernel
set_option maxHeartbeats 4000000 in
set_option maxRecDepth 100000 in
/-- new StringHands$Mover() -/
theorem cI2 (l : Launch) (D : va_G) (cA : Nat → ClassId) : MkI l D cA 2 1 1 2 74 (wI2 cA) := by
  refine c_ent (by decide) (by decide) (by decide) zX2_0 zX2_1 (gWs_in 21 (by decide +kernel)) (gWs_in 1 (by decide +kernel)) (gWs_in 2 rfl) (fun p e s m args below meth c1 h0 ls C hl hP hD hS => ?_)
  have hl0 := lv_at hl 0 rfl
  generalize hAe : va_A [(h0, .inr (2, zF 2))] s.heap.size = A at C hD hS ⊢
  refine k_arr (n := 10) (N := 10) (lp := 2) (t := 0) C hl0 hP hD hS zX2_4 (fun h => lv_bipush C.1 C.2.1 zX2_5 (by decide +kernel) h) zX2_7 zX2_9 (by decide) rfl (gWs_in 3 (by decide +kernel)) (by decide +kernel) (by decide +kernel) (by decide +kernel) (by decide +kernel) (by decide +kernel) (k := 0) (by decide +kernel) (gWs_in 22 (by decide +kernel)) (by decide +kernel) (by decide +kernel) (Or.inl ⟨_, rfl⟩) (by simp only [List.length_set, zF_len]; decide +kernel) (fun q0 H locs hP hD hS => ?_)
  refine k_arr (n := 64) (N := 64) (lp := 2) (t := 0) C hl0 hP hD hS zX2_12 (fun h => lv_bipush C.1 C.2.1 zX2_13 (by decide +kernel) h) zX2_15 zX2_17 (by decide) rfl (gWs_in 3 (by decide +kernel)) (by decide +kernel) (by decide +kernel) (by decide +kernel) (by decide +kernel) (by decide +kernel) (k := 2) (by decide +kernel) (gWs_in 23 (by decide +kernel)) (by decide +kernel) (by decide +kernel) (Or.inl ⟨_, rfl⟩) (by simp only [List.length_set, zF_len]; decide +kernel) (fun q1 H locs hP hD hS => ?_)
  subst hAe
  exact c_end (q := fun k => ([q0, q1] : List Nat).getD k 0) C hP hD hS (by decide +kernel) (by decide +kernel) zX2_20
def wI0 (cA : Nat → ClassId) (h0 : Nat) (q : Nat → Nat) : va_W := [(h0, .inr (0, [.int 0, .ref (q 0), .ref (q 1), .ref (q 2), .ref (q 3), .ref (q 4), .ref (q 5), .int 0, .int 0, .int 0, .int 0, .ref (q 6)]))] ++ ([(q 0, .inl (cA 0, zA 0 1024))] ++ ([(q 1, .inl (cA 0, zA 0 1024))] ++ ([(q 2, .inl (cA 0, zA 0 1024))] ++ ([(q 3, .inl (cA 0, zA 0 1024))] ++ ([(q 4, .inl (cA 0, zA 0 1024))] ++ ([(q 5, .inl (cA 0, zA 0 1024))] ++ ([(q 6, .inl (cA 0, zA 0 16))])))))))
theorem zX0_0 : decode (byI 0) 0 = .ok (.aload_n 0, 1) := by decide +kernel
theorem zX0_1 : decode (byI 0) 1 = .ok (.invokespecial 3, 3) := by decide +kernel
theorem zX0_4 : decode (byI 0) 4 = .ok (.aload_n 0, 1) := by decide +kernel
theorem zX0_5 : decode (byI 0) 5 = .ok (.sipush 1024, 3) := by decide +kernel
theorem zX0_8 : decode (byI 0) 8 = .ok (.newarray .int, 2) := by decide +kernel
theorem zX0_10 : decode (byI 0) 10 = .ok (.putfield 9, 3) := by decide +kernel
theorem zX0_13 : decode (byI 0) 13 = .ok (.aload_n 0, 1) := by decide +kernel
theorem zX0_14 : decode (byI 0) 14 = .ok (.sipush 1024, 3) := by decide +kernel
theorem zX0_17 : decode (byI 0) 17 = .ok (.newarray .int, 2) := by decide +kernel
theorem zX0_19 : decode (byI 0) 19 = .ok (.putfield 15, 3) := by decide +kernel
theorem zX0_22 : decode (byI 0) 22 = .ok (.aload_n 0, 1) := by decide +kernel
theorem zX0_23 : decode (byI 0) 23 = .ok (.sipush 1024, 3) := by decide +kernel
theorem zX0_26 : decode (byI 0) 26 = .ok (.newarray .int, 2) := by decide +kernel
theorem zX0_28 : decode (byI 0) 28 = .ok (.putfield 18, 3) := by decide +kernel
theorem zX0_31 : decode (byI 0) 31 = .ok (.aload_n 0, 1) := by decide +kernel
theorem zX0_32 : decode (byI 0) 32 = .ok (.sipush 1024, 3) := by decide +kernel
theorem zX0_35 : decode (byI 0) 35 = .ok (.newarray .int, 2) := by decide +kernel
theorem zX0_37 : decode (byI 0) 37 = .ok (.putfield 21, 3) := by decide +kernel
theorem zX0_40 : decode (byI 0) 40 = .ok (.aload_n 0, 1) := by decide +kernel
theorem zX0_41 : decode (byI 0) 41 = .ok (.sipush 1024, 3) := by decide +kernel
theorem zX0_44 : decode (byI 0) 44 = .ok (.newarray .int, 2) := by decide +kernel
theorem zX0_46 : decode (byI 0) 46 = .ok (.putfield 24, 3) := by decide +kernel
theorem zX0_49 : decode (byI 0) 49 = .ok (.aload_n 0, 1) := by decide +kernel
theorem zX0_50 : decode (byI 0) 50 = .ok (.sipush 1024, 3) := by decide +kernel
theorem zX0_53 : decode (byI 0) 53 = .ok (.newarray .int, 2) := by decide +kernel
theorem zX0_55 : decode (byI 0) 55 = .ok (.putfield 27, 3) := by decide +kernel
theorem zX0_58 : decode (byI 0) 58 = .ok (.aload_n 0, 1) := by decide +kernel
theorem zX0_59 : decode (byI 0) 59 = .ok (.bipush 16, 2) := by decide +kernel
theorem zX0_61 : decode (byI 0) 61 = .ok (.newarray .int, 2) := by decide +kernel
theorem zX0_63 : decode (byI 0) 63 = .ok (.putfield 30, 3) := by decide +kernel
theorem zX0_66 : decode (byI 0) 66 = .ok (.return_, 1) := by decide +kernel
set_option maxHeartbeats 4000000 in
set_option maxRecDepth 100000 in
/-- new StringHands$Follow() -/
theorem cI0 (l : Launch) (D : va_G) (cA : Nat → ClassId) : MkI l D cA 0 1 1 7 6160 (wI0 cA) := by
  refine c_ent (by decide) (by decide) (by decide) zX0_0 zX0_1 (gWs_in 24 (by decide +kernel)) (gWs_in 1 (by decide +kernel)) (gWs_in 2 rfl) (fun p e s m args below meth c1 h0 ls C hl hP hD hS => ?_)
  have hl0 := lv_at hl 0 rfl
  generalize hAe : va_A [(h0, .inr (0, zF 0))] s.heap.size = A at C hD hS ⊢
  refine k_arr (n := 1024) (N := 1024) (lp := 3) (t := 0) C hl0 hP hD hS zX0_4 (fun h => lv_sipush C.1 C.2.1 zX0_5 (by decide +kernel) h) zX0_8 zX0_10 (by decide) rfl (gWs_in 3 (by decide +kernel)) (by decide +kernel) (by decide +kernel) (by decide +kernel) (by decide +kernel) (by decide +kernel) (k := 1) (by decide +kernel) (gWs_in 25 (by decide +kernel)) (by decide +kernel) (by decide +kernel) (Or.inl ⟨_, rfl⟩) (by simp only [List.length_set, zF_len]; decide +kernel) (fun q0 H locs hP hD hS => ?_)
  refine k_arr (n := 1024) (N := 1024) (lp := 3) (t := 0) C hl0 hP hD hS zX0_13 (fun h => lv_sipush C.1 C.2.1 zX0_14 (by decide +kernel) h) zX0_17 zX0_19 (by decide) rfl (gWs_in 3 (by decide +kernel)) (by decide +kernel) (by decide +kernel) (by decide +kernel) (by decide +kernel) (by decide +kernel) (k := 2) (by decide +kernel) (gWs_in 26 (by decide +kernel)) (by decide +kernel) (by decide +kernel) (Or.inl ⟨_, rfl⟩) (by simp only [List.length_set, zF_len]; decide +kernel) (fun q1 H locs hP hD hS => ?_)
  refine k_arr (n := 1024) (N := 1024) (lp := 3) (t := 0) C hl0 hP hD hS zX0_22 (fun h => lv_sipush C.1 C.2.1 zX0_23 (by decide +kernel) h) zX0_26 zX0_28 (by decide) rfl (gWs_in 3 (by decide +kernel)) (by decide +kernel) (by decide +kernel) (by decide +kernel) (by decide +kernel) (by decide +kernel) (k := 3) (by decide +kernel) (gWs_in 27 (by decide +kernel)) (by decide +kernel) (by decide +kernel) (Or.inl ⟨_, rfl⟩) (by simp only [List.length_set, zF_len]; decide +kernel) (fun q2 H locs hP hD hS => ?_)
  refine k_arr (n := 1024) (N := 1024) (lp := 3) (t := 0) C hl0 hP hD hS zX0_31 (fun h => lv_sipush C.1 C.2.1 zX0_32 (by decide +kernel) h) zX0_35 zX0_37 (by decide) rfl (gWs_in 3 (by decide +kernel)) (by decide +kernel) (by decide +kernel) (by decide +kernel) (by decide +kernel) (by decide +kernel) (k := 4) (by decide +kernel) (gWs_in 28 (by decide +kernel)) (by decide +kernel) (by decide +kernel) (Or.inl ⟨_, rfl⟩) (by simp only [List.length_set, zF_len]; decide +kernel) (fun q3 H locs hP hD hS => ?_)
  refine k_arr (n := 1024) (N := 1024) (lp := 3) (t := 0) C hl0 hP hD hS zX0_40 (fun h => lv_sipush C.1 C.2.1 zX0_41 (by decide +kernel) h) zX0_44 zX0_46 (by decide) rfl (gWs_in 3 (by decide +kernel)) (by decide +kernel) (by decide +kernel) (by decide +kernel) (by decide +kernel) (by decide +kernel) (k := 5) (by decide +kernel) (gWs_in 29 (by decide +kernel)) (by decide +kernel) (by decide +kernel) (Or.inl ⟨_, rfl⟩) (by simp only [List.length_set, zF_len]; decide +kernel) (fun q4 H locs hP hD hS => ?_)
  refine k_arr (n := 1024) (N := 1024) (lp := 3) (t := 0) C hl0 hP hD hS zX0_49 (fun h => lv_sipush C.1 C.2.1 zX0_50 (by decide +kernel) h) zX0_53 zX0_55 (by decide) rfl (gWs_in 3 (by decide +kernel)) (by decide +kernel) (by decide +kernel) (by decide +kernel) (by decide +kernel) (by decide +kernel) (k := 6) (by decide +kernel) (gWs_in 30 (by decide +kernel)) (by decide +kernel) (by decide +kernel) (Or.inl ⟨_, rfl⟩) (by simp only [List.length_set, zF_len]; decide +kernel) (fun q5 H locs hP hD hS => ?_)
  refine k_arr (n := 16) (N := 16) (lp := 2) (t := 0) C hl0 hP hD hS zX0_58 (fun h => lv_bipush C.1 C.2.1 zX0_59 (by decide +kernel) h) zX0_61 zX0_63 (by decide) rfl (gWs_in 3 (by decide +kernel)) (by decide +kernel) (by decide +kernel) (by decide +kernel) (by decide +kernel) (by decide +kernel) (k := 11) (by decide +kernel) (gWs_in 31 (by decide +kernel)) (by decide +kernel) (by decide +kernel) (Or.inl ⟨_, rfl⟩) (by simp only [List.length_set, zF_len]; decide +kernel) (fun q6 H locs hP hD hS => ?_)
  subst hAe
  exact c_end (q := fun k => ([q0, q1, q2, q3, q4, q5, q6] : List Nat).getD k 0) C hP hD hS (by decide +kernel) (by decide +kernel) zX0_66
def wI9 (cA : Nat → ClassId) (h0 : Nat) (q : Nat → Nat) : va_W := [(h0, .inr (9, [.ref (q 0)]))] ++ ([(q 0, .inl (cA 0, zA 0 10))])
theorem zX9_0 : decode (byI 9) 0 = .ok (.aload_n 0, 1) := by decide +kernel
theorem zX9_1 : decode (byI 9) 1 = .ok (.invokespecial 3, 3) := by decide +kernel
theorem zX9_4 : decode (byI 9) 4 = .ok (.aload_n 0, 1) := by decide +kernel
theorem zX9_5 : decode (byI 9) 5 = .ok (.bipush 10, 2) := by decide +kernel
theorem zX9_7 : decode (byI 9) 7 = .ok (.newarray .int, 2) := by decide +kernel
theorem zX9_9 : decode (byI 9) 9 = .ok (.putfield 9, 3) := by decide +kernel
theorem zX9_12 : decode (byI 9) 12 = .ok (.return_, 1) := by decide +kernel
set_option maxHeartbeats 4000000 in
set_option maxRecDepth 100000 in
/-- new StringHands$Web() -/
theorem cI9 (l : Launch) (D : va_G) (cA : Nat → ClassId) : MkI l D cA 9 1 1 1 10 (wI9 cA) := by
  refine c_ent (by decide) (by decide) (by decide) zX9_0 zX9_1 (gWs_in 32 (by decide +kernel)) (gWs_in 1 (by decide +kernel)) (gWs_in 2 rfl) (fun p e s m args below meth c1 h0 ls C hl hP hD hS => ?_)
  have hl0 := lv_at hl 0 rfl
  generalize hAe : va_A [(h0, .inr (9, zF 9))] s.heap.size = A at C hD hS ⊢
  refine k_arr (n := 10) (N := 10) (lp := 2) (t := 0) C hl0 hP hD hS zX9_4 (fun h => lv_bipush C.1 C.2.1 zX9_5 (by decide +kernel) h) zX9_7 zX9_9 (by decide) rfl (gWs_in 3 (by decide +kernel)) (by decide +kernel) (by decide +kernel) (by decide +kernel) (by decide +kernel) (by decide +kernel) (k := 0) (by decide +kernel) (gWs_in 33 (by decide +kernel)) (by decide +kernel) (by decide +kernel) (Or.inl ⟨_, rfl⟩) (by simp only [List.length_set, zF_len]; decide +kernel) (fun q0 H locs hP hD hS => ?_)
  subst hAe
  exact c_end (q := fun k => ([q0] : List Nat).getD k 0) C hP hD hS (by decide +kernel) (by decide +kernel) zX9_12
def wI7 (cA : Nat → ClassId) (h0 : Nat) (q : Nat → Nat) : va_W := [(h0, .inr (7, [.ref (q 0), .ref (q 1), .ref (q 2), .ref (q 3), .long 0, .long 0, .int 0]))] ++ ([(q 0, .inl (cA 0, zA 0 7))] ++ ([(q 1, .inl (cA 0, zA 0 7))] ++ ([(q 2, .inl (cA 1, zA 1 49))] ++ ([(q 3, .inl (cA 1, zA 1 49))]))))
theorem zX7_0 : decode (byI 7) 0 = .ok (.aload_n 0, 1) := by decide +kernel
theorem zX7_1 : decode (byI 7) 1 = .ok (.invokespecial 3, 3) := by decide +kernel
theorem zX7_4 : decode (byI 7) 4 = .ok (.aload_n 0, 1) := by decide +kernel
theorem zX7_5 : decode (byI 7) 5 = .ok (.bipush 7, 2) := by decide +kernel
theorem zX7_7 : decode (byI 7) 7 = .ok (.newarray .int, 2) := by decide +kernel
theorem zX7_9 : decode (byI 7) 9 = .ok (.putfield 11, 3) := by decide +kernel
theorem zX7_12 : decode (byI 7) 12 = .ok (.aload_n 0, 1) := by decide +kernel
theorem zX7_13 : decode (byI 7) 13 = .ok (.bipush 7, 2) := by decide +kernel
theorem zX7_15 : decode (byI 7) 15 = .ok (.newarray .int, 2) := by decide +kernel
theorem zX7_17 : decode (byI 7) 17 = .ok (.putfield 15, 3) := by decide +kernel
theorem zX7_20 : decode (byI 7) 20 = .ok (.aload_n 0, 1) := by decide +kernel
theorem zX7_21 : decode (byI 7) 21 = .ok (.bipush 49, 2) := by decide +kernel
theorem zX7_23 : decode (byI 7) 23 = .ok (.newarray .long, 2) := by decide +kernel
theorem zX7_25 : decode (byI 7) 25 = .ok (.putfield 18, 3) := by decide +kernel
theorem zX7_28 : decode (byI 7) 28 = .ok (.aload_n 0, 1) := by decide +kernel
theorem zX7_29 : decode (byI 7) 29 = .ok (.bipush 49, 2) := by decide +kernel
theorem zX7_31 : decode (byI 7) 31 = .ok (.newarray .long, 2) := by decide +kernel
theorem zX7_33 : decode (byI 7) 33 = .ok (.putfield 22, 3) := by decide +kernel
theorem zX7_36 : decode (byI 7) 36 = .ok (.return_, 1) := by decide +kernel
set_option maxHeartbeats 4000000 in
set_option maxRecDepth 100000 in
/-- new StringHands$Tangler() -/
theorem cI7 (l : Launch) (D : va_G) (cA : Nat → ClassId) : MkI l D cA 7 1 1 4 112 (wI7 cA) := by
  refine c_ent (by decide) (by decide) (by decide) zX7_0 zX7_1 (gWs_in 34 (by decide +kernel)) (gWs_in 1 (by decide +kernel)) (gWs_in 2 rfl) (fun p e s m args below meth c1 h0 ls C hl hP hD hS => ?_)
  have hl0 := lv_at hl 0 rfl
  generalize hAe : va_A [(h0, .inr (7, zF 7))] s.heap.size = A at C hD hS ⊢
  refine k_arr (n := 7) (N := 7) (lp := 2) (t := 0) C hl0 hP hD hS zX7_4 (fun h => lv_bipush C.1 C.2.1 zX7_5 (by decide +kernel) h) zX7_7 zX7_9 (by decide) rfl (gWs_in 3 (by decide +kernel)) (by decide +kernel) (by decide +kernel) (by decide +kernel) (by decide +kernel) (by decide +kernel) (k := 0) (by decide +kernel) (gWs_in 35 (by decide +kernel)) (by decide +kernel) (by decide +kernel) (Or.inl ⟨_, rfl⟩) (by simp only [List.length_set, zF_len]; decide +kernel) (fun q0 H locs hP hD hS => ?_)
  refine k_arr (n := 7) (N := 7) (lp := 2) (t := 0) C hl0 hP hD hS zX7_12 (fun h => lv_bipush C.1 C.2.1 zX7_13 (by decide +kernel) h) zX7_15 zX7_17 (by decide) rfl (gWs_in 3 (by decide +kernel)) (by decide +kernel) (by decide +kernel) (by decide +kernel) (by decide +kernel) (by decide +kernel) (k := 1) (by decide +kernel) (gWs_in 36 (by decide +kernel)) (by decide +kernel) (by decide +kernel) (Or.inl ⟨_, rfl⟩) (by simp only [List.length_set, zF_len]; decide +kernel) (fun q1 H locs hP hD hS => ?_)
  refine k_arr (n := 49) (N := 49) (lp := 2) (t := 1) C hl0 hP hD hS zX7_20 (fun h => lv_bipush C.1 C.2.1 zX7_21 (by decide +kernel) h) zX7_23 zX7_25 (by decide) rfl (gWs_in 9 (by decide +kernel)) (by decide +kernel) (by decide +kernel) (by decide +kernel) (by decide +kernel) (by decide +kernel) (k := 2) (by decide +kernel) (gWs_in 37 (by decide +kernel)) (by decide +kernel) (by decide +kernel) (Or.inl ⟨_, rfl⟩) (by simp only [List.length_set, zF_len]; decide +kernel) (fun q2 H locs hP hD hS => ?_)
  refine k_arr (n := 49) (N := 49) (lp := 2) (t := 1) C hl0 hP hD hS zX7_28 (fun h => lv_bipush C.1 C.2.1 zX7_29 (by decide +kernel) h) zX7_31 zX7_33 (by decide) rfl (gWs_in 9 (by decide +kernel)) (by decide +kernel) (by decide +kernel) (by decide +kernel) (by decide +kernel) (by decide +kernel) (k := 3) (by decide +kernel) (gWs_in 38 (by decide +kernel)) (by decide +kernel) (by decide +kernel) (Or.inl ⟨_, rfl⟩) (by simp only [List.length_set, zF_len]; decide +kernel) (fun q3 H locs hP hD hS => ?_)
  subst hAe
  exact c_end (q := fun k => ([q0, q1, q2, q3] : List Nat).getD k 0) C hP hD hS (by decide +kernel) (by decide +kernel) zX7_36
def wI5 (cA : Nat → ClassId) (h0 : Nat) (q : Nat → Nat) : va_W := [(h0, .inr (5, [.ref (q 0), .ref (q 1), .int 0, .ref (q 2), .ref (q 3), .ref (q 4), .ref (q 5)]))] ++ ([(q 0, .inl (cA 0, zA 0 9))] ++ ([(q 1, .inl (cA 0, zA 0 9))] ++ ([(q 2, .inl (cA 0, zA 0 12))] ++ ([(q 3, .inl (cA 0, zA 0 12))] ++ ([(q 4, .inl (cA 0, zA 0 1024))] ++ ([(q 5, .inl (cA 0, zA 0 1024))]))))))
theorem zX5_0 : decode (byI 5) 0 = .ok (.aload_n 0, 1) := by decide +kernel
theorem zX5_1 : decode (byI 5) 1 = .ok (.invokespecial 3, 3) := by decide +kernel
theorem zX5_4 : decode (byI 5) 4 = .ok (.aload_n 0, 1) := by decide +kernel
theorem zX5_5 : decode (byI 5) 5 = .ok (.bipush 9, 2) := by decide +kernel
theorem zX5_7 : decode (byI 5) 7 = .ok (.newarray .int, 2) := by decide +kernel
theorem zX5_9 : decode (byI 5) 9 = .ok (.putfield 11, 3) := by decide +kernel
theorem zX5_12 : decode (byI 5) 12 = .ok (.aload_n 0, 1) := by decide +kernel
theorem zX5_13 : decode (byI 5) 13 = .ok (.bipush 9, 2) := by decide +kernel
theorem zX5_15 : decode (byI 5) 15 = .ok (.newarray .int, 2) := by decide +kernel
theorem zX5_17 : decode (byI 5) 17 = .ok (.putfield 15, 3) := by decide +kernel
theorem zX5_20 : decode (byI 5) 20 = .ok (.aload_n 0, 1) := by decide +kernel
theorem zX5_21 : decode (byI 5) 21 = .ok (.bipush 12, 2) := by decide +kernel
theorem zX5_23 : decode (byI 5) 23 = .ok (.newarray .int, 2) := by decide +kernel
theorem zX5_25 : decode (byI 5) 25 = .ok (.putfield 18, 3) := by decide +kernel
theorem zX5_28 : decode (byI 5) 28 = .ok (.aload_n 0, 1) := by decide +kernel
theorem zX5_29 : decode (byI 5) 29 = .ok (.bipush 12, 2) := by decide +kernel
theorem zX5_31 : decode (byI 5) 31 = .ok (.newarray .int, 2) := by decide +kernel
theorem zX5_33 : decode (byI 5) 33 = .ok (.putfield 21, 3) := by decide +kernel
theorem zX5_36 : decode (byI 5) 36 = .ok (.aload_n 0, 1) := by decide +kernel
theorem zX5_37 : decode (byI 5) 37 = .ok (.sipush 1024, 3) := by decide +kernel
theorem zX5_40 : decode (byI 5) 40 = .ok (.newarray .int, 2) := by decide +kernel
theorem zX5_42 : decode (byI 5) 42 = .ok (.putfield 24, 3) := by decide +kernel
theorem zX5_45 : decode (byI 5) 45 = .ok (.aload_n 0, 1) := by decide +kernel
theorem zX5_46 : decode (byI 5) 46 = .ok (.sipush 1024, 3) := by decide +kernel
theorem zX5_49 : decode (byI 5) 49 = .ok (.newarray .int, 2) := by decide +kernel
theorem zX5_51 : decode (byI 5) 51 = .ok (.putfield 27, 3) := by decide +kernel
theorem zX5_54 : decode (byI 5) 54 = .ok (.return_, 1) := by decide +kernel
set_option maxHeartbeats 4000000 in
set_option maxRecDepth 100000 in
/-- new StringHands$Scenes() -/
theorem cI5 (l : Launch) (D : va_G) (cA : Nat → ClassId) : MkI l D cA 5 1 1 6 2090 (wI5 cA) := by
  refine c_ent (by decide) (by decide) (by decide) zX5_0 zX5_1 (gWs_in 39 (by decide +kernel)) (gWs_in 1 (by decide +kernel)) (gWs_in 2 rfl) (fun p e s m args below meth c1 h0 ls C hl hP hD hS => ?_)
  have hl0 := lv_at hl 0 rfl
  generalize hAe : va_A [(h0, .inr (5, zF 5))] s.heap.size = A at C hD hS ⊢
  refine k_arr (n := 9) (N := 9) (lp := 2) (t := 0) C hl0 hP hD hS zX5_4 (fun h => lv_bipush C.1 C.2.1 zX5_5 (by decide +kernel) h) zX5_7 zX5_9 (by decide) rfl (gWs_in 3 (by decide +kernel)) (by decide +kernel) (by decide +kernel) (by decide +kernel) (by decide +kernel) (by decide +kernel) (k := 0) (by decide +kernel) (gWs_in 40 (by decide +kernel)) (by decide +kernel) (by decide +kernel) (Or.inl ⟨_, rfl⟩) (by simp only [List.length_set, zF_len]; decide +kernel) (fun q0 H locs hP hD hS => ?_)
  refine k_arr (n := 9) (N := 9) (lp := 2) (t := 0) C hl0 hP hD hS zX5_12 (fun h => lv_bipush C.1 C.2.1 zX5_13 (by decide +kernel) h) zX5_15 zX5_17 (by decide) rfl (gWs_in 3 (by decide +kernel)) (by decide +kernel) (by decide +kernel) (by decide +kernel) (by decide +kernel) (by decide +kernel) (k := 1) (by decide +kernel) (gWs_in 41 (by decide +kernel)) (by decide +kernel) (by decide +kernel) (Or.inl ⟨_, rfl⟩) (by simp only [List.length_set, zF_len]; decide +kernel) (fun q1 H locs hP hD hS => ?_)
  refine k_arr (n := 12) (N := 12) (lp := 2) (t := 0) C hl0 hP hD hS zX5_20 (fun h => lv_bipush C.1 C.2.1 zX5_21 (by decide +kernel) h) zX5_23 zX5_25 (by decide) rfl (gWs_in 3 (by decide +kernel)) (by decide +kernel) (by decide +kernel) (by decide +kernel) (by decide +kernel) (by decide +kernel) (k := 3) (by decide +kernel) (gWs_in 42 (by decide +kernel)) (by decide +kernel) (by decide +kernel) (Or.inl ⟨_, rfl⟩) (by simp only [List.length_set, zF_len]; decide +kernel) (fun q2 H locs hP hD hS => ?_)
  refine k_arr (n := 12) (N := 12) (lp := 2) (t := 0) C hl0 hP hD hS zX5_28 (fun h => lv_bipush C.1 C.2.1 zX5_29 (by decide +kernel) h) zX5_31 zX5_33 (by decide) rfl (gWs_in 3 (by decide +kernel)) (by decide +kernel) (by decide +kernel) (by decide +kernel) (by decide +kernel) (by decide +kernel) (k := 4) (by decide +kernel) (gWs_in 43 (by decide +kernel)) (by decide +kernel) (by decide +kernel) (Or.inl ⟨_, rfl⟩) (by simp only [List.length_set, zF_len]; decide +kernel) (fun q3 H locs hP hD hS => ?_)
  refine k_arr (n := 1024) (N := 1024) (lp := 3) (t := 0) C hl0 hP hD hS zX5_36 (fun h => lv_sipush C.1 C.2.1 zX5_37 (by decide +kernel) h) zX5_40 zX5_42 (by decide) rfl (gWs_in 3 (by decide +kernel)) (by decide +kernel) (by decide +kernel) (by decide +kernel) (by decide +kernel) (by decide +kernel) (k := 5) (by decide +kernel) (gWs_in 44 (by decide +kernel)) (by decide +kernel) (by decide +kernel) (Or.inl ⟨_, rfl⟩) (by simp only [List.length_set, zF_len]; decide +kernel) (fun q4 H locs hP hD hS => ?_)
  refine k_arr (n := 1024) (N := 1024) (lp := 3) (t := 0) C hl0 hP hD hS zX5_45 (fun h => lv_sipush C.1 C.2.1 zX5_46 (by decide +kernel) h) zX5_49 zX5_51 (by decide) rfl (gWs_in 3 (by decide +kernel)) (by decide +kernel) (by decide +kernel) (by decide +kernel) (by decide +kernel) (by decide +kernel) (k := 6) (by decide +kernel) (gWs_in 45 (by decide +kernel)) (by decide +kernel) (by decide +kernel) (Or.inl ⟨_, rfl⟩) (by simp only [List.length_set, zF_len]; decide +kernel) (fun q5 H locs hP hD hS => ?_)
  subst hAe
  exact c_end (q := fun k => ([q0, q1, q2, q3, q4, q5] : List Nat).getD k 0) C hP hD hS (by decide +kernel) (by decide +kernel) zX5_54
def wI1 (cA : Nat → ClassId) (h0 : Nat) (q : Nat → Nat) : va_W := [(h0, .inr (1, [.int 0, .ref (q 0), .ref (q 1), .ref (q 2), .int 0, .ref (q 3), .int 0]))] ++ ([(q 0, .inl (cA 0, zA 0 1024))] ++ ([(q 1, .inl (cA 0, zA 0 1024))] ++ ([(q 2, .inl (cA 0, zA 0 1024))] ++ ([(q 3, .inl (cA 0, zA 0 30))]))))
theorem zX1_0 : decode (byI 1) 0 = .ok (.aload_n 0, 1) := by decide +kernel
theorem zX1_1 : decode (byI 1) 1 = .ok (.invokespecial 3, 3) := by decide +kernel
theorem zX1_4 : decode (byI 1) 4 = .ok (.aload_n 0, 1) := by decide +kernel
theorem zX1_5 : decode (byI 1) 5 = .ok (.sipush 1024, 3) := by decide +kernel
theorem zX1_8 : decode (byI 1) 8 = .ok (.newarray .int, 2) := by decide +kernel
theorem zX1_10 : decode (byI 1) 10 = .ok (.putfield 9, 3) := by decide +kernel
theorem zX1_13 : decode (byI 1) 13 = .ok (.aload_n 0, 1) := by decide +kernel
theorem zX1_14 : decode (byI 1) 14 = .ok (.sipush 1024, 3) := by decide +kernel
theorem zX1_17 : decode (byI 1) 17 = .ok (.newarray .int, 2) := by decide +kernel
theorem zX1_19 : decode (byI 1) 19 = .ok (.putfield 15, 3) := by decide +kernel
theorem zX1_22 : decode (byI 1) 22 = .ok (.aload_n 0, 1) := by decide +kernel
theorem zX1_23 : decode (byI 1) 23 = .ok (.sipush 1024, 3) := by decide +kernel
theorem zX1_26 : decode (byI 1) 26 = .ok (.newarray .int, 2) := by decide +kernel
theorem zX1_28 : decode (byI 1) 28 = .ok (.putfield 18, 3) := by decide +kernel
theorem zX1_31 : decode (byI 1) 31 = .ok (.aload_n 0, 1) := by decide +kernel
theorem zX1_32 : decode (byI 1) 32 = .ok (.bipush 30, 2) := by decide +kernel
theorem zX1_34 : decode (byI 1) 34 = .ok (.newarray .int, 2) := by decide +kernel
theorem zX1_36 : decode (byI 1) 36 = .ok (.putfield 21, 3) := by decide +kernel
theorem zX1_39 : decode (byI 1) 39 = .ok (.return_, 1) := by decide +kernel
set_option maxHeartbeats 4000000 in
set_option maxRecDepth 100000 in
/-- new StringHands$Guesses() -/
theorem cI1 (l : Launch) (D : va_G) (cA : Nat → ClassId) : MkI l D cA 1 1 1 4 3102 (wI1 cA) := by
  refine c_ent (by decide) (by decide) (by decide) zX1_0 zX1_1 (gWs_in 46 (by decide +kernel)) (gWs_in 1 (by decide +kernel)) (gWs_in 2 rfl) (fun p e s m args below meth c1 h0 ls C hl hP hD hS => ?_)
  have hl0 := lv_at hl 0 rfl
  generalize hAe : va_A [(h0, .inr (1, zF 1))] s.heap.size = A at C hD hS ⊢
  refine k_arr (n := 1024) (N := 1024) (lp := 3) (t := 0) C hl0 hP hD hS zX1_4 (fun h => lv_sipush C.1 C.2.1 zX1_5 (by decide +kernel) h) zX1_8 zX1_10 (by decide) rfl (gWs_in 3 (by decide +kernel)) (by decide +kernel) (by decide +kernel) (by decide +kernel) (by decide +kernel) (by decide +kernel) (k := 1) (by decide +kernel) (gWs_in 47 (by decide +kernel)) (by decide +kernel) (by decide +kernel) (Or.inl ⟨_, rfl⟩) (by simp only [List.length_set, zF_len]; decide +kernel) (fun q0 H locs hP hD hS => ?_)
  refine k_arr (n := 1024) (N := 1024) (lp := 3) (t := 0) C hl0 hP hD hS zX1_13 (fun h => lv_sipush C.1 C.2.1 zX1_14 (by decide +kernel) h) zX1_17 zX1_19 (by decide) rfl (gWs_in 3 (by decide +kernel)) (by decide +kernel) (by decide +kernel) (by decide +kernel) (by decide +kernel) (by decide +kernel) (k := 2) (by decide +kernel) (gWs_in 48 (by decide +kernel)) (by decide +kernel) (by decide +kernel) (Or.inl ⟨_, rfl⟩) (by simp only [List.length_set, zF_len]; decide +kernel) (fun q1 H locs hP hD hS => ?_)
  refine k_arr (n := 1024) (N := 1024) (lp := 3) (t := 0) C hl0 hP hD hS zX1_22 (fun h => lv_sipush C.1 C.2.1 zX1_23 (by decide +kernel) h) zX1_26 zX1_28 (by decide) rfl (gWs_in 3 (by decide +kernel)) (by decide +kernel) (by decide +kernel) (by decide +kernel) (by decide +kernel) (by decide +kernel) (k := 3) (by decide +kernel) (gWs_in 49 (by decide +kernel)) (by decide +kernel) (by decide +kernel) (Or.inl ⟨_, rfl⟩) (by simp only [List.length_set, zF_len]; decide +kernel) (fun q2 H locs hP hD hS => ?_)
  refine k_arr (n := 30) (N := 30) (lp := 2) (t := 0) C hl0 hP hD hS zX1_31 (fun h => lv_bipush C.1 C.2.1 zX1_32 (by decide +kernel) h) zX1_34 zX1_36 (by decide) rfl (gWs_in 3 (by decide +kernel)) (by decide +kernel) (by decide +kernel) (by decide +kernel) (by decide +kernel) (by decide +kernel) (k := 5) (by decide +kernel) (gWs_in 50 (by decide +kernel)) (by decide +kernel) (by decide +kernel) (Or.inl ⟨_, rfl⟩) (by simp only [List.length_set, zF_len]; decide +kernel) (fun q3 H locs hP hD hS => ?_)
  subst hAe
  exact c_end (q := fun k => ([q0, q1, q2, q3] : List Nat).getD k 0) C hP hD hS (by decide +kernel) (by decide +kernel) zX1_39
def wI10 (cA : Nat → ClassId) (h0 : Nat) (q : (Nat → Nat) × (Nat → Nat)) : va_W := [(h0, .inr (10, [.int 0, .int 0, .ref (q.1 0), .ref (q.1 1), .ref (q.1 2), .ref (q.1 3), .ref (q.2 0)]))] ++ ([(q.1 0, .inl (cA 0, zA 0 40))] ++ ([(q.1 1, .inl (cA 0, zA 0 1024))] ++ ([(q.1 2, .inl (cA 0, zA 0 1024))] ++ ([(q.1 3, .inl (cA 0, zA 0 1024))] ++ (mulW cA 17 49 q.2)))))
theorem zX10_0 : decode (byI 10) 0 = .ok (.aload_n 0, 1) := by decide +kernel
theorem zX10_1 : decode (byI 10) 1 = .ok (.invokespecial 3, 3) := by decide +kernel
theorem zX10_4 : decode (byI 10) 4 = .ok (.aload_n 0, 1) := by decide +kernel
theorem zX10_5 : decode (byI 10) 5 = .ok (.bipush 40, 2) := by decide +kernel
theorem zX10_7 : decode (byI 10) 7 = .ok (.newarray .int, 2) := by decide +kernel
theorem zX10_9 : decode (byI 10) 9 = .ok (.putfield 11, 3) := by decide +kernel
theorem zX10_12 : decode (byI 10) 12 = .ok (.aload_n 0, 1) := by decide +kernel
theorem zX10_13 : decode (byI 10) 13 = .ok (.sipush 1024, 3) := by decide +kernel
theorem zX10_16 : decode (byI 10) 16 = .ok (.newarray .int, 2) := by decide +kernel
theorem zX10_18 : decode (byI 10) 18 = .ok (.putfield 15, 3) := by decide +kernel
theorem zX10_21 : decode (byI 10) 21 = .ok (.aload_n 0, 1) := by decide +kernel
theorem zX10_22 : decode (byI 10) 22 = .ok (.sipush 1024, 3) := by decide +kernel
theorem zX10_25 : decode (byI 10) 25 = .ok (.newarray .int, 2) := by decide +kernel
theorem zX10_27 : decode (byI 10) 27 = .ok (.putfield 18, 3) := by decide +kernel
theorem zX10_30 : decode (byI 10) 30 = .ok (.aload_n 0, 1) := by decide +kernel
theorem zX10_31 : decode (byI 10) 31 = .ok (.sipush 1024, 3) := by decide +kernel
theorem zX10_34 : decode (byI 10) 34 = .ok (.newarray .int, 2) := by decide +kernel
theorem zX10_36 : decode (byI 10) 36 = .ok (.putfield 21, 3) := by decide +kernel
theorem zX10_39 : decode (byI 10) 39 = .ok (.aload_n 0, 1) := by decide +kernel
theorem zX10_40 : decode (byI 10) 40 = .ok (.bipush 17, 2) := by decide +kernel
theorem zX10_42 : decode (byI 10) 42 = .ok (.bipush 49, 2) := by decide +kernel
theorem zX10_44 : decode (byI 10) 44 = .ok (.multianewarray 24 2, 4) := by decide +kernel
theorem zX10_48 : decode (byI 10) 48 = .ok (.putfield 26, 3) := by decide +kernel
theorem zX10_51 : decode (byI 10) 51 = .ok (.return_, 1) := by decide +kernel
set_option maxHeartbeats 4000000 in
set_option maxRecDepth 100000 in
/-- new StringHands$Wishes() -/
theorem cI10 (l : Launch) (D : va_G) (cA : Nat → ClassId) : MkI l D cA 10 1 1 22 3962 (wI10 cA) := by
  refine c_ent (by decide) (by decide) (by decide) zX10_0 zX10_1 (gWs_in 51 (by decide +kernel)) (gWs_in 1 (by decide +kernel)) (gWs_in 2 rfl) (fun p e s m args below meth c1 h0 ls C hl hP hD hS => ?_)
  have hl0 := lv_at hl 0 rfl
  generalize hAe : va_A [(h0, .inr (10, zF 10))] s.heap.size = A at C hD hS ⊢
  refine k_arr (n := 40) (N := 40) (lp := 2) (t := 0) C hl0 hP hD hS zX10_4 (fun h => lv_bipush C.1 C.2.1 zX10_5 (by decide +kernel) h) zX10_7 zX10_9 (by decide) rfl (gWs_in 3 (by decide +kernel)) (by decide +kernel) (by decide +kernel) (by decide +kernel) (by decide +kernel) (by decide +kernel) (k := 2) (by decide +kernel) (gWs_in 52 (by decide +kernel)) (by decide +kernel) (by decide +kernel) (Or.inl ⟨_, rfl⟩) (by simp only [List.length_set, zF_len]; decide +kernel) (fun q0 H locs hP hD hS => ?_)
  refine k_arr (n := 1024) (N := 1024) (lp := 3) (t := 0) C hl0 hP hD hS zX10_12 (fun h => lv_sipush C.1 C.2.1 zX10_13 (by decide +kernel) h) zX10_16 zX10_18 (by decide) rfl (gWs_in 3 (by decide +kernel)) (by decide +kernel) (by decide +kernel) (by decide +kernel) (by decide +kernel) (by decide +kernel) (k := 3) (by decide +kernel) (gWs_in 53 (by decide +kernel)) (by decide +kernel) (by decide +kernel) (Or.inl ⟨_, rfl⟩) (by simp only [List.length_set, zF_len]; decide +kernel) (fun q1 H locs hP hD hS => ?_)
  refine k_arr (n := 1024) (N := 1024) (lp := 3) (t := 0) C hl0 hP hD hS zX10_21 (fun h => lv_sipush C.1 C.2.1 zX10_22 (by decide +kernel) h) zX10_25 zX10_27 (by decide) rfl (gWs_in 3 (by decide +kernel)) (by decide +kernel) (by decide +kernel) (by decide +kernel) (by decide +kernel) (by decide +kernel) (k := 4) (by decide +kernel) (gWs_in 54 (by decide +kernel)) (by decide +kernel) (by decide +kernel) (Or.inl ⟨_, rfl⟩) (by simp only [List.length_set, zF_len]; decide +kernel) (fun q2 H locs hP hD hS => ?_)
  refine k_arr (n := 1024) (N := 1024) (lp := 3) (t := 0) C hl0 hP hD hS zX10_30 (fun h => lv_sipush C.1 C.2.1 zX10_31 (by decide +kernel) h) zX10_34 zX10_36 (by decide) rfl (gWs_in 3 (by decide +kernel)) (by decide +kernel) (by decide +kernel) (by decide +kernel) (by decide +kernel) (by decide +kernel) (k := 5) (by decide +kernel) (gWs_in 55 (by decide +kernel)) (by decide +kernel) (by decide +kernel) (Or.inl ⟨_, rfl⟩) (by simp only [List.length_set, zF_len]; decide +kernel) (fun q3 H locs hP hD hS => ?_)
  refine lv_aload_n C.1 C.2.1 zX10_39 rfl hl0 ?_
  refine lv_bipush (v := 17) C.1 C.2.1 zX10_40 (by decide +kernel) ?_
  refine lv_bipush (v := 49) C.1 C.2.1 zX10_42 (by decide +kernel) ?_
  refine m_multi (N := 17) (M := 49) C.1 C.2.1 C.2.2.2.1 (C.2.2.2.2.1 _ (gWs_in 56 (by decide +kernel))) C.2.2.2.2.2.2.2.2.2.1.2.2.2.1 (C.2.2.2.2.1 _ (gWs_in 57 (by decide +kernel))) C.2.2.2.2.2.1 hP hD hS C.2.2.2.2.2.2.2.1 (by decide +kernel) (by decide +kernel) (by decide +kernel) (by decide +kernel) (by decide +kernel) (by decide +kernel) (by decide +kernel) (by decide +kernel) (by decide +kernel) zX10_44 (fun qm4 H hP hD hS => ?_)
  refine k_setF (k := 6) C hP hD hS zX10_48 (by decide +kernel) (gWs_in 58 (by decide +kernel)) (by decide +kernel) (by decide +kernel) ⟨rfl, rfl⟩ (by simp only [List.length_set, zF_len]; decide +kernel) (fun H locs hP hD hS => ?_)
  subst hAe
  exact c_end (q := (fun k => ([q0, q1, q2, q3] : List Nat).getD k 0, qm4)) C hP hD hS (by decide +kernel) (by decide +kernel) zX10_51
def wI4 (cA : Nat → ClassId) (h0 : Nat) (q : (Nat → Nat) × (Nat → Nat)) : va_W := [(h0, .inr (4, [.ref (q.1 0), .int 0, .int 0, .int (-1), .ref (q.1 1), .ref (q.1 2), .ref (q.1 3), .ref (q.1 4), .int 0, .int 0, .int 0, .int 0, .int 0, .int 0]))] ++ ([(q.1 0, .inl (cA 2, zA 2 900))] ++ (wI8 cA (q.1 1) q.2 ++ ([(q.1 2, .inl (cA 0, zA 0 901))] ++ ([(q.1 3, .inl (cA 0, zA 0 901))] ++ ([(q.1 4, .inl (cA 0, zA 0 901))])))))
theorem zX4_0 : decode (byI 4) 0 = .ok (.aload_n 0, 1) := by decide +kernel
theorem zX4_1 : decode (byI 4) 1 = .ok (.invokespecial 3, 3) := by decide +kernel
theorem zX4_4 : decode (byI 4) 4 = .ok (.aload_n 0, 1) := by decide +kernel
theorem zX4_5 : decode (byI 4) 5 = .ok (.sipush 900, 3) := by decide +kernel
theorem zX4_8 : decode (byI 4) 8 = .ok (.newarray .byte, 2) := by decide +kernel
theorem zX4_10 : decode (byI 4) 10 = .ok (.putfield 9, 3) := by decide +kernel
theorem zX4_13 : decode (byI 4) 13 = .ok (.aload_n 0, 1) := by decide +kernel
theorem zX4_14 : decode (byI 4) 14 = .ok (.iconst (-1), 1) := by decide +kernel
theorem zX4_15 : decode (byI 4) 15 = .ok (.putfield 15, 3) := by decide +kernel
theorem zX4_18 : decode (byI 4) 18 = .ok (.aload_n 0, 1) := by decide +kernel
theorem zX4_19 : decode (byI 4) 19 = .ok (.new 19, 3) := by decide +kernel
theorem zX4_22 : decode (byI 4) 22 = .ok (.dup, 1) := by decide +kernel
theorem zX4_23 : decode (byI 4) 23 = .ok (.invokespecial 21, 3) := by decide +kernel
theorem zX4_26 : decode (byI 4) 26 = .ok (.putfield 22, 3) := by decide +kernel
theorem zX4_29 : decode (byI 4) 29 = .ok (.aload_n 0, 1) := by decide +kernel
theorem zX4_30 : decode (byI 4) 30 = .ok (.sipush 901, 3) := by decide +kernel
theorem zX4_33 : decode (byI 4) 33 = .ok (.newarray .int, 2) := by decide +kernel
theorem zX4_35 : decode (byI 4) 35 = .ok (.putfield 26, 3) := by decide +kernel
theorem zX4_38 : decode (byI 4) 38 = .ok (.aload_n 0, 1) := by decide +kernel
theorem zX4_39 : decode (byI 4) 39 = .ok (.sipush 901, 3) := by decide +kernel
theorem zX4_42 : decode (byI 4) 42 = .ok (.newarray .int, 2) := by decide +kernel
theorem zX4_44 : decode (byI 4) 44 = .ok (.putfield 30, 3) := by decide +kernel
theorem zX4_47 : decode (byI 4) 47 = .ok (.aload_n 0, 1) := by decide +kernel
theorem zX4_48 : decode (byI 4) 48 = .ok (.sipush 901, 3) := by decide +kernel
theorem zX4_51 : decode (byI 4) 51 = .ok (.newarray .int, 2) := by decide +kernel
theorem zX4_53 : decode (byI 4) 53 = .ok (.putfield 33, 3) := by decide +kernel
theorem zX4_56 : decode (byI 4) 56 = .ok (.return_, 1) := by decide +kernel
set_option maxHeartbeats 4000000 in
set_option maxRecDepth 100000 in
/-- new StringHands$Reader() -/
theorem cI4 (l : Launch) (D : va_G) (cA : Nat → ClassId) : MkI l D cA 4 1 2 14 4620 (wI4 cA) := by
  refine c_ent (by decide) (by decide) (by decide) zX4_0 zX4_1 (gWs_in 59 (by decide +kernel)) (gWs_in 1 (by decide +kernel)) (gWs_in 2 rfl) (fun p e s m args below meth c1 h0 ls C hl hP hD hS => ?_)
  have hl0 := lv_at hl 0 rfl
  generalize hAe : va_A [(h0, .inr (4, zF 4))] s.heap.size = A at C hD hS ⊢
  refine k_arr (n := 900) (N := 900) (lp := 3) (t := 2) C hl0 hP hD hS zX4_4 (fun h => lv_sipush C.1 C.2.1 zX4_5 (by decide +kernel) h) zX4_8 zX4_10 (by decide) rfl (gWs_in 60 (by decide +kernel)) (by decide +kernel) (by decide +kernel) (by decide +kernel) (by decide +kernel) (by decide +kernel) (k := 0) (by decide +kernel) (gWs_in 61 (by decide +kernel)) (by decide +kernel) (by decide +kernel) (Or.inl ⟨_, rfl⟩) (by simp only [List.length_set, zF_len]; decide +kernel) (fun q0 H locs hP hD hS => ?_)
  refine lv_aload_n C.1 C.2.1 zX4_13 rfl hl0 ?_
  refine lv_iconst (v := -1) C.1 C.2.1 zX4_14 (by decide +kernel) ?_
  refine k_setI (k := 3) C hP hD hS zX4_15 (by decide +kernel) (gWs_in 62 (by decide +kernel)) (by decide +kernel) ⟨rfl, rfl⟩ (by simp only [List.length_set, zF_len]; decide +kernel) (fun H locs hP hD hS => ?_)
  refine k_obj C (j := 8) (by decide) (cI8 l D cA) hl0 hl.1 hP hD hS zX4_18 zX4_19 zX4_22 zX4_23 zX4_26 (gWs_in 63 (by decide +kernel)) (gWs_in 64 (by decide +kernel)) (gWs_in 65 (by decide +kernel)) (by decide) (gWs_in 66 (by decide +kernel)) (gWs_in 67 rfl) (by decide +kernel) (by decide +kernel) (by decide +kernel) (by decide +kernel) (k := 4) (by decide +kernel) (gWs_in 68 (by decide +kernel)) (by decide +kernel) (by decide +kernel) (Or.inr ⟨_, rfl⟩) (by simp only [List.length_set, zF_len]; decide +kernel) (fun q1 qs1 H locs hP hD hS => ?_)
  refine k_arr (n := 901) (N := 901) (lp := 3) (t := 0) C hl0 hP hD hS zX4_29 (fun h => lv_sipush C.1 C.2.1 zX4_30 (by decide +kernel) h) zX4_33 zX4_35 (by decide) rfl (gWs_in 3 (by decide +kernel)) (by decide +kernel) (by decide +kernel) (by decide +kernel) (by decide +kernel) (by decide +kernel) (k := 5) (by decide +kernel) (gWs_in 69 (by decide +kernel)) (by decide +kernel) (by decide +kernel) (Or.inl ⟨_, rfl⟩) (by simp only [List.length_set, zF_len]; decide +kernel) (fun q2 H locs hP hD hS => ?_)
  refine k_arr (n := 901) (N := 901) (lp := 3) (t := 0) C hl0 hP hD hS zX4_38 (fun h => lv_sipush C.1 C.2.1 zX4_39 (by decide +kernel) h) zX4_42 zX4_44 (by decide) rfl (gWs_in 3 (by decide +kernel)) (by decide +kernel) (by decide +kernel) (by decide +kernel) (by decide +kernel) (by decide +kernel) (k := 6) (by decide +kernel) (gWs_in 70 (by decide +kernel)) (by decide +kernel) (by decide +kernel) (Or.inl ⟨_, rfl⟩) (by simp only [List.length_set, zF_len]; decide +kernel) (fun q3 H locs hP hD hS => ?_)
  refine k_arr (n := 901) (N := 901) (lp := 3) (t := 0) C hl0 hP hD hS zX4_47 (fun h => lv_sipush C.1 C.2.1 zX4_48 (by decide +kernel) h) zX4_51 zX4_53 (by decide) rfl (gWs_in 3 (by decide +kernel)) (by decide +kernel) (by decide +kernel) (by decide +kernel) (by decide +kernel) (by decide +kernel) (k := 7) (by decide +kernel) (gWs_in 71 (by decide +kernel)) (by decide +kernel) (by decide +kernel) (Or.inl ⟨_, rfl⟩) (by simp only [List.length_set, zF_len]; decide +kernel) (fun q4 H locs hP hD hS => ?_)
  subst hAe
  exact c_end (q := (fun k => ([q0, q1, q2, q3, q4] : List Nat).getD k 0, qs1)) C hP hD hS (by decide +kernel) (by decide +kernel) zX4_56
