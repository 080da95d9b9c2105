/-! MAKING THE FIRST WORLD: the class's constructor (printed by wip/whole/mk.py). -/
abbrev S11 : Type := (Nat → Nat) × ((Nat → Nat) × (Nat → Nat)) × ((Nat → Nat) × (Nat → Nat)) × (Nat → Nat → Nat)
def wI11 (cA : Nat → ClassId) (h0 : Nat) (u : S11) : va_W := [(h0, .inr (11, [.ref (u.1 0), .ref (u.1 1), .ref (u.1 2), .ref (u.1 3), .ref (u.1 4), .ref (u.1 5), .ref (u.1 6), .ref (u.1 7), .ref (u.1 8), .ref (u.1 9), .ref (u.1 10), .ref (u.1 11), .int 0, .ref (u.1 12), .ref (u.1 13), .ref (u.1 14), .int 0]))] ++ (wI4 cA (u.1 0) u.2.1 ++ (wI2 cA (u.1 1) (u.2.2.2 1) ++ (wI0 cA (u.1 2) (u.2.2.2 2) ++ (wI10 cA (u.1 3) u.2.2.1 ++ (wI9 cA (u.1 4) (u.2.2.2 4) ++ (wI7 cA (u.1 5) (u.2.2.2 5) ++ (wI5 cA (u.1 6) (u.2.2.2 6) ++ (wI1 cA (u.1 7) (u.2.2.2 7) ++ (wI8 cA (u.1 8) (u.2.2.2 8) ++ (wI6 cA (u.1 9) (u.2.2.2 9) ++ (wI6 cA (u.1 10) (u.2.2.2 10) ++ ([(u.1 11, .inl (cA 4, 10, .inr (.inr (.inr (.inr (va_up (va_up (va_up (va_up (va_up (va_up (va_up (va_up (va_up (va_up (fun _ => none) 0 (some (u.1 15))) 1 (some (u.1 16))) 2 (some (u.1 17))) 3 (some (u.1 18))) 4 (some (u.1 19))) 5 (some (u.1 20))) 6 (some (u.1 21))) 7 (some (u.1 22))) 8 (some (u.1 23))) 9 (some (u.1 24))))))))] ++ ([(u.1 12, .inl (cA 5, 4, .inr (.inr (.inr (.inr (va_up (va_up (va_up (va_up (fun _ => none) 0 (some (u.1 25))) 1 (some (u.1 26))) 2 (some (u.1 27))) 3 (some (u.1 28))))))))] ++ ([(u.1 13, .inl (cA 6, 2, .inr (.inr (.inr (.inr (va_up (va_up (fun _ => none) 0 (some (u.1 29))) 1 (some (u.1 31))))))))] ++ ([(u.1 14, .inl (cA 4, 2, .inr (.inr (.inr (.inr (va_up (va_up (fun _ => none) 0 (some (u.1 30))) 1 (some (u.1 32))))))))] ++ (wI6 cA (u.1 15) (u.2.2.2 15) ++ (wI6 cA (u.1 16) (u.2.2.2 16) ++ (wI6 cA (u.1 17) (u.2.2.2 17) ++ (wI6 cA (u.1 18) (u.2.2.2 18) ++ (wI6 cA (u.1 19) (u.2.2.2 19) ++ (wI6 cA (u.1 20) (u.2.2.2 20) ++ (wI6 cA (u.1 21) (u.2.2.2 21) ++ (wI6 cA (u.1 22) (u.2.2.2 22) ++ (wI6 cA (u.1 23) (u.2.2.2 23) ++ (wI6 cA (u.1 24) (u.2.2.2 24) ++ (wI3 cA (u.1 25) (u.2.2.2 25) ++ (wI3 cA (u.1 26) (u.2.2.2 26) ++ (wI3 cA (u.1 27) (u.2.2.2 27) ++ (wI3 cA (u.1 28) (u.2.2.2 28) ++ (wI8 cA (u.1 29) (u.2.2.2 29) ++ (wI6 cA (u.1 30) (u.2.2.2 30) ++ (wI8 cA (u.1 31) (u.2.2.2 31) ++ (wI6 cA (u.1 32) (u.2.2.2 32))))))))))))))))))))))))))))))))))
theorem hd_I6 (cA : Nat → ClassId) (qa : Nat) (q : Nat → Nat) : ∃ (vs : List Value) (tl : va_W), wI6 cA qa q = (qa, .inr (6, vs)) :: tl := ⟨_, _, rfl⟩
theorem hd_I3 (cA : Nat → ClassId) (qa : Nat) (q : Nat → Nat) : ∃ (vs : List Value) (tl : va_W), wI3 cA qa q = (qa, .inr (3, vs)) :: tl := ⟨_, _, rfl⟩
theorem hd_I8 (cA : Nat → ClassId) (qa : Nat) (q : Nat → Nat) : ∃ (vs : List Value) (tl : va_W), wI8 cA qa q = (qa, .inr (8, vs)) :: tl := ⟨_, _, rfl⟩
section Big
variable {X : va_W}
theorem bg_1 (p1 p2 p3 p4 : Nat × va_E) : ((((X ++ [p1]) ++ [p2]) ++ [p3]) ++ [p4] : va_W) = X ++ p1 :: [p2, p3, p4] := by simp
theorem bg_2 (p1 p2 p3 p4 : Nat × va_E) (w0 w1 w2 w3 w4 w5 w6 w7 w8 w9 : va_W) : X ++ p1 :: (((((((((([p2, p3, p4] ++ w0) ++ w1) ++ w2) ++ w3) ++ w4) ++ w5) ++ w6) ++ w7) ++ w8) ++ w9) = (X ++ [p1]) ++ p2 :: ([p3, p4] ++ (w0 ++ (w1 ++ (w2 ++ (w3 ++ (w4 ++ (w5 ++ (w6 ++ (w7 ++ (w8 ++ (w9))))))))))) := by simp
theorem bg_3 (p1 p2 p3 p4 : Nat × va_E) (w0 w1 w2 w3 R : va_W) : (X ++ [p1]) ++ p2 :: ((((([p3, p4] ++ R) ++ w0) ++ w1) ++ w2) ++ w3) = ((X ++ [p1]) ++ [p2]) ++ p3 :: ([p4] ++ (R ++ (w0 ++ (w1 ++ (w2 ++ (w3)))))) := by simp
theorem bg_4 (p3 p4 : Nat × va_E) (R T : va_W) : X ++ p3 :: (([p4] ++ R) ++ T) = (X ++ [p3]) ++ p4 :: (R ++ T) := by simp
theorem bg_5 (p3 p4 : Nat × va_E) (R S : va_W) : (X ++ [p3]) ++ p4 :: (R ++ S) = X ++ p3 :: ([p4] ++ (R ++ S)) := by simp
end Big
set_option maxHeartbeats 8000000 in
set_option maxRecDepth 100000 in
/-- new StringHands() -/
theorem cI11 (l : Launch) (D : va_G) (cA : Nat → ClassId) : MkI l D cA 11 2 3 166 24088 (wI11 cA) := by
  refine c_ent (by decide) (by decide) (by decide) zX11_0 zX11_1 (gWs_in 99 (by decide +kernel)) (gWs_in 1 (by decide +kernel)) (gWs_in 2 rfl) (fun p e s m args below meth c1 h0 ls C hl hP hD hS => ?_)
  have hl0 := lv_at hl 0 rfl
  generalize hAe : va_A [(h0, .inr (11, zF 11))] s.heap.size = A at C hD hS ⊢
  refine k_obj C (j := 4) (by decide) (cI4 l D cA) hl0 hl.1 hP hD hS zX11_4 zX11_5 zX11_8 zX11_9 zX11_12 (gWs_in 100 (by decide +kernel)) (gWs_in 101 (by decide +kernel)) (gWs_in 102 (by decide +kernel)) (by decide) (gWs_in 103 (by decide +kernel)) (gWs_in 104 rfl) (by decide +kernel) (by decide +kernel) (by decide +kernel) (by decide +kernel) (k := 0) (by decide +kernel) (gWs_in 105 (by decide +kernel)) (by decide +kernel) (by decide +kernel) (Or.inr ⟨_, rfl⟩) (by simp only [List.length_set, zF_len]; decide +kernel) (fun a0 g0 H locs hP hD hS => ?_)
  refine k_obj C (j := 2) (by decide) (cI2 l D cA) hl0 hl.1 hP hD hS zX11_15 zX11_16 zX11_19 zX11_20 zX11_23 (gWs_in 106 (by decide +kernel)) (gWs_in 107 (by decide +kernel)) (gWs_in 108 (by decide +kernel)) (by decide) (gWs_in 109 (by decide +kernel)) (gWs_in 110 rfl) (by decide +kernel) (by decide +kernel) (by decide +kernel) (by decide +kernel) (k := 1) (by decide +kernel) (gWs_in 111 (by decide +kernel)) (by decide +kernel) (by decide +kernel) (Or.inr ⟨_, rfl⟩) (by simp only [List.length_set, zF_len]; decide +kernel) (fun a1 g1 H locs hP hD hS => ?_)
  refine k_obj C (j := 0) (by decide) (cI0 l D cA) hl0 hl.1 hP hD hS zX11_26 zX11_27 zX11_30 zX11_31 zX11_34 (gWs_in 112 (by decide +kernel)) (gWs_in 113 (by decide +kernel)) (gWs_in 114 (by decide +kernel)) (by decide) (gWs_in 115 (by decide +kernel)) (gWs_in 116 rfl) (by decide +kernel) (by decide +kernel) (by decide +kernel) (by decide +kernel) (k := 2) (by decide +kernel) (gWs_in 117 (by decide +kernel)) (by decide +kernel) (by decide +kernel) (Or.inr ⟨_, rfl⟩) (by simp only [List.length_set, zF_len]; decide +kernel) (fun a2 g2 H locs hP hD hS => ?_)
  refine k_obj C (j := 10) (by decide) (cI10 l D cA) hl0 hl.1 hP hD hS zX11_37 zX11_38 zX11_41 zX11_42 zX11_45 (gWs_in 118 (by decide +kernel)) (gWs_in 119 (by decide +kernel)) (gWs_in 120 (by decide +kernel)) (by decide) (gWs_in 121 (by decide +kernel)) (gWs_in 122 rfl) (by decide +kernel) (by decide +kernel) (by decide +kernel) (by decide +kernel) (k := 3) (by decide +kernel) (gWs_in 123 (by decide +kernel)) (by decide +kernel) (by decide +kernel) (Or.inr ⟨_, rfl⟩) (by simp only [List.length_set, zF_len]; decide +kernel) (fun a3 g3 H locs hP hD hS => ?_)
  refine k_obj C (j := 9) (by decide) (cI9 l D cA) hl0 hl.1 hP hD hS zX11_48 zX11_49 zX11_52 zX11_53 zX11_56 (gWs_in 124 (by decide +kernel)) (gWs_in 125 (by decide +kernel)) (gWs_in 126 (by decide +kernel)) (by decide) (gWs_in 127 (by decide +kernel)) (gWs_in 128 rfl) (by decide +kernel) (by decide +kernel) (by decide +kernel) (by decide +kernel) (k := 4) (by decide +kernel) (gWs_in 129 (by decide +kernel)) (by decide +kernel) (by decide +kernel) (Or.inr ⟨_, rfl⟩) (by simp only [List.length_set, zF_len]; decide +kernel) (fun a4 g4 H locs hP hD hS => ?_)
  refine k_obj C (j := 7) (by decide) (cI7 l D cA) hl0 hl.1 hP hD hS zX11_59 zX11_60 zX11_63 zX11_64 zX11_67 (gWs_in 130 (by decide +kernel)) (gWs_in 131 (by decide +kernel)) (gWs_in 132 (by decide +kernel)) (by decide) (gWs_in 133 (by decide +kernel)) (gWs_in 134 rfl) (by decide +kernel) (by decide +kernel) (by decide +kernel) (by decide +kernel) (k := 5) (by decide +kernel) (gWs_in 135 (by decide +kernel)) (by decide +kernel) (by decide +kernel) (Or.inr ⟨_, rfl⟩) (by simp only [List.length_set, zF_len]; decide +kernel) (fun a5 g5 H locs hP hD hS => ?_)
  refine k_obj C (j := 5) (by decide) (cI5 l D cA) hl0 hl.1 hP hD hS zX11_70 zX11_71 zX11_74 zX11_75 zX11_78 (gWs_in 136 (by decide +kernel)) (gWs_in 137 (by decide +kernel)) (gWs_in 138 (by decide +kernel)) (by decide) (gWs_in 139 (by decide +kernel)) (gWs_in 140 rfl) (by decide +kernel) (by decide +kernel) (by decide +kernel) (by decide +kernel) (k := 6) (by decide +kernel) (gWs_in 141 (by decide +kernel)) (by decide +kernel) (by decide +kernel) (Or.inr ⟨_, rfl⟩) (by simp only [List.length_set, zF_len]; decide +kernel) (fun a6 g6 H locs hP hD hS => ?_)
  refine k_obj C (j := 1) (by decide) (cI1 l D cA) hl0 hl.1 hP hD hS zX11_81 zX11_82 zX11_85 zX11_86 zX11_89 (gWs_in 142 (by decide +kernel)) (gWs_in 143 (by decide +kernel)) (gWs_in 144 (by decide +kernel)) (by decide) (gWs_in 145 (by decide +kernel)) (gWs_in 146 rfl) (by decide +kernel) (by decide +kernel) (by decide +kernel) (by decide +kernel) (k := 7) (by decide +kernel) (gWs_in 147 (by decide +kernel)) (by decide +kernel) (by decide +kernel) (Or.inr ⟨_, rfl⟩) (by simp only [List.length_set, zF_len]; decide +kernel) (fun a7 g7 H locs hP hD hS => ?_)
  refine k_obj C (j := 8) (by decide) (cI8 l D cA) hl0 hl.1 hP hD hS zX11_92 zX11_93 zX11_96 zX11_97 zX11_100 (gWs_in 148 (by decide +kernel)) (gWs_in 64 (by decide +kernel)) (gWs_in 65 (by decide +kernel)) (by decide) (gWs_in 66 (by decide +kernel)) (gWs_in 67 rfl) (by decide +kernel) (by decide +kernel) (by decide +kernel) (by decide +kernel) (k := 8) (by decide +kernel) (gWs_in 149 (by decide +kernel)) (by decide +kernel) (by decide +kernel) (Or.inr ⟨_, rfl⟩) (by simp only [List.length_set, zF_len]; decide +kernel) (fun a8 g8 H locs hP hD hS => ?_)
  refine k_obj C (j := 6) (by decide) (cI6 l D cA) hl0 hl.1 hP hD hS zX11_103 zX11_104 zX11_107 zX11_108 zX11_111 (gWs_in 150 (by decide +kernel)) (gWs_in 151 (by decide +kernel)) (gWs_in 152 (by decide +kernel)) (by decide) (gWs_in 153 (by decide +kernel)) (gWs_in 154 rfl) (by decide +kernel) (by decide +kernel) (by decide +kernel) (by decide +kernel) (k := 9) (by decide +kernel) (gWs_in 155 (by decide +kernel)) (by decide +kernel) (by decide +kernel) (Or.inr ⟨_, rfl⟩) (by simp only [List.length_set, zF_len]; decide +kernel) (fun a9 g9 H locs hP hD hS => ?_)
  refine k_obj C (j := 6) (by decide) (cI6 l D cA) hl0 hl.1 hP hD hS zX11_114 zX11_115 zX11_118 zX11_119 zX11_122 (gWs_in 150 (by decide +kernel)) (gWs_in 151 (by decide +kernel)) (gWs_in 152 (by decide +kernel)) (by decide) (gWs_in 153 (by decide +kernel)) (gWs_in 154 rfl) (by decide +kernel) (by decide +kernel) (by decide +kernel) (by decide +kernel) (k := 10) (by decide +kernel) (gWs_in 156 (by decide +kernel)) (by decide +kernel) (by decide +kernel) (Or.inr ⟨_, rfl⟩) (by simp only [List.length_set, zF_len]; decide +kernel) (fun a10 g10 H locs hP hD hS => ?_)
  obtain ⟨X, hX⟩ : ∃ X : va_W, X = (((((((((((([] : va_W) ++ wI4 cA a0 g0) ++ wI2 cA a1 g1) ++ wI0 cA a2 g2) ++ wI10 cA a3 g3) ++ wI9 cA a4 g4) ++ wI7 cA a5 g5) ++ wI5 cA a6 g6) ++ wI1 cA a7 g7) ++ wI8 cA a8 g8) ++ wI6 cA a9 g9) ++ wI6 cA a10 g10) := ⟨_, rfl⟩
  rw [← hX] at hP hD
  refine k_arq (n := 10) (N := 10) (lp := 2) C hl0 hP hD hS zX11_125 (fun h => lv_bipush C.1 C.2.1 zX11_126 (by decide +kernel) h) zX11_128 zX11_131 (t := 4) (Cn := clC 6) rfl (by decide) (gWs_in 150 (by decide +kernel)) C.2.2.2.2.2.2.2.2.2.1.1 (by decide +kernel) (by decide +kernel) (by decide +kernel) (by decide +kernel) (by decide +kernel) (k := 11) (by decide +kernel) (gWs_in 157 (by decide +kernel)) (by decide +kernel) (by decide +kernel) (Or.inl ⟨_, rfl⟩) (by simp only [List.length_set, zF_len]; decide +kernel) (fun a11 H locs hP hD hS => ?_)
  refine k_arq (n := 4) (N := 4) (lp := 1) C hl0 hP hD hS zX11_134 (fun h => lv_iconst C.1 C.2.1 zX11_135 (by decide +kernel) h) zX11_136 zX11_139 (t := 5) (Cn := clC 3) rfl (by decide) (gWs_in 158 (by decide +kernel)) C.2.2.2.2.2.2.2.2.2.1.2.1 (by decide +kernel) (by decide +kernel) (by decide +kernel) (by decide +kernel) (by decide +kernel) (k := 13) (by decide +kernel) (gWs_in 159 (by decide +kernel)) (by decide +kernel) (by decide +kernel) (Or.inl ⟨_, rfl⟩) (by simp only [List.length_set, zF_len]; decide +kernel) (fun a12 H locs hP hD hS => ?_)
  refine k_arq (n := 2) (N := 2) (lp := 1) C hl0 hP hD hS zX11_142 (fun h => lv_iconst C.1 C.2.1 zX11_143 (by decide +kernel) h) zX11_144 zX11_147 (t := 6) (Cn := clC 8) rfl (by decide) (gWs_in 148 (by decide +kernel)) C.2.2.2.2.2.2.2.2.2.1.2.2.1 (by decide +kernel) (by decide +kernel) (by decide +kernel) (by decide +kernel) (by decide +kernel) (k := 14) (by decide +kernel) (gWs_in 160 (by decide +kernel)) (by decide +kernel) (by decide +kernel) (Or.inl ⟨_, rfl⟩) (by simp only [List.length_set, zF_len]; decide +kernel) (fun a13 H locs hP hD hS => ?_)
  refine k_arq (n := 2) (N := 2) (lp := 1) C hl0 hP hD hS zX11_150 (fun h => lv_iconst C.1 C.2.1 zX11_151 (by decide +kernel) h) zX11_152 zX11_155 (t := 4) (Cn := clC 6) rfl (by decide) (gWs_in 150 (by decide +kernel)) C.2.2.2.2.2.2.2.2.2.1.1 (by decide +kernel) (by decide +kernel) (by decide +kernel) (by decide +kernel) (by decide +kernel) (k := 15) (by decide +kernel) (gWs_in 161 (by decide +kernel)) (by decide +kernel) (by decide +kernel) (Or.inl ⟨_, rfl⟩) (by simp only [List.length_set, zF_len]; decide +kernel) (fun a14 H locs hP hD hS => ?_)
  rw [bg_1] at hP hD
  refine lv_iconst (v := 0) C.1 C.2.1 zX11_158 (by decide +kernel) ?_
  refine lv_istore_n (lv' := [(1, .int 0), (0, .ref h0)]) C.1 C.2.1 zX11_159 rfl hl (by decide) rfl (fun ls hl => ?_)
  refine lv_iload_n C.1 C.2.1 zX11_160 rfl (lv_at hl 0 rfl) ?_
  refine lv_bipush (v := 10) C.1 C.2.1 zX11_161 (by decide +kernel) ?_
  refine lv_icmp_ge (tgt := 185) C.1 C.2.1 zX11_163 (by decide) (fun h9 => absurd h9 (by decide +kernel)) (fun _ => ?_)
  refine k_putO (n := 0) C (j := 6) (by decide) (cI6 l D cA) (hd_I6 cA) (lv_at hl 1 rfl) (lv_at hl 0 rfl) hl.1 hP hD hS zX11_166 zX11_167 zX11_170 zX11_171 zX11_174 zX11_175 zX11_178 (gWs_in 150 (by decide +kernel)) (gWs_in 151 (by decide +kernel)) (gWs_in 152 (by decide +kernel)) (by decide) (gWs_in 153 (by decide +kernel)) (gWs_in 154 rfl) (by decide +kernel) (by decide +kernel) (by decide +kernel) (by decide +kernel) (k := 11) (by decide +kernel) (gWs_in 157 (by decide +kernel)) rfl (t := 4) rfl (by decide) (by decide +kernel) (by decide +kernel) (fun a15 g15 H locs hP hD hS => ?_)
  refine lv_iinc (v := 1) (lv' := [(1, .int 1), (0, .ref h0)]) C.1 C.2.1 zX11_179 hl (k := 0) rfl (by decide +kernel) (by decide) rfl (fun ls hl => ?_)
  refine lv_goto (tgt := 160) C.1 C.2.1 zX11_182 (by decide) ?_
  refine lv_iload_n C.1 C.2.1 zX11_160 rfl (lv_at hl 0 rfl) ?_
  refine lv_bipush (v := 10) C.1 C.2.1 zX11_161 (by decide +kernel) ?_
  refine lv_icmp_ge (tgt := 185) C.1 C.2.1 zX11_163 (by decide) (fun h9 => absurd h9 (by decide +kernel)) (fun _ => ?_)
  refine k_putO (n := 1) C (j := 6) (by decide) (cI6 l D cA) (hd_I6 cA) (lv_at hl 1 rfl) (lv_at hl 0 rfl) hl.1 hP hD hS zX11_166 zX11_167 zX11_170 zX11_171 zX11_174 zX11_175 zX11_178 (gWs_in 150 (by decide +kernel)) (gWs_in 151 (by decide +kernel)) (gWs_in 152 (by decide +kernel)) (by decide) (gWs_in 153 (by decide +kernel)) (gWs_in 154 rfl) (by decide +kernel) (by decide +kernel) (by decide +kernel) (by decide +kernel) (k := 11) (by decide +kernel) (gWs_in 157 (by decide +kernel)) rfl (t := 4) rfl (by decide) (by decide +kernel) (by decide +kernel) (fun a16 g16 H locs hP hD hS => ?_)
  refine lv_iinc (v := 2) (lv' := [(1, .int 2), (0, .ref h0)]) C.1 C.2.1 zX11_179 hl (k := 0) rfl (by decide +kernel) (by decide) rfl (fun ls hl => ?_)
  refine lv_goto (tgt := 160) C.1 C.2.1 zX11_182 (by decide) ?_
  refine lv_iload_n C.1 C.2.1 zX11_160 rfl (lv_at hl 0 rfl) ?_
  refine lv_bipush (v := 10) C.1 C.2.1 zX11_161 (by decide +kernel) ?_
  refine lv_icmp_ge (tgt := 185) C.1 C.2.1 zX11_163 (by decide) (fun h9 => absurd h9 (by decide +kernel)) (fun _ => ?_)
  refine k_putO (n := 2) C (j := 6) (by decide) (cI6 l D cA) (hd_I6 cA) (lv_at hl 1 rfl) (lv_at hl 0 rfl) hl.1 hP hD hS zX11_166 zX11_167 zX11_170 zX11_171 zX11_174 zX11_175 zX11_178 (gWs_in 150 (by decide +kernel)) (gWs_in 151 (by decide +kernel)) (gWs_in 152 (by decide +kernel)) (by decide) (gWs_in 153 (by decide +kernel)) (gWs_in 154 rfl) (by decide +kernel) (by decide +kernel) (by decide +kernel) (by decide +kernel) (k := 11) (by decide +kernel) (gWs_in 157 (by decide +kernel)) rfl (t := 4) rfl (by decide) (by decide +kernel) (by decide +kernel) (fun a17 g17 H locs hP hD hS => ?_)
  refine lv_iinc (v := 3) (lv' := [(1, .int 3), (0, .ref h0)]) C.1 C.2.1 zX11_179 hl (k := 0) rfl (by decide +kernel) (by decide) rfl (fun ls hl => ?_)
  refine lv_goto (tgt := 160) C.1 C.2.1 zX11_182 (by decide) ?_
  refine lv_iload_n C.1 C.2.1 zX11_160 rfl (lv_at hl 0 rfl) ?_
  refine lv_bipush (v := 10) C.1 C.2.1 zX11_161 (by decide +kernel) ?_
  refine lv_icmp_ge (tgt := 185) C.1 C.2.1 zX11_163 (by decide) (fun h9 => absurd h9 (by decide +kernel)) (fun _ => ?_)
  refine k_putO (n := 3) C (j := 6) (by decide) (cI6 l D cA) (hd_I6 cA) (lv_at hl 1 rfl) (lv_at hl 0 rfl) hl.1 hP hD hS zX11_166 zX11_167 zX11_170 zX11_171 zX11_174 zX11_175 zX11_178 (gWs_in 150 (by decide +kernel)) (gWs_in 151 (by decide +kernel)) (gWs_in 152 (by decide +kernel)) (by decide) (gWs_in 153 (by decide +kernel)) (gWs_in 154 rfl) (by decide +kernel) (by decide +kernel) (by decide +kernel) (by decide +kernel) (k := 11) (by decide +kernel) (gWs_in 157 (by decide +kernel)) rfl (t := 4) rfl (by decide) (by decide +kernel) (by decide +kernel) (fun a18 g18 H locs hP hD hS => ?_)
  refine lv_iinc (v := 4) (lv' := [(1, .int 4), (0, .ref h0)]) C.1 C.2.1 zX11_179 hl (k := 0) rfl (by decide +kernel) (by decide) rfl (fun ls hl => ?_)
  refine lv_goto (tgt := 160) C.1 C.2.1 zX11_182 (by decide) ?_
  refine lv_iload_n C.1 C.2.1 zX11_160 rfl (lv_at hl 0 rfl) ?_
  refine lv_bipush (v := 10) C.1 C.2.1 zX11_161 (by decide +kernel) ?_
  refine lv_icmp_ge (tgt := 185) C.1 C.2.1 zX11_163 (by decide) (fun h9 => absurd h9 (by decide +kernel)) (fun _ => ?_)
  refine k_putO (n := 4) C (j := 6) (by decide) (cI6 l D cA) (hd_I6 cA) (lv_at hl 1 rfl) (lv_at hl 0 rfl) hl.1 hP hD hS zX11_166 zX11_167 zX11_170 zX11_171 zX11_174 zX11_175 zX11_178 (gWs_in 150 (by decide +kernel)) (gWs_in 151 (by decide +kernel)) (gWs_in 152 (by decide +kernel)) (by decide) (gWs_in 153 (by decide +kernel)) (gWs_in 154 rfl) (by decide +kernel) (by decide +kernel) (by decide +kernel) (by decide +kernel) (k := 11) (by decide +kernel) (gWs_in 157 (by decide +kernel)) rfl (t := 4) rfl (by decide) (by decide +kernel) (by decide +kernel) (fun a19 g19 H locs hP hD hS => ?_)
  refine lv_iinc (v := 5) (lv' := [(1, .int 5), (0, .ref h0)]) C.1 C.2.1 zX11_179 hl (k := 0) rfl (by decide +kernel) (by decide) rfl (fun ls hl => ?_)
  refine lv_goto (tgt := 160) C.1 C.2.1 zX11_182 (by decide) ?_
  refine lv_iload_n C.1 C.2.1 zX11_160 rfl (lv_at hl 0 rfl) ?_
  refine lv_bipush (v := 10) C.1 C.2.1 zX11_161 (by decide +kernel) ?_
  refine lv_icmp_ge (tgt := 185) C.1 C.2.1 zX11_163 (by decide) (fun h9 => absurd h9 (by decide +kernel)) (fun _ => ?_)
  refine k_putO (n := 5) C (j := 6) (by decide) (cI6 l D cA) (hd_I6 cA) (lv_at hl 1 rfl) (lv_at hl 0 rfl) hl.1 hP hD hS zX11_166 zX11_167 zX11_170 zX11_171 zX11_174 zX11_175 zX11_178 (gWs_in 150 (by decide +kernel)) (gWs_in 151 (by decide +kernel)) (gWs_in 152 (by decide +kernel)) (by decide) (gWs_in 153 (by decide +kernel)) (gWs_in 154 rfl) (by decide +kernel) (by decide +kernel) (by decide +kernel) (by decide +kernel) (k := 11) (by decide +kernel) (gWs_in 157 (by decide +kernel)) rfl (t := 4) rfl (by decide) (by decide +kernel) (by decide +kernel) (fun a20 g20 H locs hP hD hS => ?_)
  refine lv_iinc (v := 6) (lv' := [(1, .int 6), (0, .ref h0)]) C.1 C.2.1 zX11_179 hl (k := 0) rfl (by decide +kernel) (by decide) rfl (fun ls hl => ?_)
  refine lv_goto (tgt := 160) C.1 C.2.1 zX11_182 (by decide) ?_
  refine lv_iload_n C.1 C.2.1 zX11_160 rfl (lv_at hl 0 rfl) ?_
  refine lv_bipush (v := 10) C.1 C.2.1 zX11_161 (by decide +kernel) ?_
  refine lv_icmp_ge (tgt := 185) C.1 C.2.1 zX11_163 (by decide) (fun h9 => absurd h9 (by decide +kernel)) (fun _ => ?_)
  refine k_putO (n := 6) C (j := 6) (by decide) (cI6 l D cA) (hd_I6 cA) (lv_at hl 1 rfl) (lv_at hl 0 rfl) hl.1 hP hD hS zX11_166 zX11_167 zX11_170 zX11_171 zX11_174 zX11_175 zX11_178 (gWs_in 150 (by decide +kernel)) (gWs_in 151 (by decide +kernel)) (gWs_in 152 (by decide +kernel)) (by decide) (gWs_in 153 (by decide +kernel)) (gWs_in 154 rfl) (by decide +kernel) (by decide +kernel) (by decide +kernel) (by decide +kernel) (k := 11) (by decide +kernel) (gWs_in 157 (by decide +kernel)) rfl (t := 4) rfl (by decide) (by decide +kernel) (by decide +kernel) (fun a21 g21 H locs hP hD hS => ?_)
  refine lv_iinc (v := 7) (lv' := [(1, .int 7), (0, .ref h0)]) C.1 C.2.1 zX11_179 hl (k := 0) rfl (by decide +kernel) (by decide) rfl (fun ls hl => ?_)
  refine lv_goto (tgt := 160) C.1 C.2.1 zX11_182 (by decide) ?_
  refine lv_iload_n C.1 C.2.1 zX11_160 rfl (lv_at hl 0 rfl) ?_
  refine lv_bipush (v := 10) C.1 C.2.1 zX11_161 (by decide +kernel) ?_
  refine lv_icmp_ge (tgt := 185) C.1 C.2.1 zX11_163 (by decide) (fun h9 => absurd h9 (by decide +kernel)) (fun _ => ?_)
  refine k_putO (n := 7) C (j := 6) (by decide) (cI6 l D cA) (hd_I6 cA) (lv_at hl 1 rfl) (lv_at hl 0 rfl) hl.1 hP hD hS zX11_166 zX11_167 zX11_170 zX11_171 zX11_174 zX11_175 zX11_178 (gWs_in 150 (by decide +kernel)) (gWs_in 151 (by decide +kernel)) (gWs_in 152 (by decide +kernel)) (by decide) (gWs_in 153 (by decide +kernel)) (gWs_in 154 rfl) (by decide +kernel) (by decide +kernel) (by decide +kernel) (by decide +kernel) (k := 11) (by decide +kernel) (gWs_in 157 (by decide +kernel)) rfl (t := 4) rfl (by decide) (by decide +kernel) (by decide +kernel) (fun a22 g22 H locs hP hD hS => ?_)
  refine lv_iinc (v := 8) (lv' := [(1, .int 8), (0, .ref h0)]) C.1 C.2.1 zX11_179 hl (k := 0) rfl (by decide +kernel) (by decide) rfl (fun ls hl => ?_)
  refine lv_goto (tgt := 160) C.1 C.2.1 zX11_182 (by decide) ?_
  refine lv_iload_n C.1 C.2.1 zX11_160 rfl (lv_at hl 0 rfl) ?_
  refine lv_bipush (v := 10) C.1 C.2.1 zX11_161 (by decide +kernel) ?_
  refine lv_icmp_ge (tgt := 185) C.1 C.2.1 zX11_163 (by decide) (fun h9 => absurd h9 (by decide +kernel)) (fun _ => ?_)
  refine k_putO (n := 8) C (j := 6) (by decide) (cI6 l D cA) (hd_I6 cA) (lv_at hl 1 rfl) (lv_at hl 0 rfl) hl.1 hP hD hS zX11_166 zX11_167 zX11_170 zX11_171 zX11_174 zX11_175 zX11_178 (gWs_in 150 (by decide +kernel)) (gWs_in 151 (by decide +kernel)) (gWs_in 152 (by decide +kernel)) (by decide) (gWs_in 153 (by decide +kernel)) (gWs_in 154 rfl) (by decide +kernel) (by decide +kernel) (by decide +kernel) (by decide +kernel) (k := 11) (by decide +kernel) (gWs_in 157 (by decide +kernel)) rfl (t := 4) rfl (by decide) (by decide +kernel) (by decide +kernel) (fun a23 g23 H locs hP hD hS => ?_)
  refine lv_iinc (v := 9) (lv' := [(1, .int 9), (0, .ref h0)]) C.1 C.2.1 zX11_179 hl (k := 0) rfl (by decide +kernel) (by decide) rfl (fun ls hl => ?_)
  refine lv_goto (tgt := 160) C.1 C.2.1 zX11_182 (by decide) ?_
  refine lv_iload_n C.1 C.2.1 zX11_160 rfl (lv_at hl 0 rfl) ?_
  refine lv_bipush (v := 10) C.1 C.2.1 zX11_161 (by decide +kernel) ?_
  refine lv_icmp_ge (tgt := 185) C.1 C.2.1 zX11_163 (by decide) (fun h9 => absurd h9 (by decide +kernel)) (fun _ => ?_)
  refine k_putO (n := 9) C (j := 6) (by decide) (cI6 l D cA) (hd_I6 cA) (lv_at hl 1 rfl) (lv_at hl 0 rfl) hl.1 hP hD hS zX11_166 zX11_167 zX11_170 zX11_171 zX11_174 zX11_175 zX11_178 (gWs_in 150 (by decide +kernel)) (gWs_in 151 (by decide +kernel)) (gWs_in 152 (by decide +kernel)) (by decide) (gWs_in 153 (by decide +kernel)) (gWs_in 154 rfl) (by decide +kernel) (by decide +kernel) (by decide +kernel) (by decide +kernel) (k := 11) (by decide +kernel) (gWs_in 157 (by decide +kernel)) rfl (t := 4) rfl (by decide) (by decide +kernel) (by decide +kernel) (fun a24 g24 H locs hP hD hS => ?_)
  refine lv_iinc (v := 10) (lv' := [(1, .int 10), (0, .ref h0)]) C.1 C.2.1 zX11_179 hl (k := 0) rfl (by decide +kernel) (by decide) rfl (fun ls hl => ?_)
  refine lv_goto (tgt := 160) C.1 C.2.1 zX11_182 (by decide) ?_
  refine lv_iload_n C.1 C.2.1 zX11_160 rfl (lv_at hl 0 rfl) ?_
  refine lv_bipush (v := 10) C.1 C.2.1 zX11_161 (by decide +kernel) ?_
  refine lv_icmp_ge (tgt := 185) C.1 C.2.1 zX11_163 (by decide) (fun _ => ?_) (fun h9 => absurd (by decide +kernel) h9)
  rw [bg_2] at hP hD
  refine lv_iconst (v := 0) C.1 C.2.1 zX11_185 (by decide +kernel) ?_
  refine lv_istore_n (lv' := [(1, .int 0), (0, .ref h0)]) C.1 C.2.1 zX11_186 rfl hl (by decide) rfl (fun ls hl => ?_)
  refine lv_iload_n C.1 C.2.1 zX11_187 rfl (lv_at hl 0 rfl) ?_
  refine lv_iconst (v := 4) C.1 C.2.1 zX11_188 (by decide +kernel) ?_
  refine lv_icmp_ge (tgt := 211) C.1 C.2.1 zX11_189 (by decide) (fun h9 => absurd h9 (by decide +kernel)) (fun _ => ?_)
  refine k_putO (n := 0) C (j := 3) (by decide) (cI3 l D cA) (hd_I3 cA) (lv_at hl 1 rfl) (lv_at hl 0 rfl) hl.1 hP hD hS zX11_192 zX11_193 zX11_196 zX11_197 zX11_200 zX11_201 zX11_204 (gWs_in 158 (by decide +kernel)) (gWs_in 162 (by decide +kernel)) (gWs_in 163 (by decide +kernel)) (by decide) (gWs_in 164 (by decide +kernel)) (gWs_in 165 rfl) (by decide +kernel) (by decide +kernel) (by decide +kernel) (by decide +kernel) (k := 13) (by decide +kernel) (gWs_in 159 (by decide +kernel)) rfl (t := 5) rfl (by decide) (by decide +kernel) (by decide +kernel) (fun a25 g25 H locs hP hD hS => ?_)
  refine lv_iinc (v := 1) (lv' := [(1, .int 1), (0, .ref h0)]) C.1 C.2.1 zX11_205 hl (k := 0) rfl (by decide +kernel) (by decide) rfl (fun ls hl => ?_)
  refine lv_goto (tgt := 187) C.1 C.2.1 zX11_208 (by decide) ?_
  refine lv_iload_n C.1 C.2.1 zX11_187 rfl (lv_at hl 0 rfl) ?_
  refine lv_iconst (v := 4) C.1 C.2.1 zX11_188 (by decide +kernel) ?_
  refine lv_icmp_ge (tgt := 211) C.1 C.2.1 zX11_189 (by decide) (fun h9 => absurd h9 (by decide +kernel)) (fun _ => ?_)
  refine k_putO (n := 1) C (j := 3) (by decide) (cI3 l D cA) (hd_I3 cA) (lv_at hl 1 rfl) (lv_at hl 0 rfl) hl.1 hP hD hS zX11_192 zX11_193 zX11_196 zX11_197 zX11_200 zX11_201 zX11_204 (gWs_in 158 (by decide +kernel)) (gWs_in 162 (by decide +kernel)) (gWs_in 163 (by decide +kernel)) (by decide) (gWs_in 164 (by decide +kernel)) (gWs_in 165 rfl) (by decide +kernel) (by decide +kernel) (by decide +kernel) (by decide +kernel) (k := 13) (by decide +kernel) (gWs_in 159 (by decide +kernel)) rfl (t := 5) rfl (by decide) (by decide +kernel) (by decide +kernel) (fun a26 g26 H locs hP hD hS => ?_)
  refine lv_iinc (v := 2) (lv' := [(1, .int 2), (0, .ref h0)]) C.1 C.2.1 zX11_205 hl (k := 0) rfl (by decide +kernel) (by decide) rfl (fun ls hl => ?_)
  refine lv_goto (tgt := 187) C.1 C.2.1 zX11_208 (by decide) ?_
  refine lv_iload_n C.1 C.2.1 zX11_187 rfl (lv_at hl 0 rfl) ?_
  refine lv_iconst (v := 4) C.1 C.2.1 zX11_188 (by decide +kernel) ?_
  refine lv_icmp_ge (tgt := 211) C.1 C.2.1 zX11_189 (by decide) (fun h9 => absurd h9 (by decide +kernel)) (fun _ => ?_)
  refine k_putO (n := 2) C (j := 3) (by decide) (cI3 l D cA) (hd_I3 cA) (lv_at hl 1 rfl) (lv_at hl 0 rfl) hl.1 hP hD hS zX11_192 zX11_193 zX11_196 zX11_197 zX11_200 zX11_201 zX11_204 (gWs_in 158 (by decide +kernel)) (gWs_in 162 (by decide +kernel)) (gWs_in 163 (by decide +kernel)) (by decide) (gWs_in 164 (by decide +kernel)) (gWs_in 165 rfl) (by decide +kernel) (by decide +kernel) (by decide +kernel) (by decide +kernel) (k := 13) (by decide +kernel) (gWs_in 159 (by decide +kernel)) rfl (t := 5) rfl (by decide) (by decide +kernel) (by decide +kernel) (fun a27 g27 H locs hP hD hS => ?_)
  refine lv_iinc (v := 3) (lv' := [(1, .int 3), (0, .ref h0)]) C.1 C.2.1 zX11_205 hl (k := 0) rfl (by decide +kernel) (by decide) rfl (fun ls hl => ?_)
  refine lv_goto (tgt := 187) C.1 C.2.1 zX11_208 (by decide) ?_
  refine lv_iload_n C.1 C.2.1 zX11_187 rfl (lv_at hl 0 rfl) ?_
  refine lv_iconst (v := 4) C.1 C.2.1 zX11_188 (by decide +kernel) ?_
  refine lv_icmp_ge (tgt := 211) C.1 C.2.1 zX11_189 (by decide) (fun h9 => absurd h9 (by decide +kernel)) (fun _ => ?_)
  refine k_putO (n := 3) C (j := 3) (by decide) (cI3 l D cA) (hd_I3 cA) (lv_at hl 1 rfl) (lv_at hl 0 rfl) hl.1 hP hD hS zX11_192 zX11_193 zX11_196 zX11_197 zX11_200 zX11_201 zX11_204 (gWs_in 158 (by decide +kernel)) (gWs_in 162 (by decide +kernel)) (gWs_in 163 (by decide +kernel)) (by decide) (gWs_in 164 (by decide +kernel)) (gWs_in 165 rfl) (by decide +kernel) (by decide +kernel) (by decide +kernel) (by decide +kernel) (k := 13) (by decide +kernel) (gWs_in 159 (by decide +kernel)) rfl (t := 5) rfl (by decide) (by decide +kernel) (by decide +kernel) (fun a28 g28 H locs hP hD hS => ?_)
  refine lv_iinc (v := 4) (lv' := [(1, .int 4), (0, .ref h0)]) C.1 C.2.1 zX11_205 hl (k := 0) rfl (by decide +kernel) (by decide) rfl (fun ls hl => ?_)
  refine lv_goto (tgt := 187) C.1 C.2.1 zX11_208 (by decide) ?_
  refine lv_iload_n C.1 C.2.1 zX11_187 rfl (lv_at hl 0 rfl) ?_
  refine lv_iconst (v := 4) C.1 C.2.1 zX11_188 (by decide +kernel) ?_
  refine lv_icmp_ge (tgt := 211) C.1 C.2.1 zX11_189 (by decide) (fun _ => ?_) (fun h9 => absurd (by decide +kernel) h9)
  rw [bg_3] at hP hD
  refine lv_iconst (v := 0) C.1 C.2.1 zX11_211 (by decide +kernel) ?_
  refine lv_istore_n (lv' := [(1, .int 0), (0, .ref h0)]) C.1 C.2.1 zX11_212 rfl hl (by decide) rfl (fun ls hl => ?_)
  refine lv_iload_n C.1 C.2.1 zX11_213 rfl (lv_at hl 0 rfl) ?_
  refine lv_iconst (v := 2) C.1 C.2.1 zX11_214 (by decide +kernel) ?_
  refine lv_icmp_ge (tgt := 250) C.1 C.2.1 zX11_215 (by decide) (fun h9 => absurd h9 (by decide +kernel)) (fun _ => ?_)
  refine k_putO (n := 0) C (j := 8) (by decide) (cI8 l D cA) (hd_I8 cA) (lv_at hl 1 rfl) (lv_at hl 0 rfl) hl.1 hP hD hS zX11_218 zX11_219 zX11_222 zX11_223 zX11_226 zX11_227 zX11_230 (gWs_in 148 (by decide +kernel)) (gWs_in 64 (by decide +kernel)) (gWs_in 65 (by decide +kernel)) (by decide) (gWs_in 66 (by decide +kernel)) (gWs_in 67 rfl) (by decide +kernel) (by decide +kernel) (by decide +kernel) (by decide +kernel) (k := 14) (by decide +kernel) (gWs_in 160 (by decide +kernel)) rfl (t := 6) rfl (by decide) (by decide +kernel) (by decide +kernel) (fun a29 g29 H locs hP hD hS => ?_)
  rw [bg_4] at hP hD
  refine k_putO (n := 0) C (j := 6) (by decide) (cI6 l D cA) (hd_I6 cA) (lv_at hl 1 rfl) (lv_at hl 0 rfl) hl.1 hP hD hS zX11_231 zX11_232 zX11_235 zX11_236 zX11_239 zX11_240 zX11_243 (gWs_in 150 (by decide +kernel)) (gWs_in 151 (by decide +kernel)) (gWs_in 152 (by decide +kernel)) (by decide) (gWs_in 153 (by decide +kernel)) (gWs_in 154 rfl) (by decide +kernel) (by decide +kernel) (by decide +kernel) (by decide +kernel) (k := 15) (by decide +kernel) (gWs_in 161 (by decide +kernel)) rfl (t := 4) rfl (by decide) (by decide +kernel) (by decide +kernel) (fun a30 g30 H locs hP hD hS => ?_)
  rw [bg_5] at hP hD
  refine lv_iinc (v := 1) (lv' := [(1, .int 1), (0, .ref h0)]) C.1 C.2.1 zX11_244 hl (k := 0) rfl (by decide +kernel) (by decide) rfl (fun ls hl => ?_)
  refine lv_goto (tgt := 213) C.1 C.2.1 zX11_247 (by decide) ?_
  refine lv_iload_n C.1 C.2.1 zX11_213 rfl (lv_at hl 0 rfl) ?_
  refine lv_iconst (v := 2) C.1 C.2.1 zX11_214 (by decide +kernel) ?_
  refine lv_icmp_ge (tgt := 250) C.1 C.2.1 zX11_215 (by decide) (fun h9 => absurd h9 (by decide +kernel)) (fun _ => ?_)
  refine k_putO (n := 1) C (j := 8) (by decide) (cI8 l D cA) (hd_I8 cA) (lv_at hl 1 rfl) (lv_at hl 0 rfl) hl.1 hP hD hS zX11_218 zX11_219 zX11_222 zX11_223 zX11_226 zX11_227 zX11_230 (gWs_in 148 (by decide +kernel)) (gWs_in 64 (by decide +kernel)) (gWs_in 65 (by decide +kernel)) (by decide) (gWs_in 66 (by decide +kernel)) (gWs_in 67 rfl) (by decide +kernel) (by decide +kernel) (by decide +kernel) (by decide +kernel) (k := 14) (by decide +kernel) (gWs_in 160 (by decide +kernel)) rfl (t := 6) rfl (by decide) (by decide +kernel) (by decide +kernel) (fun a31 g31 H locs hP hD hS => ?_)
  rw [bg_4] at hP hD
  refine k_putO (n := 1) C (j := 6) (by decide) (cI6 l D cA) (hd_I6 cA) (lv_at hl 1 rfl) (lv_at hl 0 rfl) hl.1 hP hD hS zX11_231 zX11_232 zX11_235 zX11_236 zX11_239 zX11_240 zX11_243 (gWs_in 150 (by decide +kernel)) (gWs_in 151 (by decide +kernel)) (gWs_in 152 (by decide +kernel)) (by decide) (gWs_in 153 (by decide +kernel)) (gWs_in 154 rfl) (by decide +kernel) (by decide +kernel) (by decide +kernel) (by decide +kernel) (k := 15) (by decide +kernel) (gWs_in 161 (by decide +kernel)) rfl (t := 4) rfl (by decide) (by decide +kernel) (by decide +kernel) (fun a32 g32 H locs hP hD hS => ?_)
  refine lv_iinc (v := 2) (lv' := [(1, .int 2), (0, .ref h0)]) C.1 C.2.1 zX11_244 hl (k := 0) rfl (by decide +kernel) (by decide) rfl (fun ls hl => ?_)
  refine lv_goto (tgt := 213) C.1 C.2.1 zX11_247 (by decide) ?_
  refine lv_iload_n C.1 C.2.1 zX11_213 rfl (lv_at hl 0 rfl) ?_
  refine lv_iconst (v := 2) C.1 C.2.1 zX11_214 (by decide +kernel) ?_
  refine lv_icmp_ge (tgt := 250) C.1 C.2.1 zX11_215 (by decide) (fun _ => ?_) (fun h9 => absurd (by decide +kernel) h9)
  subst hX
  subst hAe
  refine c_end (wd := wI11 cA) (q := (fun k => ([a0, a1, a2, a3, a4, a5, a6, a7, a8, a9, a10, a11, a12, a13, a14, a15, a16, a17, a18, a19, a20, a21, a22, a23, a24, a25, a26, a27, a28, a29, a30, a31, a32] : List Nat).getD k 0, g0, g3, fun k => ([fun _ => 0, g1, g2, fun _ => 0, g4, g5, g6, g7, g8, g9, g10, fun _ => 0, fun _ => 0, fun _ => 0, fun _ => 0, g15, g16, g17, g18, g19, g20, g21, g22, g23, g24, g25, g26, g27, g28, g29, g30, g31, g32] : List (Nat → Nat)).getD k (fun _ => 0))) C ?_ ?_ hS (by decide +kernel) (by decide +kernel) zX11_250
  · have ez : zF 11 = [.null, .null, .null, .null, .null, .null, .null, .null, .null, .null, .null, .null, .int 0, .null, .null, .null, .int 0] := rfl
    simp only [ez, List.set_cons_succ, List.set_cons_zero, List.append_assoc, List.cons_append, List.nil_append] at hP
    unfold wI11
    simp only [List.append_assoc, List.cons_append, List.nil_append]
    exact hP
  · have ez : zF 11 = [.null, .null, .null, .null, .null, .null, .null, .null, .null, .null, .null, .null, .int 0, .null, .null, .null, .int 0] := rfl
    simp only [ez, List.set_cons_succ, List.set_cons_zero, List.append_assoc, List.cons_append, List.nil_append] at hD
    unfold wI11
    simp only [List.append_assoc, List.cons_append, List.nil_append]
    exact hD
