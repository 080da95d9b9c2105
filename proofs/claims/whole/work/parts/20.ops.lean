/-! T, instruction by instruction. -/
section Ops
variable {d m pc len : Nat} {ls : List (Option aV)} {st : List aV} {w : aW} {Q : Option aV → aW → Prop} {a b i x y : Int} {k f : Nat} {v u : aV}
theorem T_sipush (hc : cd m pc = some (.sipush a, len)) : T d m pc ls st w Q = T d m (pc + len) ls (vi a :: st) w Q := T_step hc rfl rfl rfl
theorem T_bipush (hc : cd m pc = some (.bipush a, len)) : T d m pc ls st w Q = T d m (pc + len) ls (vl a :: st) w Q := T_step hc rfl rfl rfl
theorem T_ldc (hc : cd m pc = some (.ldc k, len)) : T d m pc ls st w Q = T d m (pc + len) ls (vr (1000 + k) :: st) w Q := T_step hc rfl rfl rfl
theorem T_iload_0 {l : List (Option aV)} (hc : cd m pc = some (.iload 0, len)) : T d m pc (some (vi a) :: l) st w Q = T d m (pc + len) (some (vi a) :: l) (vi a :: st) w Q := T_step hc rfl rfl rfl
theorem T_lload_0 {l : List (Option aV)} (hc : cd m pc = some (.lload 0, len)) : T d m pc (some (vl a) :: l) st w Q = T d m (pc + len) (some (vl a) :: l) (vl a :: st) w Q := T_step hc rfl rfl rfl
theorem T_aload_0 {l : List (Option aV)} (hc : cd m pc = some (.aload 0, len)) : T d m pc (some (vr k) :: l) st w Q = T d m (pc + len) (some (vr k) :: l) (vr k :: st) w Q := T_step hc rfl rfl rfl
theorem T_iload_1 {x0 : Option aV} {l : List (Option aV)} (hc : cd m pc = some (.iload 1, len)) : T d m pc (x0 :: some (vi a) :: l) st w Q = T d m (pc + len) (x0 :: some (vi a) :: l) (vi a :: st) w Q := T_step hc rfl rfl rfl
theorem T_lload_1 {x0 : Option aV} {l : List (Option aV)} (hc : cd m pc = some (.lload 1, len)) : T d m pc (x0 :: some (vl a) :: l) st w Q = T d m (pc + len) (x0 :: some (vl a) :: l) (vl a :: st) w Q := T_step hc rfl rfl rfl
theorem T_aload_1 {x0 : Option aV} {l : List (Option aV)} (hc : cd m pc = some (.aload 1, len)) : T d m pc (x0 :: some (vr k) :: l) st w Q = T d m (pc + len) (x0 :: some (vr k) :: l) (vr k :: st) w Q := T_step hc rfl rfl rfl
theorem T_iload_2 {x0 x1 : Option aV} {l : List (Option aV)} (hc : cd m pc = some (.iload 2, len)) : T d m pc (x0 :: x1 :: some (vi a) :: l) st w Q = T d m (pc + len) (x0 :: x1 :: some (vi a) :: l) (vi a :: st) w Q := T_step hc rfl rfl rfl
theorem T_lload_2 {x0 x1 : Option aV} {l : List (Option aV)} (hc : cd m pc = some (.lload 2, len)) : T d m pc (x0 :: x1 :: some (vl a) :: l) st w Q = T d m (pc + len) (x0 :: x1 :: some (vl a) :: l) (vl a :: st) w Q := T_step hc rfl rfl rfl
theorem T_aload_2 {x0 x1 : Option aV} {l : List (Option aV)} (hc : cd m pc = some (.aload 2, len)) : T d m pc (x0 :: x1 :: some (vr k) :: l) st w Q = T d m (pc + len) (x0 :: x1 :: some (vr k) :: l) (vr k :: st) w Q := T_step hc rfl rfl rfl
theorem T_iload_3 {x0 x1 x2 : Option aV} {l : List (Option aV)} (hc : cd m pc = some (.iload 3, len)) : T d m pc (x0 :: x1 :: x2 :: some (vi a) :: l) st w Q = T d m (pc + len) (x0 :: x1 :: x2 :: some (vi a) :: l) (vi a :: st) w Q := T_step hc rfl rfl rfl
theorem T_lload_3 {x0 x1 x2 : Option aV} {l : List (Option aV)} (hc : cd m pc = some (.lload 3, len)) : T d m pc (x0 :: x1 :: x2 :: some (vl a) :: l) st w Q = T d m (pc + len) (x0 :: x1 :: x2 :: some (vl a) :: l) (vl a :: st) w Q := T_step hc rfl rfl rfl
theorem T_aload_3 {x0 x1 x2 : Option aV} {l : List (Option aV)} (hc : cd m pc = some (.aload 3, len)) : T d m pc (x0 :: x1 :: x2 :: some (vr k) :: l) st w Q = T d m (pc + len) (x0 :: x1 :: x2 :: some (vr k) :: l) (vr k :: st) w Q := T_step hc rfl rfl rfl
theorem T_iload_4 {x0 x1 x2 x3 : Option aV} {l : List (Option aV)} (hc : cd m pc = some (.iload 4, len)) : T d m pc (x0 :: x1 :: x2 :: x3 :: some (vi a) :: l) st w Q = T d m (pc + len) (x0 :: x1 :: x2 :: x3 :: some (vi a) :: l) (vi a :: st) w Q := T_step hc rfl rfl rfl
theorem T_lload_4 {x0 x1 x2 x3 : Option aV} {l : List (Option aV)} (hc : cd m pc = some (.lload 4, len)) : T d m pc (x0 :: x1 :: x2 :: x3 :: some (vl a) :: l) st w Q = T d m (pc + len) (x0 :: x1 :: x2 :: x3 :: some (vl a) :: l) (vl a :: st) w Q := T_step hc rfl rfl rfl
theorem T_aload_4 {x0 x1 x2 x3 : Option aV} {l : List (Option aV)} (hc : cd m pc = some (.aload 4, len)) : T d m pc (x0 :: x1 :: x2 :: x3 :: some (vr k) :: l) st w Q = T d m (pc + len) (x0 :: x1 :: x2 :: x3 :: some (vr k) :: l) (vr k :: st) w Q := T_step hc rfl rfl rfl
theorem T_iload_5 {x0 x1 x2 x3 x4 : Option aV} {l : List (Option aV)} (hc : cd m pc = some (.iload 5, len)) : T d m pc (x0 :: x1 :: x2 :: x3 :: x4 :: some (vi a) :: l) st w Q = T d m (pc + len) (x0 :: x1 :: x2 :: x3 :: x4 :: some (vi a) :: l) (vi a :: st) w Q := T_step hc rfl rfl rfl
theorem T_lload_5 {x0 x1 x2 x3 x4 : Option aV} {l : List (Option aV)} (hc : cd m pc = some (.lload 5, len)) : T d m pc (x0 :: x1 :: x2 :: x3 :: x4 :: some (vl a) :: l) st w Q = T d m (pc + len) (x0 :: x1 :: x2 :: x3 :: x4 :: some (vl a) :: l) (vl a :: st) w Q := T_step hc rfl rfl rfl
theorem T_aload_5 {x0 x1 x2 x3 x4 : Option aV} {l : List (Option aV)} (hc : cd m pc = some (.aload 5, len)) : T d m pc (x0 :: x1 :: x2 :: x3 :: x4 :: some (vr k) :: l) st w Q = T d m (pc + len) (x0 :: x1 :: x2 :: x3 :: x4 :: some (vr k) :: l) (vr k :: st) w Q := T_step hc rfl rfl rfl
theorem T_iload_6 {x0 x1 x2 x3 x4 x5 : Option aV} {l : List (Option aV)} (hc : cd m pc = some (.iload 6, len)) : T d m pc (x0 :: x1 :: x2 :: x3 :: x4 :: x5 :: some (vi a) :: l) st w Q = T d m (pc + len) (x0 :: x1 :: x2 :: x3 :: x4 :: x5 :: some (vi a) :: l) (vi a :: st) w Q := T_step hc rfl rfl rfl
theorem T_lload_6 {x0 x1 x2 x3 x4 x5 : Option aV} {l : List (Option aV)} (hc : cd m pc = some (.lload 6, len)) : T d m pc (x0 :: x1 :: x2 :: x3 :: x4 :: x5 :: some (vl a) :: l) st w Q = T d m (pc + len) (x0 :: x1 :: x2 :: x3 :: x4 :: x5 :: some (vl a) :: l) (vl a :: st) w Q := T_step hc rfl rfl rfl
theorem T_aload_6 {x0 x1 x2 x3 x4 x5 : Option aV} {l : List (Option aV)} (hc : cd m pc = some (.aload 6, len)) : T d m pc (x0 :: x1 :: x2 :: x3 :: x4 :: x5 :: some (vr k) :: l) st w Q = T d m (pc + len) (x0 :: x1 :: x2 :: x3 :: x4 :: x5 :: some (vr k) :: l) (vr k :: st) w Q := T_step hc rfl rfl rfl
theorem T_iload_7 {x0 x1 x2 x3 x4 x5 x6 : Option aV} {l : List (Option aV)} (hc : cd m pc = some (.iload 7, len)) : T d m pc (x0 :: x1 :: x2 :: x3 :: x4 :: x5 :: x6 :: some (vi a) :: l) st w Q = T d m (pc + len) (x0 :: x1 :: x2 :: x3 :: x4 :: x5 :: x6 :: some (vi a) :: l) (vi a :: st) w Q := T_step hc rfl rfl rfl
theorem T_lload_7 {x0 x1 x2 x3 x4 x5 x6 : Option aV} {l : List (Option aV)} (hc : cd m pc = some (.lload 7, len)) : T d m pc (x0 :: x1 :: x2 :: x3 :: x4 :: x5 :: x6 :: some (vl a) :: l) st w Q = T d m (pc + len) (x0 :: x1 :: x2 :: x3 :: x4 :: x5 :: x6 :: some (vl a) :: l) (vl a :: st) w Q := T_step hc rfl rfl rfl
theorem T_aload_7 {x0 x1 x2 x3 x4 x5 x6 : Option aV} {l : List (Option aV)} (hc : cd m pc = some (.aload 7, len)) : T d m pc (x0 :: x1 :: x2 :: x3 :: x4 :: x5 :: x6 :: some (vr k) :: l) st w Q = T d m (pc + len) (x0 :: x1 :: x2 :: x3 :: x4 :: x5 :: x6 :: some (vr k) :: l) (vr k :: st) w Q := T_step hc rfl rfl rfl
theorem T_iload_8 {x0 x1 x2 x3 x4 x5 x6 x7 : Option aV} {l : List (Option aV)} (hc : cd m pc = some (.iload 8, len)) : T d m pc (x0 :: x1 :: x2 :: x3 :: x4 :: x5 :: x6 :: x7 :: some (vi a) :: l) st w Q = T d m (pc + len) (x0 :: x1 :: x2 :: x3 :: x4 :: x5 :: x6 :: x7 :: some (vi a) :: l) (vi a :: st) w Q := T_step hc rfl rfl rfl
theorem T_lload_8 {x0 x1 x2 x3 x4 x5 x6 x7 : Option aV} {l : List (Option aV)} (hc : cd m pc = some (.lload 8, len)) : T d m pc (x0 :: x1 :: x2 :: x3 :: x4 :: x5 :: x6 :: x7 :: some (vl a) :: l) st w Q = T d m (pc + len) (x0 :: x1 :: x2 :: x3 :: x4 :: x5 :: x6 :: x7 :: some (vl a) :: l) (vl a :: st) w Q := T_step hc rfl rfl rfl
theorem T_aload_8 {x0 x1 x2 x3 x4 x5 x6 x7 : Option aV} {l : List (Option aV)} (hc : cd m pc = some (.aload 8, len)) : T d m pc (x0 :: x1 :: x2 :: x3 :: x4 :: x5 :: x6 :: x7 :: some (vr k) :: l) st w Q = T d m (pc + len) (x0 :: x1 :: x2 :: x3 :: x4 :: x5 :: x6 :: x7 :: some (vr k) :: l) (vr k :: st) w Q := T_step hc rfl rfl rfl
theorem T_iload_9 {x0 x1 x2 x3 x4 x5 x6 x7 x8 : Option aV} {l : List (Option aV)} (hc : cd m pc = some (.iload 9, len)) : T d m pc (x0 :: x1 :: x2 :: x3 :: x4 :: x5 :: x6 :: x7 :: x8 :: some (vi a) :: l) st w Q = T d m (pc + len) (x0 :: x1 :: x2 :: x3 :: x4 :: x5 :: x6 :: x7 :: x8 :: some (vi a) :: l) (vi a :: st) w Q := T_step hc rfl rfl rfl
theorem T_lload_9 {x0 x1 x2 x3 x4 x5 x6 x7 x8 : Option aV} {l : List (Option aV)} (hc : cd m pc = some (.lload 9, len)) : T d m pc (x0 :: x1 :: x2 :: x3 :: x4 :: x5 :: x6 :: x7 :: x8 :: some (vl a) :: l) st w Q = T d m (pc + len) (x0 :: x1 :: x2 :: x3 :: x4 :: x5 :: x6 :: x7 :: x8 :: some (vl a) :: l) (vl a :: st) w Q := T_step hc rfl rfl rfl
theorem T_aload_9 {x0 x1 x2 x3 x4 x5 x6 x7 x8 : Option aV} {l : List (Option aV)} (hc : cd m pc = some (.aload 9, len)) : T d m pc (x0 :: x1 :: x2 :: x3 :: x4 :: x5 :: x6 :: x7 :: x8 :: some (vr k) :: l) st w Q = T d m (pc + len) (x0 :: x1 :: x2 :: x3 :: x4 :: x5 :: x6 :: x7 :: x8 :: some (vr k) :: l) (vr k :: st) w Q := T_step hc rfl rfl rfl
theorem T_iload_10 {x0 x1 x2 x3 x4 x5 x6 x7 x8 x9 : Option aV} {l : List (Option aV)} (hc : cd m pc = some (.iload 10, len)) : T d m pc (x0 :: x1 :: x2 :: x3 :: x4 :: x5 :: x6 :: x7 :: x8 :: x9 :: some (vi a) :: l) st w Q = T d m (pc + len) (x0 :: x1 :: x2 :: x3 :: x4 :: x5 :: x6 :: x7 :: x8 :: x9 :: some (vi a) :: l) (vi a :: st) w Q := T_step hc rfl rfl rfl
theorem T_lload_10 {x0 x1 x2 x3 x4 x5 x6 x7 x8 x9 : Option aV} {l : List (Option aV)} (hc : cd m pc = some (.lload 10, len)) : T d m pc (x0 :: x1 :: x2 :: x3 :: x4 :: x5 :: x6 :: x7 :: x8 :: x9 :: some (vl a) :: l) st w Q = T d m (pc + len) (x0 :: x1 :: x2 :: x3 :: x4 :: x5 :: x6 :: x7 :: x8 :: x9 :: some (vl a) :: l) (vl a :: st) w Q := T_step hc rfl rfl rfl
theorem T_aload_10 {x0 x1 x2 x3 x4 x5 x6 x7 x8 x9 : Option aV} {l : List (Option aV)} (hc : cd m pc = some (.aload 10, len)) : T d m pc (x0 :: x1 :: x2 :: x3 :: x4 :: x5 :: x6 :: x7 :: x8 :: x9 :: some (vr k) :: l) st w Q = T d m (pc + len) (x0 :: x1 :: x2 :: x3 :: x4 :: x5 :: x6 :: x7 :: x8 :: x9 :: some (vr k) :: l) (vr k :: st) w Q := T_step hc rfl rfl rfl
theorem T_iload_11 {x0 x1 x2 x3 x4 x5 x6 x7 x8 x9 x10 : Option aV} {l : List (Option aV)} (hc : cd m pc = some (.iload 11, len)) : T d m pc (x0 :: x1 :: x2 :: x3 :: x4 :: x5 :: x6 :: x7 :: x8 :: x9 :: x10 :: some (vi a) :: l) st w Q = T d m (pc + len) (x0 :: x1 :: x2 :: x3 :: x4 :: x5 :: x6 :: x7 :: x8 :: x9 :: x10 :: some (vi a) :: l) (vi a :: st) w Q := T_step hc rfl rfl rfl
theorem T_lload_11 {x0 x1 x2 x3 x4 x5 x6 x7 x8 x9 x10 : Option aV} {l : List (Option aV)} (hc : cd m pc = some (.lload 11, len)) : T d m pc (x0 :: x1 :: x2 :: x3 :: x4 :: x5 :: x6 :: x7 :: x8 :: x9 :: x10 :: some (vl a) :: l) st w Q = T d m (pc + len) (x0 :: x1 :: x2 :: x3 :: x4 :: x5 :: x6 :: x7 :: x8 :: x9 :: x10 :: some (vl a) :: l) (vl a :: st) w Q := T_step hc rfl rfl rfl
theorem T_aload_11 {x0 x1 x2 x3 x4 x5 x6 x7 x8 x9 x10 : Option aV} {l : List (Option aV)} (hc : cd m pc = some (.aload 11, len)) : T d m pc (x0 :: x1 :: x2 :: x3 :: x4 :: x5 :: x6 :: x7 :: x8 :: x9 :: x10 :: some (vr k) :: l) st w Q = T d m (pc + len) (x0 :: x1 :: x2 :: x3 :: x4 :: x5 :: x6 :: x7 :: x8 :: x9 :: x10 :: some (vr k) :: l) (vr k :: st) w Q := T_step hc rfl rfl rfl
theorem T_iload_12 {x0 x1 x2 x3 x4 x5 x6 x7 x8 x9 x10 x11 : Option aV} {l : List (Option aV)} (hc : cd m pc = some (.iload 12, len)) : T d m pc (x0 :: x1 :: x2 :: x3 :: x4 :: x5 :: x6 :: x7 :: x8 :: x9 :: x10 :: x11 :: some (vi a) :: l) st w Q = T d m (pc + len) (x0 :: x1 :: x2 :: x3 :: x4 :: x5 :: x6 :: x7 :: x8 :: x9 :: x10 :: x11 :: some (vi a) :: l) (vi a :: st) w Q := T_step hc rfl rfl rfl
theorem T_lload_12 {x0 x1 x2 x3 x4 x5 x6 x7 x8 x9 x10 x11 : Option aV} {l : List (Option aV)} (hc : cd m pc = some (.lload 12, len)) : T d m pc (x0 :: x1 :: x2 :: x3 :: x4 :: x5 :: x6 :: x7 :: x8 :: x9 :: x10 :: x11 :: some (vl a) :: l) st w Q = T d m (pc + len) (x0 :: x1 :: x2 :: x3 :: x4 :: x5 :: x6 :: x7 :: x8 :: x9 :: x10 :: x11 :: some (vl a) :: l) (vl a :: st) w Q := T_step hc rfl rfl rfl
theorem T_aload_12 {x0 x1 x2 x3 x4 x5 x6 x7 x8 x9 x10 x11 : Option aV} {l : List (Option aV)} (hc : cd m pc = some (.aload 12, len)) : T d m pc (x0 :: x1 :: x2 :: x3 :: x4 :: x5 :: x6 :: x7 :: x8 :: x9 :: x10 :: x11 :: some (vr k) :: l) st w Q = T d m (pc + len) (x0 :: x1 :: x2 :: x3 :: x4 :: x5 :: x6 :: x7 :: x8 :: x9 :: x10 :: x11 :: some (vr k) :: l) (vr k :: st) w Q := T_step hc rfl rfl rfl
theorem T_iload_13 {x0 x1 x2 x3 x4 x5 x6 x7 x8 x9 x10 x11 x12 : Option aV} {l : List (Option aV)} (hc : cd m pc = some (.iload 13, len)) : T d m pc (x0 :: x1 :: x2 :: x3 :: x4 :: x5 :: x6 :: x7 :: x8 :: x9 :: x10 :: x11 :: x12 :: some (vi a) :: l) st w Q = T d m (pc + len) (x0 :: x1 :: x2 :: x3 :: x4 :: x5 :: x6 :: x7 :: x8 :: x9 :: x10 :: x11 :: x12 :: some (vi a) :: l) (vi a :: st) w Q := T_step hc rfl rfl rfl
theorem T_lload_13 {x0 x1 x2 x3 x4 x5 x6 x7 x8 x9 x10 x11 x12 : Option aV} {l : List (Option aV)} (hc : cd m pc = some (.lload 13, len)) : T d m pc (x0 :: x1 :: x2 :: x3 :: x4 :: x5 :: x6 :: x7 :: x8 :: x9 :: x10 :: x11 :: x12 :: some (vl a) :: l) st w Q = T d m (pc + len) (x0 :: x1 :: x2 :: x3 :: x4 :: x5 :: x6 :: x7 :: x8 :: x9 :: x10 :: x11 :: x12 :: some (vl a) :: l) (vl a :: st) w Q := T_step hc rfl rfl rfl
theorem T_aload_13 {x0 x1 x2 x3 x4 x5 x6 x7 x8 x9 x10 x11 x12 : Option aV} {l : List (Option aV)} (hc : cd m pc = some (.aload 13, len)) : T d m pc (x0 :: x1 :: x2 :: x3 :: x4 :: x5 :: x6 :: x7 :: x8 :: x9 :: x10 :: x11 :: x12 :: some (vr k) :: l) st w Q = T d m (pc + len) (x0 :: x1 :: x2 :: x3 :: x4 :: x5 :: x6 :: x7 :: x8 :: x9 :: x10 :: x11 :: x12 :: some (vr k) :: l) (vr k :: st) w Q := T_step hc rfl rfl rfl
theorem T_iload_14 {x0 x1 x2 x3 x4 x5 x6 x7 x8 x9 x10 x11 x12 x13 : Option aV} {l : List (Option aV)} (hc : cd m pc = some (.iload 14, len)) : T d m pc (x0 :: x1 :: x2 :: x3 :: x4 :: x5 :: x6 :: x7 :: x8 :: x9 :: x10 :: x11 :: x12 :: x13 :: some (vi a) :: l) st w Q = T d m (pc + len) (x0 :: x1 :: x2 :: x3 :: x4 :: x5 :: x6 :: x7 :: x8 :: x9 :: x10 :: x11 :: x12 :: x13 :: some (vi a) :: l) (vi a :: st) w Q := T_step hc rfl rfl rfl
theorem T_lload_14 {x0 x1 x2 x3 x4 x5 x6 x7 x8 x9 x10 x11 x12 x13 : Option aV} {l : List (Option aV)} (hc : cd m pc = some (.lload 14, len)) : T d m pc (x0 :: x1 :: x2 :: x3 :: x4 :: x5 :: x6 :: x7 :: x8 :: x9 :: x10 :: x11 :: x12 :: x13 :: some (vl a) :: l) st w Q = T d m (pc + len) (x0 :: x1 :: x2 :: x3 :: x4 :: x5 :: x6 :: x7 :: x8 :: x9 :: x10 :: x11 :: x12 :: x13 :: some (vl a) :: l) (vl a :: st) w Q := T_step hc rfl rfl rfl
theorem T_aload_14 {x0 x1 x2 x3 x4 x5 x6 x7 x8 x9 x10 x11 x12 x13 : Option aV} {l : List (Option aV)} (hc : cd m pc = some (.aload 14, len)) : T d m pc (x0 :: x1 :: x2 :: x3 :: x4 :: x5 :: x6 :: x7 :: x8 :: x9 :: x10 :: x11 :: x12 :: x13 :: some (vr k) :: l) st w Q = T d m (pc + len) (x0 :: x1 :: x2 :: x3 :: x4 :: x5 :: x6 :: x7 :: x8 :: x9 :: x10 :: x11 :: x12 :: x13 :: some (vr k) :: l) (vr k :: st) w Q := T_step hc rfl rfl rfl
theorem T_iload_15 {x0 x1 x2 x3 x4 x5 x6 x7 x8 x9 x10 x11 x12 x13 x14 : Option aV} {l : List (Option aV)} (hc : cd m pc = some (.iload 15, len)) : T d m pc (x0 :: x1 :: x2 :: x3 :: x4 :: x5 :: x6 :: x7 :: x8 :: x9 :: x10 :: x11 :: x12 :: x13 :: x14 :: some (vi a) :: l) st w Q = T d m (pc + len) (x0 :: x1 :: x2 :: x3 :: x4 :: x5 :: x6 :: x7 :: x8 :: x9 :: x10 :: x11 :: x12 :: x13 :: x14 :: some (vi a) :: l) (vi a :: st) w Q := T_step hc rfl rfl rfl
theorem T_lload_15 {x0 x1 x2 x3 x4 x5 x6 x7 x8 x9 x10 x11 x12 x13 x14 : Option aV} {l : List (Option aV)} (hc : cd m pc = some (.lload 15, len)) : T d m pc (x0 :: x1 :: x2 :: x3 :: x4 :: x5 :: x6 :: x7 :: x8 :: x9 :: x10 :: x11 :: x12 :: x13 :: x14 :: some (vl a) :: l) st w Q = T d m (pc + len) (x0 :: x1 :: x2 :: x3 :: x4 :: x5 :: x6 :: x7 :: x8 :: x9 :: x10 :: x11 :: x12 :: x13 :: x14 :: some (vl a) :: l) (vl a :: st) w Q := T_step hc rfl rfl rfl
theorem T_aload_15 {x0 x1 x2 x3 x4 x5 x6 x7 x8 x9 x10 x11 x12 x13 x14 : Option aV} {l : List (Option aV)} (hc : cd m pc = some (.aload 15, len)) : T d m pc (x0 :: x1 :: x2 :: x3 :: x4 :: x5 :: x6 :: x7 :: x8 :: x9 :: x10 :: x11 :: x12 :: x13 :: x14 :: some (vr k) :: l) st w Q = T d m (pc + len) (x0 :: x1 :: x2 :: x3 :: x4 :: x5 :: x6 :: x7 :: x8 :: x9 :: x10 :: x11 :: x12 :: x13 :: x14 :: some (vr k) :: l) (vr k :: st) w Q := T_step hc rfl rfl rfl
theorem T_iload_16 {x0 x1 x2 x3 x4 x5 x6 x7 x8 x9 x10 x11 x12 x13 x14 x15 : Option aV} {l : List (Option aV)} (hc : cd m pc = some (.iload 16, len)) : T d m pc (x0 :: x1 :: x2 :: x3 :: x4 :: x5 :: x6 :: x7 :: x8 :: x9 :: x10 :: x11 :: x12 :: x13 :: x14 :: x15 :: some (vi a) :: l) st w Q = T d m (pc + len) (x0 :: x1 :: x2 :: x3 :: x4 :: x5 :: x6 :: x7 :: x8 :: x9 :: x10 :: x11 :: x12 :: x13 :: x14 :: x15 :: some (vi a) :: l) (vi a :: st) w Q := T_step hc rfl rfl rfl
theorem T_lload_16 {x0 x1 x2 x3 x4 x5 x6 x7 x8 x9 x10 x11 x12 x13 x14 x15 : Option aV} {l : List (Option aV)} (hc : cd m pc = some (.lload 16, len)) : T d m pc (x0 :: x1 :: x2 :: x3 :: x4 :: x5 :: x6 :: x7 :: x8 :: x9 :: x10 :: x11 :: x12 :: x13 :: x14 :: x15 :: some (vl a) :: l) st w Q = T d m (pc + len) (x0 :: x1 :: x2 :: x3 :: x4 :: x5 :: x6 :: x7 :: x8 :: x9 :: x10 :: x11 :: x12 :: x13 :: x14 :: x15 :: some (vl a) :: l) (vl a :: st) w Q := T_step hc rfl rfl rfl
theorem T_aload_16 {x0 x1 x2 x3 x4 x5 x6 x7 x8 x9 x10 x11 x12 x13 x14 x15 : Option aV} {l : List (Option aV)} (hc : cd m pc = some (.aload 16, len)) : T d m pc (x0 :: x1 :: x2 :: x3 :: x4 :: x5 :: x6 :: x7 :: x8 :: x9 :: x10 :: x11 :: x12 :: x13 :: x14 :: x15 :: some (vr k) :: l) st w Q = T d m (pc + len) (x0 :: x1 :: x2 :: x3 :: x4 :: x5 :: x6 :: x7 :: x8 :: x9 :: x10 :: x11 :: x12 :: x13 :: x14 :: x15 :: some (vr k) :: l) (vr k :: st) w Q := T_step hc rfl rfl rfl
theorem T_iload_17 {x0 x1 x2 x3 x4 x5 x6 x7 x8 x9 x10 x11 x12 x13 x14 x15 x16 : Option aV} {l : List (Option aV)} (hc : cd m pc = some (.iload 17, len)) : T d m pc (x0 :: x1 :: x2 :: x3 :: x4 :: x5 :: x6 :: x7 :: x8 :: x9 :: x10 :: x11 :: x12 :: x13 :: x14 :: x15 :: x16 :: some (vi a) :: l) st w Q = T d m (pc + len) (x0 :: x1 :: x2 :: x3 :: x4 :: x5 :: x6 :: x7 :: x8 :: x9 :: x10 :: x11 :: x12 :: x13 :: x14 :: x15 :: x16 :: some (vi a) :: l) (vi a :: st) w Q := T_step hc rfl rfl rfl
theorem T_lload_17 {x0 x1 x2 x3 x4 x5 x6 x7 x8 x9 x10 x11 x12 x13 x14 x15 x16 : Option aV} {l : List (Option aV)} (hc : cd m pc = some (.lload 17, len)) : T d m pc (x0 :: x1 :: x2 :: x3 :: x4 :: x5 :: x6 :: x7 :: x8 :: x9 :: x10 :: x11 :: x12 :: x13 :: x14 :: x15 :: x16 :: some (vl a) :: l) st w Q = T d m (pc + len) (x0 :: x1 :: x2 :: x3 :: x4 :: x5 :: x6 :: x7 :: x8 :: x9 :: x10 :: x11 :: x12 :: x13 :: x14 :: x15 :: x16 :: some (vl a) :: l) (vl a :: st) w Q := T_step hc rfl rfl rfl
theorem T_aload_17 {x0 x1 x2 x3 x4 x5 x6 x7 x8 x9 x10 x11 x12 x13 x14 x15 x16 : Option aV} {l : List (Option aV)} (hc : cd m pc = some (.aload 17, len)) : T d m pc (x0 :: x1 :: x2 :: x3 :: x4 :: x5 :: x6 :: x7 :: x8 :: x9 :: x10 :: x11 :: x12 :: x13 :: x14 :: x15 :: x16 :: some (vr k) :: l) st w Q = T d m (pc + len) (x0 :: x1 :: x2 :: x3 :: x4 :: x5 :: x6 :: x7 :: x8 :: x9 :: x10 :: x11 :: x12 :: x13 :: x14 :: x15 :: x16 :: some (vr k) :: l) (vr k :: st) w Q := T_step hc rfl rfl rfl
theorem T_iload_18 {x0 x1 x2 x3 x4 x5 x6 x7 x8 x9 x10 x11 x12 x13 x14 x15 x16 x17 : Option aV} {l : List (Option aV)} (hc : cd m pc = some (.iload 18, len)) : T d m pc (x0 :: x1 :: x2 :: x3 :: x4 :: x5 :: x6 :: x7 :: x8 :: x9 :: x10 :: x11 :: x12 :: x13 :: x14 :: x15 :: x16 :: x17 :: some (vi a) :: l) st w Q = T d m (pc + len) (x0 :: x1 :: x2 :: x3 :: x4 :: x5 :: x6 :: x7 :: x8 :: x9 :: x10 :: x11 :: x12 :: x13 :: x14 :: x15 :: x16 :: x17 :: some (vi a) :: l) (vi a :: st) w Q := T_step hc rfl rfl rfl
theorem T_lload_18 {x0 x1 x2 x3 x4 x5 x6 x7 x8 x9 x10 x11 x12 x13 x14 x15 x16 x17 : Option aV} {l : List (Option aV)} (hc : cd m pc = some (.lload 18, len)) : T d m pc (x0 :: x1 :: x2 :: x3 :: x4 :: x5 :: x6 :: x7 :: x8 :: x9 :: x10 :: x11 :: x12 :: x13 :: x14 :: x15 :: x16 :: x17 :: some (vl a) :: l) st w Q = T d m (pc + len) (x0 :: x1 :: x2 :: x3 :: x4 :: x5 :: x6 :: x7 :: x8 :: x9 :: x10 :: x11 :: x12 :: x13 :: x14 :: x15 :: x16 :: x17 :: some (vl a) :: l) (vl a :: st) w Q := T_step hc rfl rfl rfl
theorem T_aload_18 {x0 x1 x2 x3 x4 x5 x6 x7 x8 x9 x10 x11 x12 x13 x14 x15 x16 x17 : Option aV} {l : List (Option aV)} (hc : cd m pc = some (.aload 18, len)) : T d m pc (x0 :: x1 :: x2 :: x3 :: x4 :: x5 :: x6 :: x7 :: x8 :: x9 :: x10 :: x11 :: x12 :: x13 :: x14 :: x15 :: x16 :: x17 :: some (vr k) :: l) st w Q = T d m (pc + len) (x0 :: x1 :: x2 :: x3 :: x4 :: x5 :: x6 :: x7 :: x8 :: x9 :: x10 :: x11 :: x12 :: x13 :: x14 :: x15 :: x16 :: x17 :: some (vr k) :: l) (vr k :: st) w Q := T_step hc rfl rfl rfl
theorem T_iload_19 {x0 x1 x2 x3 x4 x5 x6 x7 x8 x9 x10 x11 x12 x13 x14 x15 x16 x17 x18 : Option aV} {l : List (Option aV)} (hc : cd m pc = some (.iload 19, len)) : T d m pc (x0 :: x1 :: x2 :: x3 :: x4 :: x5 :: x6 :: x7 :: x8 :: x9 :: x10 :: x11 :: x12 :: x13 :: x14 :: x15 :: x16 :: x17 :: x18 :: some (vi a) :: l) st w Q = T d m (pc + len) (x0 :: x1 :: x2 :: x3 :: x4 :: x5 :: x6 :: x7 :: x8 :: x9 :: x10 :: x11 :: x12 :: x13 :: x14 :: x15 :: x16 :: x17 :: x18 :: some (vi a) :: l) (vi a :: st) w Q := T_step hc rfl rfl rfl
theorem T_lload_19 {x0 x1 x2 x3 x4 x5 x6 x7 x8 x9 x10 x11 x12 x13 x14 x15 x16 x17 x18 : Option aV} {l : List (Option aV)} (hc : cd m pc = some (.lload 19, len)) : T d m pc (x0 :: x1 :: x2 :: x3 :: x4 :: x5 :: x6 :: x7 :: x8 :: x9 :: x10 :: x11 :: x12 :: x13 :: x14 :: x15 :: x16 :: x17 :: x18 :: some (vl a) :: l) st w Q = T d m (pc + len) (x0 :: x1 :: x2 :: x3 :: x4 :: x5 :: x6 :: x7 :: x8 :: x9 :: x10 :: x11 :: x12 :: x13 :: x14 :: x15 :: x16 :: x17 :: x18 :: some (vl a) :: l) (vl a :: st) w Q := T_step hc rfl rfl rfl
theorem T_aload_19 {x0 x1 x2 x3 x4 x5 x6 x7 x8 x9 x10 x11 x12 x13 x14 x15 x16 x17 x18 : Option aV} {l : List (Option aV)} (hc : cd m pc = some (.aload 19, len)) : T d m pc (x0 :: x1 :: x2 :: x3 :: x4 :: x5 :: x6 :: x7 :: x8 :: x9 :: x10 :: x11 :: x12 :: x13 :: x14 :: x15 :: x16 :: x17 :: x18 :: some (vr k) :: l) st w Q = T d m (pc + len) (x0 :: x1 :: x2 :: x3 :: x4 :: x5 :: x6 :: x7 :: x8 :: x9 :: x10 :: x11 :: x12 :: x13 :: x14 :: x15 :: x16 :: x17 :: x18 :: some (vr k) :: l) (vr k :: st) w Q := T_step hc rfl rfl rfl
theorem T_iload_20 {x0 x1 x2 x3 x4 x5 x6 x7 x8 x9 x10 x11 x12 x13 x14 x15 x16 x17 x18 x19 : Option aV} {l : List (Option aV)} (hc : cd m pc = some (.iload 20, len)) : T d m pc (x0 :: x1 :: x2 :: x3 :: x4 :: x5 :: x6 :: x7 :: x8 :: x9 :: x10 :: x11 :: x12 :: x13 :: x14 :: x15 :: x16 :: x17 :: x18 :: x19 :: some (vi a) :: l) st w Q = T d m (pc + len) (x0 :: x1 :: x2 :: x3 :: x4 :: x5 :: x6 :: x7 :: x8 :: x9 :: x10 :: x11 :: x12 :: x13 :: x14 :: x15 :: x16 :: x17 :: x18 :: x19 :: some (vi a) :: l) (vi a :: st) w Q := T_step hc rfl rfl rfl
theorem T_lload_20 {x0 x1 x2 x3 x4 x5 x6 x7 x8 x9 x10 x11 x12 x13 x14 x15 x16 x17 x18 x19 : Option aV} {l : List (Option aV)} (hc : cd m pc = some (.lload 20, len)) : T d m pc (x0 :: x1 :: x2 :: x3 :: x4 :: x5 :: x6 :: x7 :: x8 :: x9 :: x10 :: x11 :: x12 :: x13 :: x14 :: x15 :: x16 :: x17 :: x18 :: x19 :: some (vl a) :: l) st w Q = T d m (pc + len) (x0 :: x1 :: x2 :: x3 :: x4 :: x5 :: x6 :: x7 :: x8 :: x9 :: x10 :: x11 :: x12 :: x13 :: x14 :: x15 :: x16 :: x17 :: x18 :: x19 :: some (vl a) :: l) (vl a :: st) w Q := T_step hc rfl rfl rfl
theorem T_aload_20 {x0 x1 x2 x3 x4 x5 x6 x7 x8 x9 x10 x11 x12 x13 x14 x15 x16 x17 x18 x19 : Option aV} {l : List (Option aV)} (hc : cd m pc = some (.aload 20, len)) : T d m pc (x0 :: x1 :: x2 :: x3 :: x4 :: x5 :: x6 :: x7 :: x8 :: x9 :: x10 :: x11 :: x12 :: x13 :: x14 :: x15 :: x16 :: x17 :: x18 :: x19 :: some (vr k) :: l) st w Q = T d m (pc + len) (x0 :: x1 :: x2 :: x3 :: x4 :: x5 :: x6 :: x7 :: x8 :: x9 :: x10 :: x11 :: x12 :: x13 :: x14 :: x15 :: x16 :: x17 :: x18 :: x19 :: some (vr k) :: l) (vr k :: st) w Q := T_step hc rfl rfl rfl
theorem T_iload_21 {x0 x1 x2 x3 x4 x5 x6 x7 x8 x9 x10 x11 x12 x13 x14 x15 x16 x17 x18 x19 x20 : Option aV} {l : List (Option aV)} (hc : cd m pc = some (.iload 21, len)) : T d m pc (x0 :: x1 :: x2 :: x3 :: x4 :: x5 :: x6 :: x7 :: x8 :: x9 :: x10 :: x11 :: x12 :: x13 :: x14 :: x15 :: x16 :: x17 :: x18 :: x19 :: x20 :: some (vi a) :: l) st w Q = T d m (pc + len) (x0 :: x1 :: x2 :: x3 :: x4 :: x5 :: x6 :: x7 :: x8 :: x9 :: x10 :: x11 :: x12 :: x13 :: x14 :: x15 :: x16 :: x17 :: x18 :: x19 :: x20 :: some (vi a) :: l) (vi a :: st) w Q := T_step hc rfl rfl rfl
theorem T_lload_21 {x0 x1 x2 x3 x4 x5 x6 x7 x8 x9 x10 x11 x12 x13 x14 x15 x16 x17 x18 x19 x20 : Option aV} {l : List (Option aV)} (hc : cd m pc = some (.lload 21, len)) : T d m pc (x0 :: x1 :: x2 :: x3 :: x4 :: x5 :: x6 :: x7 :: x8 :: x9 :: x10 :: x11 :: x12 :: x13 :: x14 :: x15 :: x16 :: x17 :: x18 :: x19 :: x20 :: some (vl a) :: l) st w Q = T d m (pc + len) (x0 :: x1 :: x2 :: x3 :: x4 :: x5 :: x6 :: x7 :: x8 :: x9 :: x10 :: x11 :: x12 :: x13 :: x14 :: x15 :: x16 :: x17 :: x18 :: x19 :: x20 :: some (vl a) :: l) (vl a :: st) w Q := T_step hc rfl rfl rfl
theorem T_aload_21 {x0 x1 x2 x3 x4 x5 x6 x7 x8 x9 x10 x11 x12 x13 x14 x15 x16 x17 x18 x19 x20 : Option aV} {l : List (Option aV)} (hc : cd m pc = some (.aload 21, len)) : T d m pc (x0 :: x1 :: x2 :: x3 :: x4 :: x5 :: x6 :: x7 :: x8 :: x9 :: x10 :: x11 :: x12 :: x13 :: x14 :: x15 :: x16 :: x17 :: x18 :: x19 :: x20 :: some (vr k) :: l) st w Q = T d m (pc + len) (x0 :: x1 :: x2 :: x3 :: x4 :: x5 :: x6 :: x7 :: x8 :: x9 :: x10 :: x11 :: x12 :: x13 :: x14 :: x15 :: x16 :: x17 :: x18 :: x19 :: x20 :: some (vr k) :: l) (vr k :: st) w Q := T_step hc rfl rfl rfl
theorem T_istore {j : Nat} {ls' : List (Option aV)} (hc : cd m pc = some (.istore j, len)) (h : j < ls.length) (h2 : sto1 ls j (vi a) = ls') : T d m pc ls (vi a :: st) w Q = T d m (pc + len) ls' st w Q := T_step hc rfl rfl (by subst h2; show (if j < ls.length then _ else none) = _; rw [if_pos h])
theorem T_astore {j : Nat} {ls' : List (Option aV)} (hc : cd m pc = some (.astore j, len)) (h : j < ls.length) (h2 : sto1 ls j (vr k) = ls') : T d m pc ls (vr k :: st) w Q = T d m (pc + len) ls' st w Q := T_step hc rfl rfl (by subst h2; show (if j < ls.length then _ else none) = _; rw [if_pos h])
theorem T_lstore {j : Nat} {ls' : List (Option aV)} (hc : cd m pc = some (.lstore j, len)) (h : j + 1 < ls.length) (h2 : sto2 ls j (vl a) = ls') : T d m pc ls (vl a :: st) w Q = T d m (pc + len) ls' st w Q := T_step hc rfl rfl (by subst h2; show (if j + 1 < ls.length then _ else none) = _; rw [if_pos h])
theorem T_iinc {j : Nat} {n : Int} {ls' : List (Option aV)} (hc : cd m pc = some (.iinc j n, len)) (h : ls[j]? = some (some (vi a))) (h2 : sto1 ls j (vi (w32 (a + n))) = ls') : T d m pc ls st w Q = T d m (pc + len) ls' st w Q := T_step hc rfl rfl (by subst h2; show (match ls[j]? with | some (some (.inl x)) => _ | _ => none) = _; rw [h])
theorem T_iadd (hc : cd m pc = some (.iadd, len)) : T d m pc ls (vi b :: vi a :: st) w Q = T d m (pc + len) ls (vi (w32 (a + b)) :: st) w Q := T_step hc rfl rfl rfl
theorem T_isub (hc : cd m pc = some (.isub, len)) : T d m pc ls (vi b :: vi a :: st) w Q = T d m (pc + len) ls (vi (w32 (a - b)) :: st) w Q := T_step hc rfl rfl rfl
theorem T_imul (hc : cd m pc = some (.imul, len)) : T d m pc ls (vi b :: vi a :: st) w Q = T d m (pc + len) ls (vi (w32 (a * b)) :: st) w Q := T_step hc rfl rfl rfl
theorem T_iand (hc : cd m pc = some (.iand, len)) : T d m pc ls (vi b :: vi a :: st) w Q = T d m (pc + len) ls (vi (jand a b) :: st) w Q := T_step hc rfl rfl rfl
theorem T_ior (hc : cd m pc = some (.ior, len)) : T d m pc ls (vi b :: vi a :: st) w Q = T d m (pc + len) ls (vi (jor a b) :: st) w Q := T_step hc rfl rfl rfl
theorem T_ixor (hc : cd m pc = some (.ixor, len)) : T d m pc ls (vi b :: vi a :: st) w Q = T d m (pc + len) ls (vi (jxor a b) :: st) w Q := T_step hc rfl rfl rfl
theorem T_ishl (hc : cd m pc = some (.ishl, len)) : T d m pc ls (vi b :: vi a :: st) w Q = T d m (pc + len) ls (vi (jshl a b) :: st) w Q := T_step hc rfl rfl rfl
theorem T_ishr (hc : cd m pc = some (.ishr, len)) : T d m pc ls (vi b :: vi a :: st) w Q = T d m (pc + len) ls (vi (jshr a b) :: st) w Q := T_step hc rfl rfl rfl
theorem T_iushr (hc : cd m pc = some (.iushr, len)) : T d m pc ls (vi b :: vi a :: st) w Q = T d m (pc + len) ls (vi (jushr a b) :: st) w Q := T_step hc rfl rfl rfl
theorem T_idiv (hc : cd m pc = some (.idiv, len)) : T d m pc ls (vi b :: vi a :: st) w Q = (b ≠ 0 ∧ T d m (pc + len) ls (vi (jdiv a b) :: st) w Q) := T_guard hc rfl rfl (fun h => by show (if b = 0 then none else _) = _; rw [if_neg h]) (fun h => by show (if b = 0 then none else _) = _; rw [if_pos (Classical.not_not.mp h)])
theorem T_irem (hc : cd m pc = some (.irem, len)) : T d m pc ls (vi b :: vi a :: st) w Q = (b ≠ 0 ∧ T d m (pc + len) ls (vi (jrem a b) :: st) w Q) := T_guard hc rfl rfl (fun h => by show (if b = 0 then none else _) = _; rw [if_neg h]) (fun h => by show (if b = 0 then none else _) = _; rw [if_pos (Classical.not_not.mp h)])
theorem T_ldiv (hc : cd m pc = some (.ldiv, len)) : T d m pc ls (vl b :: vl a :: st) w Q = (b ≠ 0 ∧ T d m (pc + len) ls (vl (kdiv a b) :: st) w Q) := T_guard hc rfl rfl (fun h => by show (if b = 0 then none else _) = _; rw [if_neg h]) (fun h => by show (if b = 0 then none else _) = _; rw [if_pos (Classical.not_not.mp h)])
theorem T_lrem (hc : cd m pc = some (.lrem, len)) : T d m pc ls (vl b :: vl a :: st) w Q = (b ≠ 0 ∧ T d m (pc + len) ls (vl (krem a b) :: st) w Q) := T_guard hc rfl rfl (fun h => by show (if b = 0 then none else _) = _; rw [if_neg h]) (fun h => by show (if b = 0 then none else _) = _; rw [if_pos (Classical.not_not.mp h)])
theorem T_ineg (hc : cd m pc = some (.ineg, len)) : T d m pc ls (vi a :: st) w Q = T d m (pc + len) ls (vi (w32 (-a)) :: st) w Q := T_step hc rfl rfl rfl
theorem T_ladd (hc : cd m pc = some (.ladd, len)) : T d m pc ls (vl b :: vl a :: st) w Q = T d m (pc + len) ls (vl (w64 (a + b)) :: st) w Q := T_step hc rfl rfl rfl
theorem T_lsub (hc : cd m pc = some (.lsub, len)) : T d m pc ls (vl b :: vl a :: st) w Q = T d m (pc + len) ls (vl (w64 (a - b)) :: st) w Q := T_step hc rfl rfl rfl
theorem T_lmul (hc : cd m pc = some (.lmul, len)) : T d m pc ls (vl b :: vl a :: st) w Q = T d m (pc + len) ls (vl (w64 (a * b)) :: st) w Q := T_step hc rfl rfl rfl
theorem T_land (hc : cd m pc = some (.land, len)) : T d m pc ls (vl b :: vl a :: st) w Q = T d m (pc + len) ls (vl (kand a b) :: st) w Q := T_step hc rfl rfl rfl
theorem T_lor (hc : cd m pc = some (.lor, len)) : T d m pc ls (vl b :: vl a :: st) w Q = T d m (pc + len) ls (vl (kor a b) :: st) w Q := T_step hc rfl rfl rfl
theorem T_lxor (hc : cd m pc = some (.lxor, len)) : T d m pc ls (vl b :: vl a :: st) w Q = T d m (pc + len) ls (vl (kxor a b) :: st) w Q := T_step hc rfl rfl rfl
theorem T_lshl (hc : cd m pc = some (.lshl, len)) : T d m pc ls (vi b :: vl a :: st) w Q = T d m (pc + len) ls (vl (kshl a b) :: st) w Q := T_step hc rfl rfl rfl
theorem T_lshr (hc : cd m pc = some (.lshr, len)) : T d m pc ls (vi b :: vl a :: st) w Q = T d m (pc + len) ls (vl (kshr a b) :: st) w Q := T_step hc rfl rfl rfl
theorem T_lushr (hc : cd m pc = some (.lushr, len)) : T d m pc ls (vi b :: vl a :: st) w Q = T d m (pc + len) ls (vl (kushr a b) :: st) w Q := T_step hc rfl rfl rfl
theorem T_lcmp (hc : cd m pc = some (.lcmp, len)) : T d m pc ls (vl b :: vl a :: st) w Q = T d m (pc + len) ls (vi (kcmp a b) :: st) w Q := T_step hc rfl rfl rfl
theorem T_i2l (hc : cd m pc = some (.i2l, len)) : T d m pc ls (vi a :: st) w Q = T d m (pc + len) ls (vl a :: st) w Q := T_step hc rfl rfl rfl
theorem T_i2b (hc : cd m pc = some (.i2b, len)) : T d m pc ls (vi a :: st) w Q = T d m (pc + len) ls (vi (j8 a) :: st) w Q := T_step hc rfl rfl rfl
theorem T_i2s (hc : cd m pc = some (.i2s, len)) : T d m pc ls (vi a :: st) w Q = T d m (pc + len) ls (vi (j16 a) :: st) w Q := T_step hc rfl rfl rfl
theorem T_i2c (hc : cd m pc = some (.i2c, len)) : T d m pc ls (vi a :: st) w Q = T d m (pc + len) ls (vi (jch a) :: st) w Q := T_step hc rfl rfl rfl
theorem T_l2i (hc : cd m pc = some (.l2i, len)) : T d m pc ls (vl a :: st) w Q = T d m (pc + len) ls (vi (w32 a) :: st) w Q := T_step hc rfl rfl rfl
theorem T_dup_i (hc : cd m pc = some (.dup, len)) : T d m pc ls (vi a :: st) w Q = T d m (pc + len) ls (vi a :: vi a :: st) w Q := T_step hc rfl rfl rfl
theorem T_pop_i (hc : cd m pc = some (.pop, len)) : T d m pc ls (vi a :: st) w Q = T d m (pc + len) ls st w Q := T_step hc rfl rfl rfl
theorem T_dup_r (hc : cd m pc = some (.dup, len)) : T d m pc ls (vr k :: st) w Q = T d m (pc + len) ls (vr k :: vr k :: st) w Q := T_step hc rfl rfl rfl
theorem T_pop_r (hc : cd m pc = some (.pop, len)) : T d m pc ls (vr k :: st) w Q = T d m (pc + len) ls st w Q := T_step hc rfl rfl rfl
theorem T_pop2 (hc : cd m pc = some (.pop2, len)) : T d m pc ls (vl a :: st) w Q = T d m (pc + len) ls st w Q := T_step hc rfl rfl rfl
theorem T_dup2 (hc : cd m pc = some (.dup2, len)) : T d m pc ls (vi a :: vr k :: st) w Q = T d m (pc + len) ls (vi a :: vr k :: vi a :: vr k :: st) w Q := T_step hc rfl rfl rfl
theorem T_icmp_eq {t : Int} (hc : cd m pc = some (.if_icmp .eq t, len)) : T d m pc ls (vi b :: vi a :: st) w Q = ((a = b → T d m t.toNat ls st w Q) ∧ (¬ (a = b) → T d m (pc + len) ls st w Q)) := (T_step hc rfl rfl rfl).trans (T_if (x := cndB .eq a b) (cndB_iff _ _ _))
theorem T_if_eq {t : Int} (hc : cd m pc = some (.ifCond .eq t, len)) : T d m pc ls (vi a :: st) w Q = ((a = 0 → T d m t.toNat ls st w Q) ∧ (¬ (a = 0) → T d m (pc + len) ls st w Q)) := (T_step hc rfl rfl rfl).trans (T_if (x := cndB .eq a 0) (cndB_iff _ _ _))
theorem T_icmp_ne {t : Int} (hc : cd m pc = some (.if_icmp .ne t, len)) : T d m pc ls (vi b :: vi a :: st) w Q = ((¬ a = b → T d m t.toNat ls st w Q) ∧ (¬ (¬ a = b) → T d m (pc + len) ls st w Q)) := (T_step hc rfl rfl rfl).trans (T_if (x := cndB .ne a b) (cndB_iff _ _ _))
theorem T_if_ne {t : Int} (hc : cd m pc = some (.ifCond .ne t, len)) : T d m pc ls (vi a :: st) w Q = ((¬ a = 0 → T d m t.toNat ls st w Q) ∧ (¬ (¬ a = 0) → T d m (pc + len) ls st w Q)) := (T_step hc rfl rfl rfl).trans (T_if (x := cndB .ne a 0) (cndB_iff _ _ _))
theorem T_icmp_lt {t : Int} (hc : cd m pc = some (.if_icmp .lt t, len)) : T d m pc ls (vi b :: vi a :: st) w Q = ((a < b → T d m t.toNat ls st w Q) ∧ (¬ (a < b) → T d m (pc + len) ls st w Q)) := (T_step hc rfl rfl rfl).trans (T_if (x := cndB .lt a b) (cndB_iff _ _ _))
theorem T_if_lt {t : Int} (hc : cd m pc = some (.ifCond .lt t, len)) : T d m pc ls (vi a :: st) w Q = ((a < 0 → T d m t.toNat ls st w Q) ∧ (¬ (a < 0) → T d m (pc + len) ls st w Q)) := (T_step hc rfl rfl rfl).trans (T_if (x := cndB .lt a 0) (cndB_iff _ _ _))
theorem T_icmp_ge {t : Int} (hc : cd m pc = some (.if_icmp .ge t, len)) : T d m pc ls (vi b :: vi a :: st) w Q = ((b ≤ a → T d m t.toNat ls st w Q) ∧ (¬ (b ≤ a) → T d m (pc + len) ls st w Q)) := (T_step hc rfl rfl rfl).trans (T_if (x := cndB .ge a b) (cndB_iff _ _ _))
theorem T_if_ge {t : Int} (hc : cd m pc = some (.ifCond .ge t, len)) : T d m pc ls (vi a :: st) w Q = ((0 ≤ a → T d m t.toNat ls st w Q) ∧ (¬ (0 ≤ a) → T d m (pc + len) ls st w Q)) := (T_step hc rfl rfl rfl).trans (T_if (x := cndB .ge a 0) (cndB_iff _ _ _))
theorem T_icmp_gt {t : Int} (hc : cd m pc = some (.if_icmp .gt t, len)) : T d m pc ls (vi b :: vi a :: st) w Q = ((b < a → T d m t.toNat ls st w Q) ∧ (¬ (b < a) → T d m (pc + len) ls st w Q)) := (T_step hc rfl rfl rfl).trans (T_if (x := cndB .gt a b) (cndB_iff _ _ _))
theorem T_if_gt {t : Int} (hc : cd m pc = some (.ifCond .gt t, len)) : T d m pc ls (vi a :: st) w Q = ((0 < a → T d m t.toNat ls st w Q) ∧ (¬ (0 < a) → T d m (pc + len) ls st w Q)) := (T_step hc rfl rfl rfl).trans (T_if (x := cndB .gt a 0) (cndB_iff _ _ _))
theorem T_icmp_le {t : Int} (hc : cd m pc = some (.if_icmp .le t, len)) : T d m pc ls (vi b :: vi a :: st) w Q = ((a ≤ b → T d m t.toNat ls st w Q) ∧ (¬ (a ≤ b) → T d m (pc + len) ls st w Q)) := (T_step hc rfl rfl rfl).trans (T_if (x := cndB .le a b) (cndB_iff _ _ _))
theorem T_if_le {t : Int} (hc : cd m pc = some (.ifCond .le t, len)) : T d m pc ls (vi a :: st) w Q = ((a ≤ 0 → T d m t.toNat ls st w Q) ∧ (¬ (a ≤ 0) → T d m (pc + len) ls st w Q)) := (T_step hc rfl rfl rfl).trans (T_if (x := cndB .le a 0) (cndB_iff _ _ _))
theorem T_goto {t : Int} (hc : cd m pc = some (.goto t, len)) : T d m pc ls st w Q = T d m t.toNat ls st w Q := T_step hc rfl rfl rfl
theorem T_tab {df lo hi : Int} {ts : Array Int} (hc : cd m pc = some (.tableswitch df lo hi ts, len)) : T d m pc ls (vi x :: st) w Q = T d m (if x < lo ∨ hi < x then df.toNat else (ts.toList.getD (x - lo).toNat df).toNat) ls st w Q := T_step hc rfl rfl rfl
theorem T_lkp {df : Int} {ps : Array (Int × Int)} (hc : cd m pc = some (.lookupswitch df ps, len)) : T d m pc ls (vi x :: st) w Q = T d m (lkp ps.toList df x).toNat ls st w Q := T_step hc rfl rfl rfl
theorem T_getI {n c : Nat} (hc : cd m pc = some (.getfield n, len)) (h1 : n / 256 = c) (h2 : n / 4 % 64 = f) (h3 : n % 4 = 0) : T d m pc ls (vr k :: st) w Q = (lay k = (c, 0) ∧ T d m (pc + len) ls (vi (w k (f : Int)) :: st) w Q) := by
  subst h1; subst h2
  refine T_guard hc rfl rfl (fun h => ?_) (fun h => ?_)
  · simp only [sstep]; rw [if_pos h, h3]
  · simp only [sstep]; rw [if_neg h]
theorem T_getL {n c : Nat} (hc : cd m pc = some (.getfield n, len)) (h1 : n / 256 = c) (h2 : n / 4 % 64 = f) (h3 : n % 4 = 1) : T d m pc ls (vr k :: st) w Q = (lay k = (c, 0) ∧ T d m (pc + len) ls (vl (w k (f : Int)) :: st) w Q) := by
  subst h1; subst h2
  refine T_guard hc rfl rfl (fun h => ?_) (fun h => ?_)
  · simp only [sstep]; rw [if_pos h, h3]
  · simp only [sstep]; rw [if_neg h]
theorem T_getR {n c : Nat} (hc : cd m pc = some (.getfield n, len)) (h1 : n / 256 = c) (h2 : n / 4 % 64 = f) (h3 : n % 4 = 2) : T d m pc ls (vr k :: st) w Q = (lay k = (c, 0) ∧ T d m (pc + len) ls (vr (rfA k f) :: st) w Q) := by
  subst h1; subst h2
  refine T_guard hc rfl rfl (fun h => ?_) (fun h => ?_)
  · simp only [sstep]; rw [if_pos h, h3]
  · simp only [sstep]; rw [if_neg h]
theorem T_getZ {n c : Nat} (hc : cd m pc = some (.getfield n, len)) (h1 : n / 256 = c) (h2 : n / 4 % 64 = f) (h3 : n % 4 = 3) : T d m pc ls (vr k :: st) w Q = (lay k = (c, 0) ∧ T d m (pc + len) ls (vi (w k (f : Int)) :: st) w Q) := by
  subst h1; subst h2
  refine T_guard hc rfl rfl (fun h => ?_) (fun h => ?_)
  · simp only [sstep]; rw [if_pos h, h3]
  · simp only [sstep]; rw [if_neg h]
theorem T_putI {n c : Nat} (hc : cd m pc = some (.putfield n, len)) (h1 : n / 256 = c) (h2 : n / 4 % 64 = f) (h3 : n % 4 = 0) : T d m pc ls (vi x :: vr k :: st) w Q = ((lay k = (c, 0)) ∧ T d m (pc + len) ls st (iup w k (f : Int) x) Q) := by
  subst h1; subst h2
  refine T_guard hc rfl rfl (fun h => ?_) (fun h => ?_)
  · simp only [sstep]; rw [if_pos (by simp only [h3]; simpa using h)]
  · simp only [sstep]; rw [if_neg (fun q => h (by simp only [h3] at q; simpa using q))]
theorem T_putL {n c : Nat} (hc : cd m pc = some (.putfield n, len)) (h1 : n / 256 = c) (h2 : n / 4 % 64 = f) (h3 : n % 4 = 1) : T d m pc ls (vl x :: vr k :: st) w Q = ((lay k = (c, 0)) ∧ T d m (pc + len) ls st (iup w k (f : Int) x) Q) := by
  subst h1; subst h2
  refine T_guard hc rfl rfl (fun h => ?_) (fun h => ?_)
  · simp only [sstep]; rw [if_pos (by simp only [h3]; simpa using h)]
  · simp only [sstep]; rw [if_neg (fun q => h (by simp only [h3] at q; simpa using q))]
theorem T_putZ {n c : Nat} (hc : cd m pc = some (.putfield n, len)) (h1 : n / 256 = c) (h2 : n / 4 % 64 = f) (h3 : n % 4 = 3) : T d m pc ls (vi x :: vr k :: st) w Q = ((lay k = (c, 0) ∧ (x = 0 ∨ x = 1)) ∧ T d m (pc + len) ls st (iup w k (f : Int) x) Q) := by
  subst h1; subst h2
  refine T_guard hc rfl rfl (fun h => ?_) (fun h => ?_)
  · simp only [sstep]; rw [if_pos (by simp only [h3]; simpa using h)]
  · simp only [sstep]; rw [if_neg (fun q => h (by simp only [h3] at q; simpa using q))]
def ldok (k : Nat) (i : Int) (w : aW) : Prop := if k = 999 then 0 ≤ i ∧ i < w 999 (-1) else inA k 0 i = true
theorem T_iald (hc : cd m pc = some (.iaload, len)) : T d m pc ls (vi i :: vr k :: st) w Q = (ldok k i w ∧ T d m (pc + len) ls (vi (w k i) :: st) w Q) := by
  refine T_guard hc rfl rfl (fun h => ?_) (fun h => ?_)
  · simp only [sstep, ldA]
    unfold ldok at h
    by_cases q : k = 999
    · subst q; rw [if_pos rfl] at h ⊢; rw [if_pos ⟨rfl, h⟩]
    · rw [if_neg q] at h ⊢; rw [if_pos h, if_neg (by decide)]
  · simp only [sstep, ldA]
    unfold ldok at h
    by_cases q : k = 999
    · subst q; rw [if_pos rfl] at h ⊢; rw [if_neg (fun z => h z.2)]
    · rw [if_neg q] at h ⊢; rw [if_neg h]
theorem T_lald (hc : cd m pc = some (.laload, len)) : T d m pc ls (vi i :: vr k :: st) w Q = (inA k 1 i = true ∧ T d m (pc + len) ls (vl (w k i) :: st) w Q) := by
  have h99 : ¬ inA 999 1 i = true := by simp [inA, show lay 999 = (99, 0) by decide +kernel]
  refine T_guard hc rfl rfl (fun h => ?_) (fun h => ?_)
  · simp only [sstep, ldA]
    rw [if_neg (fun q => h99 (q ▸ h)), if_pos h, if_pos rfl]
  · simp only [sstep, ldA]
    by_cases q : k = 999
    · subst q; rw [if_pos rfl, if_neg (fun z => absurd z.1 (by decide))]
    · rw [if_neg q, if_neg h]
def ldbk (k : Nat) (i : Int) : Prop := if 1100 ≤ k then k < 1103 ∧ 0 ≤ i ∧ i < ((gStr.getD (k - 1100) []).length : Int) else (inA k 2 i || inA k 3 i) = true
def ldbv (w : aW) (k : Nat) (i : Int) : Int := if 1100 ≤ k then sBy (k - 1100) i else w k i
theorem T_bald (hc : cd m pc = some (.baload, len)) : T d m pc ls (vi i :: vr k :: st) w Q = (ldbk k i ∧ T d m (pc + len) ls (vi (ldbv w k i) :: st) w Q) := by
  refine T_guard hc rfl rfl (fun h => ?_) (fun h => ?_)
  · simp only [sstep, ldB]
    unfold ldbk at h
    unfold ldbv
    by_cases q : 1100 ≤ k
    · rw [if_pos q] at h ⊢; rw [if_pos h, if_pos q]
    · rw [if_neg q] at h ⊢; rw [if_pos h, if_neg q]
  · simp only [sstep, ldB]
    unfold ldbk at h
    by_cases q : 1100 ≤ k
    · rw [if_pos q] at h ⊢; rw [if_neg h]
    · rw [if_neg q] at h ⊢; rw [if_neg h]
theorem T_aald (hc : cd m pc = some (.aaload, len)) : T d m pc ls (vi i :: vr k :: st) w Q = ((isRA k i = true ∧ (k = 87 → (w 87 i).toNat < 191)) ∧ T d m (pc + len) ls (vr (rAt w k i) :: st) w Q) := by
  refine T_guard hc rfl rfl (fun h => ?_) (fun h => ?_)
  · simp only [sstep]; rw [if_pos h]
  · simp only [sstep]; rw [if_neg h]
theorem T_iast (hc : cd m pc = some (.iastore, len)) : T d m pc ls (vi x :: vi i :: vr k :: st) w Q = (inA k 0 i = true ∧ T d m (pc + len) ls st (iup w k i x) Q) := by
  refine T_guard hc rfl rfl (fun h => ?_) (fun h => ?_)
  · simp only [sstep]; rw [if_pos h]
  · simp only [sstep]; rw [if_neg h]
theorem T_last (hc : cd m pc = some (.lastore, len)) : T d m pc ls (vl x :: vi i :: vr k :: st) w Q = (inA k 1 i = true ∧ T d m (pc + len) ls st (iup w k i x) Q) := by
  refine T_guard hc rfl rfl (fun h => ?_) (fun h => ?_)
  · simp only [sstep]; rw [if_pos h]
  · simp only [sstep]; rw [if_neg h]
theorem T_bast2 (hc : cd m pc = some (.bastore, len)) (hk : (lay k).1 = 102) : T d m pc ls (vi x :: vi i :: vr k :: st) w Q = (inA k 2 i = true ∧ T d m (pc + len) ls st (iup w k i (j8 x)) Q) := by
  have h3 : ¬ inA k 3 i = true := by simp [inA, hk]
  refine T_guard hc rfl rfl (fun h => ?_) (fun h => ?_)
  · simp only [sstep]; rw [if_pos h]
  · simp only [sstep]; rw [if_neg h, if_neg (by simp [h3])]
theorem T_bast3 (hc : cd m pc = some (.bastore, len)) (hk : (lay k).1 = 103) : T d m pc ls (vi x :: vi i :: vr k :: st) w Q = ((inA k 3 i = true ∧ (x = 0 ∨ x = 1)) ∧ T d m (pc + len) ls st (iup w k i x) Q) := by
  have h3 : ¬ inA k 2 i = true := by simp [inA, hk]
  refine T_guard hc rfl rfl (fun h => ?_) (fun h => ?_)
  · simp only [sstep]; rw [if_neg h3, if_pos (by simpa using h)]
  · simp only [sstep]; rw [if_neg h3, if_neg (fun q => h (by simpa using q))]
theorem T_aast (hc : cd m pc = some (.aastore, len)) : T d m pc ls (vr f :: vi i :: vr k :: st) w Q = ((k = 87 ∧ inA 87 4 i = true ∧ lay f = (6, 0)) ∧ T d m (pc + len) ls st (iup w 87 i (f : Int)) Q) := by
  refine T_guard hc rfl rfl (fun h => ?_) (fun h => ?_)
  · simp only [sstep]; rw [if_pos h]
  · simp only [sstep]; rw [if_neg h]
def wcp (w : aW) (a b : Nat) (sp dp n : Int) : aW := fun c i => if c = b ∧ dp ≤ i ∧ i < dp + n then w a (sp + (i - dp)) else w c i
theorem T_copy {ka kb : Nat} {sp dp n : Int} (hc : cd m pc = some (.invokedynamic 0, len)) (hw : (st.map vwt).sum ≤ 8) : T d m pc ls (vi n :: vi dp :: vr kb :: vi sp :: vr ka :: st) w Q = (((lay ka).1 = 100 ∧ (lay kb).1 = 100 ∧ 0 ≤ sp ∧ 0 ≤ dp ∧ 0 ≤ n ∧ sp + n ≤ ((lay ka).2 : Int) ∧ dp + n ≤ ((lay kb).2 : Int)) ∧ T d m (pc + len) ls st (wcp w ka kb sp dp n) Q) := by
  refine T_guard hc rfl rfl (fun h => ?_) (fun h => ?_)
  · simp only [sstep]; rw [if_pos ⟨h.1, h.2.1, h.2.2.1, h.2.2.2.1, h.2.2.2.2.1, h.2.2.2.2.2.1, h.2.2.2.2.2.2, hw⟩]; rfl
  · simp only [sstep]; rw [if_neg (fun q => h ⟨q.1, q.2.1, q.2.2.1, q.2.2.2.1, q.2.2.2.2.1, q.2.2.2.2.2.1, q.2.2.2.2.2.2.1⟩)]
theorem T_min (hc : cd m pc = some (.invokedynamic 1, len)) (hw : (st.map vwt).sum ≤ 8) : T d m pc ls (vi y :: vi x :: st) w Q = T d m (pc + len) ls (vi (if y < x then y else x) :: st) w Q := T_step hc rfl rfl (by simp only [sstep]; rw [if_pos hw])
theorem T_max (hc : cd m pc = some (.invokedynamic 2, len)) (hw : (st.map vwt).sum ≤ 8) : T d m pc ls (vi y :: vi x :: st) w Q = T d m (pc + len) ls (vi (if x < y then y else x) :: st) w Q := T_step hc rfl rfl (by simp only [sstep]; rw [if_pos hw])
def alok (k : Nat) : Prop := k = 999 ∨ (1100 ≤ k ∧ k < 1103) ∨ (k < 1100 ∧ 100 ≤ (lay k).1)
def alv (w : aW) (k : Nat) : Int := if k = 999 then w 999 (-1) else if 1100 ≤ k then ((gStr.getD (k - 1100) []).length : Int) else ((lay k).2 : Int)
theorem T_alen (hc : cd m pc = some (.arraylength, len)) : T d m pc ls (vr k :: st) w Q = (alok k ∧ T d m (pc + len) ls (vi (alv w k) :: st) w Q) := by
  refine T_guard hc rfl rfl (fun h => ?_) (fun h => ?_)
  · simp only [sstep]
    unfold alv
    rcases h with h | h | h
    · rw [if_pos h, if_pos h]
    · rw [if_neg (by omega), if_pos h.1, if_pos h.2, if_neg (by omega), if_pos h.1]
    · by_cases q : k = 999
      · rw [if_pos q, if_pos q]
      · rw [if_neg q, if_neg (by omega), if_pos h.2, if_neg q, if_neg (by omega)]
  · simp only [sstep]
    unfold alok at h
    rw [if_neg (fun q => h (Or.inl q))]
    by_cases q : 1100 ≤ k
    · rw [if_pos q, if_neg (fun z => h (Or.inr (Or.inl ⟨q, z⟩)))]
    · rw [if_neg q, if_neg (fun z => h (Or.inr (Or.inr ⟨by omega, z⟩)))]
theorem T_gs0 (hc : cd m pc = some (.getstatic 0, len)) : T d m pc ls (vr k :: st) w Q = ((1000 ≤ k ∧ k < 1003) ∧ T d m (pc + len) ls (vr (k + 100) :: st) w Q) := by
  refine T_guard hc rfl rfl (fun h => ?_) (fun h => ?_)
  · simp only [sstep]; rw [if_pos h]
  · simp only [sstep]; rw [if_neg h]
theorem T_gs1 (hc : cd m pc = some (.getstatic 1, len)) : T d m pc ls (vr k :: st) w Q = ((1000 ≤ k ∧ k < 1003) ∧ T d m (pc + len) ls (vi 0 :: st) w Q) := by
  refine T_guard hc rfl rfl (fun h => ?_) (fun h => ?_)
  · simp only [sstep]; rw [if_pos h]
  · simp only [sstep]; rw [if_neg h]
theorem T_gs2 (hc : cd m pc = some (.getstatic 2, len)) : T d m pc ls st w Q = T d m (pc + len) ls (vi 1 :: st) w Q := T_step hc rfl rfl rfl
theorem T_gs3 (hc : cd m pc = some (.getstatic 3, len)) : T d m pc ls st w Q = T d m (pc + len) ls (vr 1200 :: st) w Q := T_step hc rfl rfl rfl
theorem T_ireti (hc : cd m pc = some (.ireturn, len)) (hm : mRt m = some .int) : T d m pc ls [vi x] w Q = Q (some (vi x)) w := T_ret hc (by simp only [aret, rok, hm]; rfl)
theorem T_iretz (hc : cd m pc = some (.ireturn, len)) (hm : mRt m = some .boolean) : T d m pc ls [vi x] w Q = ((x = 0 ∨ x = 1) ∧ Q (some (vi x)) w) := by
  by_cases h : x = 0 ∨ x = 1
  · rw [T_ret (r := some (vi x)) hc (by simp only [aret, rok, hm]; rw [if_pos (by simpa using h)])]
    exact propext ⟨fun q => ⟨h, q⟩, fun q => q.2⟩
  · refine propext ⟨fun q => absurd q (T_none hc (by simp only [aret, rok, hm]; rw [if_neg (by simpa using h)]) rfl rfl), fun q => absurd q.1 h⟩
theorem T_iretb (hc : cd m pc = some (.ireturn, len)) (hm : mRt m = some .byte) : T d m pc ls [vi x] w Q = (x = 0 ∧ Q (some (vi x)) w) := by
  by_cases h : x = 0
  · rw [T_ret (r := some (vi x)) hc (by simp only [aret, rok, hm]; rw [if_pos (by simpa using h)])]
    exact propext ⟨fun q => ⟨h, q⟩, fun q => q.2⟩
  · refine propext ⟨fun q => absurd q (T_none hc (by simp only [aret, rok, hm]; rw [if_neg (by simpa using h)]) rfl rfl), fun q => absurd q.1 h⟩
theorem T_iretc (hc : cd m pc = some (.ireturn, len)) (hm : mRt m = some .char) : T d m pc ls [vi x] w Q = ((0 ≤ x ∧ x < 65536) ∧ Q (some (vi x)) w) := by
  by_cases h : 0 ≤ x ∧ x < 65536
  · rw [T_ret (r := some (vi x)) hc (by simp only [aret, rok, hm]; rw [if_pos (by simpa using h)])]
    exact propext ⟨fun q => ⟨h, q⟩, fun q => q.2⟩
  · refine propext ⟨fun q => absurd q (T_none hc (by simp only [aret, rok, hm]; rw [if_neg (by simpa using h)]) rfl rfl), fun q => absurd q.1 h⟩
theorem T_lret (hc : cd m pc = some (.lreturn, len)) (hm : mRt m = some .long) : T d m pc ls [vl x] w Q = Q (some (vl x)) w := T_ret hc (by simp only [aret]; rw [if_pos hm])
theorem T_aret (hc : cd m pc = some (.areturn, len)) (hm : mRt m = some (.array .int)) : T d m pc ls [vr k] w Q = Q (some (vr k)) w := T_ret hc (by simp only [aret]; rw [if_pos hm])
theorem T_vret (hc : cd m pc = some (.return_, len)) (hm : mRt m = none) : T d m pc ls [] w Q = Q none w := T_ret hc (by simp only [aret]; rw [if_pos hm])
theorem T_inv {g n : Nat} {ks : List Nat} {as rest : List aV} (hc : cd m pc = some (.invokestatic g, len)) (h1 : mKs g = ks) (h2 : mLc g = n) (hp : popA ks.reverse st [] = some (as, rest)) (hw : (rest.map vwt).sum ≤ 8) : T (d + 1) m pc ls st w Q = T d g 0 (ent as n) [] w (fun r w' => T (d + 1) m (pc + 3) ls (r.toList ++ rest) w' Q) := by
  subst h1; subst h2
  exact T_call hc rfl (by simp only [acall]; rw [hp]; rfl) hw
theorem T_invv {g n c : Nat} {ks : List Nat} {as rest : List aV} (hc : cd m pc = some (.invokevirtual g, len)) (h1 : mKs g = ks) (h2 : mLc g = n) (h3 : mCi g = c) (h4 : c < 13) (hp : popA ks.reverse st [] = some (vr k :: as, rest)) (hw : (rest.map vwt).sum ≤ 8) : T (d + 1) m pc ls st w Q = (lay k = (c, 0) ∧ T d g 0 (ent (vr k :: as) n) [] w (fun r w' => T (d + 1) m (pc + 3) ls (r.toList ++ rest) w' Q)) := by
  subst h1; subst h2; subst h3
  have h13 : ¬ mCi g = 13 := by omega
  apply propext
  by_cases h : lay k = (mCi g, 0)
  · rw [T_call (f := g) (as := vr k :: as) (rest := rest) hc rfl (by simp only [acall]; rw [hp]; simp only []; rw [if_pos (Or.inr ⟨h4, h⟩)]) hw]
    exact ⟨fun q => ⟨h, q⟩, fun q => q.2⟩
  · refine ⟨fun q => absurd q (T_none hc rfl (by simp only [acall]; rw [hp]; simp only []; rw [if_neg (by simp [h13, h])]) rfl), fun q => absurd q.1 h⟩
theorem T_invs {g n : Nat} {ks : List Nat} {as rest : List aV} (hc : cd m pc = some (.invokevirtual g, len)) (h1 : mKs g = ks) (h2 : mLc g = n) (h3 : mCi g = 13) (hp : popA ks.reverse st [] = some (vr k :: as, rest)) (hw : (rest.map vwt).sum ≤ 8) : T (d + 1) m pc ls st w Q = ((1000 ≤ k ∧ k < 1003) ∧ T d g 0 (ent (vr k :: as) n) [] w (fun r w' => T (d + 1) m (pc + 3) ls (r.toList ++ rest) w' Q)) := by
  subst h1; subst h2
  have h13 : ¬ mCi g < 13 := by omega
  apply propext
  by_cases h : 1000 ≤ k ∧ k < 1003
  · rw [T_call (f := g) (as := vr k :: as) (rest := rest) hc rfl (by simp only [acall]; rw [hp]; simp only []; rw [if_pos (Or.inl ⟨h3, h⟩)]) hw]
    exact ⟨fun q => ⟨h, q⟩, fun q => q.2⟩
  · refine ⟨fun q => absurd q (T_none hc rfl (by simp only [acall]; rw [hp]; simp only []; rw [if_neg (by simp only [h3, h13, h, and_false, false_and, or_self, not_false_eq_true])]) rfl), fun q => absurd q.1 h⟩
end Ops
