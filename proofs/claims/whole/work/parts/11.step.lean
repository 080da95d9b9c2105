/-! One step of the smaller machine is one of the machine's. -/
theorem word_of_good {w : Cond} (h : (w.onTables && w.keeps) = true ∨ ∃ ty, w = .arrayClass ty) : goodWord w = true := by
  rcases h with h | ⟨ty, rfl⟩
  · cases w <;> first | rfl | exact h
  · rfl
theorem TBg_of {ws : List Cond} (h : GoodIn lw_tbl ws) : ∀ w ∈ ws, w ∈ TBg := fun w hw => List.mem_filter.mpr ⟨(h w hw).1, word_of_good (h w hw).2⟩
theorem ag1_s {ki : Instr} {f : Nat → Instr} {g : Fin 4 → Instr} {i len : Nat} (h : ag1 ki f g i len = true) : (ki = f i ∧ len = 2) ∨ ∃ k : Fin 4, (k : Nat) = i ∧ ki = g k ∧ len = 1 := by
  simp only [ag1, Bool.or_eq_true, Bool.and_eq_true, decide_eq_true_eq] at h
  rcases h with h | ⟨h1, h2⟩
  · exact Or.inl h
  · by_cases h4 : i < 4
    · rw [dif_pos h4] at h2
      exact Or.inr ⟨⟨i, h4⟩, rfl, by simpa using h2, h1⟩
    · rw [dif_neg h4] at h2; cases h2
section Stp1
variable {adr : Nat → Nat} {fm : Value} {D : va_G} {cA : Nat → ClassId} {A : Nat → Prop} {L : Nat} {xs : Nat → Int32}
variable {p : Program} {l : Launch} {e : Env} {R : Room} {s : State} {mid : MethodId} {args : Array Value} {below : List Frame} {meth : Method} {c : Code} {cells slots : Nat} {Q : State → Prop} {m d pc : Nat}
def Cx (adr : Nat → Nat) (fm : Value) (D : va_G) (cA : Nat → ClassId) (A : Nat → Prop) (L : Nat) (xs : Nat → Int32) (p : Program) (R : Room) (s : State) (mid : MethodId) (args : Array Value) (c : Code) (m d : Nat) : Prop :=
  p.tables.exec = Jvm.exec ∧ c.code = mBy m ∧ c.maxLocals = mLc m ∧ s.vm.findClass (cN (mCi m)) = some mid.cls ∧ (∀ w ∈ TBg, w.before args s = true) ∧ Out adr fm A L xs s s.heap ∧ va_K D vwCl (tysE cA) s ∧ Dst adr A ∧ okF fm ∧ d + 1 ≤ R.frames ∧ 64 * (d + 1) ≤ R.locals
abbrev G (adr : Nat → Nat) (fm : Value) (D : va_G) (cA : Nat → ClassId) (A : Nat → Prop) (L : Nat) (xs : Nat → Int32) (p : Program) (l : Launch) (e : Env) (R : Room) (s : State) (mid : MethodId) (args : Array Value) (below : List Frame) (meth : Method) (c : Code) (cells slots : Nat) (Q : State → Prop) (m : Nat) (X : aS) : Prop :=
  ∀ (H : Heap) (locs : List Loc) (lsM : Array Slot), va_P D vwCl (wsE adr cA X.2.2.2) H → okW X.2.2.2 → Scr L xs X.2.2.2 → va_S A s.heap H locs → lv_has lsM (mLc m) (toL adr fm 0 X.2.1) → X.2.1.length = mLc m → okL X.2.1 → okS X.2.2.1 → W p l e R s mid args below meth c H locs cells slots Q (F0 mid X.1 lsM (X.2.2.1.map (val adr fm)))
variable {ls : List (Option aV)} {st : List aV} {w : aW} {X : aS}
theorem st_bin1 {g : Int → Int → Int} {op : Int32 → Int32 → Int32} (hrow : ∀ {x y : Int32} {H : Heap} {locs : List Loc} {lsM : Array Slot} {rest : List Value}, W p l e R s mid args below meth c H locs cells slots Q (F0 mid (pc + 1) lsM (.int (op x y) :: rest)) → W p l e R s mid args below meth c H locs cells slots Q (F0 mid pc lsM (.int y :: .int x :: rest))) (hg : ∀ a b, R32 a → R32 b → R32 (g a b) ∧ Int32.ofInt (g a b) = op (Int32.ofInt a) (Int32.ofInt b)) (hs : bin1 g (pc + 1) ls st w = some X) (hk : G adr fm D cA A L xs p l e R s mid args below meth c cells slots Q m X) : G adr fm D cA A L xs p l e R s mid args below meth c cells slots Q m (pc, ls, st, w) := by
  unfold bin1 at hs
  split at hs
  · next b a st =>
    cases hs
    intro H locs lsM hP hw hsc hS hl hll hol hos
    have h1 := hg a b (okS.hd (okS.tl hos)) (okS.hd hos)
    have h2 := hk H locs lsM hP hw hsc hS hl hll hol (okS.cons h1.1 (okS.tl (okS.tl hos)))
    refine hrow ?_
    have e : (vi (g a b) :: st).map (val adr fm) = .int (op (Int32.ofInt a) (Int32.ofInt b)) :: st.map (val adr fm) := by
      show Value.int (Int32.ofInt (g a b)) :: _ = _
      rw [h1.2]
    rw [← e]; exact h2
  · cases hs
theorem st_bin2 {g : Int → Int → Int} {op : Int64 → Int64 → Int64} (hrow : ∀ {x y : Int64} {H : Heap} {locs : List Loc} {lsM : Array Slot} {rest : List Value}, W p l e R s mid args below meth c H locs cells slots Q (F0 mid (pc + 1) lsM (.long (op x y) :: rest)) → W p l e R s mid args below meth c H locs cells slots Q (F0 mid pc lsM (.long y :: .long x :: rest))) (hg : ∀ a b, R64 a → R64 b → R64 (g a b) ∧ Int64.ofInt (g a b) = op (Int64.ofInt a) (Int64.ofInt b)) (hs : bin2 g (pc + 1) ls st w = some X) (hk : G adr fm D cA A L xs p l e R s mid args below meth c cells slots Q m X) : G adr fm D cA A L xs p l e R s mid args below meth c cells slots Q m (pc, ls, st, w) := by
  unfold bin2 at hs
  split at hs
  · next b a st =>
    cases hs
    intro H locs lsM hP hw hsc hS hl hll hol hos
    have h1 := hg a b (okS.hd (okS.tl hos)) (okS.hd hos)
    have h2 := hk H locs lsM hP hw hsc hS hl hll hol (okS.cons h1.1 (okS.tl (okS.tl hos)))
    refine hrow ?_
    have e : (vl (g a b) :: st).map (val adr fm) = .long (op (Int64.ofInt a) (Int64.ofInt b)) :: st.map (val adr fm) := by
      show Value.long (Int64.ofInt (g a b)) :: _ = _
      rw [h1.2]
    rw [← e]; exact h2
  · cases hs
theorem st_bin3 {g : Int → Int → Int} {op : Int64 → Int32 → Int64} (hrow : ∀ {x : Int64} {y : Int32} {H : Heap} {locs : List Loc} {lsM : Array Slot} {rest : List Value}, W p l e R s mid args below meth c H locs cells slots Q (F0 mid (pc + 1) lsM (.long (op x y) :: rest)) → W p l e R s mid args below meth c H locs cells slots Q (F0 mid pc lsM (.int y :: .long x :: rest))) (hg : ∀ a b, R64 (g a b) ∧ Int64.ofInt (g a b) = op (Int64.ofInt a) (Int32.ofInt b)) (hs : bin3 g (pc + 1) ls st w = some X) (hk : G adr fm D cA A L xs p l e R s mid args below meth c cells slots Q m X) : G adr fm D cA A L xs p l e R s mid args below meth c cells slots Q m (pc, ls, st, w) := by
  unfold bin3 at hs
  split at hs
  · next b a st =>
    cases hs
    intro H locs lsM hP hw hsc hS hl hll hol hos
    have h1 := hg a b
    have h2 := hk H locs lsM hP hw hsc hS hl hll hol (okS.cons h1.1 (okS.tl (okS.tl hos)))
    refine hrow ?_
    have e : (vl (g a b) :: st).map (val adr fm) = .long (op (Int64.ofInt a) (Int32.ofInt b)) :: st.map (val adr fm) := by
      show Value.long (Int64.ofInt (g a b)) :: _ = _
      rw [h1.2]
    rw [← e]; exact h2
  · cases hs
theorem st_div1 {g : Int → Int → Int} {op : Int32 → Int32 → Int32} (hrow : ∀ {x y : Int32} {H : Heap} {locs : List Loc} {lsM : Array Slot} {rest : List Value}, ¬ y = 0 → W p l e R s mid args below meth c H locs cells slots Q (F0 mid (pc + 1) lsM (.int (op x y) :: rest)) → W p l e R s mid args below meth c H locs cells slots Q (F0 mid pc lsM (.int y :: .int x :: rest))) (hg : ∀ a b, R32 (g a b) ∧ Int32.ofInt (g a b) = op (Int32.ofInt a) (Int32.ofInt b)) (hs : div1 g (pc + 1) ls st w = some X) (hk : G adr fm D cA A L xs p l e R s mid args below meth c cells slots Q m X) : G adr fm D cA A L xs p l e R s mid args below meth c cells slots Q m (pc, ls, st, w) := by
  unfold div1 at hs
  split at hs
  · next b a st =>
    split at hs
    · cases hs
    · next hb0 =>
      cases hs
      intro H locs lsM hP hw hsc hS hl hll hol hos
      have h1 := hg a b
      have h2 := hk H locs lsM hP hw hsc hS hl hll hol (okS.cons h1.1 (okS.tl (okS.tl hos)))
      refine hrow (fun z => hb0 ?_) ?_
      · exact (i32_eq (okS.hd hos) R32_0).mp z
      have e : (vi (g a b) :: st).map (val adr fm) = .int (op (Int32.ofInt a) (Int32.ofInt b)) :: st.map (val adr fm) := by
        show Value.int (Int32.ofInt (g a b)) :: _ = _
        rw [h1.2]
      rw [← e]; exact h2
  · cases hs
theorem st_div2 {g : Int → Int → Int} {op : Int64 → Int64 → Int64} (hrow : ∀ {x y : Int64} {H : Heap} {locs : List Loc} {lsM : Array Slot} {rest : List Value}, ¬ y = 0 → W p l e R s mid args below meth c H locs cells slots Q (F0 mid (pc + 1) lsM (.long (op x y) :: rest)) → W p l e R s mid args below meth c H locs cells slots Q (F0 mid pc lsM (.long y :: .long x :: rest))) (hg : ∀ a b, R64 (g a b) ∧ Int64.ofInt (g a b) = op (Int64.ofInt a) (Int64.ofInt b)) (hs : div2 g (pc + 1) ls st w = some X) (hk : G adr fm D cA A L xs p l e R s mid args below meth c cells slots Q m X) : G adr fm D cA A L xs p l e R s mid args below meth c cells slots Q m (pc, ls, st, w) := by
  unfold div2 at hs
  split at hs
  · next b a st =>
    split at hs
    · cases hs
    · next hb0 =>
      cases hs
      intro H locs lsM hP hw hsc hS hl hll hol hos
      have h1 := hg a b
      have h2 := hk H locs lsM hP hw hsc hS hl hll hol (okS.cons h1.1 (okS.tl (okS.tl hos)))
      refine hrow (fun z => hb0 ?_) ?_
      · exact (i64_eq (okS.hd hos) (R32_64 R32_0)).mp z
      have e : (vl (g a b) :: st).map (val adr fm) = .long (op (Int64.ofInt a) (Int64.ofInt b)) :: st.map (val adr fm) := by
        show Value.long (Int64.ofInt (g a b)) :: _ = _
        rw [h1.2]
      rw [← e]; exact h2
  · cases hs
theorem st_un1 {g : Int → aV} {op : Int32 → Value} (hrow : ∀ {x : Int32} {H : Heap} {locs : List Loc} {lsM : Array Slot} {rest : List Value}, W p l e R s mid args below meth c H locs cells slots Q (F0 mid (pc + 1) lsM (op x :: rest)) → W p l e R s mid args below meth c H locs cells slots Q (F0 mid pc lsM (.int x :: rest))) (hg : ∀ a, R32 a → okV (g a) ∧ val adr fm (g a) = op (Int32.ofInt a)) (hs : un1 g (pc + 1) ls st w = some X) (hk : G adr fm D cA A L xs p l e R s mid args below meth c cells slots Q m X) : G adr fm D cA A L xs p l e R s mid args below meth c cells slots Q m (pc, ls, st, w) := by
  unfold un1 at hs
  split at hs
  · next a st =>
    cases hs
    intro H locs lsM hP hw hsc hS hl hll hol hos
    have h1 := hg a (okS.hd hos)
    have h2 := hk H locs lsM hP hw hsc hS hl hll hol (okS.cons h1.1 (okS.tl hos))
    refine hrow ?_
    have e : (g a :: st).map (val adr fm) = op (Int32.ofInt a) :: st.map (val adr fm) := by
      show val adr fm (g a) :: _ = _
      rw [h1.2]
    rw [← e]; exact h2
  · cases hs
theorem o32 (x : Int32) : R32 x.toInt ∧ Int32.ofInt x.toInt = x := ⟨i32_R x, i32_o x⟩
theorem o64 (x : Int64) : R64 x.toInt ∧ Int64.ofInt x.toInt = x := ⟨i64_R x, i64_o x⟩
/-- constants -/
theorem st_const {v : Int} {ki : Instr} {len j : Nat} (C : Cx adr fm D cA A L xs p R s mid args c m d) (hd : decode (mBy m) pc = .ok (ki, len)) (hv : r32 v = true) (ha : agK (mCi m) ki v len j = true) (hk : G adr fm D cA A L xs p l e R s mid args below meth c cells slots Q m (pc + len, ls, vi v :: st, w)) : G adr fm D cA A L xs p l e R s mid args below meth c cells slots Q m (pc, ls, st, w) := by
  obtain ⟨hx, hb, hml, hown, hts, hO, hK, hDs, hfm, hR1, hR2⟩ := C
  have hr : R32 v := by simpa [r32, R32] using hv
  intro H locs lsM hP hw hsc hS hl hll hol hos
  have h2 := hk H locs lsM hP hw hsc hS hl hll hol (okS.cons hr hos)
  unfold agK at ha
  split at ha
  · simp only [Bool.and_eq_true, decide_eq_true_eq] at ha
    obtain ⟨rfl, rfl⟩ := ha
    exact lv_iconst hx hb hd rfl h2
  · next n =>
    simp only [Bool.and_eq_true, decide_eq_true_eq] at ha
    obtain ⟨⟨⟨rfl, rfl⟩, h3⟩, h4⟩ := ha
    refine lv_bipush hx hb hd ?_ h2
    rw [← Int32.toInt_inj, Int8.toInt_toInt32, i32_t hr, Int8.toInt_ofInt]
    show Int.bmod n 256 = n
    simp only [Int.bmod_def]
    omega
  · next n =>
    simp only [Bool.and_eq_true, decide_eq_true_eq] at ha
    obtain ⟨⟨⟨rfl, rfl⟩, h3⟩, h4⟩ := ha
    refine lv_sipush hx hb hd ?_ h2
    rw [← Int32.toInt_inj, Int16.toInt_toInt32, i32_t hr, Int16.toInt_ofInt]
    show Int.bmod n 65536 = n
    simp only [Int.bmod_def]
    omega
  · simp only [Bool.and_eq_true, decide_eq_true_eq] at ha
    obtain ⟨rfl, h3⟩ := ha
    exact lv_ldc hx hb hown (hts _ (TBg_of ok_KW _ (List.mem_map.mpr ⟨_, List.mem_of_getElem? h3, rfl⟩))) hd h2
  · simp only [Bool.and_eq_true, decide_eq_true_eq] at ha
    obtain ⟨rfl, h3⟩ := ha
    exact lv_ldcw hx hb hown (hts _ (TBg_of ok_KW _ (List.mem_map.mpr ⟨_, List.mem_of_getElem? h3, rfl⟩))) hd h2
  · cases ha
theorem st_constL {v : Int} {ki : Instr} {len j : Nat} (C : Cx adr fm D cA A L xs p R s mid args c m d) (hd : decode (mBy m) pc = .ok (ki, len)) (hv : r64 v = true) (ha : agL (mCi m) ki v len j = true) (hk : G adr fm D cA A L xs p l e R s mid args below meth c cells slots Q m (pc + len, ls, vl v :: st, w)) : G adr fm D cA A L xs p l e R s mid args below meth c cells slots Q m (pc, ls, st, w) := by
  obtain ⟨hx, hb, hml, hown, hts, hO, hK, hDs, hfm, hR1, hR2⟩ := C
  have hr : R64 v := by simpa [r64, R64] using hv
  intro H locs lsM hP hw hsc hS hl hll hol hos
  have h2 := hk H locs lsM hP hw hsc hS hl hll hol (okS.cons hr hos)
  unfold agL at ha
  split at ha
  · simp only [Bool.and_eq_true, decide_eq_true_eq] at ha
    obtain ⟨rfl, rfl⟩ := ha
    exact lv_lconst hx hb hd rfl h2
  · simp only [Bool.and_eq_true, decide_eq_true_eq] at ha
    obtain ⟨rfl, h3⟩ := ha
    exact lv_ldc2 hx hb hown (hts _ (TBg_of ok_KL _ (List.mem_map.mpr ⟨_, List.mem_of_getElem? h3, rfl⟩))) hd h2
  · cases ha
theorem st_constS {k : Nat} {ki : Instr} {len j : Nat} (C : Cx adr fm D cA A L xs p R s mid args c m d) (hd : decode (mBy m) pc = .ok (ki, len)) (ha : agS (mCi m) ki k len j = true) (hk : G adr fm D cA A L xs p l e R s mid args below meth c cells slots Q m (pc + len, ls, vr (1000 + k) :: st, w)) : G adr fm D cA A L xs p l e R s mid args below meth c cells slots Q m (pc, ls, st, w) := by
  obtain ⟨hx, hb, hml, hown, hts, hO, hK, hDs, hfm, hR1, hR2⟩ := C
  intro H locs lsM hP hw hsc hS hl hll hol hos
  have h2 := hk H locs lsM hP hw hsc hS hl hll hol (okS.cons trivial hos)
  unfold agS at ha
  split at ha
  · next i0 =>
    simp only [Bool.and_eq_true, decide_eq_true_eq] at ha
    obtain ⟨⟨rfl, h3⟩, h4⟩ := ha
    have hz : vk_R (cN (mCi m)) i0 (gStx.getD k "") (adr (1000 + k)) s := hO.2.1 (mCi m, i0, k) (List.mem_of_getElem? h4)
    refine va_ldcS hx hb hown hz hd ?_
    have e : rvl adr fm (1000 + k) = .ref (adr (1000 + k)) := by unfold rvl; rw [if_neg (by omega)]
    rw [← e]; exact h2
  · cases ha
/-- locals -/
theorem st_iload {i : Nat} {ki : Instr} {len : Nat} (C : Cx adr fm D cA A L xs p R s mid args c m d) (hd : decode (mBy m) pc = .ok (ki, len)) (ha : ag1 ki .iload .iload_n i len = true) {x : Int} (hi : ls[i]? = some (some (vi x))) (hk : G adr fm D cA A L xs p l e R s mid args below meth c cells slots Q m (pc + len, ls, vi x :: st, w)) : G adr fm D cA A L xs p l e R s mid args below meth c cells slots Q m (pc, ls, st, w) := by
  obtain ⟨hx, hb, hml, hown, hts, hO, hK, hDs, hfm, hR1, hR2⟩ := C
  intro H locs lsM hP hw hsc hS hl hll hol hos
  have h2 := hk H locs lsM hP hw hsc hS hl hll hol (okS.cons (hol _ (List.mem_of_getElem? hi)) hos)
  have h3 := lv_get hl hi (fun q => by cases q)
  rcases ag1_s ha with ⟨rfl, rfl⟩ | ⟨k, h4, rfl, rfl⟩
  · exact lv_iload hx hb hd h3 h2
  · exact lv_iload_n hx hb hd h4 h3 h2
theorem st_lload {i : Nat} {ki : Instr} {len : Nat} (C : Cx adr fm D cA A L xs p R s mid args c m d) (hd : decode (mBy m) pc = .ok (ki, len)) (ha : ag1 ki .lload .lload_n i len = true) {x : Int} (hi : ls[i]? = some (some (vl x))) (hi2 : ls[i + 1]? = some none) (hk : G adr fm D cA A L xs p l e R s mid args below meth c cells slots Q m (pc + len, ls, vl x :: st, w)) : G adr fm D cA A L xs p l e R s mid args below meth c cells slots Q m (pc, ls, st, w) := by
  obtain ⟨hx, hb, hml, hown, hts, hO, hK, hDs, hfm, hR1, hR2⟩ := C
  intro H locs lsM hP hw hsc hS hl hll hol hos
  have h2 := hk H locs lsM hP hw hsc hS hl hll hol (okS.cons (hol _ (List.mem_of_getElem? hi)) hos)
  have h3 := lv_get hl hi (fun _ => hi2)
  rcases ag1_s ha with ⟨rfl, rfl⟩ | ⟨k, h4, rfl, rfl⟩
  · exact lv_lload hx hb hd h3 h2
  · exact lv_lload_n hx hb hd h4 h3 h2
theorem rvl_cases (hfm : okF fm) (k : Nat) : rvl adr fm k = .null ∨ ∃ t, rvl adr fm k = .ref t := by
  unfold rvl
  split
  · exact hfm
  · exact Or.inr ⟨_, rfl⟩
theorem st_aload {i : Nat} {ki : Instr} {len : Nat} (C : Cx adr fm D cA A L xs p R s mid args c m d) (hd : decode (mBy m) pc = .ok (ki, len)) (ha : ag1 ki .aload .aload_n i len = true) {x : Nat} (hi : ls[i]? = some (some (vr x))) (hk : G adr fm D cA A L xs p l e R s mid args below meth c cells slots Q m (pc + len, ls, vr x :: st, w)) : G adr fm D cA A L xs p l e R s mid args below meth c cells slots Q m (pc, ls, st, w) := by
  obtain ⟨hx, hb, hml, hown, hts, hO, hK, hDs, hfm, hR1, hR2⟩ := C
  intro H locs lsM hP hw hsc hS hl hll hol hos
  have h2 := hk H locs lsM hP hw hsc hS hl hll hol (okS.cons trivial hos)
  have h3 := lv_get hl hi (fun q => by cases q)
  have h2' : W p l e R s mid args below meth c H locs cells slots Q (F0 mid (pc + len) lsM (rvl adr fm x :: st.map (val adr fm))) := h2
  have h3' : lsM[i]? = some (.val (rvl adr fm x)) := h3
  rcases rvl_cases (adr := adr) hfm x with q | ⟨t, q⟩
  · rw [q] at h2' h3'
    rcases ag1_s ha with ⟨rfl, rfl⟩ | ⟨k, h4, rfl, rfl⟩
    · exact lv_aloadN hx hb hd h3' h2'
    · exact lv_aload_nN hx hb hd h4 h3' h2'
  · rw [q] at h2' h3'
    rcases ag1_s ha with ⟨rfl, rfl⟩ | ⟨k, h4, rfl, rfl⟩
    · exact lv_aload hx hb hd h3' h2'
    · exact lv_aload_n hx hb hd h4 h3' h2'
theorem st_istore {i : Nat} {ki : Instr} {len : Nat} (C : Cx adr fm D cA A L xs p R s mid args c m d) (hd : decode (mBy m) pc = .ok (ki, len)) (ha : ag1 ki .istore .istore_n i len = true) {x : Int} (hi : i < ls.length) (hk : G adr fm D cA A L xs p l e R s mid args below meth c cells slots Q m (pc + len, sto1 ls i (vi x), st, w)) : G adr fm D cA A L xs p l e R s mid args below meth c cells slots Q m (pc, ls, vi x :: st, w) := by
  obtain ⟨hx, hb, hml, hown, hts, hO, hK, hDs, hfm, hR1, hR2⟩ := C
  intro H locs lsM hP hw hsc hS hl hll hol hos
  have hll' : ls.length = mLc m := hll
  have hk' := fun lsM' (h : lv_has lsM' (mLc m) ((i, Value.int (Int32.ofInt x)) :: (toL adr fm 0 ls).filter (fun q => !(q.1 == i) && !(q.1 + 1 == i && q.2.category == 2)))) => hk H locs lsM' hP hw hsc hS (lv_st1 (v := vi x) hfm h) ((sto1_len ls i (vi x)).trans hll') (okL_st1 hol (okS.hd hos)) (okS.tl hos)
  rcases ag1_s ha with ⟨rfl, rfl⟩ | ⟨k, h4, rfl, rfl⟩
  · exact lv_istore hx hb hd hl (by rw [← hll']; exact hi) rfl hk'
  · exact lv_istore_n hx hb hd h4 hl (by rw [← hll']; exact hi) rfl hk'
theorem st_lstore {i : Nat} {ki : Instr} {len : Nat} (C : Cx adr fm D cA A L xs p R s mid args c m d) (hd : decode (mBy m) pc = .ok (ki, len)) (ha : ag1 ki .lstore .lstore_n i len = true) {x : Int} (hi : i + 1 < ls.length) (hk : G adr fm D cA A L xs p l e R s mid args below meth c cells slots Q m (pc + len, sto2 ls i (vl x), st, w)) : G adr fm D cA A L xs p l e R s mid args below meth c cells slots Q m (pc, ls, vl x :: st, w) := by
  obtain ⟨hx, hb, hml, hown, hts, hO, hK, hDs, hfm, hR1, hR2⟩ := C
  intro H locs lsM hP hw hsc hS hl hll hol hos
  have hll' : ls.length = mLc m := hll
  have hk' := fun lsM' (h : lv_has lsM' (mLc m) ((i, Value.long (Int64.ofInt x)) :: (toL adr fm 0 ls).filter (fun q => !(q.1 == i) && (!(q.1 == i + 1) && !(q.1 + 1 == i && q.2.category == 2))))) => hk H locs lsM' hP hw hsc hS (lv_st2 (v := vl x) hfm h) ((sto2_len ls i (vl x)).trans hll') (okL_st2 hol (okS.hd hos)) (okS.tl hos)
  rcases ag1_s ha with ⟨rfl, rfl⟩ | ⟨k, h4, rfl, rfl⟩
  · exact lv_lstore hx hb hd hl (by rw [← hll']; exact hi) rfl hk'
  · exact lv_lstore_n hx hb hd h4 hl (by rw [← hll']; exact hi) rfl hk'
theorem st_astore {i : Nat} {ki : Instr} {len : Nat} (C : Cx adr fm D cA A L xs p R s mid args c m d) (hd : decode (mBy m) pc = .ok (ki, len)) (ha : ag1 ki .astore .astore_n i len = true) {x : Nat} (hi : i < ls.length) (hk : G adr fm D cA A L xs p l e R s mid args below meth c cells slots Q m (pc + len, sto1 ls i (vr x), st, w)) : G adr fm D cA A L xs p l e R s mid args below meth c cells slots Q m (pc, ls, vr x :: st, w) := by
  obtain ⟨hx, hb, hml, hown, hts, hO, hK, hDs, hfm, hR1, hR2⟩ := C
  intro H locs lsM hP hw hsc hS hl hll hol hos
  have hll' : ls.length = mLc m := hll
  have hk' := fun lsM' (h : lv_has lsM' (mLc m) ((i, rvl adr fm x) :: (toL adr fm 0 ls).filter (fun q => !(q.1 == i) && !(q.1 + 1 == i && q.2.category == 2)))) => hk H locs lsM' hP hw hsc hS (lv_st1 (v := vr x) hfm h) ((sto1_len ls i (vr x)).trans hll') (okL_st1 hol (okS.hd hos)) (okS.tl hos)
  show W p l e R s mid args below meth c H locs cells slots Q (F0 mid pc lsM (rvl adr fm x :: st.map (val adr fm)))
  rcases rvl_cases (adr := adr) hfm x with q | ⟨t, q⟩
  · rw [q] at hk' ⊢
    rcases ag1_s ha with ⟨rfl, rfl⟩ | ⟨k, h4, rfl, rfl⟩
    · exact lv_astoreN hx hb hd hl (by rw [← hll']; exact hi) rfl hk'
    · exact lv_astore_nN hx hb hd h4 hl (by rw [← hll']; exact hi) rfl hk'
  · rw [q] at hk' ⊢
    rcases ag1_s ha with ⟨rfl, rfl⟩ | ⟨k, h4, rfl, rfl⟩
    · exact lv_astore hx hb hd hl (by rw [← hll']; exact hi) rfl hk'
    · exact lv_astore_n hx hb hd h4 hl (by rw [← hll']; exact hi) rfl hk'
theorem st_iinc {i : Nat} {n : Int} (C : Cx adr fm D cA A L xs p R s mid args c m d) (hd : decode (mBy m) pc = .ok (.iinc i n, 3)) {x : Int} (hi : ls[i]? = some (some (vi x))) (hk : G adr fm D cA A L xs p l e R s mid args below meth c cells slots Q m (pc + 3, sto1 ls i (vi (w32 (x + n))), st, w)) : G adr fm D cA A L xs p l e R s mid args below meth c cells slots Q m (pc, ls, st, w) := by
  obtain ⟨hx, hb, hml, hown, hts, hO, hK, hDs, hfm, hR1, hR2⟩ := C
  intro H locs lsM hP hw hsc hS hl hll hol hos
  have hll' : ls.length = mLc m := hll
  have hil : i < ls.length := (List.getElem?_eq_some_iff.mp hi).1
  have hm : (i, Value.int (Int32.ofInt x)) ∈ toL adr fm 0 ls := (toL_mem ls 0).mpr ⟨i, vi x, hi, (fun q => by cases q), by simp [val]⟩
  obtain ⟨k, hk0⟩ := List.getElem?_of_mem hm
  refine lv_iinc hx hb hd hl hk0 (v := Int32.ofInt (w32 (x + n))) (by rw [i32_add]) (by rw [← hll']; exact hil) rfl fun lsM' h => ?_
  exact hk H locs lsM' hP hw hsc hS (lv_st1 (v := vi (w32 (x + n))) hfm h) ((sto1_len ls i _).trans hll') (okL_st1 hol (w32_R _)) hos
end Stp1
