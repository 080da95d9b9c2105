/-! Numbers and locals of the smaller machine beside the machine's own. -/
def R32 (x : Int) : Prop := -2147483648 ≤ x ∧ x < 2147483648
def R64 (x : Int) : Prop := -9223372036854775808 ≤ x ∧ x < 9223372036854775808
theorem w32_R (x : Int) : R32 (w32 x) := by unfold R32 w32; omega
theorem w64_R (x : Int) : R64 (w64 x) := by unfold R64 w64; omega
theorem i32_w (x : Int) : Int32.ofInt (w32 x) = Int32.ofInt x := by
  rw [← Int32.toInt_inj, Int32.toInt_ofInt, Int32.toInt_ofInt]
  show Int.bmod (w32 x) 4294967296 = Int.bmod x 4294967296
  unfold w32
  simp only [Int.bmod_def]
  omega
theorem i64_w (x : Int) : Int64.ofInt (w64 x) = Int64.ofInt x := by
  rw [← Int64.toInt_inj, Int64.toInt_ofInt, Int64.toInt_ofInt]
  show Int.bmod (w64 x) 18446744073709551616 = Int.bmod x 18446744073709551616
  unfold w64
  simp only [Int.bmod_def]
  omega
theorem i32_t {x : Int} (h : R32 x) : (Int32.ofInt x).toInt = x := by
  rw [Int32.toInt_ofInt]
  obtain ⟨h1, h2⟩ := h
  show Int.bmod x 4294967296 = x
  simp only [Int.bmod_def]
  omega
theorem i64_t {x : Int} (h : R64 x) : (Int64.ofInt x).toInt = x := by
  rw [Int64.toInt_ofInt]
  obtain ⟨h1, h2⟩ := h
  show Int.bmod x 18446744073709551616 = x
  simp only [Int.bmod_def]
  omega
theorem i32_R (x : Int32) : R32 x.toInt := ⟨Int32.le_toInt x, Int32.toInt_lt x⟩
theorem i64_R (x : Int64) : R64 x.toInt := ⟨Int64.le_toInt x, Int64.toInt_lt x⟩
theorem i32_o (x : Int32) : Int32.ofInt x.toInt = x := Int32.ofInt_toInt x
theorem i64_o (x : Int64) : Int64.ofInt x.toInt = x := Int64.ofInt_toInt x
theorem i32_add (a b : Int) : Int32.ofInt (w32 (a + b)) = Int32.ofInt a + Int32.ofInt b := by rw [i32_w, Int32.ofInt_add]
theorem i32_sub (a b : Int) : Int32.ofInt (w32 (a - b)) = Int32.ofInt a - Int32.ofInt b := by rw [i32_w, Int32.ofInt_sub]
theorem i32_mul (a b : Int) : Int32.ofInt (w32 (a * b)) = Int32.ofInt a * Int32.ofInt b := by rw [i32_w, Int32.ofInt_mul]
theorem i32_neg (a : Int) : Int32.ofInt (w32 (-a)) = -Int32.ofInt a := by rw [i32_w, Int32.ofInt_neg]
theorem i64_add (a b : Int) : Int64.ofInt (w64 (a + b)) = Int64.ofInt a + Int64.ofInt b := by rw [i64_w, Int64.ofInt_add]
theorem i64_sub (a b : Int) : Int64.ofInt (w64 (a - b)) = Int64.ofInt a - Int64.ofInt b := by rw [i64_w, Int64.ofInt_sub]
theorem i64_mul (a b : Int) : Int64.ofInt (w64 (a * b)) = Int64.ofInt a * Int64.ofInt b := by rw [i64_w, Int64.ofInt_mul]
theorem i32_lt {a b : Int} (ha : R32 a) (hb : R32 b) : Int32.ofInt a < Int32.ofInt b ↔ a < b := by rw [Int32.lt_iff_toInt_lt, i32_t ha, i32_t hb]
theorem i32_le {a b : Int} (ha : R32 a) (hb : R32 b) : Int32.ofInt a ≤ Int32.ofInt b ↔ a ≤ b := by rw [Int32.le_iff_toInt_le, i32_t ha, i32_t hb]
theorem i32_eq {a b : Int} (ha : R32 a) (hb : R32 b) : Int32.ofInt a = Int32.ofInt b ↔ a = b := by rw [← Int32.toInt_inj, i32_t ha, i32_t hb]
theorem i64_lt {a b : Int} (ha : R64 a) (hb : R64 b) : Int64.ofInt a < Int64.ofInt b ↔ a < b := by rw [Int64.lt_iff_toInt_lt, i64_t ha, i64_t hb]
theorem i64_eq {a b : Int} (ha : R64 a) (hb : R64 b) : Int64.ofInt a = Int64.ofInt b ↔ a = b := by rw [← Int64.toInt_inj, i64_t ha, i64_t hb]
theorem R32_64 {a : Int} (h : R32 a) : R64 a := by unfold R32 at h; unfold R64; omega
theorem i2l_ok {a : Int} (h : R32 a) : (Int32.ofInt a).toInt64 = Int64.ofInt a := by
  rw [← Int64.toInt_inj, Int32.toInt_toInt64, i32_t h, i64_t (R32_64 h)]
theorem l2i_ok {a : Int} (h : R64 a) : (Int64.ofInt a).toInt32 = Int32.ofInt (w32 a) := by
  rw [← Int32.toInt_inj, Int64.toInt_toInt32, i64_t h, i32_t (w32_R a)]
  show Int.bmod a 4294967296 = w32 a
  unfold w32
  simp only [Int.bmod_def]
  omega
theorem R32_0 : R32 0 := by unfold R32; omega
theorem R32_1 : R32 1 := by unfold R32; omega
theorem kcmp_R (a b : Int) : R32 (kcmp a b) := by unfold kcmp R32; split <;> (try split) <;> omega
theorem kcmp_ok {a b : Int} (ha : R64 a) (hb : R64 b) : lg_cmp (Int64.ofInt a) (Int64.ofInt b) = Int32.ofInt (kcmp a b) := by
  unfold lg_cmp kcmp
  simp only [i64_lt hb ha, i64_eq ha hb]
  split
  · rfl
  · split <;> rfl
theorem in_ok {i : Int} (h : R32 i) {n : Nat} (h0 : 0 ≤ i) (h1 : i < (n : Int)) : vp_in (Int32.ofInt i) n := vp_in_iff.mpr (by rw [i32_t h]; exact ⟨h0, h1⟩)
theorem cl_ok {i : Int} (h : R32 i) : (Int32.ofInt i).toNatClampNeg = i.toNat := by rw [← Int32.toNat_toInt, i32_t h]
def okV : aV → Prop
  | .inl x => R32 x
  | .inr (.inl x) => R64 x
  | .inr (.inr _) => True
def okS (st : List aV) : Prop := ∀ v ∈ st, okV v
def okL (ls : List (Option aV)) : Prop := ∀ v, some v ∈ ls → okV v
theorem okS.nil : okS [] := fun _ h => absurd h List.not_mem_nil
theorem okS.cons {v : aV} {st : List aV} (h : okV v) (hs : okS st) : okS (v :: st) := fun u hu => (List.mem_cons.mp hu).elim (fun e => e ▸ h) (hs u)
theorem okS.hd {v : aV} {st : List aV} (h : okS (v :: st)) : okV v := h v List.mem_cons_self
theorem okS.tl {v : aV} {st : List aV} (h : okS (v :: st)) : okS st := fun u hu => h u (List.mem_cons_of_mem _ hu)
def rvl (adr : Nat → Nat) (fm : Value) (k : Nat) : Value := if k = 1200 then fm else .ref (adr k)
def val (adr : Nat → Nat) (fm : Value) : aV → Value
  | .inl x => .int (Int32.ofInt x)
  | .inr (.inl x) => .long (Int64.ofInt x)
  | .inr (.inr k) => rvl adr fm k
def okF (fm : Value) : Prop := fm = .null ∨ ∃ t, fm = .ref t
theorem rvl_c {adr : Nat → Nat} {fm : Value} (h : okF fm) (k : Nat) : (rvl adr fm k).category = 1 := by
  unfold rvl
  rcases h with h | ⟨t, h⟩ <;> subst h <;> split <;> rfl
theorem val_c {adr : Nat → Nat} {fm : Value} (h : okF fm) (v : aV) : (val adr fm v).category = vwt v := by
  rcases v with x | x | k
  · rfl
  · rfl
  · exact rvl_c h k
theorem vwt_1 {v : aV} (h : ¬ vknd v = 1) : vwt v = 1 := by unfold vwt; rw [if_neg h]
theorem vwt_2 {v : aV} (h : vknd v = 1) : vwt v = 2 := by unfold vwt; rw [if_pos h]
def toL (adr : Nat → Nat) (fm : Value) : Nat → List (Option aV) → List (Nat × Value)
  | _, [] => []
  | n, none :: l => toL adr fm (n + 1) l
  | n, some v :: l => if vknd v = 1 ∧ l[0]? ≠ some none then toL adr fm (n + 1) l else (n, val adr fm v) :: toL adr fm (n + 1) l
theorem toL_mem {adr : Nat → Nat} {fm : Value} {q : Nat × Value} : ∀ (l : List (Option aV)) (n : Nat), q ∈ toL adr fm n l ↔ ∃ j v, l[j]? = some (some v) ∧ (vknd v = 1 → l[j + 1]? = some none) ∧ q = (n + j, val adr fm v) := by
  intro l
  induction l with
  | nil => intro n; simp [toL]
  | cons o l ih =>
    intro n
    have key : (∃ j v, (o :: l)[j]? = some (some v) ∧ (vknd v = 1 → (o :: l)[j + 1]? = some none) ∧ q = (n + j, val adr fm v)) ↔ (∃ v, o = some v ∧ (vknd v = 1 → l[0]? = some none) ∧ q = (n, val adr fm v)) ∨ ∃ j v, l[j]? = some (some v) ∧ (vknd v = 1 → l[j + 1]? = some none) ∧ q = (n + 1 + j, val adr fm v) := by
      constructor
      · rintro ⟨j, v, h1, h3, h2⟩
        cases j with
        | zero => left; exact ⟨v, by simpa using h1, fun z => by simpa using h3 z, by simpa using h2⟩
        | succ j => right; exact ⟨j, v, by simpa using h1, fun z => by simpa using h3 z, by rw [h2]; congr 1; omega⟩
      · rintro (⟨v, h1, h3, h2⟩ | ⟨j, v, h1, h3, h2⟩)
        · exact ⟨0, v, by simp [h1], fun z => by simpa using h3 z, by simpa using h2⟩
        · exact ⟨j + 1, v, by simpa using h1, fun z => by simpa using h3 z, by rw [h2]; congr 1; omega⟩
    rw [key]
    cases o with
    | none => rw [toL, ih (n + 1)]; simp
    | some v =>
      rw [toL]
      by_cases h : vknd v = 1 ∧ l[0]? ≠ some none
      · rw [if_pos h, ih (n + 1)]
        constructor
        · intro z; exact Or.inr z
        · rintro (⟨u, h1, h3, h2⟩ | z)
          · cases h1; exact absurd (h3 h.1) h.2
          · exact z
      · rw [if_neg h, List.mem_cons, ih (n + 1)]
        constructor
        · rintro (z | z)
          · exact Or.inl ⟨v, rfl, fun q => Classical.byContradiction fun q2 => h ⟨q, q2⟩, z⟩
          · exact Or.inr z
        · rintro (⟨u, h1, h3, h2⟩ | z)
          · cases h1; exact Or.inl h2
          · exact Or.inr z
theorem lv_get {adr : Nat → Nat} {fm : Value} {lsM : Array Slot} {nL j : Nat} {ls : List (Option aV)} {v : aV} (h : lv_has lsM nL (toL adr fm 0 ls)) (hj : ls[j]? = some (some v)) (hv : vknd v = 1 → ls[j + 1]? = some none) : lsM[j]? = some (.val (val adr fm v)) := by
  have := h.2.2 (0 + j, val adr fm v) ((toL_mem ls 0).mpr ⟨j, v, hj, hv, rfl⟩)
  simpa using this
theorem lv_less {lsM : Array Slot} {nL : Nat} {l l' : List (Nat × Value)} (h : lv_has lsM nL l) (hs : ∀ q ∈ l', q ∈ l) : lv_has lsM nL l' := ⟨h.1, h.2.1, fun q hq => h.2.2 q (hs q hq)⟩
theorem sto1_len (ls : List (Option aV)) (i : Nat) (v : aV) : (sto1 ls i v).length = ls.length := by simp [sto1]
theorem sto2_len (ls : List (Option aV)) (i : Nat) (v : aV) : (sto2 ls i v).length = ls.length := by simp [sto2]
theorem set_at {ls : List (Option aV)} {i j : Nat} {o u : Option aV} (h : (ls.set i o)[j]? = some u) : (j = i ∧ u = o) ∨ (j ≠ i ∧ ls[j]? = some u) := by
  by_cases e : j = i
  · subst e
    have hl : j < ls.length := by
      have := (List.getElem?_eq_some_iff.mp h).1
      simpa using this
    rw [List.getElem?_set_self hl] at h
    left; exact ⟨rfl, (Option.some.inj h).symm⟩
  · rw [List.getElem?_set_ne (fun q => e q.symm)] at h
    right; exact ⟨e, h⟩
theorem cat_no {i j : Nat} {u : aV} (h : j ≠ i) (h3 : ¬ (j + 1 = i ∧ vknd u = 1)) : (!(j == i) && !(j + 1 == i && vwt u == 2)) = true := by
  by_cases a : j + 1 = i
  · have b : ¬ vwt u = 2 := fun z => h3 ⟨a, by
      rcases Nat.decEq (vknd u) 1 with q | q
      · rw [vwt_1 q] at z; omega
      · exact q⟩
    simp [h, b]
  · simp [h, a]
theorem lv_st1 {adr : Nat → Nat} {fm : Value} (hf : okF fm) {lsM : Array Slot} {nL i : Nat} {ls : List (Option aV)} {v : aV} (h : lv_has lsM nL ((i, val adr fm v) :: (toL adr fm 0 ls).filter (fun q => !(q.1 == i) && !(q.1 + 1 == i && q.2.category == 2)))) : lv_has lsM nL (toL adr fm 0 (sto1 ls i v)) := by
  refine lv_less h fun q hq => ?_
  obtain ⟨j, u, h1, h3, rfl⟩ := (toL_mem _ 0).mp hq
  unfold sto1 at h1 h3
  rcases set_at h1 with ⟨rfl, e⟩ | ⟨e, h2⟩
  · cases e; rw [show 0 + j = j by omega]; exact List.mem_cons_self
  · have hn : ¬ (j + 1 = i ∧ vknd u = 1) := fun z => by
      rcases set_at (h3 z.2) with ⟨_, q⟩ | ⟨q, _⟩
      · cases q
      · exact q z.1
    have hc : vknd u = 1 → ls[j + 1]? = some none := fun z => by
      rcases set_at (h3 z) with ⟨_, q⟩ | ⟨_, q⟩
      · cases q
      · exact q
    refine List.mem_cons_of_mem _ (List.mem_filter.mpr ⟨(toL_mem _ 0).mpr ⟨j, u, h2, hc, rfl⟩, ?_⟩)
    rw [val_c hf]
    simp only [Nat.zero_add]
    exact cat_no e hn
theorem lv_st2 {adr : Nat → Nat} {fm : Value} (hf : okF fm) {lsM : Array Slot} {nL i : Nat} {ls : List (Option aV)} {v : aV} (h : lv_has lsM nL ((i, val adr fm v) :: (toL adr fm 0 ls).filter (fun q => !(q.1 == i) && (!(q.1 == i + 1) && !(q.1 + 1 == i && q.2.category == 2))))) : lv_has lsM nL (toL adr fm 0 (sto2 ls i v)) := by
  refine lv_less h fun q hq => ?_
  obtain ⟨j, u, h1, h3, rfl⟩ := (toL_mem _ 0).mp hq
  unfold sto2 at h1 h3
  rcases set_at h1 with ⟨_, e⟩ | ⟨e2, h2⟩
  · cases e
  rcases set_at h2 with ⟨rfl, e⟩ | ⟨e, h2⟩
  · cases e; rw [show 0 + j = j by omega]; exact List.mem_cons_self
  · have hc : vknd u = 1 → j + 1 ≠ i ∧ ls[j + 1]? = some none := fun z => by
      rcases set_at (h3 z) with ⟨q, _⟩ | ⟨_, q⟩
      · omega
      · rcases set_at q with ⟨_, q⟩ | ⟨q1, q2⟩
        · cases q
        · exact ⟨q1, q2⟩
    refine List.mem_cons_of_mem _ (List.mem_filter.mpr ⟨(toL_mem _ 0).mpr ⟨j, u, h2, fun z => (hc z).2, rfl⟩, ?_⟩)
    rw [val_c hf]
    simp only [Nat.zero_add]
    have := cat_no (i := i) (u := u) e (fun z => (hc z.2).1 z.1)
    rw [Bool.and_eq_true] at this ⊢
    exact ⟨this.1, by rw [Bool.and_eq_true]; exact ⟨by simp [e2], this.2⟩⟩
theorem okL_st1 {ls : List (Option aV)} {i : Nat} {v : aV} (h : okL ls) (hv : okV v) : okL (sto1 ls i v) := by
  intro u hu
  obtain ⟨j, hj⟩ := List.getElem?_of_mem hu
  rcases set_at hj with ⟨-, e⟩ | ⟨-, h2⟩
  · cases e; exact hv
  · exact h u (List.mem_of_getElem? h2)
theorem okL_st2 {ls : List (Option aV)} {i : Nat} {v : aV} (h : okL ls) (hv : okV v) : okL (sto2 ls i v) := by
  intro u hu
  obtain ⟨j, hj⟩ := List.getElem?_of_mem hu
  rcases set_at hj with ⟨-, e⟩ | ⟨-, h2⟩
  · cases e
  · rcases set_at h2 with ⟨-, e⟩ | ⟨-, h3⟩
    · cases e; exact hv
    · exact h u (List.mem_of_getElem? h3)
/-- a method's first locals -/
theorem ent_args {adr : Nat → Nat} {fm : Value} (hf : okF fm) : ∀ (as : List aV) (n k : Nat), toL adr fm n (entL as ++ List.replicate k none) = lv_args n (as.map (val adr fm)) := by
  intro as
  induction as with
  | nil =>
    intro n k
    show toL adr fm n (List.replicate k none) = []
    induction k generalizing n with
    | zero => rfl
    | succ k ih => rw [List.replicate_succ, toL]; exact ih (n + 1)
  | cons v as ih =>
    intro n k
    rw [List.map_cons, lv_args, val_c hf, entL]
    by_cases h : vknd v = 1
    · rw [if_pos h, vwt_2 h, if_pos rfl]
      show toL adr fm n (some v :: none :: (entL as ++ List.replicate k none)) = _
      rw [toL, if_neg (by simp), toL, ih]
    · rw [if_neg h, vwt_1 h, if_neg (by decide)]
      show toL adr fm n (some v :: (entL as ++ List.replicate k none)) = _
      rw [toL, if_neg (fun z => h z.1), ih]
theorem ent_sl {adr : Nat → Nat} {fm : Value} (hf : okF fm) (as : List aV) : (lg_sl (as.map (val adr fm))).length = (entL as).length := by
  induction as with
  | nil => rfl
  | cons v as ih =>
    rw [List.map_cons]
    show (((if (val adr fm v).category = 2 then [Slot.val (val adr fm v), .second] else [.val (val adr fm v)]) ++ lg_sl (as.map (val adr fm)))).length = _
    rw [val_c hf, entL, List.length_append, ih]
    by_cases h : vknd v = 1
    · rw [if_pos h, vwt_2 h, if_pos rfl]; simp; omega
    · rw [if_neg h, vwt_1 h, if_neg (by decide)]; simp; omega
theorem entL_len : ∀ (as : List aV), (entL as).length = (as.map vwt).sum := by
  intro as
  induction as with
  | nil => rfl
  | cons v as ih =>
    rw [entL, List.map_cons, List.sum_cons]
    by_cases h : vknd v = 1
    · rw [if_pos h, vwt_2 h]; simp [ih]; omega
    · rw [if_neg h, vwt_1 h]; simp [ih]; omega
theorem popA_ok : ∀ (ks : List Nat) (st acc as rest : List aV), popA ks st acc = some (as, rest) → ∃ bs, as = bs.reverse ++ acc ∧ st = bs ++ rest ∧ bs.map vknd = ks := by
  intro ks
  induction ks with
  | nil => intro st acc as rest h; simp only [popA, Option.some.injEq, Prod.mk.injEq] at h; exact ⟨[], by simp [h.1], by simp [h.2], rfl⟩
  | cons k ks ih =>
    intro st acc as rest h
    cases st with
    | nil => simp [popA] at h
    | cons v st =>
      rw [popA] at h
      split at h
      · next hk =>
        obtain ⟨bs, h1, h2, h3⟩ := ih _ _ _ _ h
        exact ⟨v :: bs, by simp [h1], by simp [h2], by simp [hk, h3]⟩
      · cases h
