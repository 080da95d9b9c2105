/-! One step: what is left; all of it together. -/
theorem set_C {adr : Nat → Nat} {cA : Nat → ClassId} {w : aW} {a b : Nat} {sp dp n : Int} (hb : b < 191) (h : (lay b).1 = 100 + 0) (h1 : 0 ≤ sp) (h2 : 0 ≤ dp) (h3 : 0 ≤ n) : (wsE adr cA w).set b (adr b, .inl (cA 0, (lay b).2, .inl (va_cpy (fun i => Int32.ofInt (w a (i : Int))) (fun i => Int32.ofInt (w b (i : Int))) sp.toNat dp.toNat n.toNat))) = wsE adr cA (fun c i => if c = b ∧ dp ≤ i ∧ i < dp + n then w a (sp + (i - dp)) else w c i) := by
  refine wsE_set hb ?_ (fun j hj i => by rw [if_neg (fun q => hj q.1)])
  rw [celE_a h]
  unfold arrE
  rw [if_neg (by decide), if_pos (by decide)]
  congr 4
  funext j
  unfold va_cpy
  dsimp only
  by_cases q : dp.toNat ≤ j ∧ j < dp.toNat + n.toNat
  · rw [if_pos q, if_pos (show b = b ∧ dp ≤ (j : Int) ∧ (j : Int) < dp + n from ⟨rfl, by omega, by omega⟩)]
    congr 2
    omega
  · rw [if_neg q, if_neg (fun z : b = b ∧ dp ≤ (j : Int) ∧ (j : Int) < dp + n => q ⟨by omega, by omega⟩)]
theorem okW.cp {w : aW} {a b : Nat} {sp dp n : Int} (h : okW w) (ha : (lay a).1 = 100) (hb : (lay b).1 = 100) : okW (fun c i => if c = b ∧ dp ≤ i ∧ i < dp + n then w a (sp + (i - dp)) else w c i) := by
  intro k i
  dsimp only
  by_cases q : k = b ∧ dp ≤ i ∧ i < dp + n
  · rw [if_pos q]
    obtain ⟨rfl, -, -⟩ := q
    rw [isL_a (t := 0) hb]
    exact okW.i h (by rw [isL_a (t := 0) ha]; rfl)
  · rw [if_neg q]; exact h k i
theorem Scr.cp {L : Nat} {xs : Nat → Int32} {w : aW} {a b : Nat} {sp dp n : Int} (h : Scr L xs w) (hb : b < 191) : Scr L xs (fun c i => if c = b ∧ dp ≤ i ∧ i < dp + n then w a (sp + (i - dp)) else w c i) := by
  obtain ⟨h0, h1, h2⟩ := h
  have e : ∀ j : Int, (if (999 : Nat) = b ∧ dp ≤ j ∧ j < dp + n then w a (sp + (j - dp)) else w 999 j) = w 999 j := fun j => if_neg (fun q => by omega)
  exact ⟨h0, (e (-1)).trans h1, fun j hj => (e j).trans (h2 j hj)⟩
theorem wt_map {adr : Nat → Nat} {fm : Value} (h : okF fm) (st : List aV) : ((st.map (val adr fm)).map fun v => v.category).sum = (st.map vwt).sum := by
  rw [List.map_map]
  congr 1
  exact List.map_congr_left fun v _ => val_c h v
section Stp5
variable {adr : Nat → Nat} {fm : Value} {D : va_G} {cA : Nat → ClassId} {A : Nat → Prop} {L : Nat} {xs : Nat → Int32}
variable {p : Program} {l : Launch} {e : Env} {R : Room} {s : State} {mid : MethodId} {args : Array Value} {below : List Frame} {meth : Method} {c : Code} {cells slots : Nat} {Q : State → Prop} {m d pc : Nat}
variable {ls : List (Option aV)} {st : List aV} {w : aW} {X : aS}
theorem st_copy {ki : Instr} {len j a b : Nat} {sp dp n : Int} (C : Cx adr fm D cA A L xs p R s mid args c m d) (hd : decode (mBy m) pc = .ok (ki, len)) (hag : agC (mCi m) ki 0 len j = true) (hg : (lay a).1 = 100 ∧ (lay b).1 = 100 ∧ 0 ≤ sp ∧ 0 ≤ dp ∧ 0 ≤ n ∧ sp + n ≤ ((lay a).2 : Int) ∧ dp + n ≤ ((lay b).2 : Int) ∧ (st.map vwt).sum ≤ 8) (hk : G adr fm D cA A L xs p l e R s mid args below meth c cells slots Q m (pc + len, ls, st, fun c i => if c = b ∧ dp ≤ i ∧ i < dp + n then w a (sp + (i - dp)) else w c i)) : G adr fm D cA A L xs p l e R s mid args below meth c cells slots Q m (pc, ls, vi n :: vi dp :: vr b :: vi sp :: vr a :: st, w) := by
  obtain ⟨hx, hb, hml, hown, hts, hO, hK, hDs, hfm, hR1, hR2⟩ := C
  obtain ⟨g1, g2, g3, g4, g5, g6, g7, g8⟩ := hg
  have ha1 : a < 191 := lay_lt (by omega)
  have hb1 : b < 191 := lay_lt (by omega)
  intro H locs lsM hP hw hsc hS hl hll hol hos
  have r1 : R32 n := okS.hd hos
  have r2 : R32 dp := okS.hd (okS.tl hos)
  have r3 : R32 sp := okS.hd (okS.tl (okS.tl (okS.tl hos)))
  have hos' : okS st := okS.tl (okS.tl (okS.tl (okS.tl (okS.tl hos))))
  cases ki with
  | invokestatic i =>
    simp only [agC, Bool.and_eq_true, decide_eq_true_eq, if_true] at hag
    obtain ⟨rfl, hj⟩ := hag
    have hlink := hts _ (TBg_of ok_AW _ (List.mem_map.mpr ⟨_, List.mem_of_getElem? hj, rfl⟩))
    show W p l e R s mid args below meth c H locs cells slots Q (F0 mid pc lsM (.int (Int32.ofInt n) :: .int (Int32.ofInt dp) :: rvl adr fm b :: .int (Int32.ofInt sp) :: rvl adr fm a :: st.map (val adr fm)))
    rw [rvl_r (by omega), rvl_r (by omega)]
    have hneg : ∀ {z : Int}, R32 z → 0 ≤ z → ¬ Int32.ofInt z < 0 := fun hz h0 q => by
      have := (i32_lt hz R32_0).mp q; omega
    refine va_copyi hx hb (by rw [hml]; exact hl.1.symm) hown hlink (hts _ (TBg_of ok_MM _ (by simp))) (hts _ (TBg_of ok_MM _ (by simp))) (hts _ (TBg_of ok_MM _ (by simp))) hK hP hDs.D hS a b 0 0 (wsE_I ha1 g1 (by decide) (by decide)) (wsE_I hb1 g2 (by decide) (by decide)) (tysE_at (by decide)) (tysE_at (by decide)) rfl (hneg r3 g3) (hneg r2 g4) (hneg r1 g5) (by rw [cl_ok r3, cl_ok r1]; omega) (by rw [cl_ok r2, cl_ok r1]; omega) (fun _ _ => rfl) (by omega) ?_ hd fun H1 locs1 hP1 _ hS1 => ?_
    · rw [wt_map hfm]
      show _ + (nativeFrameWords "java/lang/System" "arraycopy" 5 + 11) ≤ _
      have : nativeFrameWords "java/lang/System" "arraycopy" 5 = 7 := by decide +kernel
      omega
    · rw [cl_ok r1, cl_ok r2, cl_ok r3, set_C hb1 g2 g3 g4 g5] at hP1
      exact hk H1 locs1 lsM hP1 (hw.cp g1 g2) (hsc.cp hb1) hS1 hl hll hol hos'
  | _ => simp [agC] at hag
theorem st_min {ki : Instr} {len j : Nat} {x y : Int} (C : Cx adr fm D cA A L xs p R s mid args c m d) (hd : decode (mBy m) pc = .ok (ki, len)) (hag : agC (mCi m) ki 1 len j = true) (hg : (st.map vwt).sum ≤ 8) (hcs : cells ≤ R.cells ∧ slots ≤ R.slots) (hk : G adr fm D cA A L xs p l e R s mid args below meth c cells slots Q m (pc + len, ls, vi (if y < x then y else x) :: st, w)) : G adr fm D cA A L xs p l e R s mid args below meth c cells slots Q m (pc, ls, vi y :: vi x :: st, w) := by
  obtain ⟨hx, hb, hml, hown, hts, hO, hK, hDs, hfm, hR1, hR2⟩ := C
  intro H locs lsM hP hw hsc hS hl hll hol hos
  have ry : R32 y := okS.hd hos
  have rx : R32 x := okS.hd (okS.tl hos)
  have h2 := hk H locs lsM hP hw hsc hS hl hll hol (okS.cons (show R32 (if y < x then y else x) by split <;> assumption) (okS.tl (okS.tl hos)))
  cases ki with
  | invokestatic i =>
    simp only [agC, Bool.and_eq_true, decide_eq_true_eq] at hag
    obtain ⟨rfl, hag⟩ := hag
    rw [if_neg (by decide)] at hag
    simp only [Bool.and_eq_true, decide_eq_true_eq] at hag
    have hlink := hts _ (TBg_of ok_BW _ (List.mem_map.mpr ⟨_, List.mem_of_getElem? hag.1, rfl⟩))
    refine va_mmin hx hb (by rw [hml]; exact hl.1.symm) hown hlink (hts _ (TBg_of ok_MM _ (by simp))) (hts _ (TBg_of ok_MM _ (by simp))) (hts _ (TBg_of ok_MM _ (by simp))) (by omega) (by rw [wt_map hfm]; omega) hcs.1 hcs.2 hd ?_
    have e2 : (if Int32.ofInt y < Int32.ofInt x then Int32.ofInt y else Int32.ofInt x) = Int32.ofInt (if y < x then y else x) := by
      by_cases q : y < x
      · rw [if_pos q, if_pos ((i32_lt ry rx).mpr q)]
      · rw [if_neg q, if_neg (fun z => q ((i32_lt ry rx).mp z))]
    rw [e2]; exact h2
  | _ => simp [agC] at hag
theorem st_max {ki : Instr} {len j : Nat} {x y : Int} (C : Cx adr fm D cA A L xs p R s mid args c m d) (hd : decode (mBy m) pc = .ok (ki, len)) (hag : agC (mCi m) ki 2 len j = true) (hg : (st.map vwt).sum ≤ 8) (hcs : cells ≤ R.cells ∧ slots ≤ R.slots) (hk : G adr fm D cA A L xs p l e R s mid args below meth c cells slots Q m (pc + len, ls, vi (if x < y then y else x) :: st, w)) : G adr fm D cA A L xs p l e R s mid args below meth c cells slots Q m (pc, ls, vi y :: vi x :: st, w) := by
  obtain ⟨hx, hb, hml, hown, hts, hO, hK, hDs, hfm, hR1, hR2⟩ := C
  intro H locs lsM hP hw hsc hS hl hll hol hos
  have ry : R32 y := okS.hd hos
  have rx : R32 x := okS.hd (okS.tl hos)
  have h2 := hk H locs lsM hP hw hsc hS hl hll hol (okS.cons (show R32 (if x < y then y else x) by split <;> assumption) (okS.tl (okS.tl hos)))
  cases ki with
  | invokestatic i =>
    simp only [agC, Bool.and_eq_true, decide_eq_true_eq] at hag
    obtain ⟨rfl, hag⟩ := hag
    rw [if_neg (by decide)] at hag
    simp only [Bool.and_eq_true, decide_eq_true_eq] at hag
    have hlink := hts _ (TBg_of ok_BW _ (List.mem_map.mpr ⟨_, List.mem_of_getElem? hag.1, rfl⟩))
    refine va_mmax hx hb (by rw [hml]; exact hl.1.symm) hown hlink (hts _ (TBg_of ok_MM _ (by simp))) (hts _ (TBg_of ok_MM _ (by simp))) (hts _ (TBg_of ok_MM _ (by simp))) (by omega) (by rw [wt_map hfm]; omega) hcs.1 hcs.2 hd ?_
    have e2 : (if Int32.ofInt x < Int32.ofInt y then Int32.ofInt y else Int32.ofInt x) = Int32.ofInt (if x < y then y else x) := by
      by_cases q : x < y
      · rw [if_pos q, if_pos ((i32_lt rx ry).mpr q)]
      · rw [if_neg q, if_neg (fun z => q ((i32_lt rx ry).mp z))]
    rw [e2]; exact h2
  | _ => simp [agC] at hag
theorem st_alen {k : Nat} (C : Cx adr fm D cA A L xs p R s mid args c m d) (hd : decode (mBy m) pc = .ok (.arraylength, 1)) (hs : sstep .arraylength (pc + 1) ls (vr k :: st) w = some X) (hk : G adr fm D cA A L xs p l e R s mid args below meth c cells slots Q m X) : G adr fm D cA A L xs p l e R s mid args below meth c cells slots Q m (pc, ls, vr k :: st, w) := by
  obtain ⟨hx, hb, hml, hown, hts, hO, hK, hDs, hfm, hR1, hR2⟩ := C
  simp only [sstep] at hs
  split at hs
  · next h999 =>
    subst h999
    cases hs
    intro H locs lsM hP hw hsc hS hl hll hol hos
    have h2 := hk H locs lsM hP hw hsc hS hl hll hol (okS.cons (okW.s hw) (okS.tl hos))
    show W p l e R s mid args below meth c H locs cells slots Q (F0 mid pc lsM (rvl adr fm 999 :: st.map (val adr fm)))
    rw [rvl_r (by decide)]
    refine va_slen hx hb hO.2.2.2.2.2.1 hO.2.2.2.2.2.2.1 hO.2.2.2.2.2.2.2 hS hd ?_
    have e2 : Int32.ofNat L = Int32.ofInt (w 999 (-1)) := by
      have : w 999 (-1) = (L : Int) := hsc.2.1
      rw [this]; rfl
    rw [e2]; exact h2
  · split at hs
    · split at hs
      · next h1 h3 =>
        cases hs
        intro H locs lsM hP hw hsc hS hl hll hol hos
        have hlen := gStr_l (k - 1100) (by omega)
        have h2 := hk H locs lsM hP hw hsc hS hl hll hol (okS.cons (show R32 _ by unfold R32; omega) (okS.tl hos))
        show W p l e R s mid args below meth c H locs cells slots Q (F0 mid pc lsM (rvl adr fm k :: st.map (val adr fm)))
        rw [rvl_r (by omega)]
        have hT := (hO.1 (k - 1100) (by omega)).2.2.2
        rw [show 1100 + (k - 1100) = k by omega] at hT
        exact va_tlen hx hb hT hS rfl hd h2
      · cases hs
    · split at hs
      · next h999 h1 h3 =>
        cases hs
        have hkl : k < 191 := lay_lt (by omega)
        have hcl := lay_cl k hkl
        intro H locs lsM hP hw hsc hS hl hll hol hos
        have h2 := hk H locs lsM hP hw hsc hS hl hll hol (okS.cons (show R32 _ by unfold R32; omega) (okS.tl hos))
        show W p l e R s mid args below meth c H locs cells slots Q (F0 mid pc lsM (rvl adr fm k :: st.map (val adr fm)))
        rw [rvl_r (by omega)]
        exact va_alen (x := ((lay k).2, arrE adr w k ((lay k).1 - 100))) hx hb hK hP k ((lay k).1 - 100) (by rw [wsE_at hkl, celE_a (t := (lay k).1 - 100) (by omega)]) (tysE_at (by omega)) rfl hd h2
      · cases hs
set_option maxHeartbeats 4000000 in
theorem sstep_snd {ki ci : Instr} {len j : Nat} (C : Cx adr fm D cA A L xs p R s mid args c m d) (hcs : cells ≤ R.cells ∧ slots ≤ R.slots) (hd : decode (mBy m) pc = .ok (ki, len)) (hag : agr (mCi m) pc ki ci len j = true) (hs : sstep ci (pc + len) ls st w = some X) (hk : G adr fm D cA A L xs p l e R s mid args below meth c cells slots Q m X) : G adr fm D cA A L xs p l e R s mid args below meth c cells slots Q m (pc, ls, st, w) := by
  unfold sstep at hs
  split at hs
  · cases hs
    simp only [agr, Bool.and_eq_true] at hag
    exact st_const C hd hag.1 hag.2 hk
  · cases hs
    simp only [agr, Bool.and_eq_true] at hag
    exact st_constL C hd hag.1 hag.2 hk
  · cases hs
    simp only [agr] at hag
    exact st_constS C hd hag hk
  · split at hs
    · next x hx =>
      cases hs
      simp only [agr] at hag
      exact st_iload C hd hag hx hk
    · cases hs
  · split at hs
    · next x hx hx2 =>
      cases hs
      simp only [agr] at hag
      exact st_lload C hd hag hx hx2 hk
    · cases hs
  · split at hs
    · next x hx =>
      cases hs
      simp only [agr] at hag
      exact st_aload C hd hag hx hk
    · cases hs
  · split at hs
    · split at hs
      · next hx =>
        cases hs
        simp only [agr] at hag
        exact st_istore C hd hag hx hk
      · cases hs
    · cases hs
  · split at hs
    · split at hs
      · next hx =>
        cases hs
        simp only [agr] at hag
        exact st_lstore C hd hag hx hk
      · cases hs
    · cases hs
  · split at hs
    · split at hs
      · next hx =>
        cases hs
        simp only [agr] at hag
        exact st_astore C hd hag hx hk
      · cases hs
    · cases hs
  · split at hs
    · next x hx =>
      cases hs
      simp only [agr, Bool.and_eq_true, decide_eq_true_eq] at hag
      obtain ⟨⟨rfl, rfl⟩, -⟩ := hag
      exact st_iinc C hd hx hk
    · cases hs
  · simp only [agr, Bool.and_eq_true, decide_eq_true_eq] at hag
    obtain ⟨rfl, rfl⟩ := hag
    exact st_bin1 (op := (· + ·)) (fun k => lv_iadd C.1 C.2.1 hd k) (fun a b _ _ => ⟨w32_R _, i32_add a b⟩) hs hk
  · simp only [agr, Bool.and_eq_true, decide_eq_true_eq] at hag
    obtain ⟨rfl, rfl⟩ := hag
    exact st_bin1 (op := (· - ·)) (fun k => lv_isub C.1 C.2.1 hd k) (fun a b _ _ => ⟨w32_R _, i32_sub a b⟩) hs hk
  · simp only [agr, Bool.and_eq_true, decide_eq_true_eq] at hag
    obtain ⟨rfl, rfl⟩ := hag
    exact st_bin1 (op := (· * ·)) (fun k => lv_imul C.1 C.2.1 hd k) (fun a b _ _ => ⟨w32_R _, i32_mul a b⟩) hs hk
  · simp only [agr, Bool.and_eq_true, decide_eq_true_eq] at hag
    obtain ⟨rfl, rfl⟩ := hag
    exact st_bin1 (op := (· &&& ·)) (fun k => lv_iand C.1 C.2.1 hd k) (fun a b _ _ => o32 _) hs hk
  · simp only [agr, Bool.and_eq_true, decide_eq_true_eq] at hag
    obtain ⟨rfl, rfl⟩ := hag
    exact st_bin1 (op := (· ||| ·)) (fun k => lv_ior C.1 C.2.1 hd k) (fun a b _ _ => o32 _) hs hk
  · simp only [agr, Bool.and_eq_true, decide_eq_true_eq] at hag
    obtain ⟨rfl, rfl⟩ := hag
    exact st_bin1 (op := (· ^^^ ·)) (fun k => lv_ixor C.1 C.2.1 hd k) (fun a b _ _ => o32 _) hs hk
  · simp only [agr, Bool.and_eq_true, decide_eq_true_eq] at hag
    obtain ⟨rfl, rfl⟩ := hag
    exact st_bin1 (op := (fun x y => x <<< (y &&& 31))) (fun k => lv_ishl C.1 C.2.1 hd k) (fun a b _ _ => o32 _) hs hk
  · simp only [agr, Bool.and_eq_true, decide_eq_true_eq] at hag
    obtain ⟨rfl, rfl⟩ := hag
    exact st_bin1 (op := (fun x y => x >>> (y &&& 31))) (fun k => lv_ishr C.1 C.2.1 hd k) (fun a b _ _ => o32 _) hs hk
  · simp only [agr, Bool.and_eq_true, decide_eq_true_eq] at hag
    obtain ⟨rfl, rfl⟩ := hag
    exact st_bin1 (op := fun x y => (x.toUInt32 >>> (y.toUInt32 &&& Int32.toUInt32 31)).toInt32) (fun k => lv_iushr C.1 C.2.1 hd rfl k) (fun a b _ _ => o32 _) hs hk
  · simp only [agr, Bool.and_eq_true, decide_eq_true_eq] at hag
    obtain ⟨rfl, rfl⟩ := hag
    exact st_div1 (op := fun x y => x / y) (fun h k => lv_idiv C.1 C.2.1 hd h k) (fun a b => o32 _) hs hk
  · simp only [agr, Bool.and_eq_true, decide_eq_true_eq] at hag
    obtain ⟨rfl, rfl⟩ := hag
    exact st_div1 (op := fun x y => x - x / y * y) (fun h k => lv_irem C.1 C.2.1 hd h k) (fun a b => o32 _) hs hk
  · simp only [agr, Bool.and_eq_true, decide_eq_true_eq] at hag
    obtain ⟨rfl, rfl⟩ := hag
    exact st_un1 (g := fun a => vi (w32 (-a))) (op := fun x => .int (-x)) (fun k => lv_ineg C.1 C.2.1 hd k) (fun a _ => ⟨w32_R _, congrArg Value.int (i32_neg a)⟩) hs hk
  · simp only [agr, Bool.and_eq_true, decide_eq_true_eq] at hag
    obtain ⟨rfl, rfl⟩ := hag
    exact st_bin2 (op := (· + ·)) (fun k => lv_ladd C.1 C.2.1 hd k) (fun a b _ _ => ⟨w64_R _, i64_add a b⟩) hs hk
  · simp only [agr, Bool.and_eq_true, decide_eq_true_eq] at hag
    obtain ⟨rfl, rfl⟩ := hag
    exact st_bin2 (op := (· - ·)) (fun k => lv_lsub C.1 C.2.1 hd k) (fun a b _ _ => ⟨w64_R _, i64_sub a b⟩) hs hk
  · simp only [agr, Bool.and_eq_true, decide_eq_true_eq] at hag
    obtain ⟨rfl, rfl⟩ := hag
    exact st_bin2 (op := (· * ·)) (fun k => lv_lmul C.1 C.2.1 hd k) (fun a b _ _ => ⟨w64_R _, i64_mul a b⟩) hs hk
  · simp only [agr, Bool.and_eq_true, decide_eq_true_eq] at hag
    obtain ⟨rfl, rfl⟩ := hag
    exact st_bin2 (op := (· &&& ·)) (fun k => lv_land C.1 C.2.1 hd k) (fun a b _ _ => o64 _) hs hk
  · simp only [agr, Bool.and_eq_true, decide_eq_true_eq] at hag
    obtain ⟨rfl, rfl⟩ := hag
    exact st_bin2 (op := (· ||| ·)) (fun k => lv_lor C.1 C.2.1 hd k) (fun a b _ _ => o64 _) hs hk
  · simp only [agr, Bool.and_eq_true, decide_eq_true_eq] at hag
    obtain ⟨rfl, rfl⟩ := hag
    exact st_bin2 (op := (· ^^^ ·)) (fun k => lv_lxor C.1 C.2.1 hd k) (fun a b _ _ => o64 _) hs hk
  · simp only [agr, Bool.and_eq_true, decide_eq_true_eq] at hag
    obtain ⟨rfl, rfl⟩ := hag
    exact st_bin3 (op := fun x y => x <<< (y.toInt64 &&& 63)) (fun k => lv_lshl C.1 C.2.1 hd rfl k) (fun a b => o64 _) hs hk
  · simp only [agr, Bool.and_eq_true, decide_eq_true_eq] at hag
    obtain ⟨rfl, rfl⟩ := hag
    exact st_bin3 (op := fun x y => x >>> (y.toInt64 &&& 63)) (fun k => lv_lshr C.1 C.2.1 hd rfl k) (fun a b => o64 _) hs hk
  · simp only [agr, Bool.and_eq_true, decide_eq_true_eq] at hag
    obtain ⟨rfl, rfl⟩ := hag
    exact st_bin3 (op := fun x y => (x.toUInt64 >>> (y.toInt64.toUInt64 &&& Int64.toUInt64 63)).toInt64) (fun k => lv_lushr C.1 C.2.1 hd rfl k) (fun a b => o64 _) hs hk
  · simp only [agr, Bool.and_eq_true, decide_eq_true_eq] at hag
    obtain ⟨rfl, rfl⟩ := hag
    exact st_div2 (op := fun x y => x / y) (fun h k => lv_ldiv C.1 C.2.1 hd h k) (fun a b => o64 _) hs hk
  · simp only [agr, Bool.and_eq_true, decide_eq_true_eq] at hag
    obtain ⟨rfl, rfl⟩ := hag
    exact st_div2 (op := fun x y => x - x / y * y) (fun h k => lv_lrem C.1 C.2.1 hd h k) (fun a b => o64 _) hs hk
  · simp only [agr, Bool.and_eq_true, decide_eq_true_eq] at hag
    obtain ⟨rfl, rfl⟩ := hag
    split at hs
    · next b a st =>
      cases hs
      intro H locs lsM hP hw hsc hS hl hll hol hos
      have hrb : R64 b := okS.hd hos
      have hra : R64 a := okS.hd (okS.tl hos)
      have h2 := hk H locs lsM hP hw hsc hS hl hll hol (okS.cons (kcmp_R a b) (okS.tl (okS.tl hos)))
      refine W.lcmp C.1 C.2.1 hd ?_
      rw [kcmp_ok hra hrb]; exact h2
    · cases hs
  · simp only [agr, Bool.and_eq_true, decide_eq_true_eq] at hag
    obtain ⟨rfl, rfl⟩ := hag
    exact st_un1 (g := fun a => vl a) (op := fun x => .long x.toInt64) (fun k => lv_i2l C.1 C.2.1 hd rfl k) (fun a h => ⟨R32_64 h, congrArg Value.long (i2l_ok h).symm⟩) hs hk
  · simp only [agr, Bool.and_eq_true, decide_eq_true_eq] at hag
    obtain ⟨rfl, rfl⟩ := hag
    exact st_un1 (g := fun a => vi (j8 a)) (op := fun x => .int x.toInt8.toInt32) (fun k => lv_i2b C.1 C.2.1 hd rfl k) (fun a _ => ⟨i32_R _, congrArg Value.int (i32_o _)⟩) hs hk
  · simp only [agr, Bool.and_eq_true, decide_eq_true_eq] at hag
    obtain ⟨rfl, rfl⟩ := hag
    exact st_un1 (g := fun a => vi (j16 a)) (op := fun x => .int x.toInt16.toInt32) (fun k => lv_i2s C.1 C.2.1 hd rfl k) (fun a _ => ⟨i32_R _, congrArg Value.int (i32_o _)⟩) hs hk
  · simp only [agr, Bool.and_eq_true, decide_eq_true_eq] at hag
    obtain ⟨rfl, rfl⟩ := hag
    exact st_un1 (g := fun a => vi (jch a)) (op := fun x => .int (x.toUInt32 % 65536).toInt32) (fun k => lv_i2c C.1 C.2.1 hd rfl k) (fun a _ => ⟨i32_R _, congrArg Value.int (i32_o _)⟩) hs hk
  · simp only [agr, Bool.and_eq_true, decide_eq_true_eq] at hag
    obtain ⟨rfl, rfl⟩ := hag
    split at hs
    · next a st =>
      cases hs
      intro H locs lsM hP hw hsc hS hl hll hol hos
      have hra : R64 a := okS.hd hos
      have h2 := hk H locs lsM hP hw hsc hS hl hll hol (okS.cons (w32_R a) (okS.tl hos))
      exact lv_l2i C.1 C.2.1 hd (l2i_ok hra) h2
    · cases hs
  · simp only [agr, Bool.and_eq_true, decide_eq_true_eq] at hag
    obtain ⟨rfl, rfl⟩ := hag
    split at hs
    · next v st =>
      split at hs
      · cases hs
      · next hv =>
        cases hs
        intro H locs lsM hP hw hsc hS hl hll hol hos
        exact lv_dup C.1 C.2.1 hd ((val_c C.2.2.2.2.2.2.2.2.1 v).trans (vwt_1 hv)) (hk H locs lsM hP hw hsc hS hl hll hol (okS.cons (okS.hd hos) hos))
    · cases hs
  · simp only [agr, Bool.and_eq_true, decide_eq_true_eq] at hag
    obtain ⟨rfl, rfl⟩ := hag
    split at hs
    · next v st =>
      split at hs
      · cases hs
      · next hv =>
        cases hs
        intro H locs lsM hP hw hsc hS hl hll hol hos
        exact lv_pop C.1 C.2.1 hd ((val_c C.2.2.2.2.2.2.2.2.1 v).trans (vwt_1 hv)) (hk H locs lsM hP hw hsc hS hl hll hol (okS.tl hos))
    · cases hs
  · simp only [agr, Bool.and_eq_true, decide_eq_true_eq] at hag
    obtain ⟨rfl, rfl⟩ := hag
    split at hs
    · next v u st =>
      split at hs
      · cases hs
      · next hv =>
        cases hs
        intro H locs lsM hP hw hsc hS hl hll hol hos
        exact lv_dup2_11 C.1 C.2.1 hd ((val_c C.2.2.2.2.2.2.2.2.1 v).trans (vwt_1 fun q => hv (Or.inl q))) ((val_c C.2.2.2.2.2.2.2.2.1 u).trans (vwt_1 fun q => hv (Or.inr q))) (hk H locs lsM hP hw hsc hS hl hll hol (okS.cons (okS.hd hos) (okS.cons (okS.hd (okS.tl hos)) hos)))
    · cases hs
  · simp only [agr, Bool.and_eq_true, decide_eq_true_eq] at hag
    obtain ⟨rfl, rfl⟩ := hag
    split at hs
    · next v st =>
      split at hs
      · next hv =>
        cases hs
        intro H locs lsM hP hw hsc hS hl hll hol hos
        exact lv_pop2_2 C.1 C.2.1 hd ((val_c C.2.2.2.2.2.2.2.2.1 v).trans (vwt_2 hv)) (hk H locs lsM hP hw hsc hS hl hll hol (okS.tl hos))
      · cases hs
    · cases hs
  · split at hs
    · cases hs
      simp only [agr] at hag
      exact st_icmp C hd hag hk
    · cases hs
  · split at hs
    · cases hs
      simp only [agr] at hag
      exact st_ifc C hd hag hk
    · cases hs
  · cases hs
    simp only [agr] at hag
    exact st_goto C hd hag hk
  · split at hs
    · cases hs
      simp only [agr] at hag
      exact st_tab C hd hag hk
    · cases hs
  · split at hs
    · cases hs
      simp only [agr] at hag
      exact st_lkp C hd hag hk
    · cases hs
  · next n =>
    split at hs
    · split at hs
      · next hlk =>
        simp only [agr] at hag
        split at hs
        · next h4 =>
          cases hs
          exact st_getf C hd hag hlk (by rw [if_pos h4]; exact hk)
        · next h4 =>
          cases hs
          exact st_getf C hd hag hlk (by rw [if_neg (by omega), if_pos h4]; exact hk)
        · next h4 h5 =>
          cases hs
          exact st_getf C hd hag hlk (by rw [if_neg h4, if_neg h5]; exact hk)
      · cases hs
    · cases hs
  · split at hs
    · split at hs
      · next hg =>
        cases hs
        simp only [agr] at hag
        exact st_putI C hd hag hg.1 hg.2 hk
      · cases hs
    · split at hs
      · next hg =>
        cases hs
        simp only [agr] at hag
        exact st_putL C hd hag hg.1 hg.2 hk
      · cases hs
    · cases hs
  · simp only [agr] at hag
    split at hs
    · split at hs
      · next hg =>
        cases hs
        exact st_gets0 C hd hag hg.1 hg.2 hk
      · cases hs
    · split at hs
      · next hg =>
        cases hs
        exact st_gets1 C hd hag hg.1 hg.2 hk
      · cases hs
    · cases hs
      exact st_gets2 C hd hag hk
    · cases hs
      exact st_gets3 C hd hag hk
    · cases hs
  · simp only [agr, Bool.and_eq_true, decide_eq_true_eq] at hag
    obtain ⟨rfl, rfl⟩ := hag
    exact st_ld0 C hd hs hk
  · simp only [agr, Bool.and_eq_true, decide_eq_true_eq] at hag
    obtain ⟨rfl, rfl⟩ := hag
    exact st_ld1 C hd hs hk
  · simp only [agr, Bool.and_eq_true, decide_eq_true_eq] at hag
    obtain ⟨rfl, rfl⟩ := hag
    exact st_ldB C hd hs hk
  · simp only [agr, Bool.and_eq_true, decide_eq_true_eq] at hag
    obtain ⟨rfl, rfl⟩ := hag
    split at hs
    · split at hs
      · next hg =>
        cases hs
        exact st_aald C hd hg.1 hk hg.2
      · cases hs
    · cases hs
  · simp only [agr, Bool.and_eq_true, decide_eq_true_eq] at hag
    obtain ⟨rfl, rfl⟩ := hag
    split at hs
    · split at hs
      · next hg =>
        cases hs
        exact st_iast C hd hg hk
      · cases hs
    · cases hs
  · simp only [agr, Bool.and_eq_true, decide_eq_true_eq] at hag
    obtain ⟨rfl, rfl⟩ := hag
    split at hs
    · split at hs
      · next hg =>
        cases hs
        exact st_last C hd hg hk
      · cases hs
    · cases hs
  · simp only [agr, Bool.and_eq_true, decide_eq_true_eq] at hag
    obtain ⟨rfl, rfl⟩ := hag
    split at hs
    · split at hs
      · next hg =>
        cases hs
        exact st_bast2 C hd hg hk
      · split at hs
        · next hg =>
          cases hs
          simp only [Bool.and_eq_true, decide_eq_true_eq] at hg
          exact st_bast3 C hd hg.1 hg.2 hk
        · cases hs
    · cases hs
  · simp only [agr, Bool.and_eq_true, decide_eq_true_eq] at hag
    obtain ⟨rfl, rfl⟩ := hag
    split at hs
    · split at hs
      · next hg =>
        cases hs
        obtain ⟨rfl, h1, h2⟩ := hg
        exact st_aast C hd h1 h2 hk
      · cases hs
    · cases hs
  · simp only [agr, Bool.and_eq_true, decide_eq_true_eq] at hag
    obtain ⟨rfl, rfl⟩ := hag
    split at hs
    · next k st =>
      exact st_alen C hd (by simpa only [sstep] using hs) hk
    · cases hs
  · simp only [agr] at hag
    split at hs
    · split at hs
      · next hg =>
        cases hs
        exact st_copy C hd hag hg hk
      · cases hs
    · split at hs
      · next hg =>
        cases hs
        exact st_min C hd hag hg hcs hk
      · cases hs
    · split at hs
      · next hg =>
        cases hs
        exact st_max C hd hag hg hcs hk
      · cases hs
    · cases hs
  · cases hs
end Stp5
