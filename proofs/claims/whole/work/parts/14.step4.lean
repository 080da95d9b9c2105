/-! One step: arrays. -/
theorem aTy0 : aTy.getD 0 .int = .int := rfl
section Stp4
variable {adr : Nat → Nat} {fm : Value} {D : va_G} {cA : Nat → ClassId} {A : Nat → Prop} {L : Nat} {xs : Nat → Int32}
variable {p : Program} {l : Launch} {e : Env} {R : Room} {s : State} {mid : MethodId} {args : Array Value} {below : List Frame} {meth : Method} {c : Code} {cells slots : Nat} {Q : State → Prop} {m d pc : Nat}
variable {ls : List (Option aV)} {st : List aV} {w : aW} {X : aS}
theorem wsE_I {k t : Nat} (hkl : k < 191) (h : (lay k).1 = 100 + t) (h1 : t ≠ 1) (h4 : t < 4) : (wsE adr cA w)[k]? = some (adr k, .inl (cA t, (lay k).2, .inl fun i => Int32.ofInt (w k (i : Int)))) := by
  rw [wsE_at hkl, celE_a h, arrE, if_neg h1, if_pos h4]
theorem wsE_L {k : Nat} (hkl : k < 191) (h : (lay k).1 = 100 + 1) : (wsE adr cA w)[k]? = some (adr k, .inl (cA 1, (lay k).2, .inr (.inl fun i => Int64.ofInt (w k (i : Int))))) := by
  rw [wsE_at hkl, celE_a h, arrE, if_pos rfl]
theorem wsE_R {k t : Nat} (hkl : k < 191) (h : (lay k).1 = 100 + t) (h4 : 4 ≤ t) : (wsE adr cA w)[k]? = some (adr k, .inl (cA t, (lay k).2, .inr (.inr (.inr (.inr fun i => some (adr (rAt w k (i : Int)))))))) := by
  rw [wsE_at hkl, celE_a h, arrE, if_neg (by omega), if_neg (by omega)]
theorem toN {i : Int} (h : 0 ≤ i) : ((i.toNat : Nat) : Int) = i := Int.toNat_of_nonneg h
theorem st_ld0 (C : Cx adr fm D cA A L xs p R s mid args c m d) (hd : decode (mBy m) pc = .ok (.iaload, 1)) (hs : ldA 0 (pc + 1) ls st w = some X) (hk : G adr fm D cA A L xs p l e R s mid args below meth c cells slots Q m X) : G adr fm D cA A L xs p l e R s mid args below meth c cells slots Q m (pc, ls, st, w) := by
  obtain ⟨hx, hb, hml, hown, hts, hO, hK, hDs, hfm, hR1, hR2⟩ := C
  unfold ldA at hs
  split at hs
  · next i k st =>
    split at hs
    · next h999 =>
      subst h999
      split at hs
      · next hg =>
        cases hs
        intro H locs lsM hP hw hsc hS hl hll hol hos
        have hr : R32 i := okS.hd hos
        have h2 := hk H locs lsM hP hw hsc hS hl hll hol (okS.cons (okW.s hw) (okS.tl (okS.tl hos)))
        show W p l e R s mid args below meth c H locs cells slots Q (F0 mid pc lsM (.int (Int32.ofInt i) :: rvl adr fm 999 :: st.map (val adr fm)))
        rw [rvl_r (by decide)]
        have hL : i < (L : Int) := by rw [← hsc.2.1]; exact hg.2.2
        refine va_sld hx hb hO.2.2.2.2.2.1 hO.2.2.2.2.2.2.1 hO.2.2.2.2.2.2.2 hS (in_ok hr hg.2.1 hL) hd ?_
        have e1 : xs (Int32.ofInt i).toNatClampNeg = Int32.ofInt (w 999 i) := by
          rw [cl_ok hr]
          have this : w 999 ((i.toNat : Nat) : Int) = (xs i.toNat).toInt := hsc.2.2 i.toNat (by have := hg.2.1; omega)
          rw [toN hg.2.1] at this
          rw [this, i32_o]
        rw [e1]; exact h2
      · cases hs
    · split at hs
      · next hg =>
        cases hs
        obtain ⟨g1, g2, g3, g4⟩ := inA_s hg
        intro H locs lsM hP hw hsc hS hl hll hol hos
        have hr : R32 i := okS.hd hos
        have h2 := hk H locs lsM hP hw hsc hS hl hll hol (okS.cons (okW.i hw (by rw [isL_a g1]; rfl)) (okS.tl (okS.tl hos)))
        show W p l e R s mid args below meth c H locs cells slots Q (F0 mid pc lsM (.int (Int32.ofInt i) :: rvl adr fm k :: st.map (val adr fm)))
        rw [rvl_r (by omega)]
        refine va_iald hx hb hK hP k 0 (wsE_I g4 g1 (by decide) (by decide)) (tysE_at (by decide)) (in_ok hr g2 g3) hd ?_
        rw [cl_ok hr, toN g2]; exact h2
      · cases hs
  · cases hs
theorem st_ld1 (C : Cx adr fm D cA A L xs p R s mid args c m d) (hd : decode (mBy m) pc = .ok (.laload, 1)) (hs : ldA 1 (pc + 1) ls st w = some X) (hk : G adr fm D cA A L xs p l e R s mid args below meth c cells slots Q m X) : G adr fm D cA A L xs p l e R s mid args below meth c cells slots Q m (pc, ls, st, w) := by
  obtain ⟨hx, hb, hml, hown, hts, hO, hK, hDs, hfm, hR1, hR2⟩ := C
  unfold ldA at hs
  split at hs
  · next i k st =>
    split at hs
    · split at hs
      · next hg => exact absurd hg.1 (by decide)
      · cases hs
    · split at hs
      · next hg =>
        cases hs
        obtain ⟨g1, g2, g3, g4⟩ := inA_s hg
        intro H locs lsM hP hw hsc hS hl hll hol hos
        have hr : R32 i := okS.hd hos
        have h2 := hk H locs lsM hP hw hsc hS hl hll hol (okS.cons (okW.l hw (by rw [isL_a g1]; rfl)) (okS.tl (okS.tl hos)))
        show W p l e R s mid args below meth c H locs cells slots Q (F0 mid pc lsM (.int (Int32.ofInt i) :: rvl adr fm k :: st.map (val adr fm)))
        rw [rvl_r (by omega)]
        refine va_lald hx hb hK hP k 1 (wsE_L g4 g1) (tysE_at (by decide)) (in_ok hr g2 g3) hd ?_
        rw [cl_ok hr, toN g2]; exact h2
      · cases hs
  · cases hs
theorem sBy_R : ∀ i, i < 3 → ∀ j, j < 70 → -128 ≤ sBy i (j : Nat) ∧ sBy i (j : Nat) < 128 := by decide +kernel
theorem gStr_l : ∀ i, i < 3 → (gStr.getD i []).length < 70 := by decide +kernel
theorem st_ldB (C : Cx adr fm D cA A L xs p R s mid args c m d) (hd : decode (mBy m) pc = .ok (.baload, 1)) (hs : ldB (pc + 1) ls st w = some X) (hk : G adr fm D cA A L xs p l e R s mid args below meth c cells slots Q m X) : G adr fm D cA A L xs p l e R s mid args below meth c cells slots Q m (pc, ls, st, w) := by
  obtain ⟨hx, hb, hml, hown, hts, hO, hK, hDs, hfm, hR1, hR2⟩ := C
  unfold ldB at hs
  split at hs
  · next i k st =>
    split at hs
    · next h11 =>
      split at hs
      · next hg =>
        cases hs
        obtain ⟨g1, g2, g3⟩ := hg
        intro H locs lsM hP hw hsc hS hl hll hol hos
        have hr : R32 i := okS.hd hos
        have hlen := gStr_l (k - 1100) (by omega)
        have hrb : R32 (sBy (k - 1100) i) := by
          have := sBy_R (k - 1100) (by omega) i.toNat (by omega)
          rw [toN g2] at this
          unfold R32; omega
        have h2 := hk H locs lsM hP hw hsc hS hl hll hol (okS.cons hrb (okS.tl (okS.tl hos)))
        show W p l e R s mid args below meth c H locs cells slots Q (F0 mid pc lsM (.int (Int32.ofInt i) :: rvl adr fm k :: st.map (val adr fm)))
        rw [rvl_r (by omega)]
        have hT := (hO.1 (k - 1100) (by omega)).2.2.2
        rw [show 1100 + (k - 1100) = k by omega] at hT
        refine va_tb hx hb hT hS (in_ok hr g2 g3) rfl hd ?_
        show W p l e R s mid args below meth c H locs cells slots Q (F0 mid (pc + 1) lsM (.int (Int32.ofInt (sBy (k - 1100) (((Int32.ofInt i).toNatClampNeg : Nat) : Int))) :: st.map (val adr fm)))
        rw [cl_ok hr, toN g2]; exact h2
      · cases hs
    · split at hs
      · next hg =>
        cases hs
        intro H locs lsM hP hw hsc hS hl hll hol hos
        have hr : R32 i := okS.hd hos
        rcases Bool.or_eq_true _ _ |>.mp hg with hg | hg
        · obtain ⟨g1, g2, g3, g4⟩ := inA_s hg
          have h2 := hk H locs lsM hP hw hsc hS hl hll hol (okS.cons (okW.i hw (by rw [isL_a g1]; rfl)) (okS.tl (okS.tl hos)))
          show W p l e R s mid args below meth c H locs cells slots Q (F0 mid pc lsM (.int (Int32.ofInt i) :: rvl adr fm k :: st.map (val adr fm)))
          rw [rvl_r (by omega)]
          refine va_bald hx hb hK hP k 2 (wsE_I g4 g1 (by decide) (by decide)) (tysE_at (by decide)) (in_ok hr g2 g3) hd ?_
          rw [cl_ok hr, toN g2]; exact h2
        · obtain ⟨g1, g2, g3, g4⟩ := inA_s hg
          have h2 := hk H locs lsM hP hw hsc hS hl hll hol (okS.cons (okW.i hw (by rw [isL_a g1]; rfl)) (okS.tl (okS.tl hos)))
          show W p l e R s mid args below meth c H locs cells slots Q (F0 mid pc lsM (.int (Int32.ofInt i) :: rvl adr fm k :: st.map (val adr fm)))
          rw [rvl_r (by omega)]
          refine va_zald hx hb hK hP k 3 (wsE_I g4 g1 (by decide) (by decide)) (tysE_at (by decide)) (in_ok hr g2 g3) hd ?_
          rw [cl_ok hr, toN g2]; exact h2
      · cases hs
  · cases hs
theorem st_aald {i : Int} {k : Nat} (C : Cx adr fm D cA A L xs p R s mid args c m d) (hd : decode (mBy m) pc = .ok (.aaload, 1)) (hg : isRA k i = true) (hk : G adr fm D cA A L xs p l e R s mid args below meth c cells slots Q m (pc + 1, ls, vr (rAt w k i) :: st, w)) (h87 : k = 87 → (w 87 i).toNat < 191) : G adr fm D cA A L xs p l e R s mid args below meth c cells slots Q m (pc, ls, vi i :: vr k :: st, w) := by
  obtain ⟨hx, hb, hml, hown, hts, hO, hK, hDs, hfm, hR1, hR2⟩ := C
  intro H locs lsM hP hw hsc hS hl hll hol hos
  have hr : R32 i := okS.hd hos
  have h2 := hk H locs lsM hP hw hsc hS hl hll hol (okS.cons trivial (okS.tl (okS.tl hos)))
  have hne : ∀ t, 4 ≤ t → inA k t i = true → rAt w k i ≠ 1200 := by
    intro t ht hg
    obtain ⟨g1, g2, g3, g4⟩ := inA_s hg
    unfold rAt
    by_cases q : k = 87
    · rw [if_pos q]; have := h87 q; omega
    · rw [if_neg q]; have := rfA_87 k g4 (by omega) i.toNat (by omega); omega
  have key : ∀ (t : Nat), t < 8 → 4 ≤ t → inA k t i = true → W p l e R s mid args below meth c H locs cells slots Q (F0 mid pc lsM (.int (Int32.ofInt i) :: .ref (adr k) :: st.map (val adr fm))) := by
    intro t ht8 ht4 hg
    obtain ⟨g1, g2, g3, g4⟩ := inA_s hg
    have hin := in_ok hr g2 g3
    have hlt : (Int32.ofInt i).toNatClampNeg < (lay k).2 := Nat.not_le.mp fun q => hin (Or.inr q)
    have hcell := wsE_R (adr := adr) (cA := cA) (w := w) g4 g1 ht4
    have hrf : (aTy.getD t .int).isReference = true := by
      rcases (show t = 4 ∨ t = 5 ∨ t = 6 ∨ t = 7 by omega) with rfl | rfl | rfl | rfl <;> rfl
    refine W.aald (v := va_rf (some (adr (rAt w k ((Int32.ofInt i).toNatClampNeg : Nat))))) (ty := aTy.getD t .int) hx hb (hP k _ hcell) ((hK.2 t _ (tysE_at ht8)).1 (lay k).2 (fun j => va_rf (some (adr (rAt w k (j : Int)))))) hrf (fun q => by cases q) (by show ¬ (_ < 0 ∨ (arrV _ _ _).slots.size ≤ _); rw [arrV_size]; exact hin) (by show (arrV _ _ _).slots[_]? = _; rw [arrV_read _ _ hlt]) rfl rfl hd ?_
    rw [cl_ok hr, toN g2]
    have e2 : rvl adr fm (rAt w k i) = .ref (adr (rAt w k i)) := rvl_r (hne t ht4 hg)
    show W p l e R s mid args below meth c H locs cells slots Q (F0 mid (pc + 1) lsM (.ref (adr (rAt w k i)) :: st.map (val adr fm)))
    rw [← e2]; exact h2
  have hk12 : k ≠ 1200 := by
    intro q; subst q
    simp [isRA, inA, show lay 1200 = (99, 0) by decide +kernel] at hg
  show W p l e R s mid args below meth c H locs cells slots Q (F0 mid pc lsM (.int (Int32.ofInt i) :: rvl adr fm k :: st.map (val adr fm)))
  rw [rvl_r hk12]
  simp only [isRA, Bool.or_eq_true] at hg
  rcases hg with ((hg | hg) | hg) | hg
  · exact key 4 (by decide) (by decide) hg
  · exact key 5 (by decide) (by decide) hg
  · exact key 6 (by decide) (by decide) hg
  · exact key 7 (by decide) (by decide) hg
theorem st_iast {i x : Int} {k : Nat} (C : Cx adr fm D cA A L xs p R s mid args c m d) (hd : decode (mBy m) pc = .ok (.iastore, 1)) (hg : inA k 0 i = true) (hk : G adr fm D cA A L xs p l e R s mid args below meth c cells slots Q m (pc + 1, ls, st, iup w k i x)) : G adr fm D cA A L xs p l e R s mid args below meth c cells slots Q m (pc, ls, vi x :: vi i :: vr k :: st, w) := by
  obtain ⟨hx, hb, hml, hown, hts, hO, hK, hDs, hfm, hR1, hR2⟩ := C
  intro H locs lsM hP hw hsc hS hl hll hol hos
  have hr : R32 i := okS.hd (okS.tl hos)
  obtain ⟨g1, g2, g3, g4⟩ := inA_s hg
  show W p l e R s mid args below meth c H locs cells slots Q (F0 mid pc lsM (.int (Int32.ofInt x) :: .int (Int32.ofInt i) :: rvl adr fm k :: st.map (val adr fm)))
  rw [rvl_r (by omega)]
  refine va_iast hx hb hK hP hDs.D hS k 0 (wsE_I g4 g1 (by decide) (by decide)) (tysE_at (by decide)) (in_ok hr g2 g3) hd fun H1 locs1 hP1 _ hS1 => ?_
  rw [cl_ok hr, set_I g4 g1 (by decide) (by decide) g2 rfl] at hP1
  refine hk H1 locs1 lsM hP1 (hw.up ?_) (hsc.up g4) hS1 hl hll hol (okS.tl (okS.tl (okS.tl hos)))
  rw [isL_a g1]; exact okS.hd hos
theorem st_last {i x : Int} {k : Nat} (C : Cx adr fm D cA A L xs p R s mid args c m d) (hd : decode (mBy m) pc = .ok (.lastore, 1)) (hg : inA k 1 i = true) (hk : G adr fm D cA A L xs p l e R s mid args below meth c cells slots Q m (pc + 1, ls, st, iup w k i x)) : G adr fm D cA A L xs p l e R s mid args below meth c cells slots Q m (pc, ls, vl x :: vi i :: vr k :: st, w) := by
  obtain ⟨hx, hb, hml, hown, hts, hO, hK, hDs, hfm, hR1, hR2⟩ := C
  intro H locs lsM hP hw hsc hS hl hll hol hos
  have hr : R32 i := okS.hd (okS.tl hos)
  obtain ⟨g1, g2, g3, g4⟩ := inA_s hg
  show W p l e R s mid args below meth c H locs cells slots Q (F0 mid pc lsM (.long (Int64.ofInt x) :: .int (Int32.ofInt i) :: rvl adr fm k :: st.map (val adr fm)))
  rw [rvl_r (by omega)]
  refine va_last hx hb hK hP hDs.D hS k 1 (wsE_L g4 g1) (tysE_at (by decide)) (in_ok hr g2 g3) hd fun H1 locs1 hP1 _ hS1 => ?_
  rw [cl_ok hr, set_L g4 g1 g2] at hP1
  refine hk H1 locs1 lsM hP1 (hw.up ?_) (hsc.up g4) hS1 hl hll hol (okS.tl (okS.tl (okS.tl hos)))
  rw [isL_a g1]; exact okS.hd hos
theorem st_bast2 {i x : Int} {k : Nat} (C : Cx adr fm D cA A L xs p R s mid args c m d) (hd : decode (mBy m) pc = .ok (.bastore, 1)) (hg : inA k 2 i = true) (hk : G adr fm D cA A L xs p l e R s mid args below meth c cells slots Q m (pc + 1, ls, st, iup w k i (j8 x))) : G adr fm D cA A L xs p l e R s mid args below meth c cells slots Q m (pc, ls, vi x :: vi i :: vr k :: st, w) := by
  obtain ⟨hx, hb, hml, hown, hts, hO, hK, hDs, hfm, hR1, hR2⟩ := C
  intro H locs lsM hP hw hsc hS hl hll hol hos
  have hr : R32 i := okS.hd (okS.tl hos)
  obtain ⟨g1, g2, g3, g4⟩ := inA_s hg
  show W p l e R s mid args below meth c H locs cells slots Q (F0 mid pc lsM (.int (Int32.ofInt x) :: .int (Int32.ofInt i) :: rvl adr fm k :: st.map (val adr fm)))
  rw [rvl_r (by omega)]
  refine va_bast hx hb hK hP hDs.D hS k 2 (wsE_I g4 g1 (by decide) (by decide)) (tysE_at (by decide)) (in_ok hr g2 g3) hd fun H1 locs1 hP1 _ hS1 => ?_
  rw [cl_ok hr, set_I (x := j8 x) g4 g1 (by decide) (by decide) g2 (by rw [vp_nar_byte, j8, i32_o])] at hP1
  refine hk H1 locs1 lsM hP1 (hw.up ?_) (hsc.up g4) hS1 hl hll hol (okS.tl (okS.tl (okS.tl hos)))
  rw [isL_a g1]; exact i32_R _
theorem st_bast3 {i x : Int} {k : Nat} (C : Cx adr fm D cA A L xs p R s mid args c m d) (hd : decode (mBy m) pc = .ok (.bastore, 1)) (hg : inA k 3 i = true) (hx01 : x = 0 ∨ x = 1) (hk : G adr fm D cA A L xs p l e R s mid args below meth c cells slots Q m (pc + 1, ls, st, iup w k i x)) : G adr fm D cA A L xs p l e R s mid args below meth c cells slots Q m (pc, ls, vi x :: vi i :: vr k :: st, w) := by
  obtain ⟨hx, hb, hml, hown, hts, hO, hK, hDs, hfm, hR1, hR2⟩ := C
  intro H locs lsM hP hw hsc hS hl hll hol hos
  have hr : R32 i := okS.hd (okS.tl hos)
  obtain ⟨g1, g2, g3, g4⟩ := inA_s hg
  show W p l e R s mid args below meth c H locs cells slots Q (F0 mid pc lsM (.int (Int32.ofInt x) :: .int (Int32.ofInt i) :: rvl adr fm k :: st.map (val adr fm)))
  rw [rvl_r (by omega)]
  refine va_zast hx hb hK hP hDs.D hS k 3 (wsE_I g4 g1 (by decide) (by decide)) (tysE_at (by decide)) (in_ok hr g2 g3) hd fun H1 locs1 hP1 _ hS1 => ?_
  rw [cl_ok hr, set_I (x := x) g4 g1 (by decide) (by decide) g2 (by rcases hx01 with rfl | rfl <;> decide)] at hP1
  refine hk H1 locs1 lsM hP1 (hw.up ?_) (hsc.up g4) hS1 hl hll hol (okS.tl (okS.tl (okS.tl hos)))
  rw [isL_a g1]; exact okS.hd hos
theorem st_aast {i : Int} {x : Nat} (C : Cx adr fm D cA A L xs p R s mid args c m d) (hd : decode (mBy m) pc = .ok (.aastore, 1)) (hg : inA 87 4 i = true) (hlx : lay x = (6, 0)) (hk : G adr fm D cA A L xs p l e R s mid args below meth c cells slots Q m (pc + 1, ls, st, iup w 87 i (x : Int))) : G adr fm D cA A L xs p l e R s mid args below meth c cells slots Q m (pc, ls, vr x :: vi i :: vr 87 :: st, w) := by
  obtain ⟨hx, hb, hml, hown, hts, hO, hK, hDs, hfm, hR1, hR2⟩ := C
  intro H locs lsM hP hw hsc hS hl hll hol hos
  have hr : R32 i := okS.hd (okS.tl hos)
  obtain ⟨g1, g2, g3, g4⟩ := inA_s hg
  have hxl : x < 191 := lay_lt (by rw [hlx]; decide)
  show W p l e R s mid args below meth c H locs cells slots Q (F0 mid pc lsM (rvl adr fm x :: .int (Int32.ofInt i) :: rvl adr fm 87 :: st.map (val adr fm)))
  rw [rvl_r (by omega), rvl_r (by omega)]
  refine va_astq hx hb hK hP hDs.D hS 87 4 x 6 (wsE_R g4 g1 (by decide)) (r := (RX6, TX6, 5)) (tysE_at (by decide)) (by rw [wsE_at hxl, celE_o hlx (by decide)]) rfl (in_ok hr g2 g3) hd fun H1 locs1 hP1 _ hS1 => ?_
  rw [cl_ok hr, set_R g2] at hP1
  refine hk H1 locs1 lsM hP1 (hw.up ?_) (hsc.up g4) hS1 hl hll hol (okS.tl (okS.tl (okS.tl hos)))
  rw [isL_a g1]
  show R32 (x : Int)
  unfold R32; omega
end Stp4
