/-! One step: fields, arrays, texts. -/
theorem cl_ws : ∀ c, c < 13 → ∀ w ∈ u_ws (clC c) (clT c) (clN c), w ∈ TBg := fun c h => match c, h with
  | 0, _ => TBg_of ok_u0
  | 1, _ => TBg_of ok_u1
  | 2, _ => TBg_of ok_u2
  | 3, _ => TBg_of ok_u3
  | 4, _ => TBg_of ok_u4
  | 5, _ => TBg_of ok_u5
  | 6, _ => TBg_of ok_u6
  | 7, _ => TBg_of ok_u7
  | 8, _ => TBg_of ok_u8
  | 9, _ => TBg_of ok_u9
  | 10, _ => TBg_of ok_u10
  | 11, _ => TBg_of ok_u11
  | 12, _ => TBg_of ok_u12
  | j + 13, h => absurd h (by omega)
theorem rvl_r {adr : Nat → Nat} {fm : Value} {k : Nat} (h : k ≠ 1200) : rvl adr fm k = .ref (adr k) := by unfold rvl; rw [if_neg h]
theorem rfA_lt : ∀ k, k < 191 → ∀ i, i < 20 → rfA k i < 191 := by decide +kernel
theorem rfA_87 : ∀ k, k < 191 → 104 ≤ (lay k).1 → ∀ i, i < (lay k).2 → rfA k i < 191 := by decide +kernel
theorem clN_20 : ∀ c, c < 13 → clN c < 38 := by decide +kernel
theorem rfA_f : ∀ k, k < 191 → (lay k).1 < 100 → ∀ i, i < 38 → rfA k i < 191 := by decide +kernel
section Stp3
variable {adr : Nat → Nat} {fm : Value} {D : va_G} {cA : Nat → ClassId} {A : Nat → Prop} {L : Nat} {xs : Nat → Int32}
variable {p : Program} {l : Launch} {e : Env} {R : Room} {s : State} {mid : MethodId} {args : Array Value} {below : List Frame} {meth : Method} {c : Code} {cells slots : Nat} {Q : State → Prop} {m d pc : Nat}
variable {ls : List (Option aV)} {st : List aV} {w : aW} {X : aS}
theorem st_getf {n : Nat} {ki : Instr} {len j k : Nat} (C : Cx adr fm D cA A L xs p R s mid args c m d) (hd : decode (mBy m) pc = .ok (ki, len)) (ha : agF (mCi m) false ki n len j = true) (hlk : lay k = (n / 256, 0)) (hk : G adr fm D cA A L xs p l e R s mid args below meth c cells slots Q m (pc + len, ls, (if n % 4 = 1 then vl (w k (n / 4 % 64 : Nat)) else if n % 4 = 2 then vr (rfA k (n / 4 % 64)) else vi (w k (n / 4 % 64 : Nat))) :: st, w)) : G adr fm D cA A L xs p l e R s mid args below meth c cells slots Q m (pc, ls, vr k :: st, w) := by
  obtain ⟨hx, hb, hml, hown, hts, hO, hK, hDs, hfm, hR1, hR2⟩ := C
  intro H locs lsM hP hw hsc hS hl hll hol hos
  unfold agF at ha
  split at ha
  · next i =>
    simp only [Bool.and_eq_true, decide_eq_true_eq] at ha
    obtain ⟨⟨⟨rfl, hc⟩, hft⟩, hj⟩ := ha
    have hkl : k < 191 := lay_lt (by rw [hlk]; show n / 256 ≠ 99; omega)
    have hfl : n / 4 % 64 < clN (n / 256) := fty_lt hc (by rw [hft]; omega)
    have hok : okV (if n % 4 = 1 then vl (w k (n / 4 % 64 : Nat)) else if n % 4 = 2 then vr (rfA k (n / 4 % 64)) else vi (w k (n / 4 % 64 : Nat))) := by
      have hi := isL_f (f := n / 4 % 64) hlk hc
      by_cases h1 : n % 4 = 1
      · rw [if_pos h1]; exact okW.l hw (by rw [hi, hft]; simpa using h1)
      · rw [if_neg h1]
        by_cases h2 : n % 4 = 2
        · rw [if_pos h2]; exact trivial
        · rw [if_neg h2]; exact okW.i hw (by rw [hi, hft]; simpa using h1)
    have h2 := hk H locs lsM hP hw hsc hS hl hll hol (okS.cons hok (okS.tl hos))
    show W p l e R s mid args below meth c H locs cells slots Q (F0 mid pc lsM (rvl adr fm k :: st.map (val adr fm)))
    rw [rvl_r (by omega)]
    have hlink := hts _ (TBg_of ok_FW _ (List.mem_map.mpr ⟨_, List.mem_of_getElem? hj, rfl⟩))
    refine va_get (own := cN (mCi m)) hx hb hts (cl_ws _ hc) hown hK hP k (by rw [wsE_at hkl, celE_o hlk hc]) (cl_at _ hc) (n / 4 % 64) hfl hlink (fun _ h => h) (fldE_at hfl) hd ?_
    have e2 : (if fty (n / 256) (n / 4 % 64) = 1 then Value.long (Int64.ofInt (w k ((n / 4 % 64 : Nat) : Int))) else if fty (n / 256) (n / 4 % 64) = 2 then .ref (adr (rfA k (n / 4 % 64))) else .int (Int32.ofInt (w k ((n / 4 % 64 : Nat) : Int)))) = val adr fm (if n % 4 = 1 then vl (w k (n / 4 % 64 : Nat)) else if n % 4 = 2 then vr (rfA k (n / 4 % 64)) else vi (w k (n / 4 % 64 : Nat))) := by
      rw [hft]
      by_cases h1 : n % 4 = 1
      · rw [if_pos h1, if_pos h1]; rfl
      · rw [if_neg h1, if_neg h1]
        by_cases h2 : n % 4 = 2
        · rw [if_pos h2, if_pos h2]
          have h3 := rfA_f k hkl (by rw [hlk]; show n / 256 < 100; omega) (n / 4 % 64) (Nat.lt_trans hfl (clN_20 _ hc))
          exact (rvl_r (by omega)).symm
        · rw [if_neg h2, if_neg h2]; rfl
    rw [e2]; exact h2
  · first | contradiction | cases ha
  · first | contradiction | cases ha
theorem st_putI {n : Nat} {ki : Instr} {len j k : Nat} {x : Int} (C : Cx adr fm D cA A L xs p R s mid args c m d) (hd : decode (mBy m) pc = .ok (ki, len)) (ha : agF (mCi m) true ki n len j = true) (hlk : lay k = (n / 256, 0)) (hz : n % 4 = 0 ∨ (n % 4 = 3 ∧ (x = 0 ∨ x = 1))) (hk : G adr fm D cA A L xs p l e R s mid args below meth c cells slots Q m (pc + len, ls, st, iup w k (n / 4 % 64 : Nat) x)) : G adr fm D cA A L xs p l e R s mid args below meth c cells slots Q m (pc, ls, vi x :: vr k :: st, w) := by
  obtain ⟨hx, hb, hml, hown, hts, hO, hK, hDs, hfm, hR1, hR2⟩ := C
  intro H locs lsM hP hw hsc hS hl hll hol hos
  unfold agF at ha
  split at ha
  · first | contradiction | cases ha
  · next i =>
    simp only [Bool.and_eq_true, decide_eq_true_eq] at ha
    obtain ⟨⟨⟨rfl, hc⟩, hft⟩, hj⟩ := ha
    have hkl : k < 191 := lay_lt (by rw [hlk]; show n / 256 ≠ 99; omega)
    have hfl : n / 4 % 64 < clN (n / 256) := fty_lt hc (by rw [hft]; omega)
    have hlink := hts _ (TBg_of ok_FW _ (List.mem_map.mpr ⟨_, List.mem_of_getElem? hj, rfl⟩))
    have hfin : (clT (n / 256) (n / 4 % 64)).2.2.2 = false := by
      rcases fty_d _ hc _ hfl with q | q
      · exact q
      · rw [hft] at q; omega
    have hty := cl_ty _ hc _ hfl
    have hI := fty_I _ hc _ hfl
    have hnf : narrow (clTy (n / 256) (n / 4 % 64)) (.int (Int32.ofInt x)) = .int (Int32.ofInt x) ∧ fits (clTy (n / 256) (n / 4 % 64)) (.int (Int32.ofInt x)) = true := by
      rcases hz with q | ⟨q, q2⟩
      · rw [hI.1 (by rw [hft]; exact q)]; exact ⟨rfl, rfl⟩
      · rw [hI.2.2 (by rw [hft]; exact q)]
        rcases q2 with rfl | rfl <;> exact ⟨by decide, by decide⟩
    show W p l e R s mid args below meth c H locs cells slots Q (F0 mid pc lsM (.int (Int32.ofInt x) :: rvl adr fm k :: st.map (val adr fm)))
    rw [rvl_r (by omega)]
    refine va_put (own := cN (mCi m)) hx hb hts (cl_ws _ hc) (clTy _) (cl_ty _ hc) (cl_nm _ hc) hown hK hP hDs.D hS k (by rw [wsE_at hkl, celE_o hlk hc]) (cl_at _ hc) (n / 4 % 64) hfl hlink (fun _ h => h) hfin hty hnf.1 hnf.2 (by simpa [fldE] using hfl) hd fun H1 locs1 hP1 _ hS1 => ?_
    rw [set_F hkl hlk hc hfl (x := x) (by rw [if_neg (by rw [hft]; omega)]) (by rw [hft]; omega)] at hP1
    refine hk H1 locs1 lsM hP1 (hw.up ?_) (hsc.up hkl) hS1 hl hll hol (okS.tl (okS.tl hos))
    rw [isL_f hlk hc, hft]
    have : ¬ n % 4 = 1 := by omega
    simp only [this, decide_false]
    exact okS.hd hos
  · first | contradiction | cases ha
theorem st_putL {n : Nat} {ki : Instr} {len j k : Nat} {x : Int} (C : Cx adr fm D cA A L xs p R s mid args c m d) (hd : decode (mBy m) pc = .ok (ki, len)) (ha : agF (mCi m) true ki n len j = true) (hlk : lay k = (n / 256, 0)) (hz : n % 4 = 1) (hk : G adr fm D cA A L xs p l e R s mid args below meth c cells slots Q m (pc + len, ls, st, iup w k (n / 4 % 64 : Nat) x)) : G adr fm D cA A L xs p l e R s mid args below meth c cells slots Q m (pc, ls, vl x :: vr k :: st, w) := by
  obtain ⟨hx, hb, hml, hown, hts, hO, hK, hDs, hfm, hR1, hR2⟩ := C
  intro H locs lsM hP hw hsc hS hl hll hol hos
  unfold agF at ha
  split at ha
  · first | contradiction | cases ha
  · next i =>
    simp only [Bool.and_eq_true, decide_eq_true_eq] at ha
    obtain ⟨⟨⟨rfl, hc⟩, hft⟩, hj⟩ := ha
    have hkl : k < 191 := lay_lt (by rw [hlk]; show n / 256 ≠ 99; omega)
    have hfl : n / 4 % 64 < clN (n / 256) := fty_lt hc (by rw [hft]; omega)
    have hlink := hts _ (TBg_of ok_FW _ (List.mem_map.mpr ⟨_, List.mem_of_getElem? hj, rfl⟩))
    have hfin : (clT (n / 256) (n / 4 % 64)).2.2.2 = false := by
      rcases fty_d _ hc _ hfl with q | q
      · exact q
      · rw [hft] at q; omega
    have hty := cl_ty _ hc _ hfl
    have hI := fty_I _ hc _ hfl
    have hnf : narrow (clTy (n / 256) (n / 4 % 64)) (.long (Int64.ofInt x)) = .long (Int64.ofInt x) ∧ fits (clTy (n / 256) (n / 4 % 64)) (.long (Int64.ofInt x)) = true := by
      rw [hI.2.1 (by rw [hft]; exact hz)]; exact ⟨rfl, rfl⟩
    show W p l e R s mid args below meth c H locs cells slots Q (F0 mid pc lsM (.long (Int64.ofInt x) :: rvl adr fm k :: st.map (val adr fm)))
    rw [rvl_r (by omega)]
    refine va_put (own := cN (mCi m)) hx hb hts (cl_ws _ hc) (clTy _) (cl_ty _ hc) (cl_nm _ hc) hown hK hP hDs.D hS k (by rw [wsE_at hkl, celE_o hlk hc]) (cl_at _ hc) (n / 4 % 64) hfl hlink (fun _ h => h) hfin hty hnf.1 hnf.2 (by simpa [fldE] using hfl) hd fun H1 locs1 hP1 _ hS1 => ?_
    rw [set_F hkl hlk hc hfl (x := x) (by rw [if_pos (by rw [hft]; exact hz)]) (by rw [hft]; omega)] at hP1
    refine hk H1 locs1 lsM hP1 (hw.up ?_) (hsc.up hkl) hS1 hl hll hol (okS.tl (okS.tl hos))
    rw [isL_f hlk hc, hft]
    simp only [hz, decide_true]
    exact okS.hd hos
  · first | contradiction | cases ha
/-- texts -/
theorem st_gets0 {ki : Instr} {len k : Nat} (C : Cx adr fm D cA A L xs p R s mid args c m d) (hd : decode (mBy m) pc = .ok (ki, len)) (ha : agG (mCi m) ki 0 len = true) (h1 : 1000 ≤ k) (h2 : k < 1003) (hk : G adr fm D cA A L xs p l e R s mid args below meth c cells slots Q m (pc + len, ls, vr (k + 100) :: st, w)) : G adr fm D cA A L xs p l e R s mid args below meth c cells slots Q m (pc, ls, vr k :: st, w) := by
  obtain ⟨hx, hb, hml, hown, hts, hO, hK, hDs, hfm, hR1, hR2⟩ := C
  intro H locs lsM hP hw hsc hS hl hll hol hos
  have hk' := hk H locs lsM hP hw hsc hS hl hll hol (okS.cons trivial (okS.tl hos))
  cases ki with
  | getfield i =>
    simp only [agG, Bool.and_eq_true, decide_eq_true_eq] at ha
    obtain ⟨⟨rfl, ho⟩, rfl⟩ := ha
    rw [ho] at hown
    have hE := (hO.1 (k - 1000) (by omega)).2.2.1
    rw [show 1000 + (k - 1000) = k by omega, show 1100 + (k - 1000) = k + 100 by omega] at hE
    show W p l e R s mid args below meth c H locs cells slots Q (F0 mid pc lsM (rvl adr fm k :: st.map (val adr fm)))
    rw [rvl_r (by omega)]
    refine vk_getf (own := "java/lang/String") (ref := "java/lang/String") hx hb hE hS hown (hts _ (TBg_of ok_GW _ (by simp))) (fun _ h => h) hd ?_
    have e2 : rvl adr fm (k + 100) = .ref (adr (k + 100)) := rvl_r (by omega)
    rw [← e2]; exact hk'
  | _ => simp [agG] at ha
theorem st_gets1 {ki : Instr} {len k : Nat} (C : Cx adr fm D cA A L xs p R s mid args c m d) (hd : decode (mBy m) pc = .ok (ki, len)) (ha : agG (mCi m) ki 1 len = true) (h1 : 1000 ≤ k) (h2 : k < 1003) (hk : G adr fm D cA A L xs p l e R s mid args below meth c cells slots Q m (pc + len, ls, vi 0 :: st, w)) : G adr fm D cA A L xs p l e R s mid args below meth c cells slots Q m (pc, ls, vr k :: st, w) := by
  obtain ⟨hx, hb, hml, hown, hts, hO, hK, hDs, hfm, hR1, hR2⟩ := C
  intro H locs lsM hP hw hsc hS hl hll hol hos
  have hk' := hk H locs lsM hP hw hsc hS hl hll hol (okS.cons R32_0 (okS.tl hos))
  cases ki with
  | getfield i =>
    simp only [agG, Bool.and_eq_true, decide_eq_true_eq] at ha
    obtain ⟨⟨rfl, ho⟩, rfl⟩ := ha
    rw [ho] at hown
    have hE := (hO.1 (k - 1000) (by omega)).2.1
    rw [show 1000 + (k - 1000) = k by omega] at hE
    show W p l e R s mid args below meth c H locs cells slots Q (F0 mid pc lsM (rvl adr fm k :: st.map (val adr fm)))
    rw [rvl_r (by omega)]
    exact vk_getf (own := "java/lang/String") (ref := "java/lang/String") hx hb hE hS hown (hts _ (TBg_of ok_GW _ (by simp))) (fun _ h => h) hd hk'
  | _ => simp [agG] at ha
theorem st_gets2 {ki : Instr} {len : Nat} (C : Cx adr fm D cA A L xs p R s mid args c m d) (hd : decode (mBy m) pc = .ok (ki, len)) (ha : agG (mCi m) ki 2 len = true) (hk : G adr fm D cA A L xs p l e R s mid args below meth c cells slots Q m (pc + len, ls, vi 1 :: st, w)) : G adr fm D cA A L xs p l e R s mid args below meth c cells slots Q m (pc, ls, st, w) := by
  obtain ⟨hx, hb, hml, hown, hts, hO, hK, hDs, hfm, hR1, hR2⟩ := C
  intro H locs lsM hP hw hsc hS hl hll hol hos
  have hk' := hk H locs lsM hP hw hsc hS hl hll hol (okS.cons R32_1 hos)
  cases ki with
  | getstatic i =>
    simp only [agG, Bool.and_eq_true, decide_eq_true_eq] at ha
    obtain ⟨⟨rfl, ho⟩, rfl⟩ := ha
    rw [ho] at hown
    exact va_gets (own := "java/lang/String") (ref := "java/lang/String") hx hb hO.2.2.1 hS hown (hts _ (TBg_of ok_GW _ (by simp))) (fun _ h => h) hd hk'
  | _ => simp [agG] at ha
theorem st_gets3 {ki : Instr} {len : Nat} (C : Cx adr fm D cA A L xs p R s mid args c m d) (hd : decode (mBy m) pc = .ok (ki, len)) (ha : agG (mCi m) ki 3 len = true) (hk : G adr fm D cA A L xs p l e R s mid args below meth c cells slots Q m (pc + len, ls, vr 1200 :: st, w)) : G adr fm D cA A L xs p l e R s mid args below meth c cells slots Q m (pc, ls, st, w) := by
  obtain ⟨hx, hb, hml, hown, hts, hO, hK, hDs, hfm, hR1, hR2⟩ := C
  intro H locs lsM hP hw hsc hS hl hll hol hos
  have hk' := hk H locs lsM hP hw hsc hS hl hll hol (okS.cons trivial hos)
  cases ki with
  | getstatic i =>
    simp only [agG, Bool.and_eq_true, decide_eq_true_eq] at ha
    obtain ⟨⟨rfl, ho⟩, rfl⟩ := ha
    rw [ho] at hown
    refine va_gets (own := "java/lang/String") (ref := "jdk/internal/util/Preconditions") hx hb hO.2.2.2.1 hS hown (hts _ (TBg_of ok_GW _ (by simp))) (fun _ h => h) hd ?_
    have e2 : rvl adr fm 1200 = fm := by unfold rvl; rw [if_pos rfl]
    rw [← e2]; exact hk'
  | _ => simp [agG] at ha
end Stp3
