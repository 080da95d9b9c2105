/-! One step: stack, branches, fields, arrays. -/
section Stp2
variable {adr : Nat → Nat} {fm : Value} {D : va_G} {cA : Nat → ClassId} {A : Nat → Prop} {L : Nat} {xs : Nat → Int32}
variable {p : Program} {l : Launch} {e : Env} {R : Room} {s : State} {mid : MethodId} {args : Array Value} {below : List Frame} {meth : Method} {c : Code} {cells slots : Nat} {Q : State → Prop} {m d pc : Nat}
variable {ls : List (Option aV)} {st : List aV} {w : aW} {X : aS}
theorem st_br {cc : Bool} {t : Int} {nx : Nat} (h1 : cc = true → G adr fm D cA A L xs p l e R s mid args below meth c cells slots Q m (t.toNat, ls, st, w)) (h2 : cc = false → G adr fm D cA A L xs p l e R s mid args below meth c cells slots Q m (nx, ls, st, w)) : G adr fm D cA A L xs p l e R s mid args below meth c cells slots Q m (if cc then t.toNat else nx, ls, st, w) := by
  cases cc with
  | true => exact h1 rfl
  | false => exact h2 rfl
theorem st_icmp {cn : ClassFile.Cond} {t : Int} {ki : Instr} {len : Nat} {a b : Int} (C : Cx adr fm D cA A L xs p R s mid args c m d) (hd : decode (mBy m) pc = .ok (ki, len)) (ha : agI ki cn t pc len = true) (hk : G adr fm D cA A L xs p l e R s mid args below meth c cells slots Q m (if cndB cn a b then t.toNat else pc + len, ls, st, w)) : G adr fm D cA A L xs p l e R s mid args below meth c cells slots Q m (pc, ls, vi b :: vi a :: st, w) := by
  obtain ⟨hx, hb, hml, hown, hts, hO, hK, hDs, hfm, hR1, hR2⟩ := C
  intro H locs lsM hP hw hsc hS hl hll hol hos
  have hrb : R32 b := okS.hd hos
  have hra : R32 a := okS.hd (okS.tl hos)
  unfold agI at ha
  split at ha
  · next c' off =>
    simp only [Bool.and_eq_true, decide_eq_true_eq] at ha
    obtain ⟨⟨⟨rfl, h1⟩, h2⟩, rfl⟩ := ha
    have ht : (pc : Int) + off = (t.toNat : Int) := by omega
    have kT : cndB cn a b = true → W p l e R s mid args below meth c H locs cells slots Q (F0 mid t.toNat lsM (st.map (val adr fm))) := fun q => by
      rw [q] at hk; exact hk H locs lsM hP hw hsc hS hl hll hol (okS.tl (okS.tl hos))
    have kF : cndB cn a b = false → W p l e R s mid args below meth c H locs cells slots Q (F0 mid (pc + 3) lsM (st.map (val adr fm))) := fun q => by
      rw [q] at hk; exact hk H locs lsM hP hw hsc hS hl hll hol (okS.tl (okS.tl hos))
    cases cn with
    | eq => exact lv_icmp_eq hx hb hd ht (fun q => kT (by simpa [cndB] using (i32_eq hra hrb).mp q)) (fun q => kF (by simpa [cndB] using fun z => q ((i32_eq hra hrb).mpr z)))
    | ne => exact lv_icmp_ne hx hb hd ht (fun q => kT (by simpa [cndB] using fun z => q ((i32_eq hra hrb).mpr z))) (fun q => kF (by simpa [cndB] using (i32_eq hra hrb).mp q))
    | lt => exact lv_icmp_lt hx hb hd ht (fun q => kT (by simpa [cndB] using (i32_lt hra hrb).mp q)) (fun q => kF (by simpa [cndB] using fun z => q ((i32_lt hra hrb).mpr z)))
    | ge => exact lv_icmp_ge hx hb hd ht (fun q => kT (by simpa [cndB] using (i32_le hrb hra).mp q)) (fun q => kF (by simpa [cndB] using fun z => q ((i32_le hrb hra).mpr z)))
    | gt => exact lv_icmp_gt hx hb hd ht (fun q => kT (by simpa [cndB] using (i32_lt hrb hra).mp q)) (fun q => kF (by simpa [cndB] using fun z => q ((i32_lt hrb hra).mpr z)))
    | le => exact lv_icmp_le hx hb hd ht (fun q => kT (by simpa [cndB] using (i32_le hra hrb).mp q)) (fun q => kF (by simpa [cndB] using fun z => q ((i32_le hra hrb).mpr z)))
  · cases ha
theorem st_ifc {cn : ClassFile.Cond} {t : Int} {ki : Instr} {len : Nat} {a : Int} (C : Cx adr fm D cA A L xs p R s mid args c m d) (hd : decode (mBy m) pc = .ok (ki, len)) (ha : agJ ki cn t pc len = true) (hk : G adr fm D cA A L xs p l e R s mid args below meth c cells slots Q m (if cndB cn a 0 then t.toNat else pc + len, ls, st, w)) : G adr fm D cA A L xs p l e R s mid args below meth c cells slots Q m (pc, ls, vi a :: st, w) := by
  obtain ⟨hx, hb, hml, hown, hts, hO, hK, hDs, hfm, hR1, hR2⟩ := C
  intro H locs lsM hP hw hsc hS hl hll hol hos
  have hra : R32 a := okS.hd hos
  have hrb : R32 0 := R32_0
  unfold agJ at ha
  split at ha
  · next c' off =>
    simp only [Bool.and_eq_true, decide_eq_true_eq] at ha
    obtain ⟨⟨⟨rfl, h1⟩, h2⟩, rfl⟩ := ha
    have ht : (pc : Int) + off = (t.toNat : Int) := by omega
    have kT : cndB cn a 0 = true → W p l e R s mid args below meth c H locs cells slots Q (F0 mid t.toNat lsM (st.map (val adr fm))) := fun q => by
      rw [q] at hk; exact hk H locs lsM hP hw hsc hS hl hll hol (okS.tl hos)
    have kF : cndB cn a 0 = false → W p l e R s mid args below meth c H locs cells slots Q (F0 mid (pc + 3) lsM (st.map (val adr fm))) := fun q => by
      rw [q] at hk; exact hk H locs lsM hP hw hsc hS hl hll hol (okS.tl hos)
    cases cn with
    | eq => exact lv_if_eq hx hb hd ht (fun q => kT (by simpa [cndB] using (i32_eq hra hrb).mp q)) (fun q => kF (by simpa [cndB] using fun z => q ((i32_eq hra hrb).mpr z)))
    | ne => exact lv_if_ne hx hb hd ht (fun q => kT (by simpa [cndB] using fun z => q ((i32_eq hra hrb).mpr z))) (fun q => kF (by simpa [cndB] using (i32_eq hra hrb).mp q))
    | lt => exact lv_if_lt hx hb hd ht (fun q => kT (by simpa [cndB] using (i32_lt hra hrb).mp q)) (fun q => kF (by simpa [cndB] using fun z => q ((i32_lt hra hrb).mpr z)))
    | ge => exact lv_if_ge hx hb hd ht (fun q => kT (by simpa [cndB] using (i32_le hrb hra).mp q)) (fun q => kF (by simpa [cndB] using fun z => q ((i32_le hrb hra).mpr z)))
    | gt => exact lv_if_gt hx hb hd ht (fun q => kT (by simpa [cndB] using (i32_lt hrb hra).mp q)) (fun q => kF (by simpa [cndB] using fun z => q ((i32_lt hrb hra).mpr z)))
    | le => exact lv_if_le hx hb hd ht (fun q => kT (by simpa [cndB] using (i32_le hra hrb).mp q)) (fun q => kF (by simpa [cndB] using fun z => q ((i32_le hra hrb).mpr z)))
  · cases ha
theorem st_goto {t : Int} {ki : Instr} {len : Nat} (C : Cx adr fm D cA A L xs p R s mid args c m d) (hd : decode (mBy m) pc = .ok (ki, len)) (ha : agO ki t pc len = true) (hk : G adr fm D cA A L xs p l e R s mid args below meth c cells slots Q m (t.toNat, ls, st, w)) : G adr fm D cA A L xs p l e R s mid args below meth c cells slots Q m (pc, ls, st, w) := by
  obtain ⟨hx, hb, hml, hown, hts, hO, hK, hDs, hfm, hR1, hR2⟩ := C
  intro H locs lsM hP hw hsc hS hl hll hol hos
  unfold agO at ha
  split at ha
  · next off =>
    simp only [Bool.and_eq_true, decide_eq_true_eq] at ha
    obtain ⟨⟨h1, h2⟩, rfl⟩ := ha
    exact lv_goto hx hb hd (tgt := t.toNat) (by omega) (hk H locs lsM hP hw hsc hS hl hll hol hos)
  · cases ha
theorem st_tab {dflt lo hi : Int} {ts : Array Int} {ki : Instr} {len : Nat} {x : Int} (C : Cx adr fm D cA A L xs p R s mid args c m d) (hd : decode (mBy m) pc = .ok (ki, len)) (ha : agT ki dflt lo hi ts pc = true) (hk : G adr fm D cA A L xs p l e R s mid args below meth c cells slots Q m (if x < lo ∨ hi < x then dflt.toNat else (ts.toList.getD (x - lo).toNat dflt).toNat, ls, st, w)) : G adr fm D cA A L xs p l e R s mid args below meth c cells slots Q m (pc, ls, vi x :: st, w) := by
  obtain ⟨hx, hb, hml, hown, hts, hO, hK, hDs, hfm, hR1, hR2⟩ := C
  intro H locs lsM hP hw hsc hS hl hll hol hos
  have hra : R32 x := okS.hd hos
  have hk' := hk H locs lsM hP hw hsc hS hl hll hol (okS.tl hos)
  dsimp only at hk'
  unfold agT at ha
  split at ha
  · next d' lo' hi' offs =>
    simp only [Bool.and_eq_true, decide_eq_true_eq, List.all_eq_true] at ha
    obtain ⟨⟨⟨⟨⟨⟨h1, h2⟩, rfl⟩, rfl⟩, h5⟩, h6⟩, h7⟩ := ha
    by_cases q : x < lo ∨ hi < x
    · rw [if_pos q] at hk'
      refine lv_tableOut hx hb (tgt := dflt.toNat) hd (by rw [i32_t hra]; exact q) (by omega) hk'
    · rw [if_neg q] at hk'
      have hlt : (x - lo).toNat < offs.toList.length := by omega
      obtain ⟨o, ho⟩ : ∃ o, offs.toList[(x - lo).toNat]? = some o := ⟨_, List.getElem?_eq_getElem hlt⟩
      have et : ts.toList.getD (x - lo).toNat dflt = (pc : Int) + o := by
        rw [h5, List.getD_eq_getElem?_getD, List.getElem?_map, ho]; rfl
      have h0 : 0 ≤ (pc : Int) + o := by
        have hm : (pc : Int) + o ∈ ts.toList := by
          rw [h5]; exact List.mem_map.mpr ⟨o, List.mem_of_getElem? ho, rfl⟩
        simpa using h7 _ hm
      rw [et] at hk'
      refine lv_tableIn hx hb (tgt := ((pc : Int) + o).toNat) (off := o) hd (by rw [i32_t hra]; omega) (by rw [i32_t hra]; omega) ?_ (by omega) hk'
      rw [i32_t hra, ← Array.getElem?_toList]; exact ho
  · cases ha
theorem lkp_map (pc d' x : Int) : ∀ (qs : List (Int × Int)), lkp (qs.map fun o => (o.1, pc + o.2)) (pc + d') x = pc + Op.lookupswitch.offset qs d' x := by
  intro qs
  induction qs with
  | nil => rfl
  | cons q qs ih =>
    obtain ⟨a, o⟩ := q
    rw [List.map_cons, lkp, ih]
    by_cases h : x = a
    · subst h
      rw [if_pos rfl]
      simp [Op.lookupswitch.offset]
    · rw [if_neg h]
      simp [Op.lookupswitch.offset, h, Ne.symm h]
theorem lkp_in (d x : Int) : ∀ (qs : List (Int × Int)), lkp qs d x = d ∨ ∃ q ∈ qs, lkp qs d x = q.2 := by
  intro qs
  induction qs with
  | nil => exact Or.inl rfl
  | cons q qs ih =>
    rw [lkp]
    split
    · exact Or.inr ⟨q, List.mem_cons_self, rfl⟩
    · rcases ih with h | ⟨q', h1, h2⟩
      · exact Or.inl h
      · exact Or.inr ⟨q', List.mem_cons_of_mem _ h1, h2⟩
theorem st_lkp {dflt : Int} {ps : Array (Int × Int)} {ki : Instr} {len : Nat} {x : Int} (C : Cx adr fm D cA A L xs p R s mid args c m d) (hd : decode (mBy m) pc = .ok (ki, len)) (ha : agU ki dflt ps pc = true) (hk : G adr fm D cA A L xs p l e R s mid args below meth c cells slots Q m ((lkp ps.toList dflt x).toNat, ls, st, w)) : G adr fm D cA A L xs p l e R s mid args below meth c cells slots Q m (pc, ls, vi x :: st, w) := by
  obtain ⟨hx, hb, hml, hown, hts, hO, hK, hDs, hfm, hR1, hR2⟩ := C
  intro H locs lsM hP hw hsc hS hl hll hol hos
  have hra : R32 x := okS.hd hos
  have hk' := hk H locs lsM hP hw hsc hS hl hll hol (okS.tl hos)
  dsimp only at hk'
  unfold agU at ha
  split at ha
  · next d' qs =>
    simp only [Bool.and_eq_true, decide_eq_true_eq] at ha
    obtain ⟨⟨⟨⟨h1, h2⟩, h3⟩, h4⟩, h5⟩ := ha
    have h6 : lkp ps.toList dflt x = (pc : Int) + Op.lookupswitch.offset qs.toList d' x := by rw [h3, ← h1]; exact lkp_map _ _ _ _
    have h7 : 0 ≤ lkp ps.toList dflt x := by
      rcases lkp_in dflt x ps.toList with q | ⟨q, q1, q2⟩
      · rw [q]; exact h2
      · rw [q2]; simpa using List.all_eq_true.mp h4 q q1
    refine lv_lookup hx hb (tgt := (lkp ps.toList dflt x).toNat) hd h5 (by rw [i32_t hra]) (by omega) hk'
  · cases ha
end Stp2
