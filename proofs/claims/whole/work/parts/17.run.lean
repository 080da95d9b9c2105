/-! A RUN OF THE SMALLER MACHINE IS A RUN OF THE MACHINE. -/
theorem rlook_in : ∀ (l : List aRow) (pc : Nat) (i : Instr) (len : Nat), rlook l pc = some (i, len) → ∃ ki j, (pc, ki, i, len, j) ∈ l := by
  intro l
  induction l with
  | nil => intro pc i len h; cases h
  | cons r l ih =>
    intro pc i len h
    obtain ⟨q, ki, ci, ln, j⟩ := r
    rw [rlook] at h
    dsimp only at h
    cases hb : Nat.beq q pc with
    | true =>
      rw [hb] at h
      have e : q = pc := Nat.eq_of_beq_eq_true hb
      simp only [cond, Option.some.injEq, Prod.mk.injEq] at h
      obtain ⟨rfl, rfl⟩ := h
      subst e
      exact ⟨ki, j, List.mem_cons_self⟩
    | false =>
      rw [hb] at h
      obtain ⟨ki', j', h'⟩ := ih pc i len h
      exact ⟨ki', j', List.mem_cons_of_mem _ h'⟩
theorem cd_row {m pc : Nat} {i : Instr} {len : Nat} (hm : m < 319) (h : cd m pc = some (i, len)) : ∃ ki j, decode (mBy m) pc = .ok (ki, len) ∧ agr (mCi m) pc ki i len j = true := by
  obtain ⟨ki, j, hr⟩ := rlook_in _ _ _ _ h
  have h1 := List.all_eq_true.mp (show (aPs.getD m []).all (chkRow (mCi m) (mBy m)) = true from chkR_all hm) _ hr
  simp only [chkRow, Bool.and_eq_true, decide_eq_true_eq] at h1
  exact ⟨ki, j, h1.1, h1.2⟩
def mRm (d : Nat) : Room := { frames := d + 1, cells := 0, slots := 0, locals := 64 * (d + 1) }
def Pcc (adr : Nat → Nat) (fm : Value) (D : va_G) (cA : Nat → ClassId) (A : Nat → Prop) (L : Nat) (xs : Nat → Int32) (as : List aV) (w : aW) : Array Value → State → Prop := fun v U => v = (as.map (val adr fm)).toArray ∧ va_P D vwCl (wsE adr cA w) U.heap ∧ va_K D vwCl (tysE cA) U ∧ Out adr fm A L xs U U.heap
def Qcc (adr : Nat → Nat) (fm : Value) (D : va_G) (cA : Nat → ClassId) (A : Nat → Prop) (L : Nat) (xs : Nat → Int32) (r : Option aV) (w : aW) : Array Value → State → Outcome → State → Prop := fun _ st o t => (o = .returned (r.map (val adr fm)) ∧ va_P D vwCl (wsE adr cA w) t.heap ∧ okW w ∧ Scr L xs w ∧ ∀ v, r = some v → okV v) ∧ va_F A st t
section Run
variable {adr : Nat → Nat} {fm : Value} {D : va_G} {cA : Nat → ClassId} {A : Nat → Prop} {L : Nat} {xs : Nat → Int32} {l : Launch}
theorem Pcc.blind {as : List aV} {w : aW} : FrameBlind (Pcc adr fm D cA A L xs as w) := fun a U g mk q => by
  obtain ⟨q0, q1, q2, q3⟩ := q
  exact ⟨q0, q1, va_K.moved (u := U) (U := U.calling g mk a) (Vm.Alike.refl U.vm) q2, q3.blind⟩
/-- behind a call -/
theorem my_call {p : Program} {e : Env} {R : Room} {s : State} {mid : MethodId} {args : Array Value} {below : List Frame} {meth : Method} {c : Code} {H : Heap} {locs : List Loc} {cells slots : Nat} {Q : State → Prop} {pc : Nat} {lsM : Array Slot} {st0 rest : List Value} {a : Array Value} {r : Option aV} {w : aW} (hr : va_Run p l e R s mid args below meth c H locs cells slots 0 0 (F0 mid pc lsM st0) rest (Qcc adr fm D cA A L xs r w a) A) (hS : va_S A s.heap H locs)
    (kk : ∀ (H1 : Heap) (locs1 : List Loc), va_P D vwCl (wsE adr cA w) H1 → okW w → Scr L xs w → (∀ v, r = some v → okV v) → va_S A s.heap H1 locs1 → W p l e R s mid args below meth c H1 locs1 cells slots Q (F0 mid (pc + 3) lsM ((r.map (val adr fm)).toList ++ rest))) : W p l e R s mid args below meth c H locs cells slots Q (F0 mid pc lsM st0) := by
  intro T hT X
  obtain ⟨v, st₀, t, T', Lc, h0, X', hL, e1, e2, ⟨⟨hv, hp, hw, hsc, hok⟩, hz, hk⟩, st⟩ := hr T hT X
  cases hv
  rw [h0] at hz hk
  have hS1 : va_S A s.heap T'.heap (locs ++ Lc) := by
    refine ⟨Nat.le_trans hS.1 (by rw [e1]; exact hz), fun q h1 h2 => ?_, fun q hq => ?_⟩
    · rw [e1, hk q (Nat.lt_of_lt_of_le h1 hS.1) h2]; exact hS.2.1 q h1 h2
    · rcases List.mem_append.mp hq with h | h
      · exact hS.2.2 q h
      · exact hL q h
  obtain ⟨t2, a1, b1⟩ := kk T'.heap (locs ++ Lc) (by rw [e1]; exact hp) hw hsc hok hS1 T' rfl X'
  exact ⟨t2, st t2 a1, b1⟩
theorem rok_n {m : Nat} {x : Int} (h : rok m x = true) : ∃ ty, mRt m = some ty ∧ narrow ty (.int (Int32.ofInt x)) = .int (Int32.ofInt x) := by
  unfold rok at h
  split at h
  · next q => exact ⟨_, q, rfl⟩
  · next q =>
    refine ⟨_, q, ?_⟩
    simp only [decide_eq_true_eq] at h
    rcases h with rfl | rfl <;> decide
  · next q =>
    refine ⟨_, q, ?_⟩
    simp only [decide_eq_true_eq] at h
    subst h; decide
  · next q =>
    refine ⟨_, q, ?_⟩
    simp only [Bool.and_eq_true, decide_eq_true_eq] at h
    obtain ⟨n, rfl⟩ : ∃ n : Nat, x = (n : Int) := ⟨x.toNat, by omega⟩
    exact (pk_charN (q := n) (by omega)).1
  · cases h
theorem wsum_le {as : List aV} {ks : List Nat} (h : as.map vknd = ks) : (as.map vwt).sum = (ks.map (fun k => if k = 1 then 2 else 1)).sum := by
  subst h
  rw [List.map_map]
  congr 1
theorem okL_ent {as : List aV} {n : Nat} (h : okS as) : okL (ent as n) := by
  have key : ∀ (as : List aV) (v : aV), some v ∈ entL as → v ∈ as := by
    intro as
    induction as with
    | nil => intro v hv; cases hv
    | cons u as ih =>
      intro v hv
      rw [entL] at hv
      split at hv
      · simp only [List.mem_cons, Option.some.injEq, reduceCtorEq, false_or] at hv
        rcases hv with rfl | hv
        · exact List.mem_cons_self
        · exact List.mem_cons_of_mem _ (ih v hv)
      · simp only [List.mem_cons, Option.some.injEq] at hv
        rcases hv with rfl | hv
        · exact List.mem_cons_self
        · exact List.mem_cons_of_mem _ (ih v hv)
  intro v hv
  unfold ent at hv
  rcases List.mem_append.mp hv with q | q
  · exact h v (key as v q)
  · exact absurd (List.eq_of_mem_replicate q) (by simp)
set_option maxHeartbeats 4000000 in
/-- THE CONTRACT of a method out of a run of the smaller machine -/
theorem met_of {d f : Nat} {as : List aV} {w w' : aW} {r : Option aV} (hf : f < 319) (hf0 : f ≠ 0) (hks : as.map vknd = mKs f) (hfm : okF fm) (hDs : Dst adr A) (hw : okW w) (hsc : Scr L xs w) (hoa : okS as)
    (ih : ∀ {p : Program} {e : Env} {R : Room} {s : State} {mid : MethodId} {args : Array Value} {below : List Frame} {meth : Method} {c : Code} {cells slots : Nat} {Q : State → Prop}, Cx adr fm D cA A L xs p R s mid args c f d → cells ≤ R.cells ∧ slots ≤ R.slots →
      (∀ (pcR : Nat) (i ki : Instr) (len j : Nat) (stR : List aV), decode (mBy f) pcR = .ok (ki, len) → agr (mCi f) pcR ki i len j = true → aret f i stR = some r → ∀ (H : Heap) (locs : List Loc) (lsM : Array Slot), va_P D vwCl (wsE adr cA w') H → okW w' → Scr L xs w' → va_S A s.heap H locs → okS stR → W p l e R s mid args below meth c H locs cells slots Q (F0 mid pcR lsM (stR.map (val adr fm)))) →
      G adr fm D cA A L xs p l e R s mid args below meth c cells slots Q f (0, ent as (mLc f), [], w)) :
    Met l (mNm f) (cwC f :: TBg) (mRm d) (Pcc adr fm D cA A L xs as w) (Qcc adr fm D cA A L xs r w') 0 0 A := by
  have hY := chkY_all hf hf0
  simp only [chkY, Bool.and_eq_true, decide_eq_true_eq] at hY
  obtain ⟨⟨⟨⟨⟨⟨y1, y2⟩, y3⟩, y4⟩, y5⟩, y6⟩, y7⟩ := hY
  refine Met.ofW (cc := mBy f) (maxL := mLc f) (ret := mRt f) y2 rfl ?_
  intro p e s mid args below meth c s₁ B hml hv
  obtain ⟨rfl, hP, hK, hO⟩ := hv
  have hts := atoms_spec (ws := cwC f :: TBg) B.pre
  have hown : s.vm.findClass (cN (mCi f)) = some mid.cls := by rw [← y3]; exact findClass_of_methodNamed B.named
  have C : Cx adr fm D cA A L xs p (mRm d) s mid (as.map (val adr fm)).toArray c f d := ⟨B.exec, B.bytes, hml, hown, fun w h => hts w (List.mem_cons_of_mem _ h), hO, hK, hDs, hfm, Nat.le_refl _, Nat.le_refl _⟩
  have hlen : (entL as).length ≤ mLc f := by rw [entL_len, wsum_le hks]; exact y5
  have hl := lv_entry (as.map (val adr fm)) (n := mLc f) (by rw [ent_sl hfm]; exact hlen)
  rw [lg_entry_eq]
  rw [← ent_args hfm as 0 (mLc f - (entL as).length)] at hl
  refine ih (cells := 0) (slots := 0) C ⟨Nat.le_refl _, Nat.le_refl _⟩ ?_ s.heap [] _ hP hw hsc va_S.rf hl ?_ (okL_ent hoa) okS.nil
  · intro pcR i ki len j stR hd hag hret H locs lsM hP' hw' hsc' hS' hoR
    have hlk := B.notSynchronized
    have hr := B.returns
    unfold aret at hret
    split at hret
    · split at hret
      · next x =>
        split at hret
        · next hx =>
          cases hret
          simp only [agr, Bool.and_eq_true, decide_eq_true_eq] at hag
          obtain ⟨rfl, rfl⟩ := hag
          obtain ⟨ty, t1, t2⟩ := rok_n hx
          refine W.zret B.exec B.bytes (hr.trans t1) t2 (fun t ht hW => ⟨⟨rfl, by rw [ht]; exact hP', hw', hsc', fun v hv => ?_⟩, hS'.F ht⟩) hS'.2.2 hd hlk
          cases hv; exact okS.hd hoR
        · cases hret
      · cases hret
    · split at hret
      · next x =>
        split at hret
        · next hx =>
          cases hret
          simp only [agr, Bool.and_eq_true, decide_eq_true_eq] at hag
          obtain ⟨rfl, rfl⟩ := hag
          refine W.lret B.exec B.bytes (hr.trans hx) (fun t ht hW => ⟨⟨rfl, by rw [ht]; exact hP', hw', hsc', fun v hv => ?_⟩, hS'.F ht⟩) hS'.2.2 hd hlk
          cases hv; exact okS.hd hoR
        · cases hret
      · cases hret
    · split at hret
      · next x =>
        split at hret
        · next hx =>
          cases hret
          simp only [agr, Bool.and_eq_true, decide_eq_true_eq] at hag
          obtain ⟨rfl, rfl⟩ := hag
          refine W.aret B.exec B.bytes (hr.trans hx) (Or.inr ⟨_, rfl⟩) (rvl_cases hfm x) (fun t ht hW => ⟨⟨rfl, by rw [ht]; exact hP', hw', hsc', fun v hv => ?_⟩, hS'.F ht⟩) hS'.2.2 hd hlk
          cases hv; exact okS.hd hoR
        · cases hret
      · cases hret
    · split at hret
      · split at hret
        · next hx =>
          cases hret
          simp only [agr, Bool.and_eq_true, decide_eq_true_eq] at hag
          obtain ⟨rfl, rfl⟩ := hag
          exact W.vret B.exec B.bytes (hr.trans hx) (fun t ht hW => ⟨⟨rfl, by rw [ht]; exact hP', hw', hsc', fun v hv => by cases hv⟩, hS'.F ht⟩) hS'.2.2 hd hlk
        · cases hret
      · cases hret
    · cases hret
  · show (ent as (mLc f)).length = mLc f
    unfold ent
    rw [List.length_append, List.length_replicate]; omega
end Run
