theorem clC_cN : ∀ c, c < 13 → clC c = cN c := fun c h => match c, h with
  | 0, _ => rfl
  | 1, _ => rfl
  | 2, _ => rfl
  | 3, _ => rfl
  | 4, _ => rfl
  | 5, _ => rfl
  | 6, _ => rfl
  | 7, _ => rfl
  | 8, _ => rfl
  | 9, _ => rfl
  | 10, _ => rfl
  | 11, _ => rfl
  | 12, _ => rfl
  | j + 13, h => absurd h (by omega)
theorem mem_mAll {f : Nat} (h0 : f ≠ 0) (h : f < 319) : f ∈ mAll := List.mem_map.mpr ⟨f - 1, List.mem_range.mpr (by omega), by show f - 1 + 1 = f; omega⟩
theorem cw_good {f : Nat} (h0 : f ≠ 0) (h : f < 319) : GoodIn TBg (cwC f :: TBg) := good_in fun w hw => (List.mem_cons.mp hw).elim (fun q => q ▸ TBg_of ok_cw _ (List.mem_map.mpr ⟨f, mem_mAll h0 h, rfl⟩)) id
theorem pop_facts {ks : List Nat} {st as rest : List aV} (h : popA ks.reverse st [] = some (as, rest)) : as.map vknd = ks ∧ st = as.reverse ++ rest := by
  obtain ⟨bs, h1, h2, h3⟩ := popA_ok _ _ _ _ _ h
  rw [List.append_nil] at h1
  subst h1
  refine ⟨by rw [List.map_reverse, h3, List.reverse_reverse], by rw [List.reverse_reverse]; exact h2⟩
theorem okS.app {a b : List aV} (h : okS (a ++ b)) : okS a ∧ okS b := ⟨fun v hv => h v (List.mem_append_left _ hv), fun v hv => h v (List.mem_append_right _ hv)⟩
section Main
variable {adr : Nat → Nat} {fm : Value} {D : va_G} {cA : Nat → ClassId} {A : Nat → Prop} {L : Nat} {xs : Nat → Int32} {l : Launch}
set_option maxHeartbeats 4000000 in
theorem arun_snd : ∀ (n d m pc : Nat) (ls : List (Option aV)) (st : List aV) (w : aW) (r : Option aV) (w' : aW), arun n d m pc ls st w = some (r, w') → m < 319 →
    ∀ {p : Program} {e : Env} {R : Room} {s : State} {mid : MethodId} {args : Array Value} {below : List Frame} {meth : Method} {c : Code} {cells slots : Nat} {Q : State → Prop}, Cx adr fm D cA A L xs p R s mid args c m d → cells ≤ R.cells ∧ slots ≤ R.slots →
      (∀ (pcR : Nat) (i ki : Instr) (len j : Nat) (stR : List aV), decode (mBy m) pcR = .ok (ki, len) → agr (mCi m) pcR ki i len j = true → aret m i stR = some r → ∀ (H : Heap) (locs : List Loc) (lsM : Array Slot), va_P D vwCl (wsE adr cA w') H → okW w' → Scr L xs w' → va_S A s.heap H locs → okS stR → W p l e R s mid args below meth c H locs cells slots Q (F0 mid pcR lsM (stR.map (val adr fm)))) →
      G adr fm D cA A L xs p l e R s mid args below meth c cells slots Q m (pc, ls, st, w) := by
  intro n
  induction n with
  | zero => intro d m pc ls st w r w' h; simp [arun] at h
  | succ n ih =>
    intro d m pc ls st w r w' h hm p e R s mid args below meth c cells slots Q C hcs hret
    rw [arun] at h
    cases hcd : cd m pc with
    | none => rw [hcd] at h; simp at h
    | some il =>
      obtain ⟨i, len⟩ := il
      obtain ⟨ki, j, hd, hag⟩ := cd_row hm hcd
      rw [hcd] at h
      dsimp only at h
      cases har : aret m i st with
      | some r0 =>
        rw [har] at h
        cases h
        intro H locs lsM hP hw hsc hS hl hll hol hos
        exact hret pc i ki len j st hd hag har H locs lsM hP hw hsc hS hos
      | none =>
        rw [har] at h
        dsimp only at h
        cases hac : acall i st with
        | none =>
          rw [hac] at h
          dsimp only at h
          cases hs : sstep i (pc + len) ls st w with
          | none => rw [hs] at h; simp at h
          | some X =>
            obtain ⟨pc', ls', st', w1⟩ := X
            rw [hs] at h
            exact sstep_snd C hcs hd hag hs (ih d m pc' ls' st' w1 r w' h hm C hcs hret)
        | some q =>
          obtain ⟨f, as, rest⟩ := q
          rw [hac] at h
          dsimp only at h
          cases d with
          | zero => simp at h
          | succ d' =>
            dsimp only at h
            by_cases hw8 : (rest.map vwt).sum ≤ 8
            · rw [if_pos hw8] at h
              cases h1 : arun n d' f 0 (ent as (mLc f)) [] w with
              | none => rw [h1] at h; simp at h
              | some q1 =>
                obtain ⟨r1, w1⟩ := q1
                rw [h1] at h
                dsimp only at h
                have ih2 := ih (d' + 1) m (pc + 3) ls (r1.toList ++ rest) w1 r w' h hm C hcs hret
                obtain ⟨hx, hb, hml, hown, hts, hO, hK, hDs, hfm, hR1, hR2⟩ := id C
                intro H locs lsM hP hw hsc hS hl hll hol hos
                dsimp only at hP hw hsc hl hll hol hos ⊢
                have fin : ∀ (H1 : Heap) (locs1 : List Loc), va_P D vwCl (wsE adr cA w1) H1 → okW w1 → Scr L xs w1 → (∀ v, r1 = some v → okV v) → va_S A s.heap H1 locs1 → okS rest → W p l e R s mid args below meth c H1 locs1 cells slots Q (F0 mid (pc + 3) lsM ((r1.map (val adr fm)).toList ++ rest.map (val adr fm))) := by
                  intro H1 locs1 hP1 hw1 hsc1 hok1 hS1 hor
                  have h9 := ih2 H1 locs1 lsM hP1 hw1 hsc1 hS1 hl hll hol (by
                    intro v hv
                    rcases List.mem_append.mp hv with q | q
                    · exact hok1 v (by simpa using q)
                    · exact hor v q)
                  have e9 : (r1.toList ++ rest).map (val adr fm) = (r1.map (val adr fm)).toList ++ rest.map (val adr fm) := by cases r1 <;> simp
                  rw [← e9]; exact h9
                unfold acall at hac
                split at hac
                · next f' =>
                  cases hpp : popA (mKs f').reverse st [] with
                  | none => rw [hpp] at hac; simp at hac
                  | some pr =>
                    obtain ⟨as', rest'⟩ := pr
                    rw [hpp] at hac
                    simp only [Option.map_some, Option.some.injEq, Prod.mk.injEq] at hac
                    obtain ⟨rfl, rfl, rfl⟩ := hac
                    obtain ⟨hks, hst⟩ := pop_facts hpp
                    rw [hst] at hos
                    obtain ⟨ho1, ho2⟩ := okS.app hos
                    have hoa : okS as' := fun v hv => ho1 v (List.mem_reverse.mpr hv)
                    simp only [agr] at hag
                    unfold agW at hag
                    split at hag
                    · next ix =>
                      simp only [Bool.and_eq_true, Bool.or_eq_true, decide_eq_true_eq] at hag
                      obtain ⟨⟨⟨⟨rfl, hf0⟩, hf⟩, hst1⟩, hlk⟩ := hag
                      have hf0 : f' ≠ 0 := by omega
                      have hY := chkY_all hf hf0
                      simp only [chkY, Bool.and_eq_true, decide_eq_true_eq] at hY
                      obtain ⟨⟨⟨⟨⟨⟨y1, y2⟩, y3⟩, y4⟩, y5⟩, y6⟩, y7⟩ := hY
                      rw [if_pos hst1] at y7
                      simp only [decide_eq_true_eq] at y7
                      have hM : Met l (mNm f') (cwC f' :: TBg) (mRm d') (Pcc adr fm D cA A L xs as' w) (Qcc adr fm D cA A L xs r1 w1) 0 0 A := met_of hf hf0 hks hfm hDs hw hsc hoa (fun C' hcs' hr' => ih d' f' 0 (ent as' (mLc f')) [] w r1 w1 h1 hf C' hcs' hr')
                      have hini := hts _ (TBg_of ok_iw _ (List.mem_map.mpr ⟨f', mem_mAll hf0 hf, rfl⟩))
                      have hstat : (Cond.static (mNm f')).before args s = true := by
                        have := hts _ (TBg_of ok_yw _ (List.mem_map.mpr ⟨f', mem_mAll hf0 hf, rfl⟩))
                        unfold ywC at this
                        rw [if_pos hst1] at this
                        exact this
                      have hRm : (mRm d').frames + 1 ≤ R.frames ∧ 8 + (mLc f' + 11) + (mRm d').locals ≤ R.locals := ⟨hR1, by show 8 + (mLc f' + 11) + 64 * (d' + 1) ≤ _; omega⟩
                      have hn : (as'.map (val adr fm)).length = (mKs f').length := by rw [← hks]; simp
                      have hpre : PreS s H (Pcc adr fm D cA A L xs as' w) (as'.map (val adr fm)) := ⟨Pcc.blind, fun U hU hW => ⟨rfl, by rw [hU]; exact hP, va_K.moved hW.alike hK, hO.at hS hU hW⟩⟩
                      have hstk : st.map (val adr fm) = (as'.map (val adr fm)).reverse ++ rest'.map (val adr fm) := by rw [hst]; simp
                      rcases hlk with hlk | hlk
                      · have hl1 := hts _ (TBg_of ok_MW _ (List.mem_map.mpr ⟨_, List.mem_of_getElem? hlk, rfl⟩))
                        exact my_call (va_runS (own := cN (mCi m)) (Ts := TBg) ⟨hx, hb, hml, hown, hts⟩ hM ⟨callB_of (mKs f').length hts (cw_good hf0 hf) rfl rfl rfl hini hl1 ⟨y4.1, y4.2, y7⟩ hRm, hstat⟩ hpre rfl hn hl.1 hstk (lv_room (by rw [wt_map hfm]; exact hw8)) hd hcs) hS (fun H1 locs1 a1 a2 a3 a4 a5 => fin H1 locs1 a1 a2 a3 a4 a5 ho2)
                      · have hl1 := hO.2.2.2.2.1 _ (List.mem_of_getElem? hlk)
                        exact my_call (va_runSN (own := cN (mCi m)) (Ts := TBg) ⟨hx, hb, hml, hown, hts⟩ hM ⟨va_cnB (mKs f').length hts (cw_good hf0 hf) rfl rfl rfl hl1 hini ⟨y4.1, y4.2, y7⟩ hRm, hstat, trivial⟩ hpre rfl hn hl.1 hstk (lv_room (by rw [wt_map hfm]; exact hw8)) hd hcs) hS (fun H1 locs1 a1 a2 a3 a4 a5 => fin H1 locs1 a1 a2 a3 a4 a5 ho2)
                    · cases hag
                · next f' =>
                  split at hac
                  · next k as' rest' hpp =>
                    split at hac
                    · next hrc =>
                      simp only [Option.some.injEq, Prod.mk.injEq] at hac
                      obtain ⟨rfl, rfl, rfl⟩ := hac
                      obtain ⟨hks, hst⟩ := pop_facts hpp
                      rw [hst] at hos
                      obtain ⟨ho1, ho2⟩ := okS.app hos
                      have hoa : okS (vr k :: as') := fun v hv => ho1 v (List.mem_reverse.mpr hv)
                      simp only [agr] at hag
                      unfold agV at hag
                      split at hag
                      · next ix =>
                        simp only [Bool.and_eq_true, decide_eq_true_eq] at hag
                        obtain ⟨⟨⟨⟨rfl, hf0⟩, hf⟩, hst1⟩, hlk⟩ := hag
                        have hf0 : f' ≠ 0 := by omega
                        have hst2 : ¬ mSt f' = true := by rw [hst1]; decide
                        have hY := chkY_all hf hf0
                        simp only [chkY, Bool.and_eq_true, decide_eq_true_eq] at hY
                        obtain ⟨⟨⟨⟨⟨⟨y1, y2⟩, y3⟩, y4⟩, y5⟩, y6⟩, y7⟩ := hY
                        rw [if_neg hst2] at y7
                        simp only [Bool.and_eq_true, decide_eq_true_eq] at y7
                        obtain ⟨⟨⟨z1, z2⟩, z3⟩, z4⟩ := y7
                        have hM : Met l (mNm f') (cwC f' :: TBg) (mRm d') (Pcc adr fm D cA A L xs (vr k :: as') w) (Qcc adr fm D cA A L xs r1 w1) 0 0 A := met_of hf hf0 hks hfm hDs hw hsc hoa (fun C' hcs' hr' => ih d' f' 0 (ent (vr k :: as') (mLc f')) [] w r1 w1 h1 hf C' hcs' hr')
                        have hini := hts _ (TBg_of ok_iw _ (List.mem_map.mpr ⟨f', mem_mAll hf0 hf, rfl⟩))
                        have hinst : (Cond.instanceMethod (mNm f')).before args s = true := by
                          have := hts _ (TBg_of ok_yw _ (List.mem_map.mpr ⟨f', mem_mAll hf0 hf, rfl⟩))
                          unfold ywC at this
                          rw [if_neg hst2] at this
                          exact this
                        have hsel := hts _ (TBg_of ok_vw _ (List.mem_map.mpr ⟨f', z1, rfl⟩))
                        have hRm : (mRm d').frames + 1 ≤ R.frames ∧ 8 + (mLc f' + 11) + (mRm d').locals ≤ R.locals := ⟨hR1, by show 8 + (mLc f' + 11) + 64 * (d' + 1) ≤ _; omega⟩
                        have hk12 : k ≠ 1200 := by
                          rcases hrc with q | q
                          · omega
                          · intro q2
                            rw [q2, show lay 1200 = (99, 0) by decide +kernel] at q
                            have := congrArg Prod.fst q.2
                            simp only at this
                            omega
                        have ek : val adr fm (vr k) = .ref (adr k) := rvl_r hk12
                        have hn : (as'.map (val adr fm)).length = (mKs f').length - 1 := by rw [← hks]; simp
                        have hz2 : (parseMethodDescriptor (mNm f').desc).map (fun d => d.parameters.length) = some ((mKs f').length - 1) := by
                          cases hpd : parseMethodDescriptor (mNm f').desc with
                          | none => rw [hpd] at z2; simp at z2
                          | some sg =>
                            rw [hpd] at z2
                            simp only [Option.map_some, Option.some.injEq] at z2 ⊢
                            omega
                        have hcell : ∃ cellB : Cell, H[adr k]? = some cellB ∧ cellB.vm.isStatics = false ∧ s.vm.findClass (mNm f').cls = some cellB.cls := by
                          rcases hrc with ⟨q1, q2, q3⟩ | ⟨q1, q2⟩
                          · have hE := (hO.1 (k - 1000) (by omega)).1
                            rw [show 1000 + (k - 1000) = k by omega] at hE
                            obtain ⟨cell, c1, c2, c3, -⟩ := hE.kept hS.2.1
                            refine ⟨cell, c1, c2, ?_⟩
                            rw [y3, q1]; exact c3
                          · have hkl : k < 191 := lay_lt (by rw [q2]; show mCi f' ≠ 99; omega)
                            have := va_recv hK hP (cl_at _ q1) (q0 := k) (a := adr k) (by rw [wsE_at hkl, celE_o q2 q1])
                            rw [y3, ← clC_cN _ q1]; exact this
                        have hpre : PreV s H (mNm f').cls (adr k) (Pcc adr fm D cA A L xs (vr k :: as') w) (as'.map (val adr fm)) := ⟨Pcc.blind, hcell, fun U hU hW => ⟨by rw [List.map_cons, ek], by rw [hU]; exact hP, va_K.moved hW.alike hK, hO.at hS hU hW⟩⟩
                        have hstk : st.map (val adr fm) = (as'.map (val adr fm)).reverse ++ .ref (adr k) :: rest'.map (val adr fm) := by rw [hst, ← ek]; simp
                        have hl1 := hts _ (TBg_of ok_MW _ (List.mem_map.mpr ⟨_, List.mem_of_getElem? hlk, rfl⟩))
                        exact my_call (va_runV (own := cN (mCi m)) (Ts := TBg) ⟨hx, hb, hml, hown, hts⟩ hM ⟨callB_of ((mKs f').length - 1) hts (cw_good hf0 hf) rfl rfl rfl hini hl1 ⟨y4.1, y4.2, hz2⟩ hRm, hinst, hsel⟩ hpre rfl hn hl.1 hstk (lv_room (by rw [wt_map hfm]; exact hw8)) hd hcs) hS (fun H1 locs1 a1 a2 a3 a4 a5 => fin H1 locs1 a1 a2 a3 a4 a5 ho2)
                      · cases hag
                    · cases hac
                  · cases hac
                · cases hac
            · rw [if_neg hw8] at h; simp at h
end Main
