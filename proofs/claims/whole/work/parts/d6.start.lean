/-! THE LAW FROM ITS ENTRY TO ITS END. -/
theorem zL_0 : decode code 0 = .ok (.new 7, 3) := by decide +kernel
theorem zL_3 : decode code 3 = .ok (.dup, 1) := by decide +kernel
theorem zL_4 : decode code 4 = .ok (.invokespecial 9, 3) := by decide +kernel
theorem zL_7 : decode code 7 = .ok (.astore_n 1, 1) := by decide +kernel
theorem zL_8 : decode code 8 = .ok (.new 10, 3) := by decide +kernel
theorem zL_11 : decode code 11 = .ok (.dup, 1) := by decide +kernel
theorem zL_12 : decode code 12 = .ok (.invokespecial 12, 3) := by decide +kernel
theorem zL_15 : decode code 15 = .ok (.astore_n 2, 1) := by decide +kernel
set_option maxHeartbeats 4000000 in
set_option maxRecDepth 100000 in
/-- from the loop's head to the end -/
theorem whole_loop {p : Program} {e : Env} {s : State} {m : MethodId} {below : List Frame} {meth : Method} {c : Code} (l : Launch) {b L : Nat} {xs : Nat → Int32} (hL : L ≤ 3072) (C0 : lw_At p s m meth c b L xs) {D : va_G} {cA : Nat → ClassId} (hK : va_K D vwCl (tysE cA) s) {H : Heap} {locs : List Loc} {ls : Array Slot} {h0 h1 cells slots : Nat} {u : S11} {q : Nat → Nat}
    (hP : va_P D vwCl (wS0 cA h0 u h1 q) H) (hD : va_D (fun q : Nat => s.heap.size ≤ q) (wS0 cA h0 u h1 q)) (hS : va_S (fun q : Nat => s.heap.size ≤ q) s.heap H locs) (hl : lv_has ls 4 [(2, .ref h1), (1, .ref h0), (0, .ref b)]) (hc : cells ≤ 600000) (hs : slots ≤ 7302250) :
    W p l e room_1 s m #[Value.ref b] below meth c H locs cells slots (lw_Z below #[Value.ref b] s) (F0 m 16 ls []) := by
  obtain ⟨hx, hb, hr, hml, hown, hts, hX, hbl, hlocks, hgv⟩ := id C0
  have hgp : ∀ w ∈ gPre, w.before #[Value.ref b] s = true := flat_of_before _ hgv
  have hA : ∀ a : Nat, a < s.heap.size → ¬ (fun q : Nat => s.heap.size ≤ q) a := fun a h => Nat.not_le.mpr h
  obtain ⟨adK, adV, hSt, hev⟩ := law_S (A := fun q : Nat => s.heap.size ≤ q) hgp hA
  obtain ⟨fm, hfm, hz⟩ : ∃ fm, okF fm ∧ va_Z "jdk/internal/util/Preconditions" "SIOOBE_FORMATTER" "Ljava/util/function/BiFunction;" fm (fun q : Nat => s.heap.size ≤ q) s s.heap := by
    rcases va_Zqof (A := fun q : Nat => s.heap.size ≤ q) (hts _ (ok_St _ (List.mem_of_getElem? (i := 2) rfl))) (hts _ (ok_St _ (List.mem_of_getElem? (i := 3) rfl))) (hgp _ (gPf_in 17 rfl)) hA with h | ⟨t, h⟩
    · exact ⟨.null, Or.inl rfl, h⟩
    · exact ⟨.ref t, Or.inr ⟨t, rfl⟩, h⟩
  obtain ⟨n, r, w', hrun, hrr⟩ := law_all (L := (L : Int)) (x3 := none) (w := wS L xs) (by omega) (by omega) (Inv_fst wS_fst) (wS_scr hL).2.1 (fun j _ _ => wS_R hL 999 j)
  subst hrr
  have C : Cx (adF cA h0 u h1 q (outS b adK adV)) fm D cA (fun q : Nat => s.heap.size ≤ q) L xs p room_1 s m #[Value.ref b] c 0 63 := ⟨hx, hb, hml, hown, fun w hw => hts w (List.mem_filter.mp hw).1, law_Out hts hgp hA hSt hev hz hX hbl, hK, first_D hD, hfm, Nat.le_of_ble_eq_true rfl, Nat.le_of_ble_eq_true rfl⟩
  refine arun_snd n 63 0 16 _ [] (wS L xs) (some (vi 1)) w' hrun (by decide) C ⟨hc, hs⟩ ?_ H locs ls (first_P hP) (wS_ok hL) (wS_scr hL) hS ?_ rfl ?_ okS.nil
  · intro pcR i ki len j stR hd hag har H' locs' lsM hP' hw' hsc' hS' hos
    unfold aret at har
    split at har
    · split at har
      · next x =>
        split at har
        · cases har
          simp only [agr, Bool.and_eq_true, decide_eq_true_eq] at hag
          obtain ⟨rfl, rfl⟩ := hag
          refine va_forget (fun q hq => hS'.2.2 q hq) ?_
          refine W.widen (k := 600000) (n := 7302250) hc hs ?_
          exact lw_ret hx hb hr hlocks hd
        · cases har
      · cases har
    · split at har
      · split at har
        · cases har
        · cases har
      · cases har
    · split at har
      · split at har
        · cases har
        · cases har
      · cases har
    · split at har
      · split at har
        · cases har
        · cases har
      · cases har
    · cases har
  · exact lv_sub hl [2, 1, 0] rfl
  · intro v hv
    simp only [List.mem_cons, Option.some.injEq, List.not_mem_nil, or_false, reduceCtorEq] at hv
    rcases hv with rfl | rfl | rfl <;> trivial
set_option maxHeartbeats 4000000 in
set_option maxRecDepth 100000 in
theorem whole_start {p : Program} {e : Env} {s : State} {m : MethodId} {below : List Frame} {meth : Method} {c : Code} (l : Launch) (hflags : l.flags = flags0) {b L : Nat} {xs : Nat → Int32} (hL : L ≤ 3072) (C0 : lw_At p s m meth c b L xs) : W p l e room_1 s m #[Value.ref b] below meth c s.heap [] 0 0 (lw_Z below #[Value.ref b] s) (entryFrame m ([Value.ref b] : List Value).toArray 4) := by
  obtain ⟨hx, hb, hr, hml, hown, hts, hX, hbl, hlocks, hgv⟩ := id C0
  have htg : ∀ w ∈ TBg, w.before #[Value.ref b] s = true := fun w hw => hts w (List.mem_filter.mp hw).1
  have hN : NwO s := law_N hts
  obtain ⟨D, cA, hK⟩ := law_K htg hN
  have hA : ∀ q : Nat, s.heap.size ≤ q → (fun q : Nat => s.heap.size ≤ q) q := fun _ h => h
  have hS : va_S (fun q : Nat => s.heap.size ≤ q) s.heap s.heap [] := va_S.rf
  have hP : va_P D vwCl [] s.heap := fun k q h => by simp at h
  have hD : va_D (fun q : Nat => s.heap.size ≤ q) [] := ⟨fun i j p q h => by simp at h, fun k q h => by simp at h⟩
  have hl := lv_entry ([.ref b]) (n := 4) (Nat.le_of_ble_eq_true rfl)
  rw [lg_entry_eq]
  generalize (lg_sl ([.ref b]) ++ List.replicate (4 - (lg_sl ([.ref b])).length) Slot.unset).toArray = ls at hl ⊢
  have hl : lv_has ls 4 [(0, .ref b)] := hl
  refine k_newL (j := 11) (own := R_law) hx hb hml hown htg hK hN hA (by decide) (cI11 l D cA) hl.1 hP hD hS zL_0 zL_3 zL_4 lw_c11 (inst_all 11 (by decide)) lw_i11 lw_m11 lw_x11 lw_y11 (by decide +kernel) (by decide +kernel) (by decide +kernel) (by decide +kernel) (fun h0 u H locs hP hD hS => ?_)
  refine lv_astore_n (lv' := [(1, .ref h0), (0, .ref b)]) hx hb zL_7 rfl hl (by decide) rfl (fun ls hl => ?_)
  refine k_newL (j := 12) (own := R_law) hx hb hml hown htg hK hN hA (by decide) (cI12 l D cA) hl.1 hP hD hS zL_8 zL_11 zL_12 lw_c12 (inst_all 12 (by decide)) lw_i12 lw_m12 lw_x12 lw_y12 (by decide +kernel) (by decide +kernel) (by decide +kernel) (by decide +kernel) (fun h1 q H locs hP hD hS => ?_)
  refine lv_astore_n (lv' := [(2, .ref h1), (1, .ref h0), (0, .ref b)]) hx hb zL_15 rfl hl (by decide) rfl (fun ls hl => ?_)
  rw [List.nil_append] at hP hD
  exact whole_loop l hL C0 hK hP hD hS hl (by decide +kernel) (by decide +kernel)
