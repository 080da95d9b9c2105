/-! THE LAW FROM ITS ENTRY: the two objects are made, then the loop. -/
theorem law_N {s : State} {args : Array Value} (hts : ∀ w ∈ lw_tbl, w.before args s = true) : NwO s :=
  ⟨va_AO.of (hts _ (ok_AO _ (List.mem_of_getElem? (i := 0) rfl))), va_AO.of (hts _ (ok_AO _ (List.mem_of_getElem? (i := 1) rfl))), va_AO.of (hts _ (ok_AO _ (List.mem_of_getElem? (i := 2) rfl))), Jvm.Stand.arrayOver_alikeB (args := args) (first := s) (o := none) (idx := []) (Vm.Alike.refl s.vm) (hts _ (ok_AO _ (List.mem_of_getElem? (i := 3) rfl))), fun q hq => va_Nw.of rfl (hts _ (ok_NI _ (List.mem_map.mpr ⟨q, hq, rfl⟩)))⟩
theorem arr_p {s : State} {args : Array Value} {ty : FieldType} (hra : ∀ c : ClassId, s.vm.findClass ("[" ++ ty.toString) = some c → va_RA s c ty) (h : (Cond.arrayClass ty).before args s = true) : ∃ c : ClassId, ArrOfT s c ty ∧ va_RA s c ty := by
  obtain ⟨c, k, comp, h1, h2, h3⟩ := Cond.arrayClass_spec (args := args) (first := s) (o := none) (idx := []) h
  exact ⟨c, fun n z => ⟨fun q hq => (by cases hq), k, h2, comp, h3⟩, hra c h1⟩
theorem arr_o {s : State} {C : String} (h : va_AO C s) : ∃ c : ClassId, ArrOfT s c (.object C) ∧ va_RA s c (.object C) := by
  obtain ⟨comp, c, k, h1, -, h3, h4, h5⟩ := Cond.arrayOver_spec (args := #[]) (first := s) (o := none) (idx := []) h
  exact ⟨c, fun n z => ⟨fun q hq => (by cases hq), k, h3, comp, h4⟩, k, comp, h3, h4, h1, h5⟩
theorem arr_a {s : State} (h : (Cond.arrayOver (.array .int)).before #[] s = true) : ∃ c : ClassId, ArrOfT s c (.array .int) ∧ va_RA s c (.array .int) := by
  obtain ⟨comp, c, k, h1, -, h3, h4, h5⟩ := Jvm.Stand.arrayOver_specB (args := #[]) (first := s) (o := none) (idx := []) h
  exact ⟨c, fun n z => ⟨fun q hq => (by cases hq), k, h3, comp, h4⟩, h5⟩
/-- the classes and rows that the tables know -/
theorem law_K {s : State} {args : Array Value} (htg : ∀ w ∈ TBg, w.before args s = true) (hN : NwO s) : ∃ (D : va_G) (cA : Nat → ClassId), va_K D vwCl (tysE cA) s := by
  have h0 : ∀ c : Nat, ∃ q : ClassId × (Nat → Nat), c < 13 → u_Kn s (clC c) (clT c) (clN c) q.1 q.2 := by
    intro c
    by_cases hc : c < 13
    · obtain ⟨cC, iS, h⟩ := u_known htg (cl_ws c hc) (htg _ (inst_all c hc))
      exact ⟨(cC, iS), fun _ => h⟩
    · exact ⟨(0, fun _ => 0), fun h => absurd h hc⟩
  obtain ⟨f, hf⟩ := Classical.axiomOfChoice h0
  have h1 : ∀ t : Nat, ∃ c : ClassId, t < 8 → ArrOfT s c (aTy.getD t .int) ∧ va_RA s c (aTy.getD t .int) := by
    intro t
    by_cases ht : t < 8
    · rcases (by omega : t = 0 ∨ t = 1 ∨ t = 2 ∨ t = 3 ∨ t = 4 ∨ t = 5 ∨ t = 6 ∨ t = 7) with rfl | rfl | rfl | rfl | rfl | rfl | rfl | rfl
      · obtain ⟨c, h⟩ := arr_p (ty := .int) (fun _ h => h) (htg _ arr_w0); exact ⟨c, fun _ => h⟩
      · obtain ⟨c, h⟩ := arr_p (ty := .long) (fun _ h => h) (htg _ arr_w1); exact ⟨c, fun _ => h⟩
      · obtain ⟨c, h⟩ := arr_p (ty := .byte) (fun _ h => h) (htg _ arr_w2); exact ⟨c, fun _ => h⟩
      · obtain ⟨c, h⟩ := arr_p (ty := .boolean) (fun _ h => h) (htg _ arr_w3); exact ⟨c, fun _ => h⟩
      · obtain ⟨c, h⟩ := arr_o hN.1; exact ⟨c, fun _ => h⟩
      · obtain ⟨c, h⟩ := arr_o hN.2.1; exact ⟨c, fun _ => h⟩
      · obtain ⟨c, h⟩ := arr_o hN.2.2.1; exact ⟨c, fun _ => h⟩
      · obtain ⟨c, h⟩ := arr_a hN.2.2.2.1; exact ⟨c, fun _ => h⟩
    · exact ⟨0, fun h => absurd h ht⟩
  obtain ⟨g, hg⟩ := Classical.axiomOfChoice h1
  refine ⟨(fun c => (f c).1, fun c => (f c).2), g, fun c q hq => ?_, fun k q hq => ?_⟩
  · have hc : c < 13 := (List.getElem?_eq_some_iff.mp hq).1
    rw [cl_at c hc] at hq
    cases hq
    exact hf c hc
  · have hk : k < 8 := by have := (List.getElem?_eq_some_iff.mp hq).1; simpa [tysE] using this
    rw [tysE_at hk] at hq
    cases hq
    exact hg k hk
section Lw1
variable {p : Program} {l : Launch} {e : Env} {R : Room} {s : State} {m : MethodId} {args : Array Value} {below : List Frame} {meth : Method} {c1 : Code} {H : Heap} {locs : List Loc} {cells slots : Nat} {Q : State → Prop} {pc : Nat} {ls : Array Slot} {D : va_G} {cA : Nat → ClassId} {A : Nat → Prop} {nL : Nat} {S : Type}
/-- new C() in the law: the constructor is public -/
theorem k_newL {j nLj dj mcj msj i1 i2 : Nat} {wj : Nat → S → va_W} {own : String} {cc : ByteArray} {ws : va_W} (hx : p.tables.exec = Jvm.exec) (hb : c1.code = cc) (hml : c1.maxLocals = nL) (hown : s.vm.findClass own = some m.cls) (hts : ∀ w ∈ TBg, w.before args s = true) (hK : va_K D vwCl (tysE cA) s) (hN : NwO s) (hA : ∀ q : Nat, s.heap.size ≤ q → A q) (hj : j < 13) (M : MkI l D cA j nLj dj mcj msj wj) (hls : ls.size = nL) (hP : va_P D vwCl ws H) (hD : va_D A ws) (hS : va_S A s.heap H locs)
    (d1 : decode cc pc = .ok (.new i1, 3)) (d2 : decode cc (pc + 3) = .ok (.dup, 1)) (d3 : decode cc (pc + 4) = .ok (.invokespecial i2, 3))
    (w1 : Cond.classLink own i1 (clC j) ∈ TBg) (w2 : Cond.instantiable (clC j) (clN j) ∈ TBg) (w3 : Cond.initialized (cN j) ∈ TBg) (w4 : Cond.methodLink own i2 (yI j) ∈ TBg) (w5 : Cond.instanceMethod (yI j) ∈ TBg) (w6 : Cond.code (yI j) (byI j) nLj none ∈ TBg)
    (hcells : cells + 1 + mcj ≤ R.cells) (hslots : slots + clN j + msj ≤ R.slots) (hfr : dj + 1 ≤ R.frames) (hlo : 8 + (nLj + 11) + 64 * dj ≤ R.locals)
    (kk : ∀ (qa : Nat) (q : S) (H1 : Heap) (locs1 : List Loc), va_P D vwCl (ws ++ wj qa q) H1 → va_D A (ws ++ wj qa q) → va_S A s.heap H1 locs1 → W p l e R s m args below meth c1 H1 locs1 (cells + 1 + mcj) (slots + clN j + msj) Q (F0 m (pc + 7) ls [.ref qa])) : W p l e R s m args below meth c1 H locs cells slots Q (F0 m pc ls []) := by
  have ec := clC_cN j hj
  refine va_new (ci := j) (fs := zF j) hx hb hts (cl_ws j hj) (clTy j) (cl_ty j hj) hown (hts _ w1) (hts _ w2) (by rw [ec]; exact hts _ w3) hK hP hD hS hA (cl_at j hj) (fun k hk => zF_at hk) (by omega) (by omega) d1 (fun qa H1 hP1 hD1 hS1 => ?_)
  refine lv_dup hx hb d2 rfl ?_
  have hat : (ws ++ [(qa, .inr (j, zF j))])[ws.length]? = some (qa, .inr (j, zF j)) := app_at
  have hPc : va_P D vwCl [(qa, .inr (j, zF j))] H1 := fun k x hk => by rw [(one_at hk).2]; exact hP1 _ _ hat
  have hFc : ∀ x : Nat, va_A [(qa, .inr (j, zF j))] H1.size x → A x := by
    intro x hxx
    rcases hxx with ⟨k, e, hk⟩ | hxx
    · have := (one_at hk).2
      have e2 : x = qa := congrArg Prod.fst this
      rw [e2]; exact hD1.2 _ _ hat
    · exact hA x (Nat.le_trans hS1.1 hxx)
  refine va_callv (va_runI (As := []) (rest := [.ref qa]) ⟨hx, hb, hml, hown, hts⟩ (M qa H1.size) (cwI 0 hts (good_in fun w hw => (List.mem_cons.mp hw).elim (fun q => q ▸ w6) id) rfl rfl rfl (hts _ w3) (hts _ w4) (hts _ w5) rfl ⟨(cN_pl j hj).2.1, (cN_pl j hj).2.2, pd_0⟩ ⟨hfr, hlo⟩) ⟨fun a U g mk q => by obtain ⟨q0, q1, qP, qK, qN, qD⟩ := q; exact ⟨q0, q1, qP, va_K.moved (u := U) (U := U.calling g mk a) (Vm.Alike.refl U.vm) qK, qN.blind, qD⟩, fun U hU hW => ⟨rfl, by rw [hU], by rw [hU]; exact hPc, va_K.moved hW.alike hK, hN.warm hW, one_D trivial⟩⟩ rfl rfl hls rfl (lv_room (Nat.le_of_ble_eq_true rfl)) d3 ⟨hcells, hslots⟩) hS1 (fun q _ h => hFc q h) hFc (fun u t H2 locs2 ht hvm _ hB hz1 hk1 hS2 => ?_)
  obtain ⟨hP2, hD2⟩ := hB
  rw [ht] at hP2
  have apart : ∀ (k : Nat) (x : Nat × va_E), ws[k]? = some x → x.1 < H1.size ∧ ¬ va_A [(qa, .inr (j, zF j))] H1.size x.1 := by
    intro k x hk
    have hkl : k < ws.length := (List.getElem?_eq_some_iff.mp hk).1
    have hk1 : (ws ++ [(qa, .inr (j, zF j))])[k]? = some x := by rw [List.getElem?_append_left hkl]; exact hk
    have hlt := (hP1 k x hk1).lt
    refine ⟨hlt, fun hxx => ?_⟩
    rcases hxx with ⟨k2, e, hk2⟩ | hxx
    · have e2 : x.1 = qa := congrArg Prod.fst (one_at hk2).2
      have := hD1.1 k ws.length x _ hk1 hat e2
      omega
    · omega
  refine kk qa u H2 locs2 (va_P.app (fun k x hk => ?_) hP2) (va_D.app hD (hD2.weaken fun _ _ _ h => hFc _ h) (fun i k x y hi hk hxy => (apart i x hi).2 (by rw [hxy]; exact hD2.2 k y hk))) hS2
  obtain ⟨g1, g2⟩ := apart k x hk
  have hkl : k < ws.length := (List.getElem?_eq_some_iff.mp hk).1
  exact (hP1 k x (by rw [List.getElem?_append_left hkl]; exact hk)).kept (hk1 x.1 g1 g2)
end Lw1
/-- the addresses outside: the script, the Strings, their bytes -/
def outS (b : Nat) (adK adV : Nat → Nat) (k : Nat) : Nat := if k = 999 then b else if k < 1100 then adK (k - 1000) else adV (k - 1100)
section Lw2
variable {cA : Nat → ClassId} {h0 : Nat} {u : S11} {h1 : Nat} {q : Nat → Nat} {b : Nat} {adK adV : Nat → Nat}
theorem adF_b : adF cA h0 u h1 q (outS b adK adV) 999 = b := by
  unfold adF outS
  rw [if_neg (by decide), if_pos rfl]
theorem adF_K {i : Nat} (hi : i < 3) : adF cA h0 u h1 q (outS b adK adV) (1000 + i) = adK i := by
  unfold adF outS
  rw [if_neg (by omega), if_neg (by omega), if_pos (by omega), show 1000 + i - 1000 = i by omega]
theorem adF_V {i : Nat} (hi : i < 3) : adF cA h0 u h1 q (outS b adK adV) (1100 + i) = adV i := by
  unfold adF outS
  rw [if_neg (by omega), if_neg (by omega), if_neg (by omega), show 1100 + i - 1100 = i by omega]
end Lw2
/-- the Strings' bytes, as the kit tells them -/
def bySt : List (List Int32) := gStr.map (List.map Int32.ofInt)
theorem bySt_at (i j : Nat) : ((bySt.getD i []).getD j 0 : Int32) = Int32.ofInt (sBy i (j : Int)) := by
  have e0 : (0 : Int32) = Int32.ofInt 0 := rfl
  unfold bySt sBy
  rw [e0, Int.toNat_natCast]
  simp only [List.getD_eq_getElem?_getD, List.getElem?_map]
  cases gStr[i]? with
  | none => simp
  | some l => simp only [Option.map_some, Option.getD_some, List.getElem?_map]; cases l[j]? <;> simp
theorem lnSt_at : ∀ i, i < 3 → (gStr.map List.length).getD i 0 = lnF i ∧ lnF i < 2147483648 := by decide +kernel
theorem law_S {s : State} {args : Array Value} {A : Nat → Prop} (hs : ∀ w ∈ gPre, w.before args s = true) (hA : ∀ a : Nat, a < s.heap.size → ¬ A a) : ∃ adK adV : Nat → Nat, vk_S 3 (gStr.map List.length) bySt adK adV A s s.heap ∧ ∀ i : Nat, i < 3 → (tmS i).eval args s none [] s = some (.ref (adK i)) := by
  have c3 : ∀ {P : Nat → Prop}, P 0 → P 1 → P 2 → ∀ i, i < 3 → P i := fun a0 a1 a2 i hi => match i, hi with
    | 0, _ => a0
    | 1, _ => a1
    | 2, _ => a2
    | j + 3, h => absurd h (by omega)
  refine vk_Sof (tm := tmS) (fun i hi => by rw [(lnSt_at i hi).1]; exact (lnSt_at i hi).2) ?_ ?_ ?_ ?_ ?_ ?_ hA
  · exact c3 (hs _ (gPf_in 0 rfl)) (hs _ (gPf_in 4 rfl)) (hs _ (gPf_in 8 rfl))
  · exact c3 (hs _ (gPf_in 1 rfl)) (hs _ (gPf_in 5 rfl)) (hs _ (gPf_in 9 rfl))
  · exact c3 (hs _ (gPf_in 2 rfl)) (hs _ (gPf_in 6 rfl)) (hs _ (gPf_in 10 rfl))
  · intro i hi
    rw [(lnSt_at i hi).1]
    revert i
    exact c3 (hs _ (gPf_in 3 rfl)) (hs _ (gPf_in 7 rfl)) (hs _ (gPf_in 11 rfl))
  · intro i hi j hj
    rw [(lnSt_at i hi).1] at hj
    rw [bySt_at]
    revert i
    refine c3 (P := fun i => j < lnF i → (elS i j).before args s = true) ?_ ?_ ?_
    · exact fun hj => hs _ (ok_Pe0 _ (List.mem_map.mpr ⟨j, List.mem_range.mpr hj, rfl⟩))
    · exact fun hj => hs _ (ok_Pe1 _ (List.mem_map.mpr ⟨j, List.mem_range.mpr hj, rfl⟩))
    · exact fun hj => hs _ (ok_Pe2 _ (List.mem_map.mpr ⟨j, List.mem_range.mpr hj, rfl⟩))
  · have n01 := hs _ (gPf_in 12 rfl)
    have n02 := hs _ (gPf_in 13 rfl)
    have n12 := hs _ (gPf_in 14 rfl)
    intro i j hi hj hne
    rcases (by omega : (i = 0 ∧ j = 1) ∨ (i = 0 ∧ j = 2) ∨ (i = 1 ∧ j = 2) ∨ (j = 0 ∧ i = 1) ∨ (j = 0 ∧ i = 2) ∨ (j = 1 ∧ i = 2)) with ⟨rfl, rfl⟩ | ⟨rfl, rfl⟩ | ⟨rfl, rfl⟩ | ⟨rfl, rfl⟩ | ⟨rfl, rfl⟩ | ⟨rfl, rfl⟩
    · exact Or.inl n01
    · exact Or.inl n02
    · exact Or.inl n12
    · exact Or.inr n01
    · exact Or.inr n02
    · exact Or.inr n12
/-- what lies outside, at the start -/
theorem law_Out {s : State} {args : Array Value} {A : Nat → Prop} {cA : Nat → ClassId} {h0 : Nat} {u : S11} {h1 : Nat} {q : Nat → Nat} {b L : Nat} {xs : Nat → Int32} {adK adV : Nat → Nat} {fm : Value} (hts : ∀ w ∈ lw_tbl, w.before args s = true) (hs : ∀ w ∈ gPre, w.before args s = true) (hA : ∀ a : Nat, a < s.heap.size → ¬ A a)
    (hSt : vk_S 3 (gStr.map List.length) bySt adK adV A s s.heap) (hev : ∀ i : Nat, i < 3 → (tmS i).eval args s none [] s = some (.ref (adK i))) (hz : va_Z "jdk/internal/util/Preconditions" "SIOOBE_FORMATTER" "Ljava/util/function/BiFunction;" fm A s s.heap) (hX : va_X b L xs s s.heap) (hbl : b < s.heap.size) :
    Out (adF cA h0 u h1 q (outS b adK adV)) fm A L xs s s.heap := by
  refine ⟨fun i hi => ?_, fun w hw => ?_, ?_, hz, fun w hw => va_Nw.of rfl (hts _ (ok_NW _ (List.mem_map.mpr ⟨w, hw, rfl⟩))), ?_, ?_, ?_⟩
  · rw [adF_K hi, adF_V hi]
    obtain ⟨a1, a2, a3, a4⟩ := hSt.1 i hi
    refine ⟨a1, a2, a3, ?_⟩
    rw [(lnSt_at i hi).1] at a4
    have e : (fun j : Nat => Value.int ((bySt.getD i []).getD j 0)) = fun j : Nat => Value.int (Int32.ofInt (sBy i (j : Int))) := funext fun j => by rw [bySt_at]
    rw [e] at a4
    exact a4
  · have hw1 : (swC w).before args s = true := hts _ (ok_SW _ (List.mem_map.mpr ⟨w, hw, rfl⟩))
    obtain ⟨y, e1, e2⟩ := Cond.eq_one (args := args) (first := s) (o := none) (idx := []) (show (Cond.eq (tmS 1) (.string (cN 12) 133)).holds args s none s [] = true from hs _ (gPf_in 15 rfl))
    have hw2 : (Term.string (cN w.1) w.2.1).eval args s none [] s = some (.ref (adK w.2.2)) ∧ w.2.2 < 3 := by
      simp only [gSW, List.mem_cons, List.not_mem_nil, or_false] at hw
      rcases hw with rfl | rfl | rfl | rfl
      · refine ⟨?_, by decide⟩
        have e3 := hev 1 (by decide)
        have e4 : y = .ref (adK 1) := Option.some.inj (e1.symm.trans e3)
        rw [← e4]; exact e2
      · exact ⟨hev 2 (by decide), by decide⟩
      · exact ⟨hev 0 (by decide), by decide⟩
      · exact ⟨hev 1 (by decide), by decide⟩
    rw [adF_K hw2.2]
    exact vk_R.of hw1 hw2.1
  · exact va_Zof (hts _ (ok_St _ (List.mem_of_getElem? (i := 0) rfl))) (hts _ (ok_St _ (List.mem_of_getElem? (i := 1) rfl))) (va_eqt (hs _ (gPf_in 16 rfl))) hA
  · rw [adF_b]; exact hX
  · rw [adF_b]; exact hbl
  · rw [adF_b]; exact hA b hbl
