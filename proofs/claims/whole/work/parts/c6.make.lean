/-! MAKING THE FIRST WORLD: rows for new arrays whose class is one of the eight known ones. -/
section Mk0
variable {p : Program} {l : Launch} {e : Env} {R : Room} {s : State} {m : MethodId} {args : Array Value} {below : List Frame} {meth : Method} {c : Code} {H H0 : Heap} {locs : List Loc} {cells slots : Nat} {Q : State → Prop} {pc : Nat} {ls : Array Slot} {rest : List Value} {D : va_G} {cA : Nat → ClassId} {A : Nat → Prop} {ws : va_W} {cc : ByteArray}
theorem tysE_8 {cB : ClassId} {ty : FieldType} : (tysE cA ++ [(cB, ty)])[8]? = some (cB, ty) := by simp [tysE]
theorem m_newa (hx : p.tables.exec = Jvm.exec) (hb : c.code = cc) {atype : ArrayType} {t : Nat} (ht : t < 4) (hat : newarray.typeOf atype = aTy.getD t .int) (harr : (Cond.arrayClass (newarray.typeOf atype)).before args s = true)
    (hK : va_K D vwCl (tysE cA) s) (hP : va_P D vwCl ws H) (hD : va_D A ws) (hS : va_S A H0 H locs) (hA : ∀ q, H0.size ≤ q → A q)
    {n : Int32} {N' : Nat} {a0 : vp_A} (ha : ∀ cB : ClassId, vp_cell cB a0 = arrV cB N' (fun _ => defaultValue (aTy.getD t .int))) (hn : ¬ n < 0) (hN : n.toNatClampNeg = N') (hbytes : N' * componentBytes (aTy.getD t .int) ≤ 536870912) (hcells : cells + 1 ≤ R.cells) (hslots : slots + N' ≤ R.slots) (hdg : decode cc pc = .ok (.newarray atype, 2))
    (kk : ∀ (q : Nat) (H1 : Heap), va_P D vwCl (ws ++ [(q, .inl (cA t, a0))]) H1 → va_D A (ws ++ [(q, .inl (cA t, a0))]) → va_S A H0 H1 locs →
      W p l e R s m args below meth c H1 locs (cells + 1) (slots + N') Q (F0 m (pc + 2) ls (.ref q :: rest))) : W p l e R s m args below meth c H locs cells slots Q (F0 m pc ls (.int n :: rest)) := by
  refine va_newa hx hb harr hat hK hP hD hS hA ha hn hN hbytes hcells hslots hdg (fun q cB H1 hK1 hP1 hD1 hS1 => ?_)
  have h1 := (hK1.2 8 (cB, aTy.getD t .int) tysE_8).2
  have h2 := (hK.2 t (cA t, aTy.getD t .int) (tysE_at (by omega))).2
  have e1 : cB = cA t := by
    rcases (by omega : t = 0 ∨ t = 1 ∨ t = 2 ∨ t = 3) with rfl | rfl | rfl | rfl
    · have a1 : s.vm.findClass ("[" ++ FieldType.int.toString) = some cB := h1
      have a2 : s.vm.findClass ("[" ++ FieldType.int.toString) = some (cA 0) := h2
      exact Option.some.inj (a1.symm.trans a2)
    · have a1 : s.vm.findClass ("[" ++ FieldType.long.toString) = some cB := h1
      have a2 : s.vm.findClass ("[" ++ FieldType.long.toString) = some (cA 1) := h2
      exact Option.some.inj (a1.symm.trans a2)
    · have a1 : s.vm.findClass ("[" ++ FieldType.byte.toString) = some cB := h1
      have a2 : s.vm.findClass ("[" ++ FieldType.byte.toString) = some (cA 2) := h2
      exact Option.some.inj (a1.symm.trans a2)
    · have a1 : s.vm.findClass ("[" ++ FieldType.boolean.toString) = some cB := h1
      have a2 : s.vm.findClass ("[" ++ FieldType.boolean.toString) = some (cA 3) := h2
      exact Option.some.inj (a1.symm.trans a2)
  subst e1
  exact kk q H1 hP1 hD1 hS1
theorem m_newq (hx : p.tables.exec = Jvm.exec) (hb : c.code = cc) {own C : String} {index t : Nat} (ht : aTy.getD t .int = .object C) (ht8 : t < 8) (hown : s.vm.findClass own = some m.cls) (hcl : (Cond.classLink own index C).before args s = true) (hover : va_AO C s)
    (hK : va_K D vwCl (tysE cA) s) (hP : va_P D vwCl ws H) (hD : va_D A ws) (hS : va_S A H0 H locs) (hA : ∀ q, H0.size ≤ q → A q)
    {n : Int32} {N' : Nat} (hn : ¬ n < 0) (hN : n.toNatClampNeg = N') (hbytes : N' * 4 ≤ 536870912) (hcells : cells + 1 ≤ R.cells) (hslots : slots + N' ≤ R.slots) (hdg : decode cc pc = .ok (.anewarray index, 3))
    (kk : ∀ (q : Nat) (H1 : Heap), va_P D vwCl (ws ++ [(q, .inl (cA t, N', .inr (.inr (.inr (.inr (fun _ => none))))))]) H1 → va_D A (ws ++ [(q, .inl (cA t, N', .inr (.inr (.inr (.inr (fun _ => none))))))]) → va_S A H0 H1 locs →
      W p l e R s m args below meth c H1 locs (cells + 1) (slots + N') Q (F0 m (pc + 3) ls (.ref q :: rest))) : W p l e R s m args below meth c H locs cells slots Q (F0 m pc ls (.int n :: rest)) := by
  refine va_newq hx hb hown hcl hover hK hP hD hS hA hn hN hbytes hcells hslots hdg (fun q cB H1 hK1 hP1 hD1 hS1 => ?_)
  have h1 := (hK1.2 8 (cB, .object C) tysE_8).2
  have h2 := (hK.2 t (cA t, aTy.getD t .int) (tysE_at ht8)).2
  rw [ht] at h2
  obtain ⟨_, _, _, _, _, f1⟩ := h1
  obtain ⟨_, _, _, _, _, f2⟩ := h2
  have e1 : cB = cA t := Option.some.inj (f1.symm.trans f2)
  subst e1
  exact kk q H1 hP1 hD1 hS1
/-- the world that 'new int[N][M]' makes: the outer row, then the inner ones -/
def mulW (cA : Nat → ClassId) (N M : Nat) (q : Nat → Nat) : va_W := (q 0, .inl (cA 7, N, .inr (.inr (.inr (.inr fun i => some (q (1 + i))))))) :: (List.range N).map fun i => (q (1 + i), .inl (cA 0, M, .inl fun _ => Int32.ofInt 0))
theorem mulW_at {N M : Nat} {q : Nat → Nat} {k : Nat} {x : Nat × va_E} (h : (mulW cA N M q)[k]? = some x) : (k = 0 ∧ x = (q 0, .inl (cA 7, N, .inr (.inr (.inr (.inr fun i => some (q (1 + i)))))))) ∨ (∃ i, k = 1 + i ∧ i < N ∧ x = (q (1 + i), .inl (cA 0, M, .inl fun _ => Int32.ofInt 0))) := by
  unfold mulW at h
  cases k with
  | zero => rw [List.getElem?_cons_zero] at h; exact Or.inl ⟨rfl, (Option.some.inj h).symm⟩
  | succ k =>
    rw [List.getElem?_cons_succ, List.getElem?_map] at h
    by_cases hk : k < N
    · rw [List.getElem?_range hk] at h
      exact Or.inr ⟨k, by omega, hk, (Option.some.inj h).symm⟩
    · have hn0 : (List.range N)[k]? = none := List.getElem?_eq_none (by rw [List.length_range]; omega)
      rw [hn0] at h; cases h
theorem arrV_cg {c : ClassId} {N : Nat} {f g : Nat → Value} (h : ∀ j, j < N → f j = g j) : arrV c N f = arrV c N g := by
  have e : (fun j : Fin N => f j.val) = fun j => g j.val := funext fun j => h j.val j.isLt
  unfold arrV
  rw [e]
theorem out_step (cB : ClassId) (N h0 i : Nat) : Jvm.Free.Multi.outerC cB N h0 i = arrV cB N (fun j => if j < i then .ref (h0 + 1 + j) else .null) := by
  induction i with
  | zero =>
    refine (arrV_new cB N .null).trans (arrV_cg fun j _ => ?_)
    rw [if_neg (Nat.not_lt_zero j)]
  | succ i ih =>
    show (Jvm.Free.Multi.outerC cB N h0 i).setSlot i (.ref (h0 + 1 + i)) = _
    rw [ih, arrV_store]
    refine arrV_cg fun j _ => ?_
    unfold updV
    by_cases e : j = i
    · subst e; rw [if_pos rfl, if_pos (Nat.lt_succ_self j)]
    · by_cases h : j < i
      · rw [if_neg e]; dsimp only; rw [if_pos h, if_pos (by omega)]
      · rw [if_neg e]; dsimp only; rw [if_neg h, if_neg (by omega)]
theorem out_arr (cB : ClassId) (N h0 : Nat) : Jvm.Free.Multi.outerC cB N h0 N = vp_cell cB (N, .inr (.inr (.inr (.inr fun i => some (h0 + (1 + i)))))) := by
  rw [out_step, vp_cell_q]
  refine arrV_cg fun j hj => ?_
  rw [if_pos hj, Nat.add_assoc]; rfl
theorem m_multi (hx : p.tables.exec = Jvm.exec) (hb : c.code = cc) {own : String} {index : Nat} (hown : s.vm.findClass own = some m.cls) (hcl : (Cond.classLink own index ("[" ++ (FieldType.array FieldType.int).toString)).before args s = true) (hover : (Cond.arrayOver (.array .int)).before args s = true) (harr : (Cond.arrayClass .int).before args s = true)
    (hK : va_K D vwCl (tysE cA) s) (hP : va_P D vwCl ws H) (hD : va_D A ws) (hS : va_S A H0 H locs) (hA : ∀ q, H0.size ≤ q → A q)
    {n k : Int32} {N M : Nat} (hn : ¬ n < 0) (hk : ¬ k < 0) (hN : n.toNatClampNeg = N) (hM : k.toNatClampNeg = M) (hb1 : N * 4 ≤ 536870912) (hb2 : M * componentBytes .int ≤ 536870912) (hb3 : M ≤ 536870912) (hcells : cells + (1 + N) ≤ R.cells) (hslots : slots + (N + N * M) ≤ R.slots) (hdg : decode cc pc = .ok (.multianewarray index 2, 4))
    (kk : ∀ (q : Nat → Nat) (H1 : Heap), va_P D vwCl (ws ++ mulW cA N M q) H1 → va_D A (ws ++ mulW cA N M q) → va_S A H0 H1 locs →
      W p l e R s m args below meth c H1 locs (cells + 1 + N) (slots + N + N * M) Q (F0 m (pc + 4) ls (.ref (q 0) :: rest))) : W p l e R s m args below meth c H locs cells slots Q (F0 m pc ls (.int k :: .int n :: rest)) := by
  subst hN hM
  intro T hT X
  obtain ⟨vm₁, cB, comp, -, fA, fC, -, -, X', step⟩ := X.multianewarray2F hx hown hcl hover harr (g := F0 m pc ls (.int k :: .int n :: rest)) rfl (by rw [hb]; exact hdg) rfl hn hk hb1 hb2 hb3 rfl rfl hcells hslots
  have h2 : s.vm.findClass ("[" ++ (FieldType.array FieldType.int).toString) = some (cA 7) := (hK.2 7 (cA 7, .array .int) (tysE_at (by omega))).2
  have h3 : s.vm.findClass ("[" ++ FieldType.int.toString) = some (cA 0) := (hK.2 0 (cA 0, .int) (tysE_at (by omega))).2
  have e1 : cB = cA 7 := Option.some.inj (fA.symm.trans h2)
  have e2 : comp = cA 0 := Option.some.inj (fC.symm.trans h3)
  subst e1 e2
  generalize hNn : n.toNatClampNeg = N at *
  generalize hMm : k.toNatClampNeg = M at *
  have hTh : (T.setVm vm₁).heap = H := hT
  obtain ⟨f1, f2, -, -⟩ := Jvm.Free.Multi.fill_facts (T.setVm vm₁) (cA 7) (cA 0) N M (defaultValue .int) N
  have f3 := fun j hj => Jvm.Free.Multi.fill_inner (T.setVm vm₁) (cA 7) (cA 0) N M (defaultValue .int) N j hj
  have f4 := fun (x : Addr) hxx => Jvm.Free.Multi.fill_old (T.setVm vm₁) (cA 7) (cA 0) N M (defaultValue .int) (a := x) hxx N
  generalize hF : Jvm.Free.Multi.fill (T.setVm vm₁) (cA 7) (cA 0) N M (defaultValue .int) N = F at X' step f1 f2 f3 f4
  rw [hTh] at f1 f2 f3 f4
  rw [out_arr] at f2
  have new : ∀ (j : Nat) (x : Nat × va_E), (mulW cA N M (fun i => H.size + i))[j]? = some x → x.1 = H.size + j ∧ va_at D vwCl x F.heap := by
    intro j x hj
    rcases mulW_at hj with ⟨rfl, rfl⟩ | ⟨i, rfl, hi, rfl⟩
    · exact ⟨rfl, f2⟩
    · refine ⟨rfl, ?_⟩
      show F.heap[H.size + (1 + i)]? = some (vp_cell (cA 0) (M, .inl fun _ => Int32.ofInt 0))
      rw [← Nat.add_assoc, f3 i hi]
      show some ({ cls := cA 0, slots := Array.replicate M (.int 0), vm := .none } : Cell) = _
      rw [arrV_new]; rfl
  have hP1 : va_P D vwCl (ws ++ mulW cA N M (fun i => H.size + i)) F.heap := (hP.kept (fun j x hj => f4 x.1 ((hP j x hj).lt))).app (fun j x hj => (new j x hj).2)
  have hD1 : va_D A (ws ++ mulW cA N M (fun i => H.size + i)) := hD.app ⟨fun i j x y hi hj hxy => by have a1 := (new i x hi).1; have a2 := (new j y hj).1; omega, fun j x hj => hA _ (by rw [(new j x hj).1]; have := hS.1; omega)⟩ (fun i j x y hi hj hxy => by have a1 := (hP i x hi).lt; have a2 := (new j y hj).1; omega)
  obtain ⟨t, a1, b1⟩ := kk (fun i => H.size + i) F.heap hP1 hD1 ⟨by rw [f1]; have := hS.1; omega, fun x h1 h2 => (f4 x (Nat.lt_of_lt_of_le h1 hS.1)).trans (hS.2.1 x h1 h2), hS.2.2⟩ F rfl X'
  refine ⟨t, step t ?_, b1⟩
  rw [hT]
  exact a1
end Mk0
