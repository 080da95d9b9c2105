/-! MAKING THE FIRST WORLD: a row for new arrays whose class is one of the eight known ones. -/
theorem m_newa {p : Program} {l : Launch} {e : Env} {R : Room} {s : State} {m : MethodId} {args : Array Value} {below : List Frame} {meth : Method} {c : Code} {H H0 : Heap} {locs : List Loc} {cells slots : Nat} {Q : State → Prop} {pc : Nat} {ls : Array Slot} {rest : List Value} {D : va_G} {cA : Nat → ClassId} {A : Nat → Prop} {ws : va_W} {cc : ByteArray}
    (hx : p.tables.exec = Jvm.exec) (hb : c.code = cc) {atype : ArrayType} {t : Nat} (ht : t < 4) (hat : newarray.typeOf atype = aTy.getD t .int) (harr : (Cond.arrayClass (newarray.typeOf atype)).before args s = true)
    (hK : va_K D vwCl (tysE cA) s) (hP : va_P D vwCl ws H) (hD : va_D A ws) (hS : va_S A H0 H locs) (hA : ∀ q, H0.size ≤ q → A q)
    {n : Int32} {N' : Nat} {a0 : vp_A} (ha : ∀ cB : ClassId, vp_cell cB a0 = arrV cB N' (fun _ => defaultValue (aTy.getD t .int))) (hn : ¬ n < 0) (hN : n.toNatClampNeg = N') (hbytes : N' * componentBytes (aTy.getD t .int) ≤ 536870912) (hcells : cells + 1 ≤ R.cells) (hslots : slots + N' ≤ R.slots) (hdg : decode cc pc = .ok (.newarray atype, 2))
    (kk : ∀ (q : Nat) (H1 : Heap), va_P D vwCl (ws ++ [(q, .inl (cA t, a0))]) H1 → va_D A (ws ++ [(q, .inl (cA t, a0))]) → va_S A H0 H1 locs →
      W p l e R s m args below meth c H1 locs (cells + 1) (slots + N') Q (F0 m (pc + 2) ls (.ref q :: rest))) : W p l e R s m args below meth c H locs cells slots Q (F0 m pc ls (.int n :: rest)) := by
  refine va_newa hx hb harr hat hK hP hD hS hA ha hn hN hbytes hcells hslots hdg (fun q cB H1 hK1 hP1 hD1 hS1 => ?_)
  have h1 := (hK1.2 8 (cB, aTy.getD t .int) (by simp [tysE])).2
  have h2 := (hK.2 t (cA t, aTy.getD t .int) (by simp [tysE, show t < 8 by omega])).2
  have e1 : cB = cA t := by
    rcases (by omega : t = 0 ∨ t = 1 ∨ t = 2 ∨ t = 3) with rfl | rfl | rfl | rfl
    · have a1 : s.vm.findClass ("[" ++ FieldType.int.toString) = some cB := h1
      have a2 : s.vm.findClass ("[" ++ FieldType.int.toString) = some (cA 0) := h2
      exact Option.some.inj (a1.symm.trans a2)
    · have a1 : s.vm.findClass ("[" ++ FieldType.long.toString) = some cB := h1
      have a2 : s.vm.findClass ("[" ++ FieldType.long.toString) = some (cA 1) := h2
      exact Option.some.inj (a1.symm.trans a2)
    · have a1 : s.vm.findClass ("[" ++ FieldType.byte.toString) = some cB := h1
      have a2 : s.vm.findClass ("[" ++ FieldType.byte.toString) = some (cA 2) := h2
      exact Option.some.inj (a1.symm.trans a2)
    · have a1 : s.vm.findClass ("[" ++ FieldType.boolean.toString) = some cB := h1
      have a2 : s.vm.findClass ("[" ++ FieldType.boolean.toString) = some (cA 3) := h2
      exact Option.some.inj (a1.symm.trans a2)
  subst e1
  exact kk q H1 hP1 hD1 hS1
