/-! MAKING THE FIRST WORLD: contracts of constructors, and their rows. -/
def yI (c : Nat) : MethodName := ⟨cN c, "<init>", "()V"⟩
def byI (c : Nat) : ByteArray := ([cX0_init, cX1_init, cX2_init, cX3_init, cX4_init, cX5_init, cX6_init, cX7_init, cX8_init, cX9_init, cX10_init, cX11_init, cX12_init] : List ByteArray).getD c cX0_init
def niC (q : Nat × Nat × Nat) : Cond := .methodLinkNest (cN q.1) q.2.1 (yI q.2.2) "StringHands"
def gNI : List (Nat × Nat × Nat) := [(4, 21, 8), (11, 11, 4), (11, 18, 2), (11, 25, 0), (11, 32, 10), (11, 39, 9), (11, 46, 7), (11, 53, 5), (11, 60, 1), (11, 67, 8), (11, 74, 6), (11, 99, 3)]
/-- what the tables say beside the words -/
def NwO (U : State) : Prop := va_AO RX6 U ∧ va_AO RX3 U ∧ va_AO RX8 U ∧ (Cond.arrayOver (.array .int)).before #[] U = true ∧ ∀ q ∈ gNI, va_Nw (niC q) U
theorem NwO.warm {s U : State} (hW : s.WarmedH U.vm) (h : NwO s) : NwO U :=
  ⟨h.1.moved hW.alike, h.2.1.moved hW.alike, h.2.2.1.moved hW.alike, Jvm.Stand.arrayOver_alikeB hW.alike h.2.2.2.1, fun q hq => va_Nw.warmM hW (h.2.2.2.2 q hq)⟩
theorem NwO.blind {U : State} {g : JFrame} {mk : MethodId} {a : Array Value} (h : NwO U) : NwO (U.calling g mk a) :=
  ⟨h.1.moved (Vm.Alike.refl U.vm), h.2.1.moved (Vm.Alike.refl U.vm), h.2.2.1.moved (Vm.Alike.refl U.vm), Jvm.Stand.arrayOver_alikeB (Vm.Alike.refl U.vm) h.2.2.2.1, fun q hq => va_Nw.same rfl rfl (h.2.2.2.2 q hq)⟩
/-- an object's fields as they are born -/
def zF (c : Nat) : List Value := (List.range (clN c)).map fun k => defaultValue (clTy c k)
theorem zF_len (c : Nat) : (zF c).length = clN c := by simp [zF]
theorem zF_at {c k : Nat} (h : k < clN c) : defaultValue (clTy c k) = vp_V (zF c) k := by
  unfold vp_V zF
  simp [List.getD_eq_getElem?_getD, h]
abbrev wI (c nL : Nat) : List Cond := .code (yI c) (byI c) nL none :: TBg
def cPre (D : va_G) (cA : Nat → ClassId) (c h0 sz : Nat) (U : State) : Prop := U.heap.size = sz ∧ va_P D vwCl [(h0, .inr (c, zF c))] U.heap ∧ va_K D vwCl (tysE cA) U ∧ NwO U ∧ va_D (fun _ => True) [(h0, .inr (c, zF c))]
def cPost {S : Type} (D : va_G) (wd : Nat → S → va_W) (c h0 sz : Nat) (q : S) (t : State) : Prop := va_P D vwCl (wd h0 q) t.heap ∧ va_D (va_A [(h0, .inr (c, zF c))] sz) (wd h0 q)
def rI (d mc ms : Nat) : Room := { frames := d, cells := mc, slots := ms, locals := 64 * d }
/-- a constructor's contract -/
def MkI {S : Type} (l : Launch) (D : va_G) (cA : Nat → ClassId) (c nL d mc ms : Nat) (wd : Nat → S → va_W) : Prop := ∀ h0 sz : Nat, Met l (yI c) (wI c nL) (rI d mc ms) (va_Pc [.ref h0] (cPre D cA c h0 sz)) (va_Qv (fun _ : S => True) (cPost D wd c h0 sz) (va_A [(h0, .inr (c, zF c))] sz)) mc ms (va_A [(h0, .inr (c, zF c))] sz)
/-- what a constructor's body stands on -/
def Kc (D : va_G) (cA : Nat → ClassId) (A : Nat → Prop) (p : Program) (s : State) (m : MethodId) (args : Array Value) (meth : Method) (c1 : Code) (c nL : Nat) : Prop :=
  p.tables.exec = Jvm.exec ∧ c1.code = byI c ∧ c1.maxLocals = nL ∧ s.vm.findClass (cN c) = some m.cls ∧ (∀ w ∈ TBg, w.before args s = true) ∧ va_K D vwCl (tysE cA) s ∧ meth.name = "<init>" ∧ (∀ q : Nat, s.heap.size ≤ q → A q) ∧ c < 13 ∧ NwO s ∧ meth.sig.returnType = none ∧ meth.locks = false
theorem cN_pl : ∀ c, c < 13 → plainName (cN c) = true ∧ cN c ≠ "java/lang/invoke/MethodHandle" ∧ cN c ≠ "java/lang/invoke/VarHandle" := by decide +kernel
theorem pd_0 : (parseMethodDescriptor "()V").map (fun d => d.parameters.length) = some 0 := by decide +kernel
theorem one_at {h0 : Nat} {e : va_E} {k : Nat} {q : Nat × va_E} (h : ([(h0, e)] : va_W)[k]? = some q) : k = 0 ∧ q = (h0, e) := by
  have hz : k < 1 := (List.getElem?_eq_some_iff.mp h).1
  have h0 : k = 0 := by omega
  subst h0
  exact ⟨rfl, (Option.some.inj h).symm⟩
theorem one_D {h0 : Nat} {e : va_E} {A : Nat → Prop} (hA : A h0) : va_D A ([(h0, e)] : va_W) := ⟨fun i j x y hi hj _ => by rw [(one_at hi).1, (one_at hj).1], fun k q hk => by rw [(one_at hk).2]; exact hA⟩
theorem app_at {X Y : va_W} {x : Nat × va_E} : (X ++ x :: Y)[X.length]? = some x := by simp
theorem app_set {X Y : va_W} {x y : Nat × va_E} : (X ++ x :: Y).set X.length y = X ++ y :: Y := by simp
theorem app_at1 {X Y : va_W} {x z : Nat × va_E} : (z :: (X ++ x :: Y))[X.length + 1]? = some x := by simp
theorem app_set1 {X Y : va_W} {x y z : Nat × va_E} : (z :: (X ++ x :: Y)).set (X.length + 1) y = z :: (X ++ y :: Y) := by simp
section Mk1
variable {p : Program} {l : Launch} {e : Env} {R : Room} {s : State} {m : MethodId} {args : Array Value} {below : List Frame} {meth : Method} {c1 : Code} {H : Heap} {locs : List Loc} {cells slots : Nat} {Q : State → Prop} {pc : Nat} {ls : Array Slot} {D : va_G} {cA : Nat → ClassId} {A : Nat → Prop} {c nL h0 : Nat} {fs : List Value} {L : va_W} {S : Type} {wd : Nat → S → va_W}
theorem c_ent {d mc ms ix : Nat} (hc : c < 13) (hn : 1 ≤ nL) (hd : 1 ≤ d) (d0 : decode (byI c) 0 = .ok (.aload_n 0, 1)) (d1 : decode (byI c) 1 = .ok (.invokespecial ix, 3)) (w1 : Cond.methodLink (cN c) ix Lib.objectInit ∈ TBg) (w2 : Cond.instanceMethod Lib.objectInit ∈ TBg) (w3 : Cond.code Lib.objectInit ⟨#[0xb1]⟩ 1 none ∈ TBg)
    (body : ∀ (p : Program) (e : Env) (s : State) (m : MethodId) (args : Array Value) (below : List Frame) (meth : Method) (c1 : Code) (h0 : Nat) (ls : Array Slot), Kc D cA (va_A [(h0, .inr (c, zF c))] s.heap.size) p s m args meth c1 c nL → lv_has ls nL [(0, .ref h0)] → va_P D vwCl [(h0, .inr (c, zF c))] s.heap → va_D (va_A [(h0, .inr (c, zF c))] s.heap.size) [(h0, .inr (c, zF c))] → va_S (va_A [(h0, .inr (c, zF c))] s.heap.size) s.heap s.heap [] →
      W p l e (rI d mc ms) s m args below meth c1 s.heap [] 0 0 (MQ below (va_Qv (fun _ : S => True) (cPost D wd c h0 s.heap.size) (va_A [(h0, .inr (c, zF c))] s.heap.size)) args s mc ms (va_A [(h0, .inr (c, zF c))] s.heap.size)) (F0 m 4 ls [])) : MkI l D cA c nL d mc ms wd := by
  intro h0 sz
  refine Met.ofW (cc := byI c) (maxL := nL) (ret := none) (cN_pl c hc).1 rfl ?_
  intro p e s m args below meth c1 s₁ B hml hv
  obtain ⟨rfl, hsz, hP, hK, hN, hD0⟩ := hv
  subst hsz
  have hts := atoms_spec (ws := wI c nL) B.pre
  have hts' := fun w hw => hts w (List.mem_cons_of_mem _ hw)
  have hown : s.vm.findClass (cN c) = some m.cls := findClass_of_methodNamed B.named
  have hin : meth.name = "<init>" := (name_of_methodNamed B.named B.method).1
  have hl := lv_entry ([.ref h0]) (n := nL) (show (lg_sl [Value.ref h0]).length ≤ nL from hn)
  rw [lg_entry_eq]
  generalize (lg_sl ([.ref h0]) ++ List.replicate (nL - (lg_sl ([.ref h0])).length) Slot.unset).toArray = ls at hl ⊢
  have hl : lv_has ls nL [(0, .ref h0)] := hl
  refine lv_aload_n B.exec B.bytes d0 rfl (lv_at hl 0 rfl) ?_
  refine W.objInit B.exec B.bytes hown (hts' _ w1) (hts' _ w2) (hts' _ w3) rfl (by rw [hml]; exact hl.1) rfl d1 hd (by show 2 * 0 + 0 + 12 ≤ 64 * d; omega) ?_
  refine W.eq (g2 := F0 m 4 ls []) rfl ?_
  exact body p e s m _ below meth c1 h0 ls ⟨B.exec, B.bytes, hml, hown, hts', hK, hin, fun q hq => Or.inr hq, hc, hN, B.returns, B.notSynchronized⟩ hl hP hD0.self va_S.rf
theorem c_end {mc ms : Nat} {q : S} (C : Kc D cA A p s m args meth c1 c nL) (hP : va_P D vwCl (wd h0 q) H) (hD : va_D (va_A [(h0, .inr (c, zF c))] s.heap.size) (wd h0 q)) (hS : va_S A s.heap H locs) (h1 : cells ≤ mc) (h2 : slots ≤ ms) (hd : decode (byI c) pc = .ok (.return_, 1)) : W p l e R s m args below meth c1 H locs cells slots (MQ below (va_Qv (fun _ : S => True) (cPost D wd c h0 s.heap.size) A) args s mc ms A) (F0 m pc ls []) := by
  refine W.widen (k := mc) (n := ms) h1 h2 ?_
  exact W.vret C.1 C.2.1 C.2.2.2.2.2.2.2.2.2.2.1 (fun t ht hW => ⟨⟨q, rfl, trivial, by rw [ht]; exact hP, hD⟩, hS.F ht⟩) hS.2.2 hd C.2.2.2.2.2.2.2.2.2.2.2
/-- this.f = v, a field that is not final -/
theorem k_setI {i k : Nat} {v : Value} (C : Kc D cA A p s m args meth c1 c nL) (hP : va_P D vwCl ((h0, .inr (c, fs)) :: L) H) (hD : va_D A ((h0, .inr (c, fs)) :: L)) (hS : va_S A s.heap H locs) (d : decode (byI c) pc = .ok (.putfield i, 3)) (hk : k < clN c) (hw : fwC (c, i, c, k) ∈ TBg) (hfin : (clT c k).2.2.2 = false) (hty : narrow (clTy c k) v = v ∧ fits (clTy c k) v = true) (hlen : k < fs.length)
    (kk : ∀ (H1 : Heap) (locs1 : List Loc), va_P D vwCl ((h0, .inr (c, fs.set k v)) :: L) H1 → va_D A ((h0, .inr (c, fs.set k v)) :: L) → va_S A s.heap H1 locs1 → W p l e R s m args below meth c1 H1 locs1 cells slots Q (F0 m (pc + 3) ls [])) : W p l e R s m args below meth c1 H locs cells slots Q (F0 m pc ls [v, .ref h0]) := by
  obtain ⟨hx, hb, hml, hown, hts, hK, hin, hA, hc, hN, -, -⟩ := C
  refine va_put (own := cN c) hx hb hts (cl_ws c hc) (clTy c) (cl_ty c hc) (cl_nm c hc) hown hK hP hD hS 0 rfl (cl_at c hc) k hk (hts _ hw) (fun _ h => h) hfin (cl_ty c hc k hk) hty.1 hty.2 hlen d (fun H1 locs1 hP1 hD1 hS1 => ?_)
  exact kk H1 locs1 hP1 hD1 hS1
/-- this.f = v, a final field -/
theorem k_setF {i k : Nat} {v : Value} (C : Kc D cA A p s m args meth c1 c nL) (hP : va_P D vwCl ((h0, .inr (c, fs)) :: L) H) (hD : va_D A ((h0, .inr (c, fs)) :: L)) (hS : va_S A s.heap H locs) (d : decode (byI c) pc = .ok (.putfield i, 3)) (hk : k < clN c) (hw : fwC (c, i, c, k) ∈ TBg) (hfin : (clT c k).2.2.2 = true) (hdecl : (clT c k).1 = cN c) (hty : narrow (clTy c k) v = v ∧ fits (clTy c k) v = true) (hlen : k < fs.length)
    (kk : ∀ (H1 : Heap) (locs1 : List Loc), va_P D vwCl ((h0, .inr (c, fs.set k v)) :: L) H1 → va_D A ((h0, .inr (c, fs.set k v)) :: L) → va_S A s.heap H1 locs1 → W p l e R s m args below meth c1 H1 locs1 cells slots Q (F0 m (pc + 3) ls [])) : W p l e R s m args below meth c1 H locs cells slots Q (F0 m pc ls [v, .ref h0]) := by
  obtain ⟨hx, hb, hml, hown, hts, hK, hin, hA, hc, hN, -, -⟩ := C
  refine va_putF (own := cN c) hx hb hts (cl_ws c hc) (clTy c) (cl_ty c hc) (cl_nm c hc) hown hK hP hD hS 0 rfl (cl_at c hc) k hk (hts _ hw) (fun _ h => h) hfin hin hdecl (cl_ty c hc k hk) hty.1 hty.2 hlen d (fun H1 locs1 hP1 hD1 hS1 => ?_)
  exact kk H1 locs1 hP1 hD1 hS1
def zA (t N : Nat) : vp_A := (N, if t = 1 then .inr (.inl fun _ => Int64.ofInt 0) else .inl fun _ => Int32.ofInt 0)
theorem zA_ok {t N : Nat} (ht : t < 4) (cB : ClassId) : vp_cell cB (zA t N) = arrV cB N (fun _ => defaultValue (aTy.getD t .int)) := by
  rcases (by omega : t = 0 ∨ t = 1 ∨ t = 2 ∨ t = 3) with rfl | rfl | rfl | rfl <;> rfl
theorem aTyA {ty : FieldType} {q : Nat} (h : (∃ t, ty = .array t) ∨ ∃ C, ty = .object C) : narrow ty (.ref q) = .ref q ∧ fits ty (.ref q) = true := by
  rcases h with ⟨t, rfl⟩ | ⟨C, rfl⟩ <;> exact ⟨rfl, rfl⟩
/-- new T[n] -/
theorem k_newa {n : Int32} {at' : ArrayType} {t N : Nat} {rest : List Value} {ws : va_W} (C : Kc D cA A p s m args meth c1 c nL) (hP : va_P D vwCl ws H) (hD : va_D A ws) (hS : va_S A s.heap H locs) (d : decode (byI c) pc = .ok (.newarray at', 2)) (ht : t < 4) (hat : newarray.typeOf at' = aTy.getD t .int) (hw : Cond.arrayClass (newarray.typeOf at') ∈ TBg) (hn : ¬ n < 0) (hN : n.toNatClampNeg = N) (hN2 : N ≤ 60000) (hcells : cells + 1 ≤ R.cells) (hslots : slots + N ≤ R.slots)
    (kk : ∀ (q : Nat) (H1 : Heap), va_P D vwCl (ws ++ [(q, .inl (cA t, zA t N))]) H1 → va_D A (ws ++ [(q, .inl (cA t, zA t N))]) → va_S A s.heap H1 locs → W p l e R s m args below meth c1 H1 locs (cells + 1) (slots + N) Q (F0 m (pc + 2) ls (.ref q :: rest))) : W p l e R s m args below meth c1 H locs cells slots Q (F0 m pc ls (.int n :: rest)) := by
  obtain ⟨hx, hb, hml, hown, hts, hK, hin, hA, hc, hN', -, -⟩ := C
  have hby : componentBytes (aTy.getD t .int) ≤ 8 := by
    rcases (by omega : t = 0 ∨ t = 1 ∨ t = 2 ∨ t = 3) with rfl | rfl | rfl | rfl <;> decide
  exact m_newa hx hb ht hat (hts _ hw) hK hP hD hS hA (zA_ok ht) hn hN (Nat.le_trans (Nat.mul_le_mul hN2 hby) (Nat.le_of_ble_eq_true rfl)) hcells hslots d kk
/-- this.f = new T[n] -/
theorem k_arr {n : Int32} {at' : ArrayType} {t N i k lp : Nat} (C : Kc D cA A p s m args meth c1 c nL) (hl0 : ls[0]? = some (.val (.ref h0))) (hP : va_P D vwCl ((h0, .inr (c, fs)) :: L) H) (hD : va_D A ((h0, .inr (c, fs)) :: L)) (hS : va_S A s.heap H locs)
    (d0 : decode (byI c) pc = .ok (.aload_n 0, 1)) (hpush : W p l e R s m args below meth c1 H locs cells slots Q (F0 m (pc + 1 + lp) ls [.int n, .ref h0]) → W p l e R s m args below meth c1 H locs cells slots Q (F0 m (pc + 1) ls [.ref h0])) (d2 : decode (byI c) (pc + 1 + lp) = .ok (.newarray at', 2)) (d3 : decode (byI c) (pc + 1 + lp + 2) = .ok (.putfield i, 3))
    (ht : t < 4) (hat : newarray.typeOf at' = aTy.getD t .int) (hw1 : Cond.arrayClass (newarray.typeOf at') ∈ TBg) (hn : ¬ n < 0) (hN : n.toNatClampNeg = N) (hN2 : N ≤ 60000) (hcells : cells + 1 ≤ R.cells) (hslots : slots + N ≤ R.slots)
    (hk : k < clN c) (hw : fwC (c, i, c, k) ∈ TBg) (hfin : (clT c k).2.2.2 = true) (hdecl : (clT c k).1 = cN c) (hty : (∃ t, clTy c k = .array t) ∨ ∃ C, clTy c k = .object C) (hlen : k < fs.length)
    (kk : ∀ (q : Nat) (H1 : Heap) (locs1 : List Loc), va_P D vwCl ((h0, .inr (c, fs.set k (.ref q))) :: (L ++ [(q, .inl (cA t, zA t N))])) H1 → va_D A ((h0, .inr (c, fs.set k (.ref q))) :: (L ++ [(q, .inl (cA t, zA t N))])) → va_S A s.heap H1 locs1 → W p l e R s m args below meth c1 H1 locs1 (cells + 1) (slots + N) Q (F0 m (pc + 1 + lp + 2 + 3) ls [])) : W p l e R s m args below meth c1 H locs cells slots Q (F0 m pc ls []) := by
  refine lv_aload_n C.1 C.2.1 d0 rfl hl0 ?_
  refine hpush ?_
  refine k_newa C hP hD hS d2 ht hat hw1 hn hN hN2 hcells hslots (fun q H1 hP1 hD1 hS1 => ?_)
  exact k_setF C hP1 hD1 hS1 d3 hk hw hfin hdecl (aTyA hty) hlen (fun H2 locs2 hP2 hD2 hS2 => kk q H2 locs2 hP2 hD2 hS2)
/-- this.f = new C[n] -/
theorem k_arq {n : Int32} {t N i i2 k lp : Nat} {Cn : String} (C : Kc D cA A p s m args meth c1 c nL) (hl0 : ls[0]? = some (.val (.ref h0))) (hP : va_P D vwCl ((h0, .inr (c, fs)) :: L) H) (hD : va_D A ((h0, .inr (c, fs)) :: L)) (hS : va_S A s.heap H locs)
    (d0 : decode (byI c) pc = .ok (.aload_n 0, 1)) (hpush : W p l e R s m args below meth c1 H locs cells slots Q (F0 m (pc + 1 + lp) ls [.int n, .ref h0]) → W p l e R s m args below meth c1 H locs cells slots Q (F0 m (pc + 1) ls [.ref h0])) (d2 : decode (byI c) (pc + 1 + lp) = .ok (.anewarray i2, 3)) (d3 : decode (byI c) (pc + 1 + lp + 3) = .ok (.putfield i, 3))
    (ht : aTy.getD t .int = .object Cn) (ht8 : t < 8) (hw1 : Cond.classLink (cN c) i2 Cn ∈ TBg) (hov : va_AO Cn s) (hn : ¬ n < 0) (hN : n.toNatClampNeg = N) (hN2 : N * 4 ≤ 536870912) (hcells : cells + 1 ≤ R.cells) (hslots : slots + N ≤ R.slots)
    (hk : k < clN c) (hw : fwC (c, i, c, k) ∈ TBg) (hfin : (clT c k).2.2.2 = true) (hdecl : (clT c k).1 = cN c) (hty : (∃ t, clTy c k = .array t) ∨ ∃ C, clTy c k = .object C) (hlen : k < fs.length)
    (kk : ∀ (q : Nat) (H1 : Heap) (locs1 : List Loc), va_P D vwCl ((h0, .inr (c, fs.set k (.ref q))) :: (L ++ [(q, .inl (cA t, N, .inr (.inr (.inr (.inr (fun _ => none))))))])) H1 → va_D A ((h0, .inr (c, fs.set k (.ref q))) :: (L ++ [(q, .inl (cA t, N, .inr (.inr (.inr (.inr (fun _ => none))))))])) → va_S A s.heap H1 locs1 → W p l e R s m args below meth c1 H1 locs1 (cells + 1) (slots + N) Q (F0 m (pc + 1 + lp + 3 + 3) ls [])) : W p l e R s m args below meth c1 H locs cells slots Q (F0 m pc ls []) := by
  refine lv_aload_n C.1 C.2.1 d0 rfl hl0 ?_
  refine hpush ?_
  refine m_newq C.1 C.2.1 ht ht8 C.2.2.2.1 (C.2.2.2.2.1 _ hw1) hov C.2.2.2.2.2.1 hP hD hS C.2.2.2.2.2.2.2.1 hn hN hN2 hcells hslots d2 (fun q H1 hP1 hD1 hS1 => ?_)
  exact k_setF C hP1 hD1 hS1 d3 hk hw hfin hdecl (aTyA hty) hlen (fun H2 locs2 hP2 hD2 hS2 => kk q H2 locs2 hP2 hD2 hS2)
/-- a[i] = v in the row that came last -/
theorem k_ia {i v : Int32} {n q N : Nat} {f : Nat → Int32} {rest : List Value} {ws : va_W} (C : Kc D cA A p s m args meth c1 c nL) (hP : va_P D vwCl (ws ++ [(q, .inl (cA 0, N, .inl f))]) H) (hD : va_D A (ws ++ [(q, .inl (cA 0, N, .inl f))])) (hS : va_S A s.heap H locs) (hi : i.toNatClampNeg = n) (hin : ¬ (i < 0 ∨ N ≤ i.toNatClampNeg)) (d : decode (byI c) pc = .ok (.iastore, 1))
    (kk : ∀ (H1 : Heap) (locs1 : List Loc), va_P D vwCl (ws ++ [(q, .inl (cA 0, N, .inl (upd f n v)))]) H1 → va_D A (ws ++ [(q, .inl (cA 0, N, .inl (upd f n v)))]) → va_S A s.heap H1 locs1 → W p l e R s m args below meth c1 H1 locs1 cells slots Q (F0 m (pc + 1) ls rest)) : W p l e R s m args below meth c1 H locs cells slots Q (F0 m pc ls (.int v :: .int i :: .ref q :: rest)) := by
  subst hi
  refine va_iast C.1 C.2.1 C.2.2.2.2.2.1 hP hD hS ws.length 0 app_at (tysE_at (by decide)) hin d (fun H1 locs1 hP1 hD1 hS1 => ?_)
  rw [app_set] at hP1 hD1
  exact kk H1 locs1 hP1 hD1 hS1
/-- new C() -/
theorem k_new {j nLj dj mcj msj i1 i2 : Nat} {wj : Nat → S → va_W} {rest : List Value} {ws : va_W} (C : Kc D cA A p s m args meth c1 c nL) (hj : j < 13) (M : MkI l D cA j nLj dj mcj msj wj) (hls : ls.size = nL) (hP : va_P D vwCl ws H) (hD : va_D A ws) (hS : va_S A s.heap H locs)
    (d1 : decode (byI c) pc = .ok (.new i1, 3)) (d2 : decode (byI c) (pc + 3) = .ok (.dup, 1)) (d3 : decode (byI c) (pc + 4) = .ok (.invokespecial i2, 3))
    (w1 : Cond.classLink (cN c) i1 (clC j) ∈ TBg) (w2 : Cond.instantiable (clC j) (clN j) ∈ TBg) (w3 : Cond.initialized (cN j) ∈ TBg) (w4 : (c, i2, j) ∈ gNI) (w5 : Cond.instanceMethod (yI j) ∈ TBg) (w6 : Cond.code (yI j) (byI j) nLj none ∈ TBg)
    (hcells : cells + 1 + mcj ≤ R.cells) (hslots : slots + clN j + msj ≤ R.slots) (hfr : dj + 1 ≤ R.frames) (hlo : 8 + (nLj + 11) + 64 * dj ≤ R.locals) (hrest : ∀ qa : Nat, ((Value.ref qa :: rest).map fun v => v.category).sum ≤ 8)
    (kk : ∀ (qa : Nat) (q : S) (H1 : Heap) (locs1 : List Loc), va_P D vwCl (ws ++ wj qa q) H1 → va_D A (ws ++ wj qa q) → va_S A s.heap H1 locs1 → W p l e R s m args below meth c1 H1 locs1 (cells + 1 + mcj) (slots + clN j + msj) Q (F0 m (pc + 7) ls (.ref qa :: rest))) : W p l e R s m args below meth c1 H locs cells slots Q (F0 m pc ls rest) := by
  obtain ⟨hx, hb, hml, hown, hts, hK, hin, hA, hc, hN, -, -⟩ := C
  have ec := clC_cN j hj
  refine va_new (ci := j) (fs := zF j) hx hb hts (cl_ws j hj) (clTy j) (cl_ty j hj) hown (hts _ w1) (hts _ w2) (by rw [ec]; exact hts _ w3) hK hP hD hS hA (cl_at j hj) (fun k hk => zF_at hk) (by omega) (by omega) d1 (fun qa H1 hP1 hD1 hS1 => ?_)
  refine lv_dup hx hb d2 rfl ?_
  have hat : (ws ++ [(qa, .inr (j, zF j))])[ws.length]? = some (qa, .inr (j, zF j)) := app_at
  have hPc : va_P D vwCl [(qa, .inr (j, zF j))] H1 := fun k x hk => by rw [(one_at hk).2]; exact hP1 _ _ hat
  have hFc : ∀ x : Nat, va_A [(qa, .inr (j, zF j))] H1.size x → A x := by
    intro x hxx
    rcases hxx with ⟨k, e, hk⟩ | hxx
    · have := (one_at hk).2
      have e2 : x = qa := congrArg Prod.fst this
      rw [e2]; exact hD1.2 _ _ hat
    · exact hA x (Nat.le_trans hS1.1 hxx)
  refine va_callv (va_runIN (As := []) (rest := .ref qa :: rest) (host := "StringHands") ⟨hx, hb, hml, hown, hts⟩ (M qa H1.size) ⟨va_cnB 0 hts (good_in fun w hw => (List.mem_cons.mp hw).elim (fun q => q ▸ w6) id) rfl rfl rfl (hN.2.2.2.2 _ w4) (hts _ w3) ⟨(cN_pl j hj).2.1, (cN_pl j hj).2.2, pd_0⟩ ⟨hfr, hlo⟩, rfl, hts _ w5⟩ ⟨fun a U g mk q => by obtain ⟨q0, q1, qP, qK, qN, qD⟩ := q; exact ⟨q0, q1, qP, va_K.moved (u := U) (U := U.calling g mk a) (Vm.Alike.refl U.vm) qK, qN.blind, qD⟩, fun U hU hW => ⟨rfl, by rw [hU], by rw [hU]; exact hPc, va_K.moved hW.alike hK, hN.warm hW, one_D trivial⟩⟩ rfl rfl hls rfl (lv_room (hrest qa)) d3 ⟨hcells, hslots⟩) hS1 (fun q _ h => hFc q h) hFc (fun u t H2 locs2 ht hvm _ hB hz1 hk1 hS2 => ?_)
  obtain ⟨hP2, hD2⟩ := hB
  rw [ht] at hP2
  have apart : ∀ (k : Nat) (x : Nat × va_E), ws[k]? = some x → x.1 < H1.size ∧ ¬ va_A [(qa, .inr (j, zF j))] H1.size x.1 := by
    intro k x hk
    have hkl : k < ws.length := (List.getElem?_eq_some_iff.mp hk).1
    have hk1 : (ws ++ [(qa, .inr (j, zF j))])[k]? = some x := by rw [List.getElem?_append_left hkl]; exact hk
    have hlt := (hP1 k x hk1).lt
    refine ⟨hlt, fun hxx => ?_⟩
    rcases hxx with ⟨k2, e, hk2⟩ | hxx
    · have e2 : x.1 = qa := congrArg Prod.fst (one_at hk2).2
      have := hD1.1 k ws.length x _ hk1 hat e2
      omega
    · omega
  refine kk qa u H2 locs2 (va_P.app (fun k x hk => ?_) hP2) (va_D.app hD (hD2.weaken fun _ _ _ h => hFc _ h) (fun i k x y hi hk hxy => (apart i x hi).2 (by rw [hxy]; exact hD2.2 k y hk))) hS2
  obtain ⟨g1, g2⟩ := apart k x hk
  have hkl : k < ws.length := (List.getElem?_eq_some_iff.mp hk).1
  exact (hP1 k x (by rw [List.getElem?_append_left hkl]; exact hk)).kept (hk1 x.1 g1 g2)
/-- this.f = new C() -/
theorem k_obj {j nLj dj mcj msj i1 i2 i3 k : Nat} {wj : Nat → S → va_W} (C : Kc D cA A p s m args meth c1 c nL) (hj : j < 13) (M : MkI l D cA j nLj dj mcj msj wj) (hl0 : ls[0]? = some (.val (.ref h0))) (hls : ls.size = nL) (hP : va_P D vwCl ((h0, .inr (c, fs)) :: L) H) (hD : va_D A ((h0, .inr (c, fs)) :: L)) (hS : va_S A s.heap H locs)
    (d0 : decode (byI c) pc = .ok (.aload_n 0, 1)) (d1 : decode (byI c) (pc + 1) = .ok (.new i1, 3)) (d2 : decode (byI c) (pc + 1 + 3) = .ok (.dup, 1)) (d3 : decode (byI c) (pc + 1 + 4) = .ok (.invokespecial i2, 3)) (d4 : decode (byI c) (pc + 1 + 7) = .ok (.putfield i3, 3))
    (w1 : Cond.classLink (cN c) i1 (clC j) ∈ TBg) (w2 : Cond.instantiable (clC j) (clN j) ∈ TBg) (w3 : Cond.initialized (cN j) ∈ TBg) (w4 : (c, i2, j) ∈ gNI) (w5 : Cond.instanceMethod (yI j) ∈ TBg) (w6 : Cond.code (yI j) (byI j) nLj none ∈ TBg)
    (hcells : cells + 1 + mcj ≤ R.cells) (hslots : slots + clN j + msj ≤ R.slots) (hfr : dj + 1 ≤ R.frames) (hlo : 8 + (nLj + 11) + 64 * dj ≤ R.locals)
    (hk : k < clN c) (hw : fwC (c, i3, c, k) ∈ TBg) (hfin : (clT c k).2.2.2 = true) (hdecl : (clT c k).1 = cN c) (hty : (∃ t, clTy c k = .array t) ∨ ∃ C, clTy c k = .object C) (hlen : k < fs.length)
    (kk : ∀ (qa : Nat) (q : S) (H1 : Heap) (locs1 : List Loc), va_P D vwCl ((h0, .inr (c, fs.set k (.ref qa))) :: (L ++ wj qa q)) H1 → va_D A ((h0, .inr (c, fs.set k (.ref qa))) :: (L ++ wj qa q)) → va_S A s.heap H1 locs1 → W p l e R s m args below meth c1 H1 locs1 (cells + 1 + mcj) (slots + clN j + msj) Q (F0 m (pc + 1 + 7 + 3) ls [])) : W p l e R s m args below meth c1 H locs cells slots Q (F0 m pc ls []) := by
  refine lv_aload_n C.1 C.2.1 d0 rfl hl0 ?_
  refine k_new C hj M hls hP hD hS d1 d2 d3 w1 w2 w3 w4 w5 w6 hcells hslots hfr hlo (fun _ => Nat.le_of_ble_eq_true rfl) (fun qa q H1 locs1 hP1 hD1 hS1 => ?_)
  exact k_setF C hP1 hD1 hS1 d4 hk hw hfin hdecl (aTyA hty) hlen (fun H2 locs2 hP2 hD2 hS2 => kk qa q H2 locs2 hP2 hD2 hS2)
/-- this.f[i] = new C() -/
theorem k_putO {j nLj dj mcj msj i1 i2 i3 k a t N n : Nat} {i : Int32} {f : Nat → Option Nat} {X Y : va_W} {wj : Nat → S → va_W} (C : Kc D cA A p s m args meth c1 c nL) (hj : j < 13) (M : MkI l D cA j nLj dj mcj msj wj) (hwj : ∀ (qa : Nat) (q : S), ∃ (vs : List Value) (tl : va_W), wj qa q = (qa, .inr (j, vs)) :: tl) (hl0 : ls[0]? = some (.val (.ref h0))) (hl1 : ls[1]? = some (.val (.int i))) (hls : ls.size = nL)
    (hP : va_P D vwCl ((h0, .inr (c, fs)) :: (X ++ (a, .inl (cA t, N, .inr (.inr (.inr (.inr f))))) :: Y)) H) (hD : va_D A ((h0, .inr (c, fs)) :: (X ++ (a, .inl (cA t, N, .inr (.inr (.inr (.inr f))))) :: Y))) (hS : va_S A s.heap H locs)
    (d0 : decode (byI c) pc = .ok (.aload_n 0, 1)) (d4 : decode (byI c) (pc + 1) = .ok (.getfield i3, 3)) (d5 : decode (byI c) (pc + 1 + 3) = .ok (.iload_n 1, 1)) (d1 : decode (byI c) (pc + 1 + 3 + 1) = .ok (.new i1, 3)) (d2 : decode (byI c) (pc + 1 + 3 + 1 + 3) = .ok (.dup, 1)) (d3 : decode (byI c) (pc + 1 + 3 + 1 + 4) = .ok (.invokespecial i2, 3)) (d6 : decode (byI c) (pc + 1 + 3 + 1 + 7) = .ok (.aastore, 1))
    (w1 : Cond.classLink (cN c) i1 (clC j) ∈ TBg) (w2 : Cond.instantiable (clC j) (clN j) ∈ TBg) (w3 : Cond.initialized (cN j) ∈ TBg) (w4 : (c, i2, j) ∈ gNI) (w5 : Cond.instanceMethod (yI j) ∈ TBg) (w6 : Cond.code (yI j) (byI j) nLj none ∈ TBg)
    (hcells : cells + 1 + mcj ≤ R.cells) (hslots : slots + clN j + msj ≤ R.slots) (hfr : dj + 1 ≤ R.frames) (hlo : 8 + (nLj + 11) + 64 * dj ≤ R.locals)
    (hk : k < clN c) (hw : fwC (c, i3, c, k) ∈ TBg) (hv : fs[k]? = some (.ref a)) (ht : aTy.getD t .int = .object (clC j)) (ht8 : t < 8) (hi : i.toNatClampNeg = n) (hin : ¬ (i < 0 ∨ N ≤ i.toNatClampNeg))
    (kk : ∀ (qa : Nat) (q : S) (H1 : Heap) (locs1 : List Loc), va_P D vwCl ((h0, .inr (c, fs)) :: (X ++ (a, .inl (cA t, N, .inr (.inr (.inr (.inr (va_up f n (some qa))))))) :: (Y ++ wj qa q))) H1 → va_D A ((h0, .inr (c, fs)) :: (X ++ (a, .inl (cA t, N, .inr (.inr (.inr (.inr (va_up f n (some qa))))))) :: (Y ++ wj qa q))) → va_S A s.heap H1 locs1 → W p l e R s m args below meth c1 H1 locs1 (cells + 1 + mcj) (slots + clN j + msj) Q (F0 m (pc + 1 + 3 + 1 + 7 + 1) ls [])) : W p l e R s m args below meth c1 H locs cells slots Q (F0 m pc ls []) := by
  subst hi
  obtain ⟨hx, hb, hml, hown, hts, hK, hin2, hA, hc, hN, -, -⟩ := id C
  refine lv_aload_n hx hb d0 rfl hl0 ?_
  refine va_get (own := cN c) hx hb hts (cl_ws c hc) hown hK hP 0 rfl (cl_at c hc) k hk (hts _ hw) (fun _ h => h) hv d4 ?_
  refine lv_iload_n hx hb d5 rfl hl1 ?_
  refine k_new C hj M hls hP hD hS d1 d2 d3 w1 w2 w3 w4 w5 w6 hcells hslots hfr hlo (fun _ => Nat.le_of_ble_eq_true rfl) (fun qa q H1 locs1 hP1 hD1 hS1 => ?_)
  obtain ⟨vs, tl, ew⟩ := hwj qa q
  have e1 : ∀ f' : Nat → Option Nat, ((h0, .inr (c, fs)) :: (X ++ (a, .inl (cA t, N, .inr (.inr (.inr (.inr f'))))) :: Y)) ++ wj qa q = ((h0, .inr (c, fs)) :: (X ++ (a, .inl (cA t, N, .inr (.inr (.inr (.inr f'))))) :: (Y ++ wj qa q)) : va_W) := fun f' => by simp
  have hat : (((h0, .inr (c, fs)) :: (X ++ (a, .inl (cA t, N, .inr (.inr (.inr (.inr f))))) :: Y)) ++ wj qa q : va_W)[((h0, .inr (c, fs)) :: (X ++ (a, .inl (cA t, N, .inr (.inr (.inr (.inr f))))) :: Y) : va_W).length]? = some (qa, .inr (j, vs)) := by rw [ew]; exact app_at
  rw [e1] at hat
  rw [e1] at hP1 hD1
  refine va_astq hx hb hK hP1 hD1 hS1 (X.length + 1) t _ j app_at1 (by rw [tysE_at ht8, ht]) hat (cl_at j hj) hin d6 (fun H2 locs2 hP2 hD2 hS2 => ?_)
  rw [app_set1] at hP2 hD2
  exact kk qa q H2 locs2 hP2 hD2 hS2
end Mk1
