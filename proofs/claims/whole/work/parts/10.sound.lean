/-! THE SMALLER MACHINE IS THE MACHINE: the cells; one step. -/
def fldE (adr : Nat → Nat) (w : aW) (k c : Nat) : List Value := (List.range (clN c)).map (fun f => if fty c f = 1 then .long (Int64.ofInt (w k (f : Int))) else if fty c f = 2 then .ref (adr (rfA k f)) else .int (Int32.ofInt (w k (f : Int))))
def arrE (adr : Nat → Nat) (w : aW) (k t : Nat) : (Nat → Int32) ⊕ (Nat → Int64) ⊕ (Nat → UInt32) ⊕ (Nat → UInt64) ⊕ (Nat → Option Nat) := if t = 1 then .inr (.inl fun i => Int64.ofInt (w k (i : Int))) else if t < 4 then .inl fun i => Int32.ofInt (w k (i : Int)) else .inr (.inr (.inr (.inr fun i => some (adr (rAt w k (i : Int))))))
def celE (adr : Nat → Nat) (cA : Nat → ClassId) (w : aW) (k : Nat) : va_E := if (lay k).1 < 100 then .inr ((lay k).1, fldE adr w k (lay k).1) else .inl (cA ((lay k).1 - 100), (lay k).2, arrE adr w k ((lay k).1 - 100))
def wsE (adr : Nat → Nat) (cA : Nat → ClassId) (w : aW) : va_W := (List.range 191).map fun k => (adr k, celE adr cA w k)
def aTy : List FieldType := [.int, .long, .byte, .boolean, .object RX6, .object RX3, .object RX8, .array .int]
def tysE (cA : Nat → ClassId) : List (ClassId × FieldType) := (List.range 8).map fun t => (cA t, aTy.getD t .int)
theorem wsE_at {adr : Nat → Nat} {cA : Nat → ClassId} {w : aW} {k : Nat} (h : k < 191) : (wsE adr cA w)[k]? = some (adr k, celE adr cA w k) := by simp [wsE, h]
theorem wsE_of {adr : Nat → Nat} {cA : Nat → ClassId} {w : aW} {k : Nat} {q : Nat × va_E} (h : (wsE adr cA w)[k]? = some q) : k < 191 ∧ q = (adr k, celE adr cA w k) := by
  have hk : k < 191 := by
    have := (List.getElem?_eq_some_iff.mp h).1
    simpa [wsE] using this
  rw [wsE_at hk] at h
  exact ⟨hk, (Option.some.inj h).symm⟩
theorem tysE_at {cA : Nat → ClassId} {t : Nat} (h : t < 8) : (tysE cA)[t]? = some (cA t, aTy.getD t .int) := by simp [tysE, h]
theorem lay_lt {k : Nat} (h : (lay k).1 ≠ 99) : k < 191 := by
  rcases Nat.lt_or_ge k 191 with q | q
  · exact q
  · exfalso
    apply h
    have hl : gLay.length = 191 := by decide +kernel
    simp [lay, List.getD_eq_getElem?_getD, List.getElem?_eq_none (show gLay.length ≤ k by rw [hl]; exact q)]
theorem lay_cl : ∀ k, k < 191 → (lay k).1 < 13 ∨ (100 ≤ (lay k).1 ∧ (lay k).1 < 108 ∧ (lay k).2 < 65536) := by decide +kernel
theorem cl_at : ∀ c, c < 13 → vwCl[c]? = some (clC c, clT c, clN c) := fun c h => match c, h with
  | 0, _ => rfl
  | 1, _ => rfl
  | 2, _ => rfl
  | 3, _ => rfl
  | 4, _ => rfl
  | 5, _ => rfl
  | 6, _ => rfl
  | 7, _ => rfl
  | 8, _ => rfl
  | 9, _ => rfl
  | 10, _ => rfl
  | 11, _ => rfl
  | 12, _ => rfl
  | j + 13, h => absurd h (by omega)
def clTy (c : Nat) : Nat → FieldType := ([tyX0, tyX1, tyX2, tyX3, tyX4, tyX5, tyX6, tyX7, tyX8, tyX9, tyX10, tyX11, tyX12] : List (Nat → FieldType)).getD c tyX0
theorem cl_ty : ∀ c, c < 13 → ∀ k, k < clN c → parseFieldDescriptor (clT c k).2.2.1 = some (clTy c k) := fun c h => match c, h with
  | 0, _ => tyX0_ok
  | 1, _ => tyX1_ok
  | 2, _ => tyX2_ok
  | 3, _ => tyX3_ok
  | 4, _ => tyX4_ok
  | 5, _ => tyX5_ok
  | 6, _ => tyX6_ok
  | 7, _ => tyX7_ok
  | 8, _ => tyX8_ok
  | 9, _ => tyX9_ok
  | 10, _ => tyX10_ok
  | 11, _ => tyX11_ok
  | 12, _ => tyX12_ok
  | j + 13, h => absurd h (by omega)
theorem cl_nm : ∀ c, c < 13 → ∀ a, a < clN c → ∀ b, b < clN c → a ≠ b → (clT c a).2.1 ≠ (clT c b).2.1 := fun c h => match c, h with
  | 0, _ => nmX0
  | 1, _ => nmX1
  | 2, _ => nmX2
  | 3, _ => nmX3
  | 4, _ => nmX4
  | 5, _ => nmX5
  | 6, _ => nmX6
  | 7, _ => nmX7
  | 8, _ => nmX8
  | 9, _ => nmX9
  | 10, _ => nmX10
  | 11, _ => nmX11
  | 12, _ => nmX12
  | j + 13, h => absurd h (by omega)
theorem cl_ft : ∀ c, c < 13 → (gFt.getD c []).length = clN c := by decide +kernel
theorem fty_lt {c f : Nat} (hc : c < 13) (h : fty c f < 9) : f < clN c := by
  rw [← cl_ft c hc]
  rcases Nat.lt_or_ge f (gFt.getD c []).length with q | q
  · exact q
  · simp [fty, List.getD_eq_getElem?_getD, List.getElem?_eq_none (show (gFt[c]?.getD []).length ≤ f by simpa [List.getD_eq_getElem?_getD] using q)] at h
theorem fty_d : ∀ c, c < 13 → ∀ f, f < clN c → (clT c f).2.2.2 = false ∨ fty c f = 2 := by decide +kernel
theorem fty_I : ∀ c, c < 13 → ∀ f, f < clN c → (fty c f = 0 → clTy c f = .int) ∧ (fty c f = 1 → clTy c f = .long) ∧ (fty c f = 3 → clTy c f = .boolean) := by decide +kernel
/-- the words TBg -/
def TBg : List Cond := lw_tbl.filter goodWord
theorem TBg_in {ws : List Cond} (h : GoodIn lw_tbl ws) (hg : ws.all goodWord = true) : ∀ w ∈ ws, w ∈ TBg := fun w hw => List.mem_filter.mpr ⟨(h w hw).1, List.all_eq_true.mp hg w hw⟩
theorem good_in {ws : List Cond} (h : ∀ w ∈ ws, w ∈ TBg) : GoodIn TBg ws := fun w hw => ⟨h w hw, good_of_word (List.mem_filter.mp (h w hw)).2⟩
def isL (k : Nat) (i : Int) : Bool := (lay k).1 == 101 || (decide ((lay k).1 < 100) && decide (0 ≤ i) && (fty (lay k).1 i.toNat == 1))
def okW (w : aW) : Prop := ∀ k i, if isL k i then R64 (w k i) else R32 (w k i)
def Scr (L : Nat) (xs : Nat → Int32) (w : aW) : Prop := L ≤ 3072 ∧ w 999 (-1) = (L : Int) ∧ ∀ j : Nat, j < L → w 999 (j : Int) = (xs j).toInt
theorem Scr.up {L : Nat} {xs : Nat → Int32} {w : aW} {k : Nat} {i x : Int} (h : Scr L xs w) (hk : k < 191) : Scr L xs (iup w k i x) := by
  obtain ⟨h0, h1, h2⟩ := h
  have e : ∀ j, iup w k i x 999 j = w 999 j := fun j => by unfold iup; rw [if_neg (fun q => by omega)]
  exact ⟨h0, by rw [e]; exact h1, fun j hj => by rw [e]; exact h2 j hj⟩
theorem okW.up {w : aW} {k : Nat} {i x : Int} (h : okW w) (hx : if isL k i then R64 x else R32 x) : okW (iup w k i x) := by
  intro a b
  unfold iup
  by_cases e : a = k ∧ b = i
  · obtain ⟨rfl, rfl⟩ := e
    have e2 : (if a = a ∧ b = b then x else w a b) = x := if_pos ⟨rfl, rfl⟩
    rw [e2]; exact hx
  · rw [if_neg e]; exact h a b
theorem okW.i {w : aW} {k : Nat} {i : Int} (h : okW w) (hl : isL k i = false) : R32 (w k i) := by
  have := h k i; rw [hl] at this; exact this
theorem okW.l {w : aW} {k : Nat} {i : Int} (h : okW w) (hl : isL k i = true) : R64 (w k i) := by
  have := h k i; rw [hl] at this; exact this
theorem okW.s {w : aW} {i : Int} (h : okW w) : R32 (w 999 i) := h.i (by have : lay 999 = (99, 0) := by decide +kernel
                                                                        simp [isL, this, fty, gFt])
theorem inA_s {k t : Nat} {i : Int} (h : inA k t i = true) : (lay k).1 = 100 + t ∧ 0 ≤ i ∧ i < ((lay k).2 : Int) ∧ k < 191 := by
  simp only [inA, Bool.and_eq_true, beq_iff_eq, decide_eq_true_eq] at h
  exact ⟨h.1.1, h.1.2, h.2, lay_lt (by omega)⟩
theorem isL_a {k t : Nat} {i : Int} (h : (lay k).1 = 100 + t) : isL k i = decide (t = 1) := by
  unfold isL
  rw [h]
  by_cases e : t = 1
  · subst e; simp
  · have h1 : ¬ 100 + t = 101 := by omega
    have h2 : ¬ 100 + t < 100 := by omega
    simp [e, h1, h2]
theorem isL_f {k c f : Nat} (h : lay k = (c, 0)) (hc : c < 13) : isL k (f : Int) = decide (fty c f = 1) := by
  unfold isL
  rw [h]
  have h1 : (c == 101) = false := by simp; omega
  have h2 : c < 100 := by omega
  by_cases h3 : fty c f = 1
  · simp [h1, h2, h3]
  · simp [h1, h2, h3]
theorem celE_a {adr : Nat → Nat} {cA : Nat → ClassId} {w : aW} {k t : Nat} (h : (lay k).1 = 100 + t) : celE adr cA w k = .inl (cA t, (lay k).2, arrE adr w k t) := by
  unfold celE
  rw [if_neg (by omega), show (lay k).1 - 100 = t by omega]
theorem celE_o {adr : Nat → Nat} {cA : Nat → ClassId} {w : aW} {k c : Nat} (h : lay k = (c, 0)) (hc : c < 13) : celE adr cA w k = .inr (c, fldE adr w k c) := by
  unfold celE
  rw [h, if_pos (show c < 100 by omega)]
theorem fldE_at {adr : Nat → Nat} {w : aW} {k c f : Nat} (h : f < clN c) : (fldE adr w k c)[f]? = some (if fty c f = 1 then .long (Int64.ofInt (w k (f : Int))) else if fty c f = 2 then .ref (adr (rfA k f)) else .int (Int32.ofInt (w k (f : Int)))) := by simp [fldE, h]
/-- a store into one cell -/
theorem wsE_set {adr : Nat → Nat} {cA : Nat → ClassId} {w w' : aW} {k : Nat} {e : va_E} (hk : k < 191) (he : e = celE adr cA w' k) (ho : ∀ j, j ≠ k → ∀ i, w' j i = w j i) : (wsE adr cA w).set k (adr k, e) = wsE adr cA w' := by
  apply List.ext_getElem?
  intro j
  by_cases hj : j = k
  · subst hj
    rw [List.getElem?_set_self (by simpa [wsE] using hk), wsE_at hk, he]
  · rw [List.getElem?_set_ne (fun q => hj q.symm)]
    rcases Nat.lt_or_ge j 191 with q | q
    · rw [wsE_at q, wsE_at q]
      have hw : w' j = w j := funext (ho j hj)
      have e1 : celE adr cA w' j = celE adr cA w j := by
        unfold celE fldE arrE rAt
        by_cases h87 : j = 87
        · subst h87; simp only [hw]
        · simp only [hw, if_neg h87]
      rw [e1]
    · have l1 : (wsE adr cA w).length ≤ j := by simpa [wsE] using q
      have l2 : (wsE adr cA w').length ≤ j := by simpa [wsE] using q
      rw [List.getElem?_eq_none l1, List.getElem?_eq_none l2]
theorem iup_o {w : aW} {k : Nat} {i x : Int} : ∀ j, j ≠ k → ∀ b, iup w k i x j b = w j b := fun j hj b => by unfold iup; rw [if_neg (fun q => hj q.1)]
theorem iup_k {w : aW} {k : Nat} {i x b : Int} : iup w k i x k b = if b = i then x else w k b := by unfold iup; simp
theorem set_I {adr : Nat → Nat} {cA : Nat → ClassId} {w : aW} {k t : Nat} {i x : Int} {y : Int32} (hk : k < 191) (h : (lay k).1 = 100 + t) (ht : t ≠ 1) (ht4 : t < 4) (h0 : 0 ≤ i) (hx : y = Int32.ofInt x) : (wsE adr cA w).set k (adr k, .inl (cA t, (lay k).2, .inl (upd (fun i => Int32.ofInt (w k (i : Int))) i.toNat y))) = wsE adr cA (iup w k i x) := by
  refine wsE_set hk ?_ iup_o
  rw [celE_a h]
  unfold arrE
  rw [if_neg ht, if_pos ht4]
  congr 4
  funext j
  unfold upd
  rw [iup_k, hx]
  by_cases e : j = i.toNat
  · rw [if_pos e, if_pos (by omega)]
  · rw [if_neg e, if_neg (by omega)]
theorem set_L {adr : Nat → Nat} {cA : Nat → ClassId} {w : aW} {k : Nat} {i x : Int} (hk : k < 191) (h : (lay k).1 = 100 + 1) (h0 : 0 ≤ i) : (wsE adr cA w).set k (adr k, .inl (cA 1, (lay k).2, .inr (.inl (vp_updL (fun i => Int64.ofInt (w k (i : Int))) i.toNat (Int64.ofInt x))))) = wsE adr cA (iup w k i x) := by
  refine wsE_set hk ?_ iup_o
  rw [celE_a h]
  unfold arrE
  rw [if_pos rfl]
  congr 5
  funext j
  unfold vp_updL
  rw [iup_k]
  by_cases e : j = i.toNat
  · rw [if_pos e, if_pos (by omega)]
  · rw [if_neg e, if_neg (by omega)]
theorem set_F {adr : Nat → Nat} {cA : Nat → ClassId} {w : aW} {k c f : Nat} {x : Int} {v : Value} (hk : k < 191) (h : lay k = (c, 0)) (hc : c < 13) (hf : f < clN c) (hv : v = if fty c f = 1 then .long (Int64.ofInt x) else .int (Int32.ofInt x)) (h2 : fty c f ≠ 2) : (wsE adr cA w).set k (adr k, .inr (c, (fldE adr w k c).set f v)) = wsE adr cA (iup w k (f : Int) x) := by
  refine wsE_set hk ?_ iup_o
  rw [celE_o h hc]
  congr 2
  apply List.ext_getElem?
  intro j
  have hl : (fldE adr w k c).length = clN c := by simp [fldE]
  by_cases hj : j = f
  · subst hj
    rw [List.getElem?_set_self (by rw [hl]; exact hf), fldE_at hf, iup_k, if_pos rfl, hv]
    by_cases e : fty c j = 1
    · rw [if_pos e, if_pos e]
    · rw [if_neg e, if_neg e, if_neg h2]
  · rw [List.getElem?_set_ne (fun q => hj q.symm)]
    rcases Nat.lt_or_ge j (clN c) with q | q
    · have e3 : iup w k (f : Int) x k (j : Int) = w k (j : Int) := by rw [iup_k, if_neg (show ¬ ((j : Int) = (f : Int)) by omega)]
      rw [fldE_at q, fldE_at q, e3]
    · rw [List.getElem?_eq_none (by rw [hl]; exact q), List.getElem?_eq_none (by simpa [fldE] using q)]
theorem set_R {adr : Nat → Nat} {cA : Nat → ClassId} {w : aW} {i : Int} {x : Nat} (h0 : 0 ≤ i) : (wsE adr cA w).set 87 (adr 87, .inl (cA 4, (lay 87).2, .inr (.inr (.inr (.inr (va_up (fun i => some (adr (rAt w 87 (i : Int)))) i.toNat (some (adr x)))))))) = wsE adr cA (iup w 87 i (x : Int)) := by
  refine wsE_set (by decide) ?_ iup_o
  rw [celE_a (t := 4) (by decide +kernel)]
  unfold arrE
  rw [if_neg (by decide), if_neg (by decide)]
  congr 7
  funext j
  unfold va_up rAt
  rw [iup_k]
  by_cases e : j = i.toNat
  · rw [if_pos e, if_pos (show ((j : Int) = i) by omega)]; simp
  · rw [if_neg e, if_neg (show ¬ ((j : Int) = i) by omega)]
def Dst (adr : Nat → Nat) (A : Nat → Prop) : Prop := (∀ i j, i < 191 → j < 191 → adr i = adr j → i = j) ∧ ∀ k, k < 191 → A (adr k)
theorem Dst.D {adr : Nat → Nat} {A : Nat → Prop} {cA : Nat → ClassId} {w : aW} (h : Dst adr A) : va_D A (wsE adr cA w) := by
  refine ⟨fun i j p q hi hj e => ?_, fun k q hk => ?_⟩
  · obtain ⟨h1, rfl⟩ := wsE_of hi
    obtain ⟨h2, rfl⟩ := wsE_of hj
    exact h.1 i j h1 h2 e
  · obtain ⟨h1, rfl⟩ := wsE_of hk
    exact h.2 k h1
/-- what lies outside: texts, statics, nest mates, the script -/
def Out (adr : Nat → Nat) (fm : Value) (A : Nat → Prop) (L : Nat) (xs : Nat → Int32) (U : State) (H : Heap) : Prop :=
  (∀ i, i < 3 → va_O "java/lang/String" (adr (1000 + i)) A U H ∧ va_OF "java/lang/String" "coder" "B" (.int 0) (adr (1000 + i)) A U H ∧ va_OF "java/lang/String" "value" "[B" (.ref (adr (1100 + i))) (adr (1000 + i)) A U H ∧ va_T .byte (adr (1100 + i)) (gStr.getD i []).length (fun j => .int (Int32.ofInt (sBy i (j : Int)))) A U H)
  ∧ (∀ q ∈ gSW, vk_R (cN q.1) q.2.1 (gStx.getD q.2.2 "") (adr (1000 + q.2.2)) U)
  ∧ va_Z "java/lang/String" "COMPACT_STRINGS" "Z" (.int 1) A U H
  ∧ va_Z "jdk/internal/util/Preconditions" "SIOOBE_FORMATTER" "Ljava/util/function/BiFunction;" fm A U H
  ∧ (∀ q ∈ gNW, va_Nw (nwC q) U)
  ∧ va_X (adr 999) L xs U H ∧ adr 999 < H.size ∧ ¬ A (adr 999)
theorem Out.mv {adr : Nat → Nat} {fm : Value} {A : Nat → Prop} {L : Nat} {xs : Nat → Int32} {u U : State} {H H1 : Heap} (h : Out adr fm A L xs u H) (hvm : u.vm.Alike U.vm) (hR : ∀ own k tx a, vk_R own k tx a u → vk_R own k tx a U) (hN : ∀ a i x h, va_Nw (.methodLinkNest a i x h) u → va_Nw (.methodLinkNest a i x h) U) (hz : H.size ≤ H1.size) (hq : ∀ a : Nat, a < H.size → ¬ A a → H1[a]? = H[a]?) : Out adr fm A L xs U H1 := by
  obtain ⟨h1, h2, h3, h4, h5, h6, h7, h8⟩ := h
  refine ⟨fun i hi => ?_, fun q hq => hR _ _ _ _ (h2 q hq), va_Z.moved hvm (h3.kept hq), va_Z.moved hvm (h4.kept hq), fun q hq => hN _ _ _ _ (h5 q hq), va_X.moved hvm (h6.kept (hq _ h7 h8)), Nat.lt_of_lt_of_le h7 hz, h8⟩
  obtain ⟨a1, a2, a3, a4⟩ := h1 i hi
  exact ⟨va_O.moved hvm (a1.kept hq), va_OF.moved hvm (a2.kept hq), va_OF.moved hvm (a3.kept hq), va_T.moved hvm (a4.kept hq)⟩
theorem Out.blind {adr : Nat → Nat} {fm : Value} {A : Nat → Prop} {L : Nat} {xs : Nat → Int32} {U : State} {g : JFrame} {mk : MethodId} {a : Array Value} (h : Out adr fm A L xs U U.heap) : Out adr fm A L xs (U.calling g mk a) (U.calling g mk a).heap :=
  h.mv (Vm.Alike.refl U.vm) (fun _ _ _ _ k => vk_R.same rfl k) (fun _ _ _ _ k => va_Nw.same rfl rfl k) (Nat.le_refl _) (fun _ _ _ => rfl)
theorem Out.at {adr : Nat → Nat} {fm : Value} {A : Nat → Prop} {L : Nat} {xs : Nat → Int32} {s U : State} {H : Heap} {locs : List Loc} (h : Out adr fm A L xs s s.heap) (hS : va_S A s.heap H locs) (hU : U.heap = H) (hW : s.WarmedH U.vm) : Out adr fm A L xs U U.heap := by
  rw [hU]
  exact h.mv hW.alike (fun _ _ _ _ k => vk_R.warm hW k) (fun _ _ _ _ k => va_Nw.warmM hW k) hS.1 hS.2.1
