/-! MAKING THE FIRST WORLD: the constructors' cells are the smaller machine's first words (printed by wip/whole/mk4.py). -/
theorem celE_w {adr : Nat → Nat} {cA : Nat → ClassId} {w w' : aW} {k : Nat} (h : w k = w' k) : celE adr cA w k = celE adr cA w' k := by
  unfold celE fldE arrE rAt
  by_cases h87 : k = 87
  · subst h87; simp only [h]
  · simp only [h, if_neg h87]
/-- the first words: the constructors', and the script -/
def wS (L : Nat) (xs : Nat → Int32) : aW := fun k i => if k < 191 then W0 k i else if k = 999 then (if i = -1 then (L : Int) else (xs i.toNat).toInt) else 0
theorem W0_R (k : Nat) (i : Int) : R32 (W0 k i) := by
  have all : ∀ x ∈ gW0, -2147483648 ≤ x.2.2 ∧ x.2.2 < 2147483648 := by decide
  unfold W0
  cases h : gW0.find? (fun x => decide (x.1 = k) && decide (x.2.1 = i)) with
  | none => exact ⟨by decide, by decide⟩
  | some x => exact all x (List.mem_of_find?_eq_some h)
theorem wS_R {L : Nat} {xs : Nat → Int32} (hL : L ≤ 3072) (k : Nat) (i : Int) : R32 (wS L xs k i) := by
  unfold wS
  split
  · exact W0_R k i
  · split
    · split
      · unfold R32; omega
      · exact i32_R _
    · exact R32_0
theorem wS_ok {L : Nat} {xs : Nat → Int32} (hL : L ≤ 3072) : okW (wS L xs) := fun k i => by
  have h := wS_R (xs := xs) hL k i
  split
  · exact R32_64 h
  · exact h
theorem wS_scr {L : Nat} {xs : Nat → Int32} (hL : L ≤ 3072) : Scr L xs (wS L xs) := by
  refine ⟨hL, ?_, fun j hj => ?_⟩
  · unfold wS
    rw [if_neg (by decide), if_pos rfl, if_pos rfl]
  · unfold wS
    rw [if_neg (by decide), if_pos rfl, if_neg (by omega), Int.toNat_natCast]
theorem wS_fst {L : Nat} {xs : Nat → Int32} : Fst (wS L xs) := fun c i hc => by unfold wS; rw [if_pos hc]
def wS0 (cA : Nat → ClassId) (h0 : Nat) (u : S11) (h1 : Nat) (q : Nat → Nat) : va_W := wI11 cA h0 u ++ wI12 cA h1 q
def adF (cA : Nat → ClassId) (h0 : Nat) (u : S11) (h1 : Nat) (q : Nat → Nat) (out : Nat → Nat) (k : Nat) : Nat := if k < 191 then ((wS0 cA h0 u h1 q).map Prod.fst).getD k 0 else out k
theorem va_at_q {D : va_G} {cl : List vw_C} {a n : Nat} {c : ClassId} {f g : Nat → Option Nat} {H : Heap} (h : va_at D cl (a, .inl (c, n, .inr (.inr (.inr (.inr f))))) H) (e : ∀ j, j < n → f j = g j) : va_at D cl (a, .inl (c, n, .inr (.inr (.inr (.inr g))))) H := by
  have h' : H[a]? = some (vp_cell c (n, .inr (.inr (.inr (.inr f))))) := h
  show H[a]? = some (vp_cell c (n, .inr (.inr (.inr (.inr g)))))
  rw [h', vp_cell_q, vp_cell_q, arrV_cg (fun j hj => by rw [e j hj])]
theorem va_at_i {D : va_G} {cl : List vw_C} {a n : Nat} {c : ClassId} {f g : Nat → Int32} {H : Heap} (h : va_at D cl (a, .inl (c, n, .inl f)) H) (e : ∀ j, j < n → f j = g j) : va_at D cl (a, .inl (c, n, .inl g)) H := by
  have h' : H[a]? = some (vp_cell c (n, .inl f)) := h
  show H[a]? = some (vp_cell c (n, .inl g))
  rw [h', vp_cell_i, vp_cell_i, arrV_cg (fun j hj => by rw [e j hj])]
section Fst1
variable {cA : Nat → ClassId} {h0 : Nat} {u : S11} {h1 : Nat} {q : Nat → Nat} {out : Nat → Nat}
set_option maxRecDepth 100000 in
theorem wS0_len : (wS0 cA h0 u h1 q).length = 191 := rfl
theorem adF_at {k : Nat} (hk : k < 191) : ∃ e, (wS0 cA h0 u h1 q)[k]? = some (adF cA h0 u h1 q out k, e) := by
  have hk2 : k < (wS0 cA h0 u h1 q).length := by rw [wS0_len]; exact hk
  refine ⟨((wS0 cA h0 u h1 q)[k]).2, ?_⟩
  have e1 : adF cA h0 u h1 q out k = ((wS0 cA h0 u h1 q)[k]).1 := by
    unfold adF
    rw [if_pos hk, List.getD_eq_getElem?_getD, List.getElem?_map, List.getElem?_eq_getElem hk2]
    rfl
  rw [List.getElem?_eq_getElem hk2, e1]
theorem first_D {A : Nat → Prop} (hD : va_D A (wS0 cA h0 u h1 q)) : Dst (adF cA h0 u h1 q out) A := by
  refine ⟨fun i j hi hj e => ?_, fun k hk => ?_⟩
  · obtain ⟨e1, g1⟩ := adF_at (cA := cA) (h0 := h0) (u := u) (h1 := h1) (q := q) (out := out) hi
    obtain ⟨e2, g2⟩ := adF_at (cA := cA) (h0 := h0) (u := u) (h1 := h1) (q := q) (out := out) hj
    exact hD.1 i j _ _ g1 g2 e
  · obtain ⟨e1, g1⟩ := adF_at (cA := cA) (h0 := h0) (u := u) (h1 := h1) (q := q) (out := out) hk
    exact hD.2 k _ g1
set_option maxRecDepth 100000 in
set_option maxHeartbeats 4000000 in
theorem wk_0 : (wS0 cA h0 u h1 q)[0]? = some (adF cA h0 u h1 q out 0, celE (adF cA h0 u h1 q out) cA W0 0) := rfl
set_option maxRecDepth 100000 in
set_option maxHeartbeats 4000000 in
theorem wk_1 : (wS0 cA h0 u h1 q)[1]? = some (adF cA h0 u h1 q out 1, celE (adF cA h0 u h1 q out) cA W0 1) := rfl
set_option maxRecDepth 100000 in
set_option maxHeartbeats 4000000 in
theorem wk_2 : (wS0 cA h0 u h1 q)[2]? = some (adF cA h0 u h1 q out 2, celE (adF cA h0 u h1 q out) cA W0 2) := rfl
set_option maxRecDepth 100000 in
set_option maxHeartbeats 4000000 in
theorem wk_3 : (wS0 cA h0 u h1 q)[3]? = some (adF cA h0 u h1 q out 3, celE (adF cA h0 u h1 q out) cA W0 3) := rfl
set_option maxRecDepth 100000 in
set_option maxHeartbeats 4000000 in
theorem wk_4 : (wS0 cA h0 u h1 q)[4]? = some (adF cA h0 u h1 q out 4, celE (adF cA h0 u h1 q out) cA W0 4) := rfl
set_option maxRecDepth 100000 in
set_option maxHeartbeats 4000000 in
theorem wk_5 : (wS0 cA h0 u h1 q)[5]? = some (adF cA h0 u h1 q out 5, celE (adF cA h0 u h1 q out) cA W0 5) := rfl
set_option maxRecDepth 100000 in
set_option maxHeartbeats 4000000 in
theorem wk_6 : (wS0 cA h0 u h1 q)[6]? = some (adF cA h0 u h1 q out 6, celE (adF cA h0 u h1 q out) cA W0 6) := rfl
set_option maxRecDepth 100000 in
set_option maxHeartbeats 4000000 in
theorem wk_7 : (wS0 cA h0 u h1 q)[7]? = some (adF cA h0 u h1 q out 7, celE (adF cA h0 u h1 q out) cA W0 7) := rfl
set_option maxRecDepth 100000 in
set_option maxHeartbeats 4000000 in
theorem wk_8 : (wS0 cA h0 u h1 q)[8]? = some (adF cA h0 u h1 q out 8, celE (adF cA h0 u h1 q out) cA W0 8) := rfl
set_option maxRecDepth 100000 in
set_option maxHeartbeats 4000000 in
theorem wk_9 : (wS0 cA h0 u h1 q)[9]? = some (adF cA h0 u h1 q out 9, celE (adF cA h0 u h1 q out) cA W0 9) := rfl
set_option maxRecDepth 100000 in
set_option maxHeartbeats 4000000 in
theorem wk_10 : (wS0 cA h0 u h1 q)[10]? = some (adF cA h0 u h1 q out 10, celE (adF cA h0 u h1 q out) cA W0 10) := rfl
set_option maxRecDepth 100000 in
set_option maxHeartbeats 4000000 in
theorem wk_11 : (wS0 cA h0 u h1 q)[11]? = some (adF cA h0 u h1 q out 11, celE (adF cA h0 u h1 q out) cA W0 11) := rfl
set_option maxRecDepth 100000 in
set_option maxHeartbeats 4000000 in
theorem wk_12 : (wS0 cA h0 u h1 q)[12]? = some (adF cA h0 u h1 q out 12, celE (adF cA h0 u h1 q out) cA W0 12) := rfl
set_option maxRecDepth 100000 in
set_option maxHeartbeats 4000000 in
theorem wk_13 : (wS0 cA h0 u h1 q)[13]? = some (adF cA h0 u h1 q out 13, celE (adF cA h0 u h1 q out) cA W0 13) := rfl
set_option maxRecDepth 100000 in
set_option maxHeartbeats 4000000 in
theorem wk_14 : (wS0 cA h0 u h1 q)[14]? = some (adF cA h0 u h1 q out 14, celE (adF cA h0 u h1 q out) cA W0 14) := rfl
set_option maxRecDepth 100000 in
set_option maxHeartbeats 4000000 in
theorem wk_15 : (wS0 cA h0 u h1 q)[15]? = some (adF cA h0 u h1 q out 15, celE (adF cA h0 u h1 q out) cA W0 15) := rfl
set_option maxRecDepth 100000 in
set_option maxHeartbeats 4000000 in
theorem wk_16 : (wS0 cA h0 u h1 q)[16]? = some (adF cA h0 u h1 q out 16, celE (adF cA h0 u h1 q out) cA W0 16) := rfl
set_option maxRecDepth 100000 in
set_option maxHeartbeats 4000000 in
theorem wk_17 : (wS0 cA h0 u h1 q)[17]? = some (adF cA h0 u h1 q out 17, celE (adF cA h0 u h1 q out) cA W0 17) := rfl
set_option maxRecDepth 100000 in
set_option maxHeartbeats 4000000 in
theorem wk_18 : (wS0 cA h0 u h1 q)[18]? = some (adF cA h0 u h1 q out 18, celE (adF cA h0 u h1 q out) cA W0 18) := rfl
set_option maxRecDepth 100000 in
set_option maxHeartbeats 4000000 in
theorem wk_19 : (wS0 cA h0 u h1 q)[19]? = some (adF cA h0 u h1 q out 19, celE (adF cA h0 u h1 q out) cA W0 19) := rfl
set_option maxRecDepth 100000 in
set_option maxHeartbeats 4000000 in
theorem wk_20 : (wS0 cA h0 u h1 q)[20]? = some (adF cA h0 u h1 q out 20, celE (adF cA h0 u h1 q out) cA W0 20) := rfl
set_option maxRecDepth 100000 in
set_option maxHeartbeats 4000000 in
theorem wk_21 : (wS0 cA h0 u h1 q)[21]? = some (adF cA h0 u h1 q out 21, celE (adF cA h0 u h1 q out) cA W0 21) := rfl
set_option maxRecDepth 100000 in
set_option maxHeartbeats 4000000 in
theorem wk_22 : (wS0 cA h0 u h1 q)[22]? = some (adF cA h0 u h1 q out 22, celE (adF cA h0 u h1 q out) cA W0 22) := rfl
set_option maxRecDepth 100000 in
set_option maxHeartbeats 4000000 in
theorem wk_23 : (wS0 cA h0 u h1 q)[23]? = some (adF cA h0 u h1 q out 23, celE (adF cA h0 u h1 q out) cA W0 23) := rfl
set_option maxRecDepth 100000 in
set_option maxHeartbeats 4000000 in
theorem wk_24 : (wS0 cA h0 u h1 q)[24]? = some (adF cA h0 u h1 q out 24, celE (adF cA h0 u h1 q out) cA W0 24) := rfl
set_option maxRecDepth 100000 in
set_option maxHeartbeats 4000000 in
theorem wk_25 : (wS0 cA h0 u h1 q)[25]? = some (adF cA h0 u h1 q out 25, celE (adF cA h0 u h1 q out) cA W0 25) := rfl
set_option maxRecDepth 100000 in
set_option maxHeartbeats 4000000 in
theorem wk_26 : (wS0 cA h0 u h1 q)[26]? = some (adF cA h0 u h1 q out 26, celE (adF cA h0 u h1 q out) cA W0 26) := rfl
set_option maxRecDepth 100000 in
set_option maxHeartbeats 4000000 in
theorem wk_27 : (wS0 cA h0 u h1 q)[27]? = some (adF cA h0 u h1 q out 27, celE (adF cA h0 u h1 q out) cA W0 27) := rfl
set_option maxRecDepth 100000 in
set_option maxHeartbeats 4000000 in
theorem wk_28 : (wS0 cA h0 u h1 q)[28]? = some (adF cA h0 u h1 q out 28, celE (adF cA h0 u h1 q out) cA W0 28) := rfl
set_option maxRecDepth 100000 in
set_option maxHeartbeats 4000000 in
theorem wk_29 : (wS0 cA h0 u h1 q)[29]? = some (adF cA h0 u h1 q out 29, celE (adF cA h0 u h1 q out) cA W0 29) := rfl
set_option maxRecDepth 100000 in
set_option maxHeartbeats 4000000 in
theorem wk_30 : (wS0 cA h0 u h1 q)[30]? = some (adF cA h0 u h1 q out 30, celE (adF cA h0 u h1 q out) cA W0 30) := rfl
set_option maxRecDepth 100000 in
set_option maxHeartbeats 4000000 in
theorem wk_31 : (wS0 cA h0 u h1 q)[31]? = some (adF cA h0 u h1 q out 31, celE (adF cA h0 u h1 q out) cA W0 31) := rfl
set_option maxRecDepth 100000 in
set_option maxHeartbeats 4000000 in
theorem wk_33 : (wS0 cA h0 u h1 q)[33]? = some (adF cA h0 u h1 q out 33, celE (adF cA h0 u h1 q out) cA W0 33) := rfl
set_option maxRecDepth 100000 in
set_option maxHeartbeats 4000000 in
theorem wk_34 : (wS0 cA h0 u h1 q)[34]? = some (adF cA h0 u h1 q out 34, celE (adF cA h0 u h1 q out) cA W0 34) := rfl
set_option maxRecDepth 100000 in
set_option maxHeartbeats 4000000 in
theorem wk_35 : (wS0 cA h0 u h1 q)[35]? = some (adF cA h0 u h1 q out 35, celE (adF cA h0 u h1 q out) cA W0 35) := rfl
set_option maxRecDepth 100000 in
set_option maxHeartbeats 4000000 in
theorem wk_36 : (wS0 cA h0 u h1 q)[36]? = some (adF cA h0 u h1 q out 36, celE (adF cA h0 u h1 q out) cA W0 36) := rfl
set_option maxRecDepth 100000 in
set_option maxHeartbeats 4000000 in
theorem wk_37 : (wS0 cA h0 u h1 q)[37]? = some (adF cA h0 u h1 q out 37, celE (adF cA h0 u h1 q out) cA W0 37) := rfl
set_option maxRecDepth 100000 in
set_option maxHeartbeats 4000000 in
theorem wk_38 : (wS0 cA h0 u h1 q)[38]? = some (adF cA h0 u h1 q out 38, celE (adF cA h0 u h1 q out) cA W0 38) := rfl
set_option maxRecDepth 100000 in
set_option maxHeartbeats 4000000 in
theorem wk_39 : (wS0 cA h0 u h1 q)[39]? = some (adF cA h0 u h1 q out 39, celE (adF cA h0 u h1 q out) cA W0 39) := rfl
set_option maxRecDepth 100000 in
set_option maxHeartbeats 4000000 in
theorem wk_40 : (wS0 cA h0 u h1 q)[40]? = some (adF cA h0 u h1 q out 40, celE (adF cA h0 u h1 q out) cA W0 40) := rfl
set_option maxRecDepth 100000 in
set_option maxHeartbeats 4000000 in
theorem wk_41 : (wS0 cA h0 u h1 q)[41]? = some (adF cA h0 u h1 q out 41, celE (adF cA h0 u h1 q out) cA W0 41) := rfl
set_option maxRecDepth 100000 in
set_option maxHeartbeats 4000000 in
theorem wk_42 : (wS0 cA h0 u h1 q)[42]? = some (adF cA h0 u h1 q out 42, celE (adF cA h0 u h1 q out) cA W0 42) := rfl
set_option maxRecDepth 100000 in
set_option maxHeartbeats 4000000 in
theorem wk_43 : (wS0 cA h0 u h1 q)[43]? = some (adF cA h0 u h1 q out 43, celE (adF cA h0 u h1 q out) cA W0 43) := rfl
set_option maxRecDepth 100000 in
set_option maxHeartbeats 4000000 in
theorem wk_44 : (wS0 cA h0 u h1 q)[44]? = some (adF cA h0 u h1 q out 44, celE (adF cA h0 u h1 q out) cA W0 44) := rfl
set_option maxRecDepth 100000 in
set_option maxHeartbeats 4000000 in
theorem wk_45 : (wS0 cA h0 u h1 q)[45]? = some (adF cA h0 u h1 q out 45, celE (adF cA h0 u h1 q out) cA W0 45) := rfl
set_option maxRecDepth 100000 in
set_option maxHeartbeats 4000000 in
theorem wk_46 : (wS0 cA h0 u h1 q)[46]? = some (adF cA h0 u h1 q out 46, celE (adF cA h0 u h1 q out) cA W0 46) := rfl
set_option maxRecDepth 100000 in
set_option maxHeartbeats 4000000 in
theorem wk_47 : (wS0 cA h0 u h1 q)[47]? = some (adF cA h0 u h1 q out 47, celE (adF cA h0 u h1 q out) cA W0 47) := rfl
set_option maxRecDepth 100000 in
set_option maxHeartbeats 4000000 in
theorem wk_48 : (wS0 cA h0 u h1 q)[48]? = some (adF cA h0 u h1 q out 48, celE (adF cA h0 u h1 q out) cA W0 48) := rfl
set_option maxRecDepth 100000 in
set_option maxHeartbeats 4000000 in
theorem wk_49 : (wS0 cA h0 u h1 q)[49]? = some (adF cA h0 u h1 q out 49, celE (adF cA h0 u h1 q out) cA W0 49) := rfl
set_option maxRecDepth 100000 in
set_option maxHeartbeats 4000000 in
theorem wk_50 : (wS0 cA h0 u h1 q)[50]? = some (adF cA h0 u h1 q out 50, celE (adF cA h0 u h1 q out) cA W0 50) := rfl
set_option maxRecDepth 100000 in
set_option maxHeartbeats 4000000 in
theorem wk_51 : (wS0 cA h0 u h1 q)[51]? = some (adF cA h0 u h1 q out 51, celE (adF cA h0 u h1 q out) cA W0 51) := rfl
set_option maxRecDepth 100000 in
set_option maxHeartbeats 4000000 in
theorem wk_52 : (wS0 cA h0 u h1 q)[52]? = some (adF cA h0 u h1 q out 52, celE (adF cA h0 u h1 q out) cA W0 52) := rfl
set_option maxRecDepth 100000 in
set_option maxHeartbeats 4000000 in
theorem wk_53 : (wS0 cA h0 u h1 q)[53]? = some (adF cA h0 u h1 q out 53, celE (adF cA h0 u h1 q out) cA W0 53) := rfl
set_option maxRecDepth 100000 in
set_option maxHeartbeats 4000000 in
theorem wk_54 : (wS0 cA h0 u h1 q)[54]? = some (adF cA h0 u h1 q out 54, celE (adF cA h0 u h1 q out) cA W0 54) := rfl
set_option maxRecDepth 100000 in
set_option maxHeartbeats 4000000 in
theorem wk_55 : (wS0 cA h0 u h1 q)[55]? = some (adF cA h0 u h1 q out 55, celE (adF cA h0 u h1 q out) cA W0 55) := rfl
set_option maxRecDepth 100000 in
set_option maxHeartbeats 4000000 in
theorem wk_56 : (wS0 cA h0 u h1 q)[56]? = some (adF cA h0 u h1 q out 56, celE (adF cA h0 u h1 q out) cA W0 56) := rfl
set_option maxRecDepth 100000 in
set_option maxHeartbeats 4000000 in
theorem wk_57 : (wS0 cA h0 u h1 q)[57]? = some (adF cA h0 u h1 q out 57, celE (adF cA h0 u h1 q out) cA W0 57) := rfl
set_option maxRecDepth 100000 in
set_option maxHeartbeats 4000000 in
theorem wk_58 : (wS0 cA h0 u h1 q)[58]? = some (adF cA h0 u h1 q out 58, celE (adF cA h0 u h1 q out) cA W0 58) := rfl
set_option maxRecDepth 100000 in
set_option maxHeartbeats 4000000 in
theorem wk_59 : (wS0 cA h0 u h1 q)[59]? = some (adF cA h0 u h1 q out 59, celE (adF cA h0 u h1 q out) cA W0 59) := rfl
set_option maxRecDepth 100000 in
set_option maxHeartbeats 4000000 in
theorem wk_60 : (wS0 cA h0 u h1 q)[60]? = some (adF cA h0 u h1 q out 60, celE (adF cA h0 u h1 q out) cA W0 60) := rfl
set_option maxRecDepth 100000 in
set_option maxHeartbeats 4000000 in
theorem wk_61 : (wS0 cA h0 u h1 q)[61]? = some (adF cA h0 u h1 q out 61, celE (adF cA h0 u h1 q out) cA W0 61) := rfl
set_option maxRecDepth 100000 in
set_option maxHeartbeats 4000000 in
theorem wk_62 : (wS0 cA h0 u h1 q)[62]? = some (adF cA h0 u h1 q out 62, celE (adF cA h0 u h1 q out) cA W0 62) := rfl
set_option maxRecDepth 100000 in
set_option maxHeartbeats 4000000 in
theorem wk_63 : (wS0 cA h0 u h1 q)[63]? = some (adF cA h0 u h1 q out 63, celE (adF cA h0 u h1 q out) cA W0 63) := rfl
set_option maxRecDepth 100000 in
set_option maxHeartbeats 4000000 in
theorem wk_64 : (wS0 cA h0 u h1 q)[64]? = some (adF cA h0 u h1 q out 64, celE (adF cA h0 u h1 q out) cA W0 64) := rfl
set_option maxRecDepth 100000 in
set_option maxHeartbeats 4000000 in
theorem wk_65 : (wS0 cA h0 u h1 q)[65]? = some (adF cA h0 u h1 q out 65, celE (adF cA h0 u h1 q out) cA W0 65) := rfl
set_option maxRecDepth 100000 in
set_option maxHeartbeats 4000000 in
theorem wk_66 : (wS0 cA h0 u h1 q)[66]? = some (adF cA h0 u h1 q out 66, celE (adF cA h0 u h1 q out) cA W0 66) := rfl
set_option maxRecDepth 100000 in
set_option maxHeartbeats 4000000 in
theorem wk_67 : (wS0 cA h0 u h1 q)[67]? = some (adF cA h0 u h1 q out 67, celE (adF cA h0 u h1 q out) cA W0 67) := rfl
set_option maxRecDepth 100000 in
set_option maxHeartbeats 4000000 in
theorem wk_68 : (wS0 cA h0 u h1 q)[68]? = some (adF cA h0 u h1 q out 68, celE (adF cA h0 u h1 q out) cA W0 68) := rfl
set_option maxRecDepth 100000 in
set_option maxHeartbeats 4000000 in
theorem wk_69 : (wS0 cA h0 u h1 q)[69]? = some (adF cA h0 u h1 q out 69, celE (adF cA h0 u h1 q out) cA W0 69) := rfl
set_option maxRecDepth 100000 in
set_option maxHeartbeats 4000000 in
theorem wk_70 : (wS0 cA h0 u h1 q)[70]? = some (adF cA h0 u h1 q out 70, celE (adF cA h0 u h1 q out) cA W0 70) := rfl
set_option maxRecDepth 100000 in
set_option maxHeartbeats 4000000 in
theorem wk_71 : (wS0 cA h0 u h1 q)[71]? = some (adF cA h0 u h1 q out 71, celE (adF cA h0 u h1 q out) cA W0 71) := rfl
set_option maxRecDepth 100000 in
set_option maxHeartbeats 4000000 in
theorem wk_72 : (wS0 cA h0 u h1 q)[72]? = some (adF cA h0 u h1 q out 72, celE (adF cA h0 u h1 q out) cA W0 72) := rfl
set_option maxRecDepth 100000 in
set_option maxHeartbeats 4000000 in
theorem wk_73 : (wS0 cA h0 u h1 q)[73]? = some (adF cA h0 u h1 q out 73, celE (adF cA h0 u h1 q out) cA W0 73) := rfl
set_option maxRecDepth 100000 in
set_option maxHeartbeats 4000000 in
theorem wk_74 : (wS0 cA h0 u h1 q)[74]? = some (adF cA h0 u h1 q out 74, celE (adF cA h0 u h1 q out) cA W0 74) := rfl
set_option maxRecDepth 100000 in
set_option maxHeartbeats 4000000 in
theorem wk_75 : (wS0 cA h0 u h1 q)[75]? = some (adF cA h0 u h1 q out 75, celE (adF cA h0 u h1 q out) cA W0 75) := rfl
set_option maxRecDepth 100000 in
set_option maxHeartbeats 4000000 in
theorem wk_76 : (wS0 cA h0 u h1 q)[76]? = some (adF cA h0 u h1 q out 76, celE (adF cA h0 u h1 q out) cA W0 76) := rfl
set_option maxRecDepth 100000 in
set_option maxHeartbeats 4000000 in
theorem wk_77 : (wS0 cA h0 u h1 q)[77]? = some (adF cA h0 u h1 q out 77, celE (adF cA h0 u h1 q out) cA W0 77) := rfl
set_option maxRecDepth 100000 in
set_option maxHeartbeats 4000000 in
theorem wk_78 : (wS0 cA h0 u h1 q)[78]? = some (adF cA h0 u h1 q out 78, celE (adF cA h0 u h1 q out) cA W0 78) := rfl
set_option maxRecDepth 100000 in
set_option maxHeartbeats 4000000 in
theorem wk_79 : (wS0 cA h0 u h1 q)[79]? = some (adF cA h0 u h1 q out 79, celE (adF cA h0 u h1 q out) cA W0 79) := rfl
set_option maxRecDepth 100000 in
set_option maxHeartbeats 4000000 in
theorem wk_80 : (wS0 cA h0 u h1 q)[80]? = some (adF cA h0 u h1 q out 80, celE (adF cA h0 u h1 q out) cA W0 80) := rfl
set_option maxRecDepth 100000 in
set_option maxHeartbeats 4000000 in
theorem wk_81 : (wS0 cA h0 u h1 q)[81]? = some (adF cA h0 u h1 q out 81, celE (adF cA h0 u h1 q out) cA W0 81) := rfl
set_option maxRecDepth 100000 in
set_option maxHeartbeats 4000000 in
theorem wk_82 : (wS0 cA h0 u h1 q)[82]? = some (adF cA h0 u h1 q out 82, celE (adF cA h0 u h1 q out) cA W0 82) := rfl
set_option maxRecDepth 100000 in
set_option maxHeartbeats 4000000 in
theorem wk_83 : (wS0 cA h0 u h1 q)[83]? = some (adF cA h0 u h1 q out 83, celE (adF cA h0 u h1 q out) cA W0 83) := rfl
set_option maxRecDepth 100000 in
set_option maxHeartbeats 4000000 in
theorem wk_84 : (wS0 cA h0 u h1 q)[84]? = some (adF cA h0 u h1 q out 84, celE (adF cA h0 u h1 q out) cA W0 84) := rfl
set_option maxRecDepth 100000 in
set_option maxHeartbeats 4000000 in
theorem wk_85 : (wS0 cA h0 u h1 q)[85]? = some (adF cA h0 u h1 q out 85, celE (adF cA h0 u h1 q out) cA W0 85) := rfl
set_option maxRecDepth 100000 in
set_option maxHeartbeats 4000000 in
theorem wk_86 : (wS0 cA h0 u h1 q)[86]? = some (adF cA h0 u h1 q out 86, celE (adF cA h0 u h1 q out) cA W0 86) := rfl
set_option maxRecDepth 100000 in
set_option maxHeartbeats 4000000 in
theorem wk_91 : (wS0 cA h0 u h1 q)[91]? = some (adF cA h0 u h1 q out 91, celE (adF cA h0 u h1 q out) cA W0 91) := rfl
set_option maxRecDepth 100000 in
set_option maxHeartbeats 4000000 in
theorem wk_92 : (wS0 cA h0 u h1 q)[92]? = some (adF cA h0 u h1 q out 92, celE (adF cA h0 u h1 q out) cA W0 92) := rfl
set_option maxRecDepth 100000 in
set_option maxHeartbeats 4000000 in
theorem wk_93 : (wS0 cA h0 u h1 q)[93]? = some (adF cA h0 u h1 q out 93, celE (adF cA h0 u h1 q out) cA W0 93) := rfl
set_option maxRecDepth 100000 in
set_option maxHeartbeats 4000000 in
theorem wk_94 : (wS0 cA h0 u h1 q)[94]? = some (adF cA h0 u h1 q out 94, celE (adF cA h0 u h1 q out) cA W0 94) := rfl
set_option maxRecDepth 100000 in
set_option maxHeartbeats 4000000 in
theorem wk_95 : (wS0 cA h0 u h1 q)[95]? = some (adF cA h0 u h1 q out 95, celE (adF cA h0 u h1 q out) cA W0 95) := rfl
set_option maxRecDepth 100000 in
set_option maxHeartbeats 4000000 in
theorem wk_96 : (wS0 cA h0 u h1 q)[96]? = some (adF cA h0 u h1 q out 96, celE (adF cA h0 u h1 q out) cA W0 96) := rfl
set_option maxRecDepth 100000 in
set_option maxHeartbeats 4000000 in
theorem wk_97 : (wS0 cA h0 u h1 q)[97]? = some (adF cA h0 u h1 q out 97, celE (adF cA h0 u h1 q out) cA W0 97) := rfl
set_option maxRecDepth 100000 in
set_option maxHeartbeats 4000000 in
theorem wk_98 : (wS0 cA h0 u h1 q)[98]? = some (adF cA h0 u h1 q out 98, celE (adF cA h0 u h1 q out) cA W0 98) := rfl
set_option maxRecDepth 100000 in
set_option maxHeartbeats 4000000 in
theorem wk_99 : (wS0 cA h0 u h1 q)[99]? = some (adF cA h0 u h1 q out 99, celE (adF cA h0 u h1 q out) cA W0 99) := rfl
set_option maxRecDepth 100000 in
set_option maxHeartbeats 4000000 in
theorem wk_100 : (wS0 cA h0 u h1 q)[100]? = some (adF cA h0 u h1 q out 100, celE (adF cA h0 u h1 q out) cA W0 100) := rfl
set_option maxRecDepth 100000 in
set_option maxHeartbeats 4000000 in
theorem wk_101 : (wS0 cA h0 u h1 q)[101]? = some (adF cA h0 u h1 q out 101, celE (adF cA h0 u h1 q out) cA W0 101) := rfl
set_option maxRecDepth 100000 in
set_option maxHeartbeats 4000000 in
theorem wk_102 : (wS0 cA h0 u h1 q)[102]? = some (adF cA h0 u h1 q out 102, celE (adF cA h0 u h1 q out) cA W0 102) := rfl
set_option maxRecDepth 100000 in
set_option maxHeartbeats 4000000 in
theorem wk_103 : (wS0 cA h0 u h1 q)[103]? = some (adF cA h0 u h1 q out 103, celE (adF cA h0 u h1 q out) cA W0 103) := rfl
set_option maxRecDepth 100000 in
set_option maxHeartbeats 4000000 in
theorem wk_104 : (wS0 cA h0 u h1 q)[104]? = some (adF cA h0 u h1 q out 104, celE (adF cA h0 u h1 q out) cA W0 104) := rfl
set_option maxRecDepth 100000 in
set_option maxHeartbeats 4000000 in
theorem wk_105 : (wS0 cA h0 u h1 q)[105]? = some (adF cA h0 u h1 q out 105, celE (adF cA h0 u h1 q out) cA W0 105) := rfl
set_option maxRecDepth 100000 in
set_option maxHeartbeats 4000000 in
theorem wk_106 : (wS0 cA h0 u h1 q)[106]? = some (adF cA h0 u h1 q out 106, celE (adF cA h0 u h1 q out) cA W0 106) := rfl
set_option maxRecDepth 100000 in
set_option maxHeartbeats 4000000 in
theorem wk_107 : (wS0 cA h0 u h1 q)[107]? = some (adF cA h0 u h1 q out 107, celE (adF cA h0 u h1 q out) cA W0 107) := rfl
set_option maxRecDepth 100000 in
set_option maxHeartbeats 4000000 in
theorem wk_108 : (wS0 cA h0 u h1 q)[108]? = some (adF cA h0 u h1 q out 108, celE (adF cA h0 u h1 q out) cA W0 108) := rfl
set_option maxRecDepth 100000 in
set_option maxHeartbeats 4000000 in
theorem wk_109 : (wS0 cA h0 u h1 q)[109]? = some (adF cA h0 u h1 q out 109, celE (adF cA h0 u h1 q out) cA W0 109) := rfl
set_option maxRecDepth 100000 in
set_option maxHeartbeats 4000000 in
theorem wk_110 : (wS0 cA h0 u h1 q)[110]? = some (adF cA h0 u h1 q out 110, celE (adF cA h0 u h1 q out) cA W0 110) := rfl
set_option maxRecDepth 100000 in
set_option maxHeartbeats 4000000 in
theorem wk_111 : (wS0 cA h0 u h1 q)[111]? = some (adF cA h0 u h1 q out 111, celE (adF cA h0 u h1 q out) cA W0 111) := rfl
set_option maxRecDepth 100000 in
set_option maxHeartbeats 4000000 in
theorem wk_112 : (wS0 cA h0 u h1 q)[112]? = some (adF cA h0 u h1 q out 112, celE (adF cA h0 u h1 q out) cA W0 112) := rfl
set_option maxRecDepth 100000 in
set_option maxHeartbeats 4000000 in
theorem wk_113 : (wS0 cA h0 u h1 q)[113]? = some (adF cA h0 u h1 q out 113, celE (adF cA h0 u h1 q out) cA W0 113) := rfl
set_option maxRecDepth 100000 in
set_option maxHeartbeats 4000000 in
theorem wk_114 : (wS0 cA h0 u h1 q)[114]? = some (adF cA h0 u h1 q out 114, celE (adF cA h0 u h1 q out) cA W0 114) := rfl
set_option maxRecDepth 100000 in
set_option maxHeartbeats 4000000 in
theorem wk_115 : (wS0 cA h0 u h1 q)[115]? = some (adF cA h0 u h1 q out 115, celE (adF cA h0 u h1 q out) cA W0 115) := rfl
set_option maxRecDepth 100000 in
set_option maxHeartbeats 4000000 in
theorem wk_116 : (wS0 cA h0 u h1 q)[116]? = some (adF cA h0 u h1 q out 116, celE (adF cA h0 u h1 q out) cA W0 116) := rfl
set_option maxRecDepth 100000 in
set_option maxHeartbeats 4000000 in
theorem wk_117 : (wS0 cA h0 u h1 q)[117]? = some (adF cA h0 u h1 q out 117, celE (adF cA h0 u h1 q out) cA W0 117) := rfl
set_option maxRecDepth 100000 in
set_option maxHeartbeats 4000000 in
theorem wk_118 : (wS0 cA h0 u h1 q)[118]? = some (adF cA h0 u h1 q out 118, celE (adF cA h0 u h1 q out) cA W0 118) := rfl
set_option maxRecDepth 100000 in
set_option maxHeartbeats 4000000 in
theorem wk_119 : (wS0 cA h0 u h1 q)[119]? = some (adF cA h0 u h1 q out 119, celE (adF cA h0 u h1 q out) cA W0 119) := rfl
set_option maxRecDepth 100000 in
set_option maxHeartbeats 4000000 in
theorem wk_120 : (wS0 cA h0 u h1 q)[120]? = some (adF cA h0 u h1 q out 120, celE (adF cA h0 u h1 q out) cA W0 120) := rfl
set_option maxRecDepth 100000 in
set_option maxHeartbeats 4000000 in
theorem wk_121 : (wS0 cA h0 u h1 q)[121]? = some (adF cA h0 u h1 q out 121, celE (adF cA h0 u h1 q out) cA W0 121) := rfl
set_option maxRecDepth 100000 in
set_option maxHeartbeats 4000000 in
theorem wk_122 : (wS0 cA h0 u h1 q)[122]? = some (adF cA h0 u h1 q out 122, celE (adF cA h0 u h1 q out) cA W0 122) := rfl
set_option maxRecDepth 100000 in
set_option maxHeartbeats 4000000 in
theorem wk_123 : (wS0 cA h0 u h1 q)[123]? = some (adF cA h0 u h1 q out 123, celE (adF cA h0 u h1 q out) cA W0 123) := rfl
set_option maxRecDepth 100000 in
set_option maxHeartbeats 4000000 in
theorem wk_124 : (wS0 cA h0 u h1 q)[124]? = some (adF cA h0 u h1 q out 124, celE (adF cA h0 u h1 q out) cA W0 124) := rfl
set_option maxRecDepth 100000 in
set_option maxHeartbeats 4000000 in
theorem wk_125 : (wS0 cA h0 u h1 q)[125]? = some (adF cA h0 u h1 q out 125, celE (adF cA h0 u h1 q out) cA W0 125) := rfl
set_option maxRecDepth 100000 in
set_option maxHeartbeats 4000000 in
theorem wk_126 : (wS0 cA h0 u h1 q)[126]? = some (adF cA h0 u h1 q out 126, celE (adF cA h0 u h1 q out) cA W0 126) := rfl
set_option maxRecDepth 100000 in
set_option maxHeartbeats 4000000 in
theorem wk_127 : (wS0 cA h0 u h1 q)[127]? = some (adF cA h0 u h1 q out 127, celE (adF cA h0 u h1 q out) cA W0 127) := rfl
set_option maxRecDepth 100000 in
set_option maxHeartbeats 4000000 in
theorem wk_128 : (wS0 cA h0 u h1 q)[128]? = some (adF cA h0 u h1 q out 128, celE (adF cA h0 u h1 q out) cA W0 128) := rfl
set_option maxRecDepth 100000 in
set_option maxHeartbeats 4000000 in
theorem wk_129 : (wS0 cA h0 u h1 q)[129]? = some (adF cA h0 u h1 q out 129, celE (adF cA h0 u h1 q out) cA W0 129) := rfl
set_option maxRecDepth 100000 in
set_option maxHeartbeats 4000000 in
theorem wk_130 : (wS0 cA h0 u h1 q)[130]? = some (adF cA h0 u h1 q out 130, celE (adF cA h0 u h1 q out) cA W0 130) := rfl
set_option maxRecDepth 100000 in
set_option maxHeartbeats 4000000 in
theorem wk_131 : (wS0 cA h0 u h1 q)[131]? = some (adF cA h0 u h1 q out 131, celE (adF cA h0 u h1 q out) cA W0 131) := rfl
set_option maxRecDepth 100000 in
set_option maxHeartbeats 4000000 in
theorem wk_132 : (wS0 cA h0 u h1 q)[132]? = some (adF cA h0 u h1 q out 132, celE (adF cA h0 u h1 q out) cA W0 132) := rfl
set_option maxRecDepth 100000 in
set_option maxHeartbeats 4000000 in
theorem wk_133 : (wS0 cA h0 u h1 q)[133]? = some (adF cA h0 u h1 q out 133, celE (adF cA h0 u h1 q out) cA W0 133) := rfl
set_option maxRecDepth 100000 in
set_option maxHeartbeats 4000000 in
theorem wk_134 : (wS0 cA h0 u h1 q)[134]? = some (adF cA h0 u h1 q out 134, celE (adF cA h0 u h1 q out) cA W0 134) := rfl
set_option maxRecDepth 100000 in
set_option maxHeartbeats 4000000 in
theorem wk_135 : (wS0 cA h0 u h1 q)[135]? = some (adF cA h0 u h1 q out 135, celE (adF cA h0 u h1 q out) cA W0 135) := rfl
set_option maxRecDepth 100000 in
set_option maxHeartbeats 4000000 in
theorem wk_136 : (wS0 cA h0 u h1 q)[136]? = some (adF cA h0 u h1 q out 136, celE (adF cA h0 u h1 q out) cA W0 136) := rfl
set_option maxRecDepth 100000 in
set_option maxHeartbeats 4000000 in
theorem wk_137 : (wS0 cA h0 u h1 q)[137]? = some (adF cA h0 u h1 q out 137, celE (adF cA h0 u h1 q out) cA W0 137) := rfl
set_option maxRecDepth 100000 in
set_option maxHeartbeats 4000000 in
theorem wk_138 : (wS0 cA h0 u h1 q)[138]? = some (adF cA h0 u h1 q out 138, celE (adF cA h0 u h1 q out) cA W0 138) := rfl
set_option maxRecDepth 100000 in
set_option maxHeartbeats 4000000 in
theorem wk_139 : (wS0 cA h0 u h1 q)[139]? = some (adF cA h0 u h1 q out 139, celE (adF cA h0 u h1 q out) cA W0 139) := rfl
set_option maxRecDepth 100000 in
set_option maxHeartbeats 4000000 in
theorem wk_140 : (wS0 cA h0 u h1 q)[140]? = some (adF cA h0 u h1 q out 140, celE (adF cA h0 u h1 q out) cA W0 140) := rfl
set_option maxRecDepth 100000 in
set_option maxHeartbeats 4000000 in
theorem wk_141 : (wS0 cA h0 u h1 q)[141]? = some (adF cA h0 u h1 q out 141, celE (adF cA h0 u h1 q out) cA W0 141) := rfl
set_option maxRecDepth 100000 in
set_option maxHeartbeats 4000000 in
theorem wk_142 : (wS0 cA h0 u h1 q)[142]? = some (adF cA h0 u h1 q out 142, celE (adF cA h0 u h1 q out) cA W0 142) := rfl
set_option maxRecDepth 100000 in
set_option maxHeartbeats 4000000 in
theorem wk_143 : (wS0 cA h0 u h1 q)[143]? = some (adF cA h0 u h1 q out 143, celE (adF cA h0 u h1 q out) cA W0 143) := rfl
set_option maxRecDepth 100000 in
set_option maxHeartbeats 4000000 in
theorem wk_144 : (wS0 cA h0 u h1 q)[144]? = some (adF cA h0 u h1 q out 144, celE (adF cA h0 u h1 q out) cA W0 144) := rfl
set_option maxRecDepth 100000 in
set_option maxHeartbeats 4000000 in
theorem wk_145 : (wS0 cA h0 u h1 q)[145]? = some (adF cA h0 u h1 q out 145, celE (adF cA h0 u h1 q out) cA W0 145) := rfl
set_option maxRecDepth 100000 in
set_option maxHeartbeats 4000000 in
theorem wk_146 : (wS0 cA h0 u h1 q)[146]? = some (adF cA h0 u h1 q out 146, celE (adF cA h0 u h1 q out) cA W0 146) := rfl
set_option maxRecDepth 100000 in
set_option maxHeartbeats 4000000 in
theorem wk_147 : (wS0 cA h0 u h1 q)[147]? = some (adF cA h0 u h1 q out 147, celE (adF cA h0 u h1 q out) cA W0 147) := rfl
set_option maxRecDepth 100000 in
set_option maxHeartbeats 4000000 in
theorem wk_148 : (wS0 cA h0 u h1 q)[148]? = some (adF cA h0 u h1 q out 148, celE (adF cA h0 u h1 q out) cA W0 148) := rfl
set_option maxRecDepth 100000 in
set_option maxHeartbeats 4000000 in
theorem wk_149 : (wS0 cA h0 u h1 q)[149]? = some (adF cA h0 u h1 q out 149, celE (adF cA h0 u h1 q out) cA W0 149) := rfl
set_option maxRecDepth 100000 in
set_option maxHeartbeats 4000000 in
theorem wk_150 : (wS0 cA h0 u h1 q)[150]? = some (adF cA h0 u h1 q out 150, celE (adF cA h0 u h1 q out) cA W0 150) := rfl
set_option maxRecDepth 100000 in
set_option maxHeartbeats 4000000 in
theorem wk_151 : (wS0 cA h0 u h1 q)[151]? = some (adF cA h0 u h1 q out 151, celE (adF cA h0 u h1 q out) cA W0 151) := rfl
set_option maxRecDepth 100000 in
set_option maxHeartbeats 4000000 in
theorem wk_152 : (wS0 cA h0 u h1 q)[152]? = some (adF cA h0 u h1 q out 152, celE (adF cA h0 u h1 q out) cA W0 152) := rfl
set_option maxRecDepth 100000 in
set_option maxHeartbeats 4000000 in
theorem wk_153 : (wS0 cA h0 u h1 q)[153]? = some (adF cA h0 u h1 q out 153, celE (adF cA h0 u h1 q out) cA W0 153) := rfl
set_option maxRecDepth 100000 in
set_option maxHeartbeats 4000000 in
theorem wk_154 : (wS0 cA h0 u h1 q)[154]? = some (adF cA h0 u h1 q out 154, celE (adF cA h0 u h1 q out) cA W0 154) := rfl
set_option maxRecDepth 100000 in
set_option maxHeartbeats 4000000 in
theorem wk_155 : (wS0 cA h0 u h1 q)[155]? = some (adF cA h0 u h1 q out 155, celE (adF cA h0 u h1 q out) cA W0 155) := rfl
set_option maxRecDepth 100000 in
set_option maxHeartbeats 4000000 in
theorem wk_156 : (wS0 cA h0 u h1 q)[156]? = some (adF cA h0 u h1 q out 156, celE (adF cA h0 u h1 q out) cA W0 156) := rfl
set_option maxRecDepth 100000 in
set_option maxHeartbeats 4000000 in
theorem wk_157 : (wS0 cA h0 u h1 q)[157]? = some (adF cA h0 u h1 q out 157, celE (adF cA h0 u h1 q out) cA W0 157) := rfl
set_option maxRecDepth 100000 in
set_option maxHeartbeats 4000000 in
theorem wk_158 : (wS0 cA h0 u h1 q)[158]? = some (adF cA h0 u h1 q out 158, celE (adF cA h0 u h1 q out) cA W0 158) := rfl
set_option maxRecDepth 100000 in
set_option maxHeartbeats 4000000 in
theorem wk_159 : (wS0 cA h0 u h1 q)[159]? = some (adF cA h0 u h1 q out 159, celE (adF cA h0 u h1 q out) cA W0 159) := rfl
set_option maxRecDepth 100000 in
set_option maxHeartbeats 4000000 in
theorem wk_160 : (wS0 cA h0 u h1 q)[160]? = some (adF cA h0 u h1 q out 160, celE (adF cA h0 u h1 q out) cA W0 160) := rfl
set_option maxRecDepth 100000 in
set_option maxHeartbeats 4000000 in
theorem wk_161 : (wS0 cA h0 u h1 q)[161]? = some (adF cA h0 u h1 q out 161, celE (adF cA h0 u h1 q out) cA W0 161) := rfl
set_option maxRecDepth 100000 in
set_option maxHeartbeats 4000000 in
theorem wk_162 : (wS0 cA h0 u h1 q)[162]? = some (adF cA h0 u h1 q out 162, celE (adF cA h0 u h1 q out) cA W0 162) := rfl
set_option maxRecDepth 100000 in
set_option maxHeartbeats 4000000 in
theorem wk_163 : (wS0 cA h0 u h1 q)[163]? = some (adF cA h0 u h1 q out 163, celE (adF cA h0 u h1 q out) cA W0 163) := rfl
set_option maxRecDepth 100000 in
set_option maxHeartbeats 4000000 in
theorem wk_164 : (wS0 cA h0 u h1 q)[164]? = some (adF cA h0 u h1 q out 164, celE (adF cA h0 u h1 q out) cA W0 164) := rfl
set_option maxRecDepth 100000 in
set_option maxHeartbeats 4000000 in
theorem wk_165 : (wS0 cA h0 u h1 q)[165]? = some (adF cA h0 u h1 q out 165, celE (adF cA h0 u h1 q out) cA W0 165) := rfl
set_option maxRecDepth 100000 in
set_option maxHeartbeats 4000000 in
theorem wk_166 : (wS0 cA h0 u h1 q)[166]? = some (adF cA h0 u h1 q out 166, celE (adF cA h0 u h1 q out) cA W0 166) := rfl
set_option maxRecDepth 100000 in
set_option maxHeartbeats 4000000 in
theorem wk_167 : (wS0 cA h0 u h1 q)[167]? = some (adF cA h0 u h1 q out 167, celE (adF cA h0 u h1 q out) cA W0 167) := rfl
set_option maxRecDepth 100000 in
set_option maxHeartbeats 4000000 in
theorem wk_168 : (wS0 cA h0 u h1 q)[168]? = some (adF cA h0 u h1 q out 168, celE (adF cA h0 u h1 q out) cA W0 168) := rfl
set_option maxRecDepth 100000 in
set_option maxHeartbeats 4000000 in
theorem wk_169 : (wS0 cA h0 u h1 q)[169]? = some (adF cA h0 u h1 q out 169, celE (adF cA h0 u h1 q out) cA W0 169) := rfl
set_option maxRecDepth 100000 in
set_option maxHeartbeats 4000000 in
theorem wk_170 : (wS0 cA h0 u h1 q)[170]? = some (adF cA h0 u h1 q out 170, celE (adF cA h0 u h1 q out) cA W0 170) := rfl
set_option maxRecDepth 100000 in
set_option maxHeartbeats 4000000 in
theorem wk_171 : (wS0 cA h0 u h1 q)[171]? = some (adF cA h0 u h1 q out 171, celE (adF cA h0 u h1 q out) cA W0 171) := rfl
set_option maxRecDepth 100000 in
set_option maxHeartbeats 4000000 in
theorem wk_172 : (wS0 cA h0 u h1 q)[172]? = some (adF cA h0 u h1 q out 172, celE (adF cA h0 u h1 q out) cA W0 172) := rfl
set_option maxRecDepth 100000 in
set_option maxHeartbeats 4000000 in
theorem wk_173 : (wS0 cA h0 u h1 q)[173]? = some (adF cA h0 u h1 q out 173, celE (adF cA h0 u h1 q out) cA W0 173) := rfl
set_option maxRecDepth 100000 in
set_option maxHeartbeats 4000000 in
theorem wk_174 : (wS0 cA h0 u h1 q)[174]? = some (adF cA h0 u h1 q out 174, celE (adF cA h0 u h1 q out) cA W0 174) := rfl
set_option maxRecDepth 100000 in
set_option maxHeartbeats 4000000 in
theorem wk_175 : (wS0 cA h0 u h1 q)[175]? = some (adF cA h0 u h1 q out 175, celE (adF cA h0 u h1 q out) cA W0 175) := rfl
set_option maxRecDepth 100000 in
set_option maxHeartbeats 4000000 in
theorem wk_176 : (wS0 cA h0 u h1 q)[176]? = some (adF cA h0 u h1 q out 176, celE (adF cA h0 u h1 q out) cA W0 176) := rfl
set_option maxRecDepth 100000 in
set_option maxHeartbeats 4000000 in
theorem wk_177 : (wS0 cA h0 u h1 q)[177]? = some (adF cA h0 u h1 q out 177, celE (adF cA h0 u h1 q out) cA W0 177) := rfl
set_option maxRecDepth 100000 in
set_option maxHeartbeats 4000000 in
theorem wk_178 : (wS0 cA h0 u h1 q)[178]? = some (adF cA h0 u h1 q out 178, celE (adF cA h0 u h1 q out) cA W0 178) := rfl
set_option maxRecDepth 100000 in
set_option maxHeartbeats 4000000 in
theorem wk_179 : (wS0 cA h0 u h1 q)[179]? = some (adF cA h0 u h1 q out 179, celE (adF cA h0 u h1 q out) cA W0 179) := rfl
set_option maxRecDepth 100000 in
set_option maxHeartbeats 4000000 in
theorem wk_180 : (wS0 cA h0 u h1 q)[180]? = some (adF cA h0 u h1 q out 180, celE (adF cA h0 u h1 q out) cA W0 180) := rfl
set_option maxRecDepth 100000 in
set_option maxHeartbeats 4000000 in
theorem wk_181 : (wS0 cA h0 u h1 q)[181]? = some (adF cA h0 u h1 q out 181, celE (adF cA h0 u h1 q out) cA W0 181) := rfl
set_option maxRecDepth 100000 in
set_option maxHeartbeats 4000000 in
theorem wk_182 : (wS0 cA h0 u h1 q)[182]? = some (adF cA h0 u h1 q out 182, celE (adF cA h0 u h1 q out) cA W0 182) := rfl
set_option maxRecDepth 100000 in
set_option maxHeartbeats 4000000 in
theorem wk_183 : (wS0 cA h0 u h1 q)[183]? = some (adF cA h0 u h1 q out 183, celE (adF cA h0 u h1 q out) cA W0 183) := rfl
set_option maxRecDepth 100000 in
set_option maxHeartbeats 4000000 in
theorem wk_184 : (wS0 cA h0 u h1 q)[184]? = some (adF cA h0 u h1 q out 184, celE (adF cA h0 u h1 q out) cA W0 184) := rfl
set_option maxRecDepth 100000 in
set_option maxHeartbeats 4000000 in
theorem wk_185 : (wS0 cA h0 u h1 q)[185]? = some (adF cA h0 u h1 q out 185, celE (adF cA h0 u h1 q out) cA W0 185) := rfl
set_option maxRecDepth 100000 in
set_option maxHeartbeats 4000000 in
theorem wk_186 : (wS0 cA h0 u h1 q)[186]? = some (adF cA h0 u h1 q out 186, celE (adF cA h0 u h1 q out) cA W0 186) := rfl
set_option maxRecDepth 100000 in
set_option maxHeartbeats 4000000 in
theorem wk_187 : (wS0 cA h0 u h1 q)[187]? = some (adF cA h0 u h1 q out 187, celE (adF cA h0 u h1 q out) cA W0 187) := rfl
set_option maxRecDepth 100000 in
set_option maxHeartbeats 4000000 in
theorem wk_189 : (wS0 cA h0 u h1 q)[189]? = some (adF cA h0 u h1 q out 189, celE (adF cA h0 u h1 q out) cA W0 189) := rfl
set_option maxRecDepth 100000 in
set_option maxHeartbeats 4000000 in
theorem wk_190 : (wS0 cA h0 u h1 q)[190]? = some (adF cA h0 u h1 q out 190, celE (adF cA h0 u h1 q out) cA W0 190) := rfl
set_option maxRecDepth 100000 in
set_option maxHeartbeats 4000000 in
theorem wx_32 {D : va_G} {H : Heap} (hP : va_P D vwCl (wS0 cA h0 u h1 q) H) : va_at D vwCl (adF cA h0 u h1 q out 32, celE (adF cA h0 u h1 q out) cA W0 32) H := by
  have h := hP 32 (adF cA h0 u h1 q out 32, .inl (cA 7, 17, .inr (.inr (.inr (.inr (fun i => some (u.2.2.1.2 (1 + i)))))))) rfl
  exact va_at_q (g := fun i => some (adF cA h0 u h1 q out (rAt W0 32 (i : Int)))) h (fun j hj => match j, hj with
    | 0, _ => rfl
    | 1, _ => rfl
    | 2, _ => rfl
    | 3, _ => rfl
    | 4, _ => rfl
    | 5, _ => rfl
    | 6, _ => rfl
    | 7, _ => rfl
    | 8, _ => rfl
    | 9, _ => rfl
    | 10, _ => rfl
    | 11, _ => rfl
    | 12, _ => rfl
    | 13, _ => rfl
    | 14, _ => rfl
    | 15, _ => rfl
    | 16, _ => rfl
    | j + 17, h => absurd (show j + 17 < 17 from h) (by omega))
set_option maxRecDepth 100000 in
set_option maxHeartbeats 4000000 in
theorem wx_87 {D : va_G} {H : Heap} (hP : va_P D vwCl (wS0 cA h0 u h1 q) H) : va_at D vwCl (adF cA h0 u h1 q out 87, celE (adF cA h0 u h1 q out) cA W0 87) H := by
  have h := hP 87 (adF cA h0 u h1 q out 87, .inl (cA 4, 10, .inr (.inr (.inr (.inr (va_up (va_up (va_up (va_up (va_up (va_up (va_up (va_up (va_up (va_up (fun _ => none) 0 (some (u.1 15))) 1 (some (u.1 16))) 2 (some (u.1 17))) 3 (some (u.1 18))) 4 (some (u.1 19))) 5 (some (u.1 20))) 6 (some (u.1 21))) 7 (some (u.1 22))) 8 (some (u.1 23))) 9 (some (u.1 24)))))))) rfl
  exact va_at_q (g := fun i => some (adF cA h0 u h1 q out (rAt W0 87 (i : Int)))) h (fun j hj => match j, hj with
    | 0, _ => rfl
    | 1, _ => rfl
    | 2, _ => rfl
    | 3, _ => rfl
    | 4, _ => rfl
    | 5, _ => rfl
    | 6, _ => rfl
    | 7, _ => rfl
    | 8, _ => rfl
    | 9, _ => rfl
    | j + 10, h => absurd (show j + 10 < 10 from h) (by omega))
set_option maxRecDepth 100000 in
set_option maxHeartbeats 4000000 in
theorem wx_88 {D : va_G} {H : Heap} (hP : va_P D vwCl (wS0 cA h0 u h1 q) H) : va_at D vwCl (adF cA h0 u h1 q out 88, celE (adF cA h0 u h1 q out) cA W0 88) H := by
  have h := hP 88 (adF cA h0 u h1 q out 88, .inl (cA 5, 4, .inr (.inr (.inr (.inr (va_up (va_up (va_up (va_up (fun _ => none) 0 (some (u.1 25))) 1 (some (u.1 26))) 2 (some (u.1 27))) 3 (some (u.1 28)))))))) rfl
  exact va_at_q (g := fun i => some (adF cA h0 u h1 q out (rAt W0 88 (i : Int)))) h (fun j hj => match j, hj with
    | 0, _ => rfl
    | 1, _ => rfl
    | 2, _ => rfl
    | 3, _ => rfl
    | j + 4, h => absurd (show j + 4 < 4 from h) (by omega))
set_option maxRecDepth 100000 in
set_option maxHeartbeats 4000000 in
theorem wx_89 {D : va_G} {H : Heap} (hP : va_P D vwCl (wS0 cA h0 u h1 q) H) : va_at D vwCl (adF cA h0 u h1 q out 89, celE (adF cA h0 u h1 q out) cA W0 89) H := by
  have h := hP 89 (adF cA h0 u h1 q out 89, .inl (cA 6, 2, .inr (.inr (.inr (.inr (va_up (va_up (fun _ => none) 0 (some (u.1 29))) 1 (some (u.1 31)))))))) rfl
  exact va_at_q (g := fun i => some (adF cA h0 u h1 q out (rAt W0 89 (i : Int)))) h (fun j hj => match j, hj with
    | 0, _ => rfl
    | 1, _ => rfl
    | j + 2, h => absurd (show j + 2 < 2 from h) (by omega))
set_option maxRecDepth 100000 in
set_option maxHeartbeats 4000000 in
theorem wx_90 {D : va_G} {H : Heap} (hP : va_P D vwCl (wS0 cA h0 u h1 q) H) : va_at D vwCl (adF cA h0 u h1 q out 90, celE (adF cA h0 u h1 q out) cA W0 90) H := by
  have h := hP 90 (adF cA h0 u h1 q out 90, .inl (cA 4, 2, .inr (.inr (.inr (.inr (va_up (va_up (fun _ => none) 0 (some (u.1 30))) 1 (some (u.1 32)))))))) rfl
  exact va_at_q (g := fun i => some (adF cA h0 u h1 q out (rAt W0 90 (i : Int)))) h (fun j hj => match j, hj with
    | 0, _ => rfl
    | 1, _ => rfl
    | j + 2, h => absurd (show j + 2 < 2 from h) (by omega))
set_option maxRecDepth 100000 in
set_option maxHeartbeats 4000000 in
theorem wx_188 {D : va_G} {H : Heap} (hP : va_P D vwCl (wS0 cA h0 u h1 q) H) : va_at D vwCl (adF cA h0 u h1 q out 188, celE (adF cA h0 u h1 q out) cA W0 188) H := by
  have h := hP 188 (adF cA h0 u h1 q out 188, .inl (cA 0, 4, .inl (upd (upd (upd (upd (fun _ => Int32.ofInt 0) 0 (-1)) 1 (-1)) 2 (-1)) 3 (-1)))) rfl
  exact va_at_i (g := fun i => Int32.ofInt (W0 188 (i : Int))) h (fun j hj => match j, hj with
    | 0, _ => rfl
    | 1, _ => rfl
    | 2, _ => rfl
    | 3, _ => rfl
    | j + 4, h => absurd (show j + 4 < 4 from h) (by omega))
theorem first_P {D : va_G} {H : Heap} {L : Nat} {xs : Nat → Int32} (hP : va_P D vwCl (wS0 cA h0 u h1 q) H) : va_P D vwCl (wsE (adF cA h0 u h1 q out) cA (wS L xs)) H := by
  intro k x hk
  obtain ⟨hk2, rfl⟩ := wsE_of hk
  have ew : wS L xs k = W0 k := funext fun i => wS_fst k i hk2
  rw [celE_w ew]
  clear ew hk
  exact match k, hk2 with
  | 0, _ => hP 0 _ wk_0
  | 1, _ => hP 1 _ wk_1
  | 2, _ => hP 2 _ wk_2
  | 3, _ => hP 3 _ wk_3
  | 4, _ => hP 4 _ wk_4
  | 5, _ => hP 5 _ wk_5
  | 6, _ => hP 6 _ wk_6
  | 7, _ => hP 7 _ wk_7
  | 8, _ => hP 8 _ wk_8
  | 9, _ => hP 9 _ wk_9
  | 10, _ => hP 10 _ wk_10
  | 11, _ => hP 11 _ wk_11
  | 12, _ => hP 12 _ wk_12
  | 13, _ => hP 13 _ wk_13
  | 14, _ => hP 14 _ wk_14
  | 15, _ => hP 15 _ wk_15
  | 16, _ => hP 16 _ wk_16
  | 17, _ => hP 17 _ wk_17
  | 18, _ => hP 18 _ wk_18
  | 19, _ => hP 19 _ wk_19
  | 20, _ => hP 20 _ wk_20
  | 21, _ => hP 21 _ wk_21
  | 22, _ => hP 22 _ wk_22
  | 23, _ => hP 23 _ wk_23
  | 24, _ => hP 24 _ wk_24
  | 25, _ => hP 25 _ wk_25
  | 26, _ => hP 26 _ wk_26
  | 27, _ => hP 27 _ wk_27
  | 28, _ => hP 28 _ wk_28
  | 29, _ => hP 29 _ wk_29
  | 30, _ => hP 30 _ wk_30
  | 31, _ => hP 31 _ wk_31
  | 32, _ => wx_32 hP
  | 33, _ => hP 33 _ wk_33
  | 34, _ => hP 34 _ wk_34
  | 35, _ => hP 35 _ wk_35
  | 36, _ => hP 36 _ wk_36
  | 37, _ => hP 37 _ wk_37
  | 38, _ => hP 38 _ wk_38
  | 39, _ => hP 39 _ wk_39
  | 40, _ => hP 40 _ wk_40
  | 41, _ => hP 41 _ wk_41
  | 42, _ => hP 42 _ wk_42
  | 43, _ => hP 43 _ wk_43
  | 44, _ => hP 44 _ wk_44
  | 45, _ => hP 45 _ wk_45
  | 46, _ => hP 46 _ wk_46
  | 47, _ => hP 47 _ wk_47
  | 48, _ => hP 48 _ wk_48
  | 49, _ => hP 49 _ wk_49
  | 50, _ => hP 50 _ wk_50
  | 51, _ => hP 51 _ wk_51
  | 52, _ => hP 52 _ wk_52
  | 53, _ => hP 53 _ wk_53
  | 54, _ => hP 54 _ wk_54
  | 55, _ => hP 55 _ wk_55
  | 56, _ => hP 56 _ wk_56
  | 57, _ => hP 57 _ wk_57
  | 58, _ => hP 58 _ wk_58
  | 59, _ => hP 59 _ wk_59
  | 60, _ => hP 60 _ wk_60
  | 61, _ => hP 61 _ wk_61
  | 62, _ => hP 62 _ wk_62
  | 63, _ => hP 63 _ wk_63
  | 64, _ => hP 64 _ wk_64
  | 65, _ => hP 65 _ wk_65
  | 66, _ => hP 66 _ wk_66
  | 67, _ => hP 67 _ wk_67
  | 68, _ => hP 68 _ wk_68
  | 69, _ => hP 69 _ wk_69
  | 70, _ => hP 70 _ wk_70
  | 71, _ => hP 71 _ wk_71
  | 72, _ => hP 72 _ wk_72
  | 73, _ => hP 73 _ wk_73
  | 74, _ => hP 74 _ wk_74
  | 75, _ => hP 75 _ wk_75
  | 76, _ => hP 76 _ wk_76
  | 77, _ => hP 77 _ wk_77
  | 78, _ => hP 78 _ wk_78
  | 79, _ => hP 79 _ wk_79
  | 80, _ => hP 80 _ wk_80
  | 81, _ => hP 81 _ wk_81
  | 82, _ => hP 82 _ wk_82
  | 83, _ => hP 83 _ wk_83
  | 84, _ => hP 84 _ wk_84
  | 85, _ => hP 85 _ wk_85
  | 86, _ => hP 86 _ wk_86
  | 87, _ => wx_87 hP
  | 88, _ => wx_88 hP
  | 89, _ => wx_89 hP
  | 90, _ => wx_90 hP
  | 91, _ => hP 91 _ wk_91
  | 92, _ => hP 92 _ wk_92
  | 93, _ => hP 93 _ wk_93
  | 94, _ => hP 94 _ wk_94
  | 95, _ => hP 95 _ wk_95
  | 96, _ => hP 96 _ wk_96
  | 97, _ => hP 97 _ wk_97
  | 98, _ => hP 98 _ wk_98
  | 99, _ => hP 99 _ wk_99
  | 100, _ => hP 100 _ wk_100
  | 101, _ => hP 101 _ wk_101
  | 102, _ => hP 102 _ wk_102
  | 103, _ => hP 103 _ wk_103
  | 104, _ => hP 104 _ wk_104
  | 105, _ => hP 105 _ wk_105
  | 106, _ => hP 106 _ wk_106
  | 107, _ => hP 107 _ wk_107
  | 108, _ => hP 108 _ wk_108
  | 109, _ => hP 109 _ wk_109
  | 110, _ => hP 110 _ wk_110
  | 111, _ => hP 111 _ wk_111
  | 112, _ => hP 112 _ wk_112
  | 113, _ => hP 113 _ wk_113
  | 114, _ => hP 114 _ wk_114
  | 115, _ => hP 115 _ wk_115
  | 116, _ => hP 116 _ wk_116
  | 117, _ => hP 117 _ wk_117
  | 118, _ => hP 118 _ wk_118
  | 119, _ => hP 119 _ wk_119
  | 120, _ => hP 120 _ wk_120
  | 121, _ => hP 121 _ wk_121
  | 122, _ => hP 122 _ wk_122
  | 123, _ => hP 123 _ wk_123
  | 124, _ => hP 124 _ wk_124
  | 125, _ => hP 125 _ wk_125
  | 126, _ => hP 126 _ wk_126
  | 127, _ => hP 127 _ wk_127
  | 128, _ => hP 128 _ wk_128
  | 129, _ => hP 129 _ wk_129
  | 130, _ => hP 130 _ wk_130
  | 131, _ => hP 131 _ wk_131
  | 132, _ => hP 132 _ wk_132
  | 133, _ => hP 133 _ wk_133
  | 134, _ => hP 134 _ wk_134
  | 135, _ => hP 135 _ wk_135
  | 136, _ => hP 136 _ wk_136
  | 137, _ => hP 137 _ wk_137
  | 138, _ => hP 138 _ wk_138
  | 139, _ => hP 139 _ wk_139
  | 140, _ => hP 140 _ wk_140
  | 141, _ => hP 141 _ wk_141
  | 142, _ => hP 142 _ wk_142
  | 143, _ => hP 143 _ wk_143
  | 144, _ => hP 144 _ wk_144
  | 145, _ => hP 145 _ wk_145
  | 146, _ => hP 146 _ wk_146
  | 147, _ => hP 147 _ wk_147
  | 148, _ => hP 148 _ wk_148
  | 149, _ => hP 149 _ wk_149
  | 150, _ => hP 150 _ wk_150
  | 151, _ => hP 151 _ wk_151
  | 152, _ => hP 152 _ wk_152
  | 153, _ => hP 153 _ wk_153
  | 154, _ => hP 154 _ wk_154
  | 155, _ => hP 155 _ wk_155
  | 156, _ => hP 156 _ wk_156
  | 157, _ => hP 157 _ wk_157
  | 158, _ => hP 158 _ wk_158
  | 159, _ => hP 159 _ wk_159
  | 160, _ => hP 160 _ wk_160
  | 161, _ => hP 161 _ wk_161
  | 162, _ => hP 162 _ wk_162
  | 163, _ => hP 163 _ wk_163
  | 164, _ => hP 164 _ wk_164
  | 165, _ => hP 165 _ wk_165
  | 166, _ => hP 166 _ wk_166
  | 167, _ => hP 167 _ wk_167
  | 168, _ => hP 168 _ wk_168
  | 169, _ => hP 169 _ wk_169
  | 170, _ => hP 170 _ wk_170
  | 171, _ => hP 171 _ wk_171
  | 172, _ => hP 172 _ wk_172
  | 173, _ => hP 173 _ wk_173
  | 174, _ => hP 174 _ wk_174
  | 175, _ => hP 175 _ wk_175
  | 176, _ => hP 176 _ wk_176
  | 177, _ => hP 177 _ wk_177
  | 178, _ => hP 178 _ wk_178
  | 179, _ => hP 179 _ wk_179
  | 180, _ => hP 180 _ wk_180
  | 181, _ => hP 181 _ wk_181
  | 182, _ => hP 182 _ wk_182
  | 183, _ => hP 183 _ wk_183
  | 184, _ => hP 184 _ wk_184
  | 185, _ => hP 185 _ wk_185
  | 186, _ => hP 186 _ wk_186
  | 187, _ => hP 187 _ wk_187
  | 188, _ => wx_188 hP
  | 189, _ => hP 189 _ wk_189
  | 190, _ => hP 190 _ wk_190
  | k + 191, h => absurd h (by omega)
end Fst1
