/-! Least tangles, in the class: from order to order. -/
def OcC (w : aW) (n O : Nat) : Prop := ∀ i : Nat, i < n → w 53 (i : Int) = ((dg O i : Nat) : Int)
def WyC (w : aW) (n W : Nat) : Prop := ∀ i : Nat, i < n → w 54 (i : Int) = if W.testBit i = true then 1 else -1
/-- limbs by place, places by limb -/
def OkP (n O P : Nat) : Prop := ∀ i, i < n → dg O i < n ∧ dg P (dg O i) = i ∧ dg P i < n ∧ dg O (dg P i) = i
theorem OkP.inj {n O P : Nat} (h : OkP n O P) : InjP n (dg P) := fun i j hi hj e => by
  have h1 := (h i hi).2.2.2
  have h2 := (h j hj).2.2.2
  rw [← h1, ← h2, e]
theorem nb_ok {n O W b : Nat} (hb : b < n) (hc : cnB n O W b = true) : nbN O W b < n ∧ nbN O W b ≠ b ∧ dg O (nbN O W b) < dg O b ∧ (nbN O W b = b + 1 ∨ b = nbN O W b + 1) ∧ (nbN O W b : Int) = (b : Int) + (if W.testBit (dg O b) = true then 1 else -1) := by
  unfold cnB at hc
  unfold nbN
  by_cases q : W.testBit (dg O b) = true
  · rw [if_pos q] at hc
    rw [if_pos q, if_pos q]
    rw [Bool.and_eq_true] at hc
    have h1 := of_decide_eq_true hc.1
    have h2 := of_decide_eq_true hc.2
    exact ⟨by omega, by omega, h2, by omega, by omega⟩
  · rw [if_neg q] at hc
    rw [if_neg q, if_neg q]
    rw [Bool.and_eq_true] at hc
    have h1 := of_decide_eq_true hc.1
    have h2 := of_decide_eq_true hc.2
    exact ⟨by omega, by omega, h2, by omega, by omega⟩
/-- what a good step says -/
theorem st_ok {n O P W b O1 P1 W1 : Nat} (h : stOk n O P W b O1 P1 W1 = true) : ∀ i, i < n →
    dg O1 i = (if i = b then dg O (nbN O W b) else if i = nbN O W b then dg O b else dg O i)
    ∧ dg P1 i = (if i = dg O b then nbN O W b else if i = dg O (nbN O W b) then b else dg P i)
    ∧ W1.testBit i = (if dg O b < i then !W.testBit i else W.testBit i) := by
  intro i hi
  unfold stOk at h
  rw [List.all_eq_true] at h
  have h1 := h i (List.mem_range.mpr hi)
  rw [Bool.and_eq_true, Bool.and_eq_true] at h1
  exact ⟨of_decide_eq_true h1.1, of_decide_eq_true h1.2.1, of_decide_eq_true h1.2.2⟩
theorem OkP_st {n O P W b O1 P1 W1 : Nat} (hk : OkP n O P) (hb : b < n) (hc : cnB n O W b = true) (h : stOk n O P W b O1 P1 W1 = true) : OkP n O1 P1 := by
  obtain ⟨b1, b2, b3, b4, -⟩ := nb_ok hb hc
  have hs := st_ok h
  generalize hq : nbN O W b = q at *
  obtain ⟨l1, l2, -, -⟩ := hk b hb
  obtain ⟨m1, m2, -, -⟩ := hk q b1
  intro i hi
  obtain ⟨i1, i2, i3, i4⟩ := hk i hi
  obtain ⟨s1, s2, -⟩ := hs i hi
  have hO : dg O1 i < n ∧ dg P1 (dg O1 i) = i := by
    rw [s1]
    by_cases z1 : i = b
    · rw [if_pos z1]
      refine ⟨m1, ?_⟩
      rw [(hs (dg O q) m1).2.1, if_neg (by omega), if_pos rfl, z1]
    · rw [if_neg z1]
      by_cases z2 : i = q
      · rw [if_pos z2]
        refine ⟨l1, ?_⟩
        rw [(hs (dg O b) l1).2.1, if_pos rfl, z2]
      · rw [if_neg z2]
        refine ⟨i1, ?_⟩
        rw [(hs (dg O i) i1).2.1, if_neg (fun e => z1 (by rw [← i2, ← l2, e])), if_neg (fun e => z2 (by rw [← i2, ← m2, e]))]
        exact i2
  have hP : dg P1 i < n ∧ dg O1 (dg P1 i) = i := by
    rw [s2]
    by_cases z1 : i = dg O b
    · rw [if_pos z1]
      refine ⟨b1, ?_⟩
      rw [(hs q b1).1, if_neg b2, if_pos rfl, z1]
    · rw [if_neg z1]
      by_cases z2 : i = dg O q
      · rw [if_pos z2]
        refine ⟨hb, ?_⟩
        rw [(hs b hb).1, if_pos rfl, z2]
      · rw [if_neg z2]
        refine ⟨i3, ?_⟩
        rw [(hs (dg P i) i3).1, if_neg (fun e => z1 (by rw [← e]; exact i4.symm)), if_neg (fun e => z2 (by rw [← e]; exact i4.symm))]
        exact i4
  exact ⟨hO.1, hO.2, hP.1, hP.2⟩
section TglE
variable {d D : Nat} {w : aW} {Q : Option aV → aW → Prop}
/-- movable(n) -/
theorem k_movable {n O W : Nat} {x2 x3 x4 x5 : Option aV} (hn : n ≤ 7) (hO : ∀ i, i < n → dg O i < n) (h1 : OcC w n O) (h2 : WyC w n W) (hQ : Q (some (vi (if mvN n O W n 0 8 = 8 then -1 else ((mvN n O W n 0 8 : Nat) : Int)))) w) :
    T d 257 0 [some (vr 52), some (vi (n : Int)), x2, x3, x4, x5] [] w Q := by
  rw [g257_0]
  have key : ∀ (k i b : Nat) (a2 a3 : Int) (y4 y5 : Option aV), i + k = n → a3 = (i : Int) → a2 = (if b = 8 then -1 else (b : Int)) → (b = 8 ∨ b < i) → mvN n O W k i b = mvN n O W n 0 8 → T d 257 4 [some (vr 52), some (vi (n : Int)), some (vi a2), some (vi a3), y4, y5] [] w Q := by
    intro k
    induction k with
    | zero =>
      intro i b a2 a3 y4 y5 hi h3 ha hb hm
      rw [g257_4]
      refine ⟨fun _ => ?_, fun h => absurd (by omega) h⟩
      rw [← hm] at hQ
      rw [ha]; exact hQ
    | succ k ih =>
      intro i b a2 a3 y4 y5 hi h3 ha hb hm
      subst h3
      have ti : Unit → w32 ((i : Int) + 1) = ((i + 1 : Nat) : Int) := fun _ => by rw [w32_id (by omega) (by omega)]; omega
      rw [mvN] at hm
      have hoi := hO i (by omega)
      have ei := h1 i (by omega)
      have h85 : ∀ (b' : Nat) (z : Int) (y4 y5 : Option aV), b' = (if cnB n O W i && (decide (b = 8) || decide (dg O b < dg O i)) then i else b) → z = (if b' = 8 then -1 else (b' : Int)) → T d 257 85 [some (vr 52), some (vi (n : Int)), some (vi z), some (vi (i : Int)), y4, y5] [] w Q := by
        intro b' z y4 y5 hb' hz
        rw [← hb'] at hm
        rw [g257_85, ti ()]
        refine ih (i + 1) b' z _ _ _ (by omega) rfl hz ?_ hm
        rw [hb']
        split
        · exact Or.inr (by omega)
        · rcases hb with q | q
          · exact Or.inl q
          · exact Or.inr (by omega)
      have h55 : cnB n O W i = false → ∀ y4 y5 : Option aV, T d 257 55 [some (vr 52), some (vi (n : Int)), some (vi a2), some (vi (i : Int)), y4, y5] [] w Q := by
        intro hc y4 y5
        rw [g257_55, g257_56]
        refine ⟨fun _ => h85 b a2 _ _ ?_ ha, fun h => absurd rfl h⟩
        rw [hc, Bool.false_and, if_neg Bool.false_ne_true]
      have h56 : cnB n O W i = true → ∀ y4 y5 : Option aV, T d 257 56 [some (vr 52), some (vi (n : Int)), some (vi a2), some (vi (i : Int)), y4, y5] [vi 1] w Q := by
        intro hc y4 y5
        rw [g257_56]
        refine ⟨fun h => absurd h (by decide), fun _ => ⟨fun h8 => ?_, fun h8 => ?_⟩⟩
        · have hb8 : b = 8 := by
            refine Classical.byContradiction (fun hne => ?_)
            rw [if_neg hne] at ha; omega
          rw [g257_83]
          refine h85 i _ _ _ ?_ (by rw [if_neg (by omega)])
          rw [hc, decide_eq_true hb8]; rfl
        · have hb8 : b ≠ 8 := fun e => h8 (by rw [ha, if_pos e])
          have hbi : b < i := by omega
          rw [if_neg hb8] at ha
          subst ha
          rw [ei, h1 b (by omega)]
          refine ⟨by omega, by omega, fun hle => ?_, fun hle => ?_⟩
          · refine h85 b _ _ _ ?_ (by rw [if_neg hb8])
            rw [hc, decide_eq_false hb8, decide_eq_false (show ¬ (dg O b < dg O i) by omega)]; rfl
          · rw [g257_83]
            refine h85 i _ _ _ ?_ (by rw [if_neg (by omega)])
            rw [hc, decide_eq_false hb8, decide_eq_true (show dg O b < dg O i by omega)]; rfl
      rw [g257_4, ei, h2 (dg O i) hoi]
      refine ⟨fun h => absurd h (by omega), fun _ => ⟨by omega, by omega, ?_⟩⟩
      by_cases q : W.testBit (dg O i) = true
      · rw [if_pos q, ti ()]
        have hc : cnB n O W i = (decide (i + 1 < n) && decide (dg O (i + 1) < dg O i)) := by unfold cnB; rw [if_pos q]
        refine ⟨fun h => absurd h (by omega), fun _ => ⟨fun h => h55 ?_ _ _, fun h => ⟨by omega, by omega, fun h9 => ?_, fun h9 => ?_⟩⟩⟩
        · rw [hc, decide_eq_false (by omega), Bool.false_and]
        · rw [h1 (i + 1) (by omega)] at h9
          refine h55 ?_ _ _
          rw [hc, decide_eq_false (p := dg O (i + 1) < dg O i) (by omega), Bool.and_false]
        · rw [h1 (i + 1) (by omega)] at h9
          refine h56 ?_ _ _
          rw [hc, decide_eq_true (show i + 1 < n by omega), decide_eq_true (show dg O (i + 1) < dg O i by omega)]; rfl
      · have e : w32 ((i : Int) + -1) = (i : Int) - 1 := by rw [w32_id (by omega) (by omega)]; omega
        have hc : cnB n O W i = (decide (0 < i) && decide (dg O (i - 1) < dg O i)) := by unfold cnB; rw [if_neg q]
        rw [if_neg q, e]
        refine ⟨fun h => h55 ?_ _ _, fun h => ⟨fun h' => absurd h' (by omega), fun h' => ⟨by omega, by omega, fun h9 => ?_, fun h9 => ?_⟩⟩⟩
        · rw [hc, decide_eq_false (by omega), Bool.false_and]
        · rw [show (i : Int) - 1 = ((i - 1 : Nat) : Int) by omega, h1 (i - 1) (by omega)] at h9
          refine h55 ?_ _ _
          rw [hc, decide_eq_false (p := dg O (i - 1) < dg O i) (by omega), Bool.and_false]
        · rw [show (i : Int) - 1 = ((i - 1 : Nat) : Int) by omega, h1 (i - 1) (by omega)] at h9
          refine h56 ?_ _ _
          rw [hc, decide_eq_true (show 0 < i by omega), decide_eq_true (show dg O (i - 1) < dg O i by omega)]; rfl
  exact key n 0 8 _ _ _ _ (by omega) rfl rfl (Or.inl rfl) rfl
/-- change(at, n) -/
theorem k_change {n O P W b O1 P1 W1 np : Nat} {pr : Nat → aPr} {x3 x4 x5 x6 : Option aV} (hn : n ≤ 7) (hk : OkP n O P) (h1 : OcC w n O) (h2 : WyC w n W) (hP : PiC w n (dg P) np pr) (hb : b < n) (hc : cnB n O W b = true) (hst : stOk n O P W b O1 P1 W1 = true)
    (hQ : ∀ w' : aW, (∀ c i, ¬ (52 ≤ c ∧ c ≤ 56) → w' c i = w c i) → OcC w' n O1 → WyC w' n W1 → PiC w' n (dg P1) np pr → Q none w') :
    T (d + 1) 258 0 [some (vr 52), some (vi (b : Int)), some (vi (n : Int)), x3, x4, x5, x6] [] w Q := by
  obtain ⟨b1, b2, b3, b4, b5⟩ := nb_ok hb hc
  have hs := st_ok hst
  have lO : ∀ i, i < n → dg O i < n := fun i hi => (hk i hi).1
  have hl := lO b hb
  have hm := lO _ b1
  have eb := h1 b hb
  have eq1 := h1 _ b1
  obtain ⟨p1, p2, ⟨Z, z1, z2, z3⟩, X, hX⟩ := hP
  have e0 : Unit → w32 ((b : Int) + (if W.testBit (dg O b) = true then 1 else -1)) = ((nbN O W b : Nat) : Int) := fun _ => by rw [← b5, w32_id (by omega) (by omega)]
  rw [g258_0, eb, h2 (dg O b) hl, e0 (), eq1]
  refine ⟨by omega, by omega, fun h => absurd h (by omega), fun _ => ⟨fun _ => ⟨by omega, ?_⟩, fun h => absurd (by omega) h⟩⟩
  rw [k_spot (by omega) (by omega)]
  simp only [tl_some]
  have hsp := spt_lt (a := dg O b) (b := dg O (nbN O W b)) (by omega) (by omega)
  obtain ⟨y1, y2, y3⟩ := hX _ hsp
  have t1 : Unit → w32 (((dg O b : Nat) : Int) + 1) = ((dg O b + 1 : Nat) : Int) := fun _ => by rw [w32_id (by omega) (by omega)]; omega
  rw [g258_40, t1 ()]
  rw [iup_c (show (56 : Nat) ≠ 52 by decide), iup_i (show (5 : Int) ≠ 4 by decide), z1, z2, y1, y2, kN_xor, kN_xor, ← Nat.xor_div_two_pow, iup_c (show (53 : Nat) ≠ 52 by decide), iup_c (show (53 : Nat) ≠ 52 by decide), eq1]
  refine ⟨by omega, by omega, by omega, by omega, by omega, ?_⟩
  -- the ways behind the limb turn about
  have key : ∀ (m o : Nat) (w1 : aW) (a6 : Int), o + m = n → a6 = (o : Int) → dg O b < o → (∀ c i, ¬ (52 ≤ c ∧ c ≤ 56) → w1 c i = w c i) → OcC w1 n O1 → PiC w1 n (dg P1) np pr → (∀ i : Nat, i < n → w1 54 (i : Int) = if (if dg O b < i ∧ i < o then !W.testBit i else W.testBit i) = true then 1 else -1) →
      T (d + 1) 258 100 [some (vr 52), some (vi (b : Int)), some (vi (n : Int)), some (vi ((dg O b : Nat) : Int)), some (vi ((nbN O W b : Nat) : Int)), some (vi ((spt (dg O b) (dg O (nbN O W b)) : Nat) : Int)), some (vi a6)] [] w1 Q := by
    intro m
    induction m with
    | zero =>
      intro o w1 a6 ho h6 hlo hw hOc hPc hWy
      rw [g258_100]
      refine ⟨fun _ => hQ w1 hw hOc (fun i hi => ?_) hPc, fun h => absurd (by omega) h⟩
      rw [hWy i hi, (hs i hi).2.2]
      by_cases z : dg O b < i
      · rw [if_pos (show dg O b < i ∧ i < o from ⟨z, by omega⟩), if_pos z]
      · rw [if_neg (show ¬ (dg O b < i ∧ i < o) from fun q => z q.1), if_neg z]
    | succ m ih =>
      intro o w1 a6 ho h6 hlo hw hOc hPc hWy
      subst h6
      have to : Unit → w32 ((o : Int) + 1) = ((o + 1 : Nat) : Int) := fun _ => by rw [w32_id (by omega) (by omega)]; omega
      have e54 := hWy o (by omega)
      rw [if_neg (show ¬ (dg O b < o ∧ o < o) by omega)] at e54
      have en : w32 (-(if W.testBit o = true then (1 : Int) else -1)) = if (!W.testBit o) = true then 1 else -1 := by
        cases W.testBit o <;> decide
      rw [g258_100, e54, en, to ()]
      refine ⟨fun h => absurd h (by omega), fun _ => ⟨by omega, by omega, ih (o + 1) _ _ (by omega) rfl (by omega) (fun c i q => by rw [iup_c (by omega)]; exact hw c i q) (fun i hi => by rw [iup_c (by decide)]; exact hOc i hi) (hPc.of (fun c i q => iup_c (by omega))) (fun i hi => ?_)⟩⟩
      by_cases z : i = o
      · subst z
        rw [iup_s, if_pos (show dg O b < i ∧ i < i + 1 from ⟨hlo, by omega⟩)]
      · rw [iup_i (by omega), hWy i hi]
        by_cases z2 : dg O b < i ∧ i < o
        · rw [if_pos z2, if_pos (show dg O b < i ∧ i < o + 1 from ⟨z2.1, by omega⟩)]
        · rw [if_neg z2, if_neg (show ¬ (dg O b < i ∧ i < o + 1) from fun q => z2 ⟨q.1, by omega⟩)]
  refine key (n - (dg O b + 1)) (dg O b + 1) _ _ (by omega) rfl (by omega) (fun c i q => by rw [iup_c (by omega), iup_c (by omega), iup_c (by omega), iup_c (by omega)]) (fun i hi => ?_) ⟨?_, p2, ⟨Z ^^^ X (spt (dg O b) (dg O (nbN O W b))), ?_, ?_, fun k => ?_⟩, X, fun i hi => ?_⟩ (fun i hi => ?_)
  · rw [(hs i hi).1]
    by_cases q1 : i = nbN O W b
    · subst q1
      rw [iup_s, if_neg b2, if_pos rfl]
    · rw [iup_i (by omega)]
      by_cases q2 : i = b
      · subst q2
        rw [iup_s, if_pos rfl]
      · rw [iup_i (by omega), iup_c (by decide), iup_c (by decide), if_neg q2, if_neg q1]
        exact h1 i hi
  · rw [iup_c (by decide), iup_c (by decide), iup_i (by decide), iup_i (by decide)]
    exact p1
  · rw [iup_c (by decide), iup_c (by decide), iup_i (by decide), iup_s]
  · rw [iup_c (by decide), iup_c (by decide), iup_s]
  · rw [Nat.testBit_xor, z3 k, y3 k]
    by_cases q : k < np
    · rw [decide_eq_true q, Bool.true_and, Bool.true_and, Bool.true_and]
      have hpl : dg P (dg O b) = b := (hk b hb).2.1
      have hpm : dg P (dg O (nbN O W b)) = nbN O W b := (hk _ b1).2.1
      have hlm : dg O b ≠ dg O (nbN O W b) := by omega
      have e1 : dg P1 (dg O b) = dg P (dg O (nbN O W b)) := by rw [(hs _ hl).2.1, if_pos rfl, hpm]
      have e2 : dg P1 (dg O (nbN O W b)) = dg P (dg O b) := by rw [(hs _ hm).2.1, if_neg (fun z => hlm z.symm), if_pos rfl, hpl]
      rw [nb_tg (p := dg P) (p' := dg P1) hn hl hm hlm (by rw [hpl, hpm]; omega) hk.inj e1 e2 (fun x hx q1 q2 => by rw [(hs x hx).2.1, if_neg q1, if_neg q2]) (p2 k q)]
    · rw [decide_eq_false q, Bool.false_and, Bool.false_and, Bool.false_and]
      rfl
  · rw [iup_c (by decide), iup_c (by decide), iup_c (by decide), iup_c (by decide), iup_c (by decide), iup_c (by decide), iup_c (by decide), iup_c (by decide)]
    exact hX i hi
  · rw [iup_c (by decide), iup_c (by decide), iup_c (by decide), iup_c (by decide), h2 i hi, if_neg (show ¬ (dg O b < i ∧ i < dg O b + 1) by omega)]
end TglE
