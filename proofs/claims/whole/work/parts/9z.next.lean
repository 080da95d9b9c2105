/-! How the reference comes to the next token. -/
/-- the reference's kind for the class's -/
def kmF (k : Int) : Int :=
  if k = 0 then 16 else if k = 1 then 15 else if k = -1 then 17 else if k = 200 then 14 else if 200 < k then k - 201
  else if k = 59 then 20 else if k = 58 then 21 else if k = 43 then 22 else if k = 45 then 23 else if k = 42 then 24 else if k = 40 then 25
  else if k = 41 then 26 else if k = 91 then 27 else if k = 93 then 28 else if k = 61 then 29 else if k = 60 then 30 else 31
theorem km_sg : ∀ i : Nat, i < 12 → kmF (sBy 1 (i : Int)) = 20 + (i : Int) := by decide +kernel
/-- the text, as the reference holds it -/
def RtB (w : aW) (b : Nat → Int) (n : Nat) : Prop := w 167 8 = (n : Int) ∧ ∀ i : Nat, i < n → w 170 (i : Int) = b i
/-- but for the token that stands there -/
def NxF (w w' : aW) : Prop := ∀ c i, ¬ (c = 167 ∧ (i = 6 ∨ i = 7 ∨ i = 9 ∨ i = 10)) → w' c i = w c i
theorem NxF.refl (w : aW) : NxF w w := fun _ _ _ => rfl
theorem NxF.up {w w' : aW} {i x : Int} (h : NxF w w') (hi : i = 6 ∨ i = 7 ∨ i = 9 ∨ i = 10) : NxF w (iup w' 167 i x) := fun c j q => by
  by_cases z : c = 167 ∧ j = i
  · obtain ⟨rfl, rfl⟩ := z; exact absurd ⟨rfl, hi⟩ q
  · have e : iup w' 167 i x c j = w' c j := by unfold iup; rw [if_neg z]
    rw [e]; exact h c j q
theorem RtB.of {w w' : aW} {b : Nat → Int} {n : Nat} (h : RtB w b n) (hx : NxF w w') : RtB w' b n := ⟨by rw [hx 167 8 (by omega)]; exact h.1, fun i hi => by rw [hx 170 _ (by omega)]; exact h.2 i hi⟩
section Next
variable {d : Nat} {w : aW} {Q : Option aV → aW → Prop}
/-- see(k) -/
theorem k_see {b : Nat → Int} {n i : Nat} (hn : n ≤ 900) (hR : RtB w b n) : T d 222 0 [some (vr 167), some (vi (i : Int))] [] w Q = Q (some (vi (if i < n then b i else -1))) w := by
  rw [g222_0, hR.1]
  by_cases h : i < n
  · rw [if_f (show ¬ ((n : Int) ≤ (i : Int)) by omega), gd (show (0 : Int) ≤ (i : Int) ∧ (i : Int) < 900 by omega), g222_18, hR.2 i h, if_pos h]
  · rw [if_t (show (n : Int) ≤ (i : Int) by omega), g222_18, if_neg h]
theorem k_isSmall {c : Int} : T d 223 0 [some (vi c)] [] w Q = Q (some (vi (b01 (leB c)))) w := by
  unfold leB
  rw [g223_0]
  by_cases q : 97 ≤ c ∧ c ≤ 122
  · rw [decide_eq_true q, if_f (show ¬ (c < 97) by omega), if_f (show ¬ (122 < c) by omega), g223_17, gd (Or.inr rfl)]; rfl
  · rw [decide_eq_false q]
    by_cases z : c < 97
    · rw [if_t z, g223_16, g223_17, gd (Or.inl rfl)]; rfl
    · rw [if_f z, if_t (show 122 < c by omega), g223_16, g223_17, gd (Or.inl rfl)]; rfl
theorem k_isDigitR {c : Int} : T d 225 0 [some (vi c)] [] w Q = Q (some (vi (b01 (diB c)))) w := by
  unfold diB
  rw [g225_0]
  by_cases q : 48 ≤ c ∧ c ≤ 57
  · rw [decide_eq_true q, if_f (show ¬ (c < 48) by omega), if_f (show ¬ (57 < c) by omega), g225_17, gd (Or.inr rfl)]; rfl
  · rw [decide_eq_false q]
    by_cases z : c < 48
    · rw [if_t z, g225_16, g225_17, gd (Or.inl rfl)]; rfl
    · rw [if_f z, if_t (show 57 < c by omega), g225_16, g225_17, gd (Or.inl rfl)]; rfl
/-- keyAt() -/
theorem k_keyAt {b : Nat → Int} {n s e : Nat} {x1 x2 x3 : Option aV} (hn : n ≤ 900) (hR : RtB w b n) (h6 : w 167 6 = (s : Int)) (h7 : w 167 7 = (e : Int)) (hse : s ≤ e) (he : e ≤ n)
    (hQ : Q (some (vi ((wxF b s e 14 0 : Nat) : Int))) w) : T (d + 4) 224 0 [some (vr 167), x1, x2, x3] [] w Q := by
  rw [g224_0]
  have hln : ∀ Q' : Option aV → aW → Prop, T (d + 3) 226 0 [some (vr 1002)] [] w Q' = Q' (some (vi 69)) w := fun Q' => k_len (k := 2) (by decide)
  have hch : ∀ (i : Nat) (Q' : Option aV → aW → Prop), i < 68 → T (d + 3) 227 0 [some (vr 1002), some (vi ((i + 1 : Nat) : Int))] [] w Q' = Q' (some (vi (sBy 0 (i : Int)))) w := fun i Q' hi => by
    rw [← sBy_2 i hi]
    exact k_charAt (k := 2) (by decide) (by rw [lnS_2]; omega)
  have key : ∀ (m j : Nat) (a1 a2 : Int) (y3 : Option aV), j + m = 14 → a1 = (j : Int) → a2 = ((woF j + 1 : Nat) : Int) → wxF b s e m j = wxF b s e 14 0 → T (d + 4) 224 4 [some (vr 167), some (vi a1), some (vi a2), y3] [] w Q := by
    intro m
    induction m with
    | zero =>
      intro j a1 a2 y3 hj h1 h2 hx
      have hj' : j = 14 := by omega
      subst hj'
      have h68 : woF 14 = 68 := by decide +kernel
      rw [g224_4, gd (by decide), hln]
      simp only [tl_some]
      rw [g224_10]
      refine ⟨fun _ => ?_, fun h => absurd (by omega) h⟩
      rw [← hx, wxF] at hQ
      exact hQ
    | succ m ih =>
      intro j a1 a2 y3 hj h1 h2 hx
      have hj14 : j < 14 := by omega
      obtain ⟨w1, w2, w3, w4⟩ := wo_ok j hj14
      subst h1 h2
      rw [wxF] at hx
      -- to the next word
      have h97 : maB b s e j = false → ∀ y3 : Option aV, T (d + 4) 224 97 [some (vr 167), some (vi (j : Int)), some (vi ((woF j + 1 : Nat) : Int)), y3] [] w Q := by
        intro hf y3
        rw [hf, if_neg Bool.false_ne_true] at hx
        have k97 : ∀ (q i : Nat) (a2 : Int), i + q = wlF j → a2 = ((woF j + i + 1 : Nat) : Int) → T (d + 4) 224 97 [some (vr 167), some (vi (j : Int)), some (vi a2), y3] [] w Q := by
          intro q
          induction q with
          | zero =>
            intro i a2 hi h2
            have hi' : i = wlF j := by omega
            subst hi'
            subst h2
            rw [g224_97, gd (by decide), hch _ _ (by omega), w4]
            simp only [tl_some]
            rw [g224_103, if_t rfl]
            exact ih (j + 1) _ _ _ (by omega) (by rw [w32_id (by omega) (by omega)]; omega) (by rw [w32_id (by omega) (by omega)]; omega) hx
          | succ q ihq =>
            intro i a2 hi h2
            subst h2
            rw [g224_97, gd (by decide), hch _ _ (by omega)]
            simp only [tl_some]
            rw [g224_103, if_f (w3 i (by omega))]
            exact ihq (i + 1) _ (by omega) (by rw [w32_id (by omega) (by omega)]; omega)
        exact k97 (wlF j) 0 _ (by omega) rfl
      have h69 : ∀ i : Nat, i ≤ wlF j → s + i ≤ e → (∀ q, q < i → b (s + q) = sBy 0 ((woF j + q : Nat) : Int)) → (i < wlF j → maB b s e j = false) → T (d + 4) 224 69 [some (vr 167), some (vi (j : Int)), some (vi ((woF j + 1 : Nat) : Int)), some (vi (i : Int))] [] w Q := by
        intro i hi hsi hm hlt
        have i1 : Unit → w32 (((woF j + 1 : Nat) : Int) + (i : Int)) = ((woF j + i + 1 : Nat) : Int) := fun _ => by rw [w32_id (by omega) (by omega)]; omega
        have i2 : Unit → w32 ((s : Int) + (i : Int)) = ((s + i : Nat) : Int) := fun _ => by rw [w32_id (by omega) (by omega)]; omega
        rw [g224_69, gd (by decide), i1 (), hch _ _ (by omega)]
        simp only [tl_some]
        rw [g224_77, h6, h7, i2 ()]
        refine ⟨fun h => h97 ?_ _, fun h => ⟨fun h2 => h97 ?_ _, fun h2 => ?_⟩⟩
        · refine hlt ?_
          refine Classical.byContradiction (fun hge => h ?_)
          rw [show i = wlF j by omega]; exact w4
        · cases z : maB b s e j with
          | false => rfl
          | true =>
            have hge : ¬ (i < wlF j) := fun q => by rw [hlt q] at z; cases z
            have := (maB_t.mp z).1
            omega
        · have hil : i = wlF j := by
            refine Classical.byContradiction (fun hne => ?_)
            exact w3 i (by omega) (Classical.byContradiction h)
          have hmt : maB b s e j = true := maB_t.mpr ⟨by omega, fun q hq => hm q (by omega)⟩
          rw [if_pos hmt] at hx
          rw [← hx] at hQ
          exact hQ
      rw [g224_4, gd (by decide), hln]
      simp only [tl_some]
      rw [g224_10]
      refine ⟨fun h => absurd h (by omega), fun _ => ?_⟩
      have k15 : ∀ (q i : Nat) (a3 : Int), i + q = wlF j → a3 = (i : Int) → s + i ≤ e → (∀ q, q < i → b (s + q) = sBy 0 ((woF j + q : Nat) : Int)) → T (d + 4) 224 15 [some (vr 167), some (vi (j : Int)), some (vi ((woF j + 1 : Nat) : Int)), some (vi a3)] [] w Q := by
        intro q
        induction q with
        | zero =>
          intro i a3 hi h3 hsi hm
          have hi' : i = wlF j := by omega
          subst h3
          have i1 : Unit → w32 (((woF j + 1 : Nat) : Int) + (i : Int)) = ((woF j + i + 1 : Nat) : Int) := fun _ => by rw [w32_id (by omega) (by omega)]; omega
          rw [g224_15, gd (by decide), i1 (), hch _ _ (by omega), hi', w4]
          simp only [tl_some]
          rw [g224_23, if_t rfl, ← hi']
          exact h69 i (by omega) hsi hm (fun q => by omega)
        | succ q ihq =>
          intro i a3 hi h3 hsi hm
          subst h3
          have i1 : Unit → w32 (((woF j + 1 : Nat) : Int) + (i : Int)) = ((woF j + i + 1 : Nat) : Int) := fun _ => by rw [w32_id (by omega) (by omega)]; omega
          have i2 : Unit → w32 ((s : Int) + (i : Int)) = ((s + i : Nat) : Int) := fun _ => by rw [w32_id (by omega) (by omega)]; omega
          rw [g224_15, gd (by decide), i1 (), hch _ _ (by omega)]
          simp only [tl_some]
          rw [g224_23, if_f (w3 i (by omega)), h6, h7, i2 (), i1 (), hch _ _ (by omega)]
          refine ⟨fun h => h69 i (by omega) hsi hm (fun _ => ?_), fun h => ⟨by omega, by decide, ?_⟩⟩
          · cases z : maB b s e j with
            | false => rfl
            | true =>
              have := (maB_t.mp z).1
              omega
          · simp only [tl_some]
            rw [g224_60, hR.2 (s + i) (by omega)]
            refine ⟨fun h2 => h69 i (by omega) hsi hm (fun _ => ?_), fun h2 => ?_⟩
            · cases z : maB b s e j with
              | false => rfl
              | true => exact absurd ((maB_t.mp z).2 i (by omega)) h2
            · refine ihq (i + 1) _ (by omega) (by rw [w32_id (by omega) (by omega)]; omega) (by omega) (fun q hq => ?_)
              by_cases z : q = i
              · subst z; exact Classical.byContradiction h2
              · exact hm q (by omega)
      exact k15 (wlF j) 0 _ (by omega) rfl (by omega) (fun q hq => absurd hq (Nat.not_lt_zero _))
  exact key 14 0 _ _ _ (by omega) rfl rfl rfl
/-- next() -/
theorem k_next {b : Nat → Int} {n k : Nat} {x1 : Option aV} (hn : n ≤ 900) (hB : ByB b n) (hR : RtB w b n) (h7 : w 167 7 = ((tkP b n k : Nat) : Int))
    (hQ : ∀ w' : aW, NxF w w' → w' 167 6 = ((tkS b n k : Nat) : Int) → w' 167 7 = ((tkP b n (k + 1) : Nat) : Int) → w' 167 9 = kmF (tkK b n (tkS b n k)) → (tkK b n (tkS b n k) = 1 → w' 167 10 = tkV b n (tkS b n k)) → Q none w') :
    T (d + 5) 106 0 [some (vr 167), x1] [] w Q := by
  have hS := tkS_le (b := b) (n := n) (k := k)
  have hP : tkP b n (k + 1) = tkE b n (tkS b n k) := rfl
  rw [hP] at hQ
  rw [g106_0, h7]
  -- the token that begins at s
  have tok : ∀ (s : Nat) (w1 : aW) (y1 : Option aV), tkS b n k = s → s ≤ n → NxF w w1 → w1 167 6 = (s : Int) → w1 167 7 = (s : Int) →
      ((s < n → T (d + 4) 222 0 [some (vr 167), some (vi (s : Int))] [] w1 (fun r w2 => T (d + 5) 106 83 [some (vr 167), y1] (r.toList ++ []) w2 Q)) ∧ (¬ s < n → T (d + 5) 106 294 [some (vr 167), y1] [] (iup w1 167 9 16) Q)) := by
    intro s w1 y1 hsS hs hx h6 h7
    rw [hsS] at hQ
    have hR1 := hR.of hx
    refine ⟨fun hsn => ?_, fun hsn => ?_⟩
    · have hbs := hB s hsn
      rw [k_see hn hR1, if_pos hsn]
      simp only [tl_some]
      rw [g106_83, k_isSmall]
      simp only [tl_some]
      rw [g106_86, h6, k_see hn hR1, if_pos hsn]
      refine ⟨fun hl => ?_, fun hl => ?_⟩
      · rw [b01_ne] at hl
        simp only [tl_some]
        rw [g106_135, k_isDigitR]
        simp only [tl_some]
        rw [g106_138, h7]
        refine ⟨fun hd => ?_, fun hd => ?_⟩
        · -- a sign, or none
          rw [b01_ne] at hd
          have eE : tkE b n s = s + 1 := by unfold tkE; rw [if_neg (by omega), hl, if_neg Bool.false_ne_true, hd, if_neg Bool.false_ne_true]
          have eK : tkK b n s = if sgB (b s) = true then b s else -1 := by unfold tkK; rw [if_neg (by omega), hl, if_neg Bool.false_ne_true, hd, if_neg Bool.false_ne_true]
          have ts : Unit → w32 ((s : Int) + 1) = ((s + 1 : Nat) : Int) := fun _ => by rw [w32_id (by omega) (by omega)]; omega
          rw [ts ()]
          have hln : ∀ (w2 : aW) (Q' : Option aV → aW → Prop), T (d + 4) 226 0 [some (vr 1001)] [] w2 Q' = Q' (some (vi 12)) w2 := fun w2 Q' => k_len (k := 1) (by decide)
          have hch : ∀ (i : Nat) (w2 : aW) (Q' : Option aV → aW → Prop), i < 12 → T (d + 4) 227 0 [some (vr 1001), some (vi (i : Int))] [] w2 Q' = Q' (some (vi (sBy 1 (i : Int)))) w2 := fun i w2 Q' hi => k_charAt (k := 1) (by decide) (by rw [lnS_1]; omega)
          have key : ∀ (m i : Nat) (w2 : aW) (a1 : Int), i + m = 12 → a1 = (i : Int) → NxF w w2 → w2 167 6 = (s : Int) → w2 167 7 = ((s + 1 : Nat) : Int) → ((w2 167 9 = 17 ∧ ∀ j : Nat, j < i → b s ≠ sBy 1 (j : Int)) ∨ (∃ j : Nat, j < i ∧ b s = sBy 1 (j : Int) ∧ w2 167 9 = 20 + (j : Int))) → T (d + 5) 106 254 [some (vr 167), some (vi a1)] [] w2 Q := by
            intro m
            induction m with
            | zero =>
              intro i w2 a1 hi h1 hx2 q6 q7 hor
              rw [g106_254, gd (by decide), hln]
              simp only [tl_some]
              rw [g106_260]
              refine ⟨fun _ => ?_, fun h => absurd (by omega) h⟩
              rw [g106_294]
              refine hQ w2 hx2 q6 (by rw [eE]; exact q7) ?_ (fun h1 => ?_)
              · rcases hor with ⟨q1, q2⟩ | ⟨j, j1, j2, j3⟩
                · have hf : sgB (b s) = false := by
                    cases z : sgB (b s) with
                    | false => rfl
                    | true =>
                      obtain ⟨j, j1, j2⟩ := sgB_t.mp z
                      exact absurd j2.symm (q2 j (by omega))
                  rw [eK, hf, if_neg Bool.false_ne_true, q1]; rfl
                · rw [eK, if_pos (sgB_t.mpr ⟨j, by omega, j2.symm⟩), j2, km_sg j (by omega), j3]
              · exfalso
                rw [eK] at h1
                split at h1
                · next q =>
                  obtain ⟨j, j1, j2⟩ := sgB_t.mp q
                  have : ∀ i : Nat, i < 12 → sBy 1 (i : Int) ≠ 1 := by decide +kernel
                  exact this j j1 (by rw [j2, h1])
                · omega
            | succ m ih =>
              intro i w2 a1 hi h1 hx2 q6 q7 hor
              subst h1
              have ti : Unit → w32 ((i : Int) + 1) = ((i + 1 : Nat) : Int) := fun _ => by rw [w32_id (by omega) (by omega)]; omega
              have t20 : Unit → w32 (20 + (i : Int)) = 20 + (i : Int) := fun _ => w32_id (by omega) (by omega)
              rw [g106_254, gd (by decide), hln]
              simp only [tl_some]
              rw [g106_260, q6, k_see hn (hR.of hx2), if_pos hsn]
              refine ⟨fun h => absurd h (by omega), fun _ => ?_⟩
              simp only [tl_some]
              rw [g106_271, gd (by decide), hch i w2 _ (by omega)]
              simp only [tl_some]
              rw [g106_277, t20 ()]
              refine ⟨fun hne => ?_, fun he => ?_⟩
              · rw [g106_288, ti ()]
                refine ih (i + 1) w2 _ (by omega) rfl hx2 q6 q7 ?_
                rcases hor with ⟨q1, q2⟩ | ⟨j, j1, j2, j3⟩
                · refine Or.inl ⟨q1, fun j hj => ?_⟩
                  by_cases z : j = i
                  · subst z; exact hne
                  · exact q2 j (by omega)
                · exact Or.inr ⟨j, by omega, j2, j3⟩
              · rw [g106_288, ti ()]
                exact ih (i + 1) _ _ (by omega) rfl (hx2.up (by omega)) (by rw [iup_i (by decide)]; exact q6) (by rw [iup_i (by decide)]; exact q7) (Or.inr ⟨i, by omega, Classical.byContradiction he, iup_s⟩)
          refine key 12 0 _ _ (by omega) rfl ((hx.up (by omega)).up (by omega)) ?_ ?_ (Or.inl ⟨iup_s, fun j hj => absurd hj (Nat.not_lt_zero _)⟩)
          · rw [iup_i (by decide), iup_i (by decide)]; exact h6
          · rw [iup_i (by decide), iup_s]
        · -- a number
          rw [b01_ne, Bool.not_eq_false] at hd
          have eE : tkE b n s = enF diB b n s := by unfold tkE; rw [if_neg (by omega), hl, if_neg Bool.false_ne_true, if_pos hd]
          have eK : tkK b n s = if 3 < enF diB b n s - s then -1 else 1 := by unfold tkK; rw [if_neg (by omega), hl, if_neg Bool.false_ne_true, if_pos hd]
          have key : ∀ (m i : Nat) (w2 : aW), i + m = n → s ≤ i → NxF w w2 → w2 167 6 = (s : Int) → w2 167 7 = (i : Int) → enF diB b n i = enF diB b n s → (∀ j, j < i - s → diB (b (s + j)) = true) → (i - s ≤ 3 → w2 167 10 = nvF b s (i - s)) → T (d + 5) 106 146 [some (vr 167), y1] [] w2 Q := by
            intro m
            have fin : ∀ (i : Nat) (w2 : aW), s ≤ i → i ≤ n → NxF w w2 → w2 167 6 = (s : Int) → w2 167 7 = (i : Int) → enF diB b n s = i → (i - s ≤ 3 → w2 167 10 = nvF b s (i - s)) → T (d + 5) 106 157 [some (vr 167), y1] [vi (b01 false)] w2 Q := by
              intro i w2 hsi hin hx2 q6 q7 hen hv
              have e1 : Unit → w32 ((i : Int) - (s : Int)) = ((i - s : Nat) : Int) := fun _ => by rw [w32_id (by omega) (by omega)]; omega
              have fin2 : ∀ z : Int, z = kmF (tkK b n s) → T (d + 5) 106 230 [some (vr 167), y1] [vi z, vr 167] w2 Q := by
                intro z hz
                rw [g106_230]
                refine ⟨by decide +kernel, ?_⟩
                rw [g106_294]
                refine hQ _ (hx2.up (by omega)) (by rw [iup_i (by decide)]; exact q6) (by rw [iup_i (by decide), eE, hen]; exact q7) (by rw [iup_s, hz]) (fun h1 => ?_)
                rw [iup_i (by decide)]
                unfold tkV
                rw [hen]
                refine hv ?_
                rw [eK, hen] at h1
                split at h1 <;> omega
              rw [g106_157, q6, q7, e1 ()]
              refine ⟨fun _ => ⟨fun h => fin2 _ ?_, fun h => fin2 _ ?_⟩, fun h => absurd rfl h⟩
              · rw [eK, hen, if_neg (by omega)]; rfl
              · rw [eK, hen, if_pos (by omega)]; rfl
            induction m with
            | zero =>
              intro i w2 hi hsi hx2 q6 q7 hen hdi hv
              rw [g106_146, q7, k_see hn (hR.of hx2), if_neg (by omega)]
              simp only [tl_some]
              rw [g106_154, k_isDigitR]
              simp only [tl_some]
              exact fin i w2 hsi (by omega) hx2 q6 q7 (by rw [← hen, enF_n (by omega)]) hv
            | succ m ih =>
              intro i w2 hi hsi hx2 q6 q7 hen hdi hv
              have e1 : Unit → w32 ((i : Int) - (s : Int)) = ((i - s : Nat) : Int) := fun _ => by rw [w32_id (by omega) (by omega)]; omega
              have ti : Unit → w32 ((i : Int) + 1) = ((i + 1 : Nat) : Int) := fun _ => by rw [w32_id (by omega) (by omega)]; omega
              rw [enF_s (by omega)] at hen
              rw [g106_146, q7, k_see hn (hR.of hx2), if_pos (by omega)]
              simp only [tl_some]
              rw [g106_154, k_isDigitR]
              simp only [tl_some]
              cases h : diB (b i) with
              | false =>
                rw [h, if_neg Bool.false_ne_true] at hen
                exact fin i w2 hsi (by omega) hx2 q6 q7 hen.symm hv
              | true =>
                rw [if_pos h] at hen
                have hd2 : 48 ≤ b i ∧ b i ≤ 57 := of_decide_eq_true h
                have hdi' : ∀ j, j < i + 1 - s → diB (b (s + j)) = true := fun j hj => by
                  by_cases z : j = i - s
                  · subst z; rw [show s + (i - s) = i by omega]; exact h
                  · exact hdi j (by omega)
                rw [g106_157, q6, q7, e1 (), k_see hn (hR.of hx2), if_pos (by omega)]
                refine ⟨fun h => absurd h (by decide), fun _ => ⟨fun h3 => ?_, fun h3 => ?_⟩⟩
                · rw [g106_196, q7, ti ()]
                  exact ih (i + 1) _ (by omega) (by omega) (hx2.up (by omega)) (by rw [iup_i (by decide)]; exact q6) iup_s hen hdi' (fun h4 => by omega)
                · simp only [tl_some]
                  have h5 := nvF_3 (b := b) (s := s) (k := i - s) (by omega) hdi
                  have hv' := hv (by omega)
                  have ev : Unit → w32 (w32 (w32 (10 * nvF b s (i - s)) + b i) - 48) = nvF b s (i + 1 - s) := fun _ => by
                    rw [w32_id (x := 10 * nvF b s (i - s)) (by omega) (by omega), w32_id (x := 10 * nvF b s (i - s) + b i) (by omega) (by omega), w32_id (by omega) (by omega), show i + 1 - s = (i - s) + 1 by omega, nvF, show s + (i - s) = i by omega]
                    omega
                  rw [g106_189, hv', ev ()]
                  refine ⟨by decide +kernel, ?_⟩
                  rw [g106_196, iup_i (show (7 : Int) ≠ 10 by decide), q7, ti ()]
                  refine ih (i + 1) _ (by omega) (by omega) ((hx2.up (by omega)).up (by omega)) ?_ iup_s hen hdi' (fun h4 => ?_)
                  · rw [iup_i (by decide), iup_i (by decide)]; exact q6
                  · rw [iup_i (by decide), iup_s]
          refine key (n - s) s _ (by omega) (Nat.le_refl _) (hx.up (by omega)) (by rw [iup_i (by decide)]; exact h6) (by rw [iup_i (by decide)]; exact h7) rfl (fun j hj => by omega) (fun _ => ?_)
          rw [iup_s, Nat.sub_self]; rfl
      · -- a word
        rw [b01_ne, Bool.not_eq_false] at hl
        have eE : tkE b n s = enF leB b n s := by unfold tkE; rw [if_neg (by omega), if_pos hl]
        have eK : tkK b n s = if wxF b s (enF leB b n s) 14 0 = 14 then 200 else 201 + ((wxF b s (enF leB b n s) 14 0 : Nat) : Int) := by unfold tkK; rw [if_neg (by omega), if_pos hl]
        have hwx := wxF_le (b := b) (s := s) (e := enF leB b n s) 14 0 (by omega)
        have key : ∀ (m i : Nat) (w2 : aW), i + m = n → s ≤ i → NxF w w2 → w2 167 6 = (s : Int) → w2 167 7 = (i : Int) → enF leB b n i = enF leB b n s → T (d + 5) 106 89 [some (vr 167), y1] [] w2 Q := by
          intro m
          have fin : ∀ (i : Nat) (w2 : aW), s ≤ i → i ≤ n → NxF w w2 → w2 167 6 = (s : Int) → w2 167 7 = (i : Int) → enF leB b n s = i → T (d + 5) 106 100 [some (vr 167), y1] [vi (b01 false)] w2 Q := by
            intro i w2 hsi hin hx2 q6 q7 hen
            rw [g106_100]
            refine ⟨fun _ => ?_, fun h => absurd rfl h⟩
            refine k_keyAt hn (hR.of hx2) q6 q7 hsi hin ?_
            simp only [tl_some]
            rw [g106_121]
            refine ⟨by decide +kernel, ?_⟩
            rw [g106_294]
            refine hQ _ (hx2.up (by omega)) (by rw [iup_i (by decide)]; exact q6) (by rw [iup_i (by decide), eE, hen]; exact q7) ?_ (fun h1 => ?_)
            · rw [iup_s, eK, hen]
              rw [hen] at hwx
              by_cases z : wxF b s i 14 0 = 14
              · rw [if_pos z, z]; rfl
              · rw [if_neg z]
                unfold kmF
                rw [if_neg (by omega), if_neg (by omega), if_neg (by omega), if_neg (by omega), if_pos (by omega)]
                omega
            · rw [eK] at h1
              split at h1 <;> omega
          induction m with
          | zero =>
            intro i w2 hi hsi hx2 q6 q7 hen
            rw [g106_89, q7, k_see hn (hR.of hx2), if_neg (by omega)]
            simp only [tl_some]
            rw [g106_97, k_isSmall]
            simp only [tl_some]
            exact fin i w2 hsi (by omega) hx2 q6 q7 (by rw [← hen, enF_n (by omega)])
          | succ m ih =>
            intro i w2 hi hsi hx2 q6 q7 hen
            have ti : Unit → w32 ((i : Int) + 1) = ((i + 1 : Nat) : Int) := fun _ => by rw [w32_id (by omega) (by omega)]; omega
            rw [enF_s (by omega)] at hen
            rw [g106_89, q7, k_see hn (hR.of hx2), if_pos (by omega)]
            simp only [tl_some]
            rw [g106_97, k_isSmall]
            simp only [tl_some]
            cases h : leB (b i) with
            | false =>
              rw [h, if_neg Bool.false_ne_true] at hen
              exact fin i w2 hsi (by omega) hx2 q6 q7 hen.symm
            | true =>
              rw [if_pos h] at hen
              rw [g106_100, q7, ti ()]
              refine ⟨fun h => absurd h (by decide), fun _ => ?_⟩
              exact ih (i + 1) _ (by omega) (by omega) (hx2.up (by omega)) (by rw [iup_i (by decide)]; exact q6) iup_s hen
        exact key (n - s) s w1 (by omega) (Nat.le_refl _) hx h6 h7 rfl
    · -- the end
      have hsn' : s = n := by omega
      rw [g106_294]
      have eE : tkE b n s = s := by unfold tkE; rw [if_pos (by omega)]
      have eK : tkK b n s = 0 := by unfold tkK; rw [if_pos (by omega)]
      exact hQ _ (hx.up (by omega)) (by rw [iup_i (by decide)]; exact h6) (by rw [iup_i (by decide), eE]; exact h7) (by rw [iup_s, eK]; rfl) (fun h1 => by rw [eK] at h1; exact absurd h1 (by decide))
  -- blanks
  have key : ∀ (m i : Nat) (w1 : aW), i + m = n → NxF w w1 → w1 167 6 = (i : Int) → enF blB b n i = tkS b n k → T (d + 5) 106 8 [some (vr 167), x1] [] w1 Q := by
    intro m
    have stop : ∀ (i : Nat) (w1 : aW) (c : Int), i ≤ n → NxF w w1 → w1 167 6 = (i : Int) → tkS b n k = i → c = (if i < n then b i else -1) → blB c = false → T (d + 5) 106 16 [some (vr 167), x1] [vi c] w1 Q := by
      intro i w1 c hin hx q6 hS' hc hb
      have hc2 : ¬ (c = 10 ∨ c = 32) := of_decide_eq_false hb
      rw [g106_16, q6, k_see hn (hR.of hx), ← hc]
      refine ⟨fun h => absurd (Or.inl h) hc2, fun _ => ?_⟩
      simp only [tl_some]
      have e6 : iup w1 167 7 (i : Int) 167 6 = (i : Int) := by rw [iup_i (by decide)]; exact q6
      have e8 : iup w1 167 7 (i : Int) 167 8 = (n : Int) := by rw [iup_i (by decide)]; exact (hR.of hx).1
      rw [g106_29, q6, e6, e8]
      refine ⟨fun _ => ?_, fun h => absurd (Or.inr (Classical.byContradiction h)) hc2⟩
      have := tok i (iup w1 167 7 (i : Int)) x1 hS' hin (hx.up (by omega)) e6 iup_s
      exact ⟨fun h => this.1 (by omega), fun h => this.2 (by omega)⟩
    have more : ∀ (i : Nat) (w1 : aW), i < n → NxF w w1 → w1 167 6 = (i : Int) → (∀ w2 : aW, NxF w w2 → w2 167 6 = ((i + 1 : Nat) : Int) → T (d + 5) 106 8 [some (vr 167), x1] [] w2 Q) → T (d + 5) 106 34 [some (vr 167), x1] [] w1 Q := by
      intro i w1 hin hx q6 h
      rw [g106_34, q6, show w32 ((i : Int) + 1) = ((i + 1 : Nat) : Int) by rw [w32_id (by omega) (by omega)]; omega]
      exact h _ (hx.up (by omega)) iup_s
    induction m with
    | zero =>
      intro i w1 hi hx q6 hen
      rw [g106_8, q6, k_see hn (hR.of hx), if_neg (by omega)]
      simp only [tl_some]
      exact stop i w1 (-1) (by omega) hx q6 (by rw [← hen, enF_n (by omega)]) (by rw [if_neg (by omega)]) (by decide)
    | succ m ih =>
      intro i w1 hi hx q6 hen
      rw [enF_s (by omega)] at hen
      rw [g106_8, q6, k_see hn (hR.of hx), if_pos (by omega)]
      simp only [tl_some]
      cases h : blB (b i) with
      | false =>
        rw [h, if_neg Bool.false_ne_true] at hen
        exact stop i w1 (b i) (by omega) hx q6 hen.symm (by rw [if_pos (by omega)]) h
      | true =>
        rw [if_pos h] at hen
        have hb : b i = 10 ∨ b i = 32 := of_decide_eq_true h
        have hm := more i w1 (by omega) hx q6 (fun w2 hx2 q62 => ih (i + 1) w2 (by omega) hx2 q62 hen)
        rw [g106_16, q6, k_see hn (hR.of hx), if_pos (by omega)]
        refine ⟨fun _ => hm, fun h10 => ?_⟩
        simp only [tl_some]
        rw [g106_29]
        exact ⟨fun h32 => by rcases hb with z | z <;> contradiction, fun _ => hm⟩
  exact key (n - tkP b n k) (tkP b n k) _ (by have := tkP_le (b := b) (n := n) k; omega) ((NxF.refl w).up (by omega)) iup_s rfl
end Next
