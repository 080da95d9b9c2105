/-! Films, the class: sets with their needs gathered. -/
def FmC (w : aW) (F : Nat) (fr : Nat → Nat) : Prop := w 64 6 = (F : Int) ∧ ∀ i : Nat, i < F → w 68 (i : Int) = (fr i : Int)
def GsC (w : aW) (L : List aG) : Prop := w 64 4 = (L.length : Int) ∧ w 64 0 = (tot L : Int) ∧ ∀ (i : Nat) (h : i < L.length), w 65 (i : Int) = ((L[i]).1 : Int) ∧ w 66 (i : Int) = ((L[i]).2.1 : Int) ∧ w 67 (i : Int) = ((L[i]).2.2 : Int)
theorem GsC_of {w w' : aW} {L : List aG} (h : GsC w L) (e : ∀ c i, (65 ≤ c ∧ c ≤ 67) ∨ (c = 64 ∧ (i = 4 ∨ i = 0)) → w' c i = w c i) : GsC w' L := by
  obtain ⟨h1, h2, h3⟩ := h
  refine ⟨by rw [e 64 4 (by omega)]; exact h1, by rw [e 64 0 (by omega)]; exact h2, fun i hi => ?_⟩
  rw [e 65 _ (by omega), e 66 _ (by omega), e 67 _ (by omega)]
  exact h3 i hi
theorem GsC_add {w : aW} {L : List aG} {S lo hi : Nat} (h : GsC w L) : GsC (iup (iup (iup (iup (iup w 65 (L.length : Int) (S : Int)) 66 (L.length : Int) (lo : Int)) 67 (L.length : Int) (hi : Int)) 64 4 ((L.length + 1 : Nat) : Int)) 64 0 ((tot L + (hi + 1 - lo) : Nat) : Int)) (L ++ [(S, lo, hi)]) := by
  obtain ⟨h1, h2, h3⟩ := h
  refine ⟨?_, ?_, fun i hi' => ?_⟩
  · rw [iup_i (by decide), iup_s, List.length_append]; rfl
  · rw [iup_s, tot_app]; rfl
  · rw [List.length_append] at hi'
    have hl : i < L.length ∨ i = L.length := by have : ([(S, lo, hi)] : List aG).length = 1 := rfl; omega
    rcases hl with hl | hl
    · rw [List.getElem_append_left hl]
      obtain ⟨a1, a2, a3⟩ := h3 i hl
      refine ⟨?_, ?_, ?_⟩
      · rw [iup_c (by decide), iup_c (by decide), iup_c (by decide), iup_c (by decide), iup_i (by omega)]; exact a1
      · rw [iup_c (by decide), iup_c (by decide), iup_c (by decide), iup_i (by omega), iup_c (by decide)]; exact a2
      · rw [iup_c (by decide), iup_c (by decide), iup_i (by omega), iup_c (by decide), iup_c (by decide)]; exact a3
    · subst hl
      rw [List.getElem_concat_length rfl]
      refine ⟨?_, ?_, ?_⟩
      · rw [iup_c (by decide), iup_c (by decide), iup_c (by decide), iup_c (by decide), iup_s]
      · rw [iup_c (by decide), iup_c (by decide), iup_c (by decide), iup_s]
      · rw [iup_c (by decide), iup_c (by decide), iup_s]
section FilmC
variable {d D : Nat} {w : aW} {Q : Option aV → aW → Prop}
/-- addSet(some, l) -/
theorem k_addSet {S l F : Nat} {fr : Nat → Nat} {L : List aG} {x3 x4 x5 x6 : Option aV} (hF : FmC w F fr) (hF2 : 2 ≤ F) (hF30 : F ≤ 30) (hfr : ∀ i, i < F → fr i < 1024) (hG : GsC w L) (hS : S < 1024) (hl : l < 10) (hlen : L.length < 1024) (htot : tot L + bsN S 16 ≤ 2304)
    (h1 : ¬ loF fr l S (F - 1) ≤ hiF fr l S (F - 1) → Q none w) (h2 : loF fr l S (F - 1) ≤ hiF fr l S (F - 1) → ∀ w', (∀ c i, ¬ (65 ≤ c ∧ c ≤ 67) → ¬ (c = 64 ∧ (i = 4 ∨ i = 0)) → w' c i = w c i) → GsC w' (L ++ [(S, loF fr l S (F - 1), hiF fr l S (F - 1))]) → Q none w') :
    T (d + 1) 294 0 [some (vr 64), some (vi (S : Int)), some (vi (l : Int)), x3, x4, x5, x6] [] w Q := by
  have hb := bs10 S hS
  rw [g294_0, k_bitCount (by omega), bsN_i]
  simp only [tl_some]
  rw [g294_6]
  have h86 : ∀ (lo hi : Nat) (y5 y6 : Option aV), lo ≤ 17 → hi ≤ bsN S 16 → 1 ≤ lo → (lo ≤ hi → lo = loF fr l S (F - 1) ∧ hi = hiF fr l S (F - 1)) → (¬ lo ≤ hi → ¬ loF fr l S (F - 1) ≤ hiF fr l S (F - 1)) → T (d + 1) 294 86 [some (vr 64), some (vi (S : Int)), some (vi (l : Int)), some (vi (lo : Int)), some (vi (hi : Int)), y5, y6] [] w Q := by
    intro lo hi y5 y6 b1 b2 b3 q1 q2
    obtain ⟨g1, g2, g3⟩ := hG
    rw [g294_86]
    simp only [iup_c (show (64 : Nat) ≠ 65 by decide), iup_c (show (64 : Nat) ≠ 66 by decide), iup_c (show (64 : Nat) ≠ 67 by decide), iup_i (show (0 : Int) ≠ 4 by decide), g1, g2]
    refine ⟨fun h => ?_, fun h => ⟨by omega, by omega, by omega, ?_⟩⟩
    · rw [g294_148]; exact h1 (q2 (by omega))
    · obtain ⟨e1, e2⟩ := q1 (by omega)
      have t1 : w32 ((L.length : Int) + 1) = ((L.length + 1 : Nat) : Int) := by rw [w32_id (by omega) (by omega)]; omega
      have t2 : w32 ((tot L : Int) + w32 (w32 ((hi : Int) - (lo : Int)) + 1)) = ((tot L + (hi + 1 - lo) : Nat) : Int) := by
        rw [w32_id (x := (hi : Int) - (lo : Int)) (by omega) (by omega), w32_id (x := (hi : Int) - (lo : Int) + 1) (by omega) (by omega), w32_id (by omega) (by omega)]; omega
      rw [g294_148, t1, t2]
      refine h2 (by omega) _ (fun c i q3 q4 => ?_) ?_
      · rw [iup_n (by omega), iup_n (by omega), iup_c (by omega), iup_c (by omega), iup_c (by omega)]
      · rw [← e1, ← e2]
        exact GsC_add ⟨g1, g2, g3⟩
  have key : ∀ (m i : Nat) (y6 : Option aV), i + m = F - 1 → T (d + 1) 294 11 [some (vr 64), some (vi (S : Int)), some (vi (l : Int)), some (vi (loF fr l S i : Int)), some (vi (hiF fr l S i : Int)), some (vi (i : Int)), y6] [] w Q := by
    intro m
    induction m with
    | zero =>
      intro i y6 hi
      have t1 : Unit → w32 ((i : Int) + 1) = (i : Int) + 1 := fun _ => w32_id (by omega) (by omega)
      have hb2 := hi_b (fr := fr) (l := l) (S := S) (m := i)
      have hlo : loF fr l S i ≤ 17 := by
        have : ∀ j, loF fr l S j ≤ 17 := by
          intro j
          induction j with
          | zero => rw [loF]; decide
          | succ j ihj =>
            rw [loF]
            have hc : cnF fr S j ≤ 16 := by
              have h16 := bsum_le (fr j &&& S) 16
              rw [bsN_i] at h16
              unfold cnF
              omega
            split
            · exact ihj
            · split <;> omega
        exact this i
      rw [g294_11, hF.1, t1 ()]
      refine ⟨fun _ => ?_, fun h => absurd (by omega) h⟩
      refine h86 _ _ _ _ hlo hb2 lo_1 (fun _ => ?_) (fun h => ?_)
      · rw [show i = F - 1 by omega]; exact ⟨rfl, rfl⟩
      · rw [show i = F - 1 by omega] at h; exact h
    | succ m ih =>
      intro i y6 hi
      have t1 : Unit → w32 ((i : Int) + 1) = ((i + 1 : Nat) : Int) := fun _ => by rw [w32_id (by omega) (by omega)]; omega
      have hb2 := hi_b (fr := fr) (l := l) (S := S) (m := i)
      have hi2 := hi_mono (fr := fr) (l := l) (S := S) (F - 1 - i) i
      have lo2 := lo_mono (fr := fr) (l := l) (S := S) (F - 1 - i) i
      have hc : cnF fr S i ≤ 16 := by
        have h16 := bsum_le (fr i &&& S) 16
        rw [bsN_i] at h16
        unfold cnF
        omega
      rw [show i + (F - 1 - i) = F - 1 by omega] at hi2 lo2
      rw [g294_11, hF.1, t1 ()]
      refine ⟨fun h => absurd h (by omega), fun _ => ⟨fun h => ?_, fun h => ⟨by omega, ?_⟩⟩⟩
      · have hlo : loF fr l S i ≤ 17 := by
          have : ∀ j, loF fr l S j ≤ 17 := by
            intro j
            induction j with
            | zero => rw [loF]; decide
            | succ j ihj =>
              rw [loF]
              have hc : cnF fr S j ≤ 16 := by
                have h16 := bsum_le (fr j &&& S) 16
                rw [bsN_i] at h16
                unfold cnF
                omega
              split
              · exact ihj
              · split <;> omega
          exact this i
        exact h86 _ _ _ _ hlo hb2 lo_1 (fun h' => by omega) (fun _ => by omega)
      · have hand : fr i &&& S < 1024 := Nat.lt_of_le_of_lt Nat.and_le_right hS
        have f1 := hfr (i + 1) (by omega)
        have f0 := hfr i (by omega)
        rw [hF.2 i (by omega), jand_n (by omega), k_bitCount (by omega), bsN_i]
        simp only [tl_some]
        rw [g294_40, t1 (), hF.2 (i + 1) (by omega)]
        refine ⟨by omega, ?_⟩
        rw [k_bitAt (by omega) (by omega)]
        simp only [tl_some]
        rw [g294_55]
        have ih2 := ih (i + 1) (some (vi ((bsN (fr i &&& S) 16 : Nat) : Int))) (by omega)
        rw [loF, hiF] at ih2
        have eu : uB fr l i = (fr (i + 1)).testBit l := rfl
        have ec : bsN (fr i &&& S) 16 = cnF fr S i := rfl
        rw [ec] at ih2 ⊢
        refine ⟨fun h => ?_, fun h => ?_⟩
        · have hu : ¬ uB fr l i = true := fun q => h (bI_1.mpr (by rw [← eu]; exact q))
          rw [if_neg hu, if_neg hu] at ih2
          rw [g294_80, t1 (), w32_id (x := (cnF fr S i : Int) + 1) (by omega) (by omega)]
          have e3 : (if (loF fr l S i : Int) < (cnF fr S i : Int) + 1 then (cnF fr S i : Int) + 1 else (loF fr l S i : Int)) = ((if loF fr l S i < cnF fr S i + 1 then cnF fr S i + 1 else loF fr l S i : Nat) : Int) := by
            by_cases z : loF fr l S i < cnF fr S i + 1
            · rw [if_pos (by omega), if_pos z]; omega
            · rw [if_neg (by omega), if_neg z]
          rw [e3]
          exact ih2
        · have hu : uB fr l i = true := by rw [eu]; exact bI_1.mp (Classical.byContradiction h)
          rw [if_pos hu, if_pos hu] at ih2
          rw [g294_80, t1 ()]
          have e3 : (if (cnF fr S i : Int) < (hiF fr l S i : Int) then (cnF fr S i : Int) else (hiF fr l S i : Int)) = ((if cnF fr S i < hiF fr l S i then cnF fr S i else hiF fr l S i : Nat) : Int) := by
            by_cases z : cnF fr S i < hiF fr l S i
            · rw [if_pos (by omega), if_pos z]
            · rw [if_neg (by omega), if_neg z]
          rw [e3]
          exact ih2
  exact key (F - 1) 0 x6 (by omega)
/-- gather(all, l) -/
theorem k_gather {N l F : Nat} {fr : Nat → Nat} {x3 : Option aV} (hN : N ≤ 10) (hF : FmC w F fr) (hF2 : 2 ≤ F) (hF30 : F ≤ 30) (hfr : ∀ i, i < F → fr i < 1024) (hl : l < N)
    (hQ : ∀ w', (∀ c i, ¬ (65 ≤ c ∧ c ≤ 67) → ¬ (c = 64 ∧ (i = 4 ∨ i = 0)) → w' c i = w c i) → GsC w' (gL fr l (F - 1) (2 ^ N)) → Q none w') :
    T (d + 2) 263 0 [some (vr 64), some (vi (((2 ^ N : Nat) : Int) - 1)), some (vi (l : Int)), x3] [] w Q := by
  have hN2 := two10 hN
  rw [g263_0]
  have key : ∀ (m S : Nat) (w1 : aW) (a3 : Int), S + m = 2 ^ N → 1 ≤ S → a3 = (S : Int) → (∀ c i, ¬ (65 ≤ c ∧ c ≤ 67) → ¬ (c = 64 ∧ (i = 4 ∨ i = 0)) → w1 c i = w c i) → GsC w1 (gL fr l (F - 1) S) → T (d + 2) 263 12 [some (vr 64), some (vi (((2 ^ N : Nat) : Int) - 1)), some (vi (l : Int)), some (vi a3)] [] w1 Q := by
    intro m
    induction m with
    | zero =>
      intro S w1 a3 hm h1 ha hw hg
      rw [g263_12]
      refine ⟨fun _ => ?_, fun h => absurd (by omega) h⟩
      rw [g263_44]
      rw [show S = 2 ^ N by omega] at hg
      exact hQ w1 hw hg
    | succ m ih =>
      intro S w1 a3 hm h1 ha hw hg
      subst ha
      have t1 : Unit → w32 ((S : Int) + 1) = ((S + 1 : Nat) : Int) := fun _ => by rw [w32_id (by omega) (by omega)]; omega
      rw [g263_12]
      refine ⟨fun h => absurd h (by omega), fun _ => ⟨fun h => absurd h (by omega), fun _ => ?_⟩⟩
      rw [k_bitAt (by omega) (by omega)]
      simp only [tl_some]
      rw [g263_29]
      refine ⟨fun h => ?_, fun h => ?_⟩
      · have hb : S.testBit l = true := bI_1.mp (by rcases bI_01 S l with z | z <;> omega)
        rw [g263_38, t1 ()]
        refine ih (S + 1) w1 _ (by omega) (by omega) rfl hw ?_
        rw [gL, if_neg (by unfold gdB; rw [hb]; simp), List.append_nil]
        exact hg
      · have hb : S.testBit l = false := bI_0.mp (Classical.byContradiction h)
        have hlen := gL_len (fr := fr) (l := l) (m := F - 1) S
        have htl := tot_le (fr := fr) (l := l) (m := F - 1) S
        have hhs := hs_le (l := l) (n := S + 1) (by omega) (by omega)
        rw [hsN, if_neg (by rw [hb]; decide)] at hhs
        have hg1 : ∀ b : Bool, decide (loF fr l S (F - 1) ≤ hiF fr l S (F - 1)) = b → gdB fr l (F - 1) S = b := fun b hb2 => by
          unfold gdB
          rw [hb2, hb, decide_eq_true (show S ≠ 0 by omega)]
          simp
        refine k_addSet (F := F) (fr := fr) (L := gL fr l (F - 1) S) ⟨by rw [hw 64 6 (by omega) (by omega)]; exact hF.1, fun i hi => by rw [hw 68 _ (by omega) (by omega)]; exact hF.2 i hi⟩ hF2 hF30 hfr hg (by omega) (by omega) (by omega) (by omega) (fun q => ?_) (fun q w2 hw2 hg2 => ?_)
        · simp only [tl_none]
          rw [g263_38, t1 ()]
          refine ih (S + 1) w1 _ (by omega) (by omega) rfl hw ?_
          rw [gL, hg1 false (decide_eq_false q), if_neg (by decide), List.append_nil]
          exact hg
        · simp only [tl_none]
          rw [g263_38, t1 ()]
          refine ih (S + 1) w2 _ (by omega) (by omega) rfl (fun c i q1 q2 => by rw [hw2 c i q1 q2]; exact hw c i q1 q2) ?_
          rw [gL, hg1 true (decide_eq_true q), if_pos rfl]
          exact hg2
  have hg0 : gL fr l (F - 1) 1 = [] := by
    rw [gL, gL, if_neg (by unfold gdB; simp)]
    rfl
  refine key (2 ^ N - 1) 1 _ _ (by omega) (by omega) rfl (fun c i q1 q2 => by rw [iup_n (by omega), iup_n (by omega)]) ?_
  rw [hg0]
  exact ⟨by rw [iup_i (by decide), iup_s]; rfl, by rw [iup_s]; rfl, fun i hi => absurd hi (Nat.not_lt_zero _)⟩
/-- takeFilm(row, all) -/
theorem k_takeFilm {N r n : Nat} {f : Nat → Int} {x3 : Option aV} (hN : N ≤ 10) (hr : r < 4) (hn : w (131 + 2 * r) 0 = (n : Int)) (hn30 : n ≤ 30) (hf : ∀ i : Nat, i < n → w (132 + 2 * r) (i : Int) = f i ∧ R64 (f i))
    (hQ : ∀ w', (∀ c i, c ≠ 68 → ¬ (c = 64 ∧ i = 6) → w' c i = w c i) → (allP N f n 0 = true → FmC w' n (fun i => (f i).toNat)) → Q (some (vi (b01 (allP N f n 0)))) w') :
    T d 262 0 [some (vr 64), some (vr (131 + 2 * r)), some (vi (((2 ^ N : Nat) : Int) - 1)), x3] [] w Q := by
  have hN2 := two10 hN
  obtain ⟨ro1, ro2, ro3, ro4⟩ := row_ok r hr
  rw [g262_0]
  have key : ∀ (m i : Nat) (w1 : aW) (a3 : Int), i + m = n → a3 = (i : Int) → (∀ c j, c ≠ 68 → ¬ (c = 64 ∧ j = 6) → w1 c j = w c j) → FmC w1 i (fun i => (f i).toNat) → allP N f m i = allP N f n 0 → T d 262 7 [some (vr 64), some (vr (131 + 2 * r)), some (vi (((2 ^ N : Nat) : Int) - 1)), some (vi a3)] [] w1 Q := by
    intro m
    induction m with
    | zero =>
      intro i w1 a3 hm ha hw hF he
      rw [g262_7, hw (131 + 2 * r) 0 (by omega) (by omega), hn]
      refine ⟨ro2, fun _ => ?_, fun h => absurd (by omega) h⟩
      rw [g262_73]
      have hq := hQ w1 hw (fun _ => by rw [show n = i by omega]; exact hF)
      rw [← he, allP] at hq
      exact hq
    | succ m ih =>
      intro i w1 a3 hm ha hw hF he
      subst ha
      have t1 : Unit → w32 ((i : Int) + 1) = ((i + 1 : Nat) : Int) := fun _ => by rw [w32_id (by omega) (by omega)]; omega
      obtain ⟨f1, f2⟩ := hf i (by omega)
      rw [g262_7, hw (131 + 2 * r) 0 (by omega) (by omega), hn, ro3, row_in hr, hw (132 + 2 * r) _ (by omega) (by omega), f1, kcmp_eq, hF.1]
      refine ⟨ro2, fun h => absurd h (by omega), fun _ => ⟨fun h => absurd h (by omega), fun _ => ⟨ro2, by omega, fun h => ⟨ro2, by omega, by omega, ?_⟩, fun h => ?_⟩⟩⟩
      · have hp := (kmaskI f2 hN).mp h
        rw [allP, decide_eq_true hp, Bool.true_and] at he
        rw [t1 (), iup_c (show (64 : Nat) ≠ 68 by decide), hF.1, w32_id (x := f i) (by omega) (by omega), t1 ()]
        refine ih (i + 1) _ _ (by omega) rfl (fun c j q1 q2 => by rw [iup_n q2, iup_c q1]; exact hw c j q1 q2) ⟨iup_s, fun j hj => ?_⟩ he
        rw [iup_c (by decide)]
        by_cases z : j = i
        · subst z; rw [iup_s]; show f j = ((f j).toNat : Int); omega
        · rw [iup_i (by omega)]; exact hF.2 j (by omega)
      · have hp : ¬ (0 ≤ f i ∧ f i < ((2 ^ N : Nat) : Int)) := fun q => h ((kmaskI f2 hN).mpr q)
        rw [allP, decide_eq_false hp, Bool.false_and] at he
        have hq := hQ w1 hw (fun q => by rw [← he] at q; cases q)
        rw [← he] at hq
        exact hq
  exact key n 0 _ _ (by omega) rfl (fun c j q1 q2 => iup_n q2) ⟨iup_s, fun i hi => absurd hi (Nat.not_lt_zero _)⟩ rfl
/-- readFilm(row, l) -/
theorem k_readFilm {N : Nat} {a b : Int} {x3 : Option aV} (hN : N ≤ 10) (h69 : w 69 1 = (N : Int)) (hrow : ∀ r, r < 4 → RwR w r)
    (hQ : ∀ w', (∀ c i, ¬ (64 ≤ c ∧ c ≤ 68) → w' c i = w c i) → (noG w N a b = 0 → GsC w' (gL (fun i => (w 190 (40 * a + (i : Int))).toNat) b.toNat ((w 189 a).toNat - 1) (2 ^ N))) → Q (some (vi (noG w N a b))) w') : T (d + 3) 198 0 [some (vr 0), some (vi a), some (vi b), x3] [] w Q := by
  have hN2 := two10 hN
  have fin : ∀ x : Int, noG w N a b = x → x ≠ 0 → ∀ w', (∀ c i, ¬ (64 ≤ c ∧ c ≤ 68) → w' c i = w c i) → Q (some (vi x)) w' := by
    intro x e hx w' hw
    have hq := hQ w' hw (fun h => absurd (e.symm.trans h) hx)
    rw [e] at hq
    exact hq
  rw [g198_0, k_isRow]
  simp only [tl_some]
  rw [g198_4]
  by_cases hl : 0 ≤ a ∧ a < 4
  · rw [b01_t (decide_eq_true hl)]
    refine ⟨fun h => absurd h (by decide), fun _ => ?_⟩
    rw [k_hasLimb, h69]
    simp only [tl_some]
    rw [g198_12]
    by_cases hb : 0 ≤ b ∧ b < (N : Int)
    · obtain ⟨r, rfl⟩ : ∃ r : Nat, a = (r : Int) := ⟨a.toNat, by omega⟩
      obtain ⟨l, rfl⟩ : ∃ l : Nat, b = (l : Int) := ⟨b.toNat, by omega⟩
      have hr : r < 4 := by omega
      obtain ⟨ra1, ra2⟩ := row_at (w := w) hr rfl
      obtain ⟨ro1, ro2, ro3, ro4⟩ := row_ok r hr
      have hlb : (0 ≤ (r : Int) ∧ (r : Int) < 4) ∧ (0 ≤ (l : Int) ∧ (l : Int) < (N : Int)) := ⟨hl, hb⟩
      rw [b01_t (decide_eq_true hb), ra2]
      refine ⟨fun _ => ⟨ra1, ro2, ?_⟩, fun h => absurd (by decide) h⟩
      rw [k_missing hr]
      simp only [tl_some]
      rw [g198_29]
      rcases hrow r hr with ⟨m1, m2⟩ | ⟨c1, c2, c3, c4, c5, c6, c7⟩
      · rw [b01_t (decide_eq_true m1)]
        exact ⟨fun h => absurd h (by decide), fun _ => fin (-6) (by unfold noG; rw [if_pos hlb, if_pos m2]) (by decide) w (fun _ _ _ => rfl)⟩
      · have hne : ¬ w 188 (r : Int) = -1 := by omega
        rw [b01_f (decide_eq_false (show ¬ w (131 + 2 * r) 0 = -1 by omega)), c4]
        have e4 : ¬ (2 ≤ w 189 (r : Int) ∧ w 189 (r : Int) ≤ 30) → noG w N (r : Int) (l : Int) = -4 := fun h => by unfold noG; rw [if_pos hlb, if_neg hne, if_neg h]
        refine ⟨fun _ => ⟨ro2, fun h => ?_, fun h => ⟨ro2, fun h2 => ?_, fun h2 => ?_⟩⟩, fun h => absurd rfl h⟩
        · rw [g198_52]; exact fin (-4) (e4 (by omega)) (by decide) w (fun _ _ _ => rfl)
        · have hno : noG w N (r : Int) (l : Int) = if allP N (fun i => w 190 (40 * (r : Int) + (i : Int))) (w 189 (r : Int)).toNat 0 = true then 0 else -3 := by
            unfold noG; rw [if_pos hlb, if_neg hne, if_pos (by omega)]
          obtain ⟨n, hn⟩ : ∃ n : Nat, w 189 (r : Int) = (n : Int) := ⟨(w 189 (r : Int)).toNat, by omega⟩
          rw [hn] at h h2 c4 c7 hno
          rw [Int.toNat_natCast] at hno
          rw [hno] at hQ
          rw [hno] at fin
          rw [hn, Int.toNat_natCast, Int.toNat_natCast] at hQ
          have c8 : ∀ i : Nat, i < n → w (132 + 2 * r) (i : Int) = w 190 (40 * (r : Int) + (i : Int)) ∧ R64 (w 190 (40 * (r : Int) + (i : Int))) := fun i hi => c7 i (by omega)
          rw [k_allLimbs h69 hN]
          simp only [tl_some]
          rw [g198_67]
          refine ⟨by decide +kernel, ?_⟩
          refine k_takeFilm (n := n) (f := fun i => w 190 (40 * (r : Int) + (i : Int))) hN hr c4 (by omega) c8 (fun w2 hw2 hF => ?_)
          simp only [tl_some]
          rw [g198_70]
          cases hok : allP N (fun i => w 190 (40 * (r : Int) + (i : Int))) n 0 with
          | false =>
            rw [hok] at fin
            exact ⟨fun h => absurd rfl h, fun _ => fin (-3) rfl (by decide) w2 (fun c i q => hw2 c i (by omega) (by omega))⟩
          | true =>
            refine ⟨fun _ => ?_, fun h => absurd (by decide) h⟩
            rw [hok, if_pos rfl] at hQ
            rw [k_allLimbs (n := N) (by rw [hw2 69 1 (by decide) (by decide)]; exact h69) hN]
            simp only [tl_some]
            rw [g198_87]
            refine ⟨by decide +kernel, ?_⟩
            refine k_gather (F := n) hN (hF hok) (by omega) (by omega) (fun i hi => ?_) (by omega) (fun w3 hw3 hg => ?_)
            · have := allP_at n 0 i hok (by omega) (by omega)
              show (w 190 (40 * (r : Int) + (i : Int))).toNat < 1024
              omega
            · simp only [tl_none]
              rw [g198_91]
              exact hQ w3 (fun c i q => by rw [hw3 c i (by omega) (by omega)]; exact hw2 c i (by omega) (by omega)) (fun _ => hg)
        · rw [g198_52]; exact fin (-4) (e4 (by omega)) (by decide) w (fun _ _ _ => rfl)
    · rw [b01_f (decide_eq_false hb)]
      refine ⟨fun h => absurd rfl h, fun _ => ?_⟩
      rw [g198_15]
      exact fin (-2) (by unfold noG; rw [if_neg (fun q => hb q.2)]) (by decide) w (fun _ _ _ => rfl)
  · rw [b01_f (decide_eq_false hl)]
    refine ⟨fun _ => ?_, fun h => absurd rfl h⟩
    rw [g198_15]
    exact fin (-2) (by unfold noG; rw [if_neg (fun q => hl q.1)]) (by decide) w (fun _ _ _ => rfl)
end FilmC
