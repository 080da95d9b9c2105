/-! Scripts: begins. -/
theorem allS_at {N : Nat} {f : Nat → Int} : ∀ (m i j : Nat), allS N f m i = true → i ≤ j → j < i + m → scB N (f j) = true := by
  intro m
  induction m with
  | zero => intro i j _ h1 h2; omega
  | succ m ih =>
    intro i j h h1 h2
    rw [allS, Bool.and_eq_true] at h
    by_cases z : j = i
    · rw [z]; exact h.1
    · exact ih (i + 1) j h.2 (by omega) (by omega)
theorem scB_0 {N : Nat} {v : Int} (h : scB N v = true) : 0 ≤ v ∧ scM v < 2 ^ N ∧ andn (scP v) (scM v) = 0 := of_decide_eq_true h
/-- does what follows p keep to the script? -/
def goB (f : Nat → Int) (nx : Nat → Nat) : Nat → Nat → Nat → Bool
  | 0, _, _ => true
  | m + 1, i, p => soB (f i) p && goB f nx m (i + 1) (nx p)
/-- what the relation says of the reference's row -/
def RoR (w : aW) (r : Nat) : Prop := w 188 (r : Int) = -1 ∨ (w 188 (r : Int) ≠ -1 ∧ 0 ≤ w 189 (r : Int) ∧ w 189 (r : Int) ≤ 40 ∧ ∀ i : Nat, (i : Int) < w 189 (r : Int) → R64 (w 190 (40 * (r : Int) + (i : Int))))
theorem RoR_of {w : aW} {r : Nat} (h : RwR w r) : RoR w r := by
  rcases h with ⟨-, h⟩ | ⟨h1, h2, h3, h4, h5, h6, h7⟩
  · exact Or.inl h
  · exact Or.inr ⟨by omega, h5, h6, fun i hi => (h7 i hi).2⟩
theorem RoR_rs {w w1 : aW} {r : Nat} (h : RoR w r) (hk : RS w w1) : RoR w1 r := by
  have e : ∀ c i, 188 ≤ c → w1 c i = w c i := fun c i q => hk c i (by omega) (by unfold scr; simp only [Bool.or_eq_false_iff, decide_eq_false_iff_not]; omega)
  unfold RoR at h ⊢
  simp only [e 188 _ (by omega), e 189 _ (by omega), e 190 _ (by omega)]
  exact h
theorem noS_rs {w w1 : aW} {N : Nat} {a : Int} (hk : RS w w1) : noS w1 N a = noS w N a := by
  have e : ∀ c i, 188 ≤ c → w1 c i = w c i := fun c i q => hk c i (by omega) (by unfold scr; simp only [Bool.or_eq_false_iff, decide_eq_false_iff_not]; omega)
  unfold noS
  simp only [e 188 _ (by omega), e 189 _ (by omega), e 190 _ (by omega)]
section Begins
variable {d D : Nat} {w : aW} {Q : Option aV → aW → Prop}
/-- isSo(i, p) -/
theorem k_isSo {n i p : Nat} {f : Nat → Int} (hs : SnC w n f) (hi : i < n) (hn : n ≤ 12) (hp : p < 1024) : T d 249 0 [some (vr 57), some (vi (i : Int)), some (vi (p : Int))] [] w Q = Q (some (vi (b01 (soB (f i) p)))) w := by
  obtain ⟨e1, e2⟩ := hs.2 i hi
  rw [g249_0, e1, e2, jand_n (by omega), g249_22, g249_22, gd (show (0 : Int) ≤ (i : Int) ∧ (i : Int) < 12 by omega), gd (show (0 : Int) ≤ (i : Int) ∧ (i : Int) < 12 by omega), gd (Or.inl rfl), gd (Or.inr rfl)]
  unfold soB
  by_cases h : p &&& scM (f i) = scP (f i)
  · rw [if_f (fun q => q (by rw [h])), decide_eq_true h]; rfl
  · rw [if_t (show ¬ ((p &&& scM (f i) : Nat) : Int) = (scP (f i) : Int) by omega), decide_eq_false h]; rfl
/-- isAs(p, value) -/
theorem k_isAs {p : Nat} {v : Int} (h0 : 0 ≤ v) (hv : R64 v) (hp : p < 1024) : T d 250 0 [some (vi (p : Int)), some (vl v), none] [] w Q = Q (some (vi (b01 (soB v p)))) w := by
  rw [g250_0, kcmp_eq, (scM_k h0 hv).2, (scP_k h0 hv).2, kand_n (by omega), g250_22, g250_22, gd (Or.inl rfl), gd (Or.inr rfl)]
  unfold soB
  by_cases h : p &&& scM v = scP v
  · rw [if_f (fun q => q (by rw [h])), decide_eq_true h]; rfl
  · rw [if_t (show ¬ ((p &&& scM v : Nat) : Int) = (scP v : Int) by omega), decide_eq_false h]; rfl
/-- readScript(row) -/
theorem k_readScript {N : Nat} {a : Int} {x2 x3 : Option aV} (hN : N ≤ 10) (h69 : w 69 1 = (N : Int)) (hrow : ∀ r, r < 4 → RwR w r)
    (hQ : ∀ w', (∀ c i, c ≠ 60 → c ≠ 61 → ¬ (c = 57 ∧ i = 2) → w' c i = w c i) → (noS w N a = 0 → SnC w' (w 189 a).toNat (fun i => w 190 (40 * a + (i : Int)))) → Q (some (vi (noS w N a))) w') : T (d + 1) 181 0 [some (vr 0), some (vi a), x2, x3] [] w Q := by
  have hN2 := two10 hN
  rw [g181_0, k_isRow]
  simp only [tl_some]
  rw [g181_4]
  by_cases hl : 0 ≤ a ∧ a < 4
  · obtain ⟨r, rfl⟩ : ∃ r : Nat, a = (r : Int) := ⟨a.toNat, by omega⟩
    have hr : r < 4 := by omega
    obtain ⟨ra1, ra2⟩ := row_at (w := w) hr rfl
    obtain ⟨ro1, ro2, ro3, ro4⟩ := row_ok r hr
    rw [b01_t (decide_eq_true hl), ra2]
    refine ⟨fun _ => ⟨ra1, ro2, ?_⟩, fun h => absurd (by decide) h⟩
    rw [k_missing hr]
    simp only [tl_some]
    rw [g181_21]
    have fin : ∀ x : Int, noS w N (r : Int) = x → x ≠ 0 → Q (some (vi x)) w := by
      intro x e hx
      have hq := hQ w (fun _ _ _ _ _ => rfl) (fun h => absurd (e.symm.trans h) hx)
      rw [e] at hq
      exact hq
    rcases hrow r hr with ⟨m1, m2⟩ | ⟨c1, c2, c3, c4, c5, c6, c7⟩
    · rw [b01_t (decide_eq_true m1)]
      exact ⟨fun h => absurd h (by decide), fun _ => fin (-6) (by unfold noS; rw [if_pos hl, if_pos m2]) (by decide)⟩
    · have hne : ¬ w 188 (r : Int) = -1 := by omega
      rw [b01_f (decide_eq_false (show ¬ w (131 + 2 * r) 0 = -1 by omega)), c4]
      have e4 : ¬ (1 ≤ w 189 (r : Int) ∧ w 189 (r : Int) ≤ 12) → noS w N (r : Int) = -4 := fun h => by unfold noS; rw [if_pos hl, if_neg hne, if_neg h]
      refine ⟨fun _ => ⟨ro2, fun h => ?_, fun h => ⟨ro2, fun h2 => ?_, fun h2 => ?_⟩⟩, fun h => absurd rfl h⟩
      · rw [g181_44]; exact fin (-4) (e4 (by omega)) (by decide)
      · have hno : noS w N (r : Int) = if allS N (fun i => w 190 (40 * (r : Int) + (i : Int))) (w 189 (r : Int)).toNat 0 = true then 0 else -3 := by
          unfold noS; rw [if_pos hl, if_neg hne, if_pos (by omega)]
        rw [hno] at hQ
        obtain ⟨n, hn⟩ : ∃ n : Nat, w 189 (r : Int) = (n : Int) := ⟨(w 189 (r : Int)).toNat, by omega⟩
        rw [hn] at h h2 hQ c4 c7
        rw [Int.toNat_natCast] at hQ
        have c8 : ∀ i : Nat, i < n → w (132 + 2 * r) (i : Int) = w 190 (40 * (r : Int) + (i : Int)) ∧ R64 (w 190 (40 * (r : Int) + (i : Int))) := fun i hi => c7 i (by omega)
        generalize hfe : (fun i : Nat => w 190 (40 * (r : Int) + (i : Int))) = f at *
        have c9 : ∀ i : Nat, i < n → w (132 + 2 * r) (i : Int) = f i ∧ R64 (f i) := fun i hi => by rw [← hfe]; exact c8 i hi
        rw [g189_0]
        simp only [tl_none]
        rw [g181_54]
        have key : ∀ (m i : Nat) (w1 : aW) (a3 : Int), i + m = n → a3 = (i : Int) → (∀ c j, c ≠ 60 → c ≠ 61 → ¬ (c = 57 ∧ j = 2) → w1 c j = w c j) → SnC w1 i f → allS N f m i = allS N f n 0 → T (d + 1) 181 56 [some (vr 0), some (vi (r : Int)), some (vr (131 + 2 * r)), some (vi a3)] [] w1 Q := by
          intro m
          induction m with
          | zero =>
            intro i w1 a3 hi ha hw hs he
            rw [g181_56, hw (131 + 2 * r) 0 (by omega) (by omega) (by omega), c4]
            refine ⟨ro2, fun _ => ?_, fun h => absurd (by omega) h⟩
            rw [allS] at he
            have hq := hQ w1 hw (fun _ => by rw [show n = i by omega]; exact hs)
            rw [← he, if_pos rfl] at hq
            exact hq
          | succ m ih =>
            intro i w1 a3 hi ha hw hs he
            subst ha
            rw [g181_56, hw (131 + 2 * r) 0 (by omega) (by omega) (by omega), c4, ro3, row_in hr, g190_0, hw 69 1 (by decide) (by decide) (by decide), h69, jshl_n (by omega), w32_id (x := ((2 ^ N : Nat) : Int) - 1) (by omega) (by omega), hw (132 + 2 * r) _ (by omega) (by omega) (by omega), (c9 i (by omega)).1]
            refine ⟨ro2, fun h => absurd h (by omega), fun _ => ⟨ro2, by omega, by decide +kernel, ?_⟩⟩
            simp only [tl_some]
            rw [g181_81, show ((2 ^ N : Nat) : Int) - 1 = ((2 ^ N - 1 : Nat) : Int) by omega]
            refine ⟨by decide +kernel, ?_⟩
            rw [allS] at he
            refine k_addScene hN hs (by omega) (c9 i (by omega)).2 (fun hok w2 hw2 hs2 => ?_) (fun hok => ?_)
            · simp only [tl_some]
              rw [g181_84]
              refine ⟨fun _ => ?_, fun h => absurd (by decide) h⟩
              rw [hok, Bool.true_and] at he
              exact ih (i + 1) w2 _ (by omega) (by rw [w32_id (by omega) (by omega)]; omega) (fun c j q1 q2 q3 => by rw [hw2 c j q1 q2 q3]; exact hw c j q1 q2 q3) hs2 he
            · simp only [tl_some]
              rw [g181_84]
              refine ⟨fun h => absurd rfl h, fun _ => ?_⟩
              rw [hok, Bool.false_and] at he
              rw [← he, if_neg (by decide)] at hQ
              exact hQ w1 hw (fun h => absurd h (by decide))
        exact key n 0 _ _ (by omega) rfl (fun c j q1 q2 q3 => iup_n q3) ⟨iup_s, fun i hi => by omega⟩ rfl
      · rw [g181_44]; exact fin (-4) (e4 (by omega)) (by decide)
  · rw [b01_f (decide_eq_false hl)]
    have e : noS w N a = -2 := by unfold noS; rw [if_neg hl]
    rw [e] at hQ
    exact ⟨fun h => absurd rfl h, fun _ => hQ w (fun _ _ _ _ _ => rfl) (fun h => absurd h (by decide))⟩
/-- noScript(row) -/
theorem k_noScript {N : Nat} {a : Int} {x2 : Option aV} (hN : N ≤ 10) (h2 : w 168 2 = (N : Int)) (hrow : ∀ r, r < 4 → RoR w r) (hQ : Q (some (vi (noS w N a))) w) : T (d + 2) 183 0 [some (vr 167), some (vi a), x2] [] w Q := by
  rw [g183_0, k_within]
  simp only [tl_some]
  rw [g183_9]
  unfold noS at hQ
  by_cases hl : 0 ≤ a ∧ a < 4
  · obtain ⟨r, rfl⟩ : ∃ r : Nat, a = (r : Int) := ⟨a.toNat, by omega⟩
    have hr : r < 4 := by omega
    rw [b01_t (decide_eq_true (by omega))]
    rw [if_pos hl] at hQ
    refine ⟨fun _ => ⟨by omega, fun h => ⟨by omega, ?_⟩, fun h => ?_⟩, fun h => absurd (by decide) h⟩
    · rcases hrow r hr with m | ⟨c1, c2, c3, c4⟩
      · exact absurd m h
      rw [if_neg h] at hQ
      rw [k_within]
      simp only [tl_some]
      rw [g183_42]
      by_cases hc : 1 ≤ w 189 (r : Int) ∧ w 189 (r : Int) ≤ 12
      · rw [b01_t (decide_eq_true hc)]
        rw [if_pos hc] at hQ
        refine ⟨fun _ => ?_, fun h => absurd (by decide) h⟩
        obtain ⟨n, hn⟩ : ∃ n : Nat, w 189 (r : Int) = (n : Int) := ⟨(w 189 (r : Int)).toNat, by omega⟩
        rw [hn] at hQ c4
        rw [Int.toNat_natCast] at hQ
        have key : ∀ (m i : Nat) (a2 : Int), i + m = n → a2 = (i : Int) → allS N (fun i => w 190 (40 * (r : Int) + (i : Int))) m i = allS N (fun i => w 190 (40 * (r : Int) + (i : Int))) n 0 → T (d + 2) 183 50 [some (vr 167), some (vi (r : Int)), some (vi a2)] [] w Q := by
          intro m
          induction m with
          | zero =>
            intro i a2 hi ha he
            rw [g183_50, hn]
            refine ⟨by omega, fun _ => ?_, fun h => absurd (by omega) h⟩
            rw [allS] at he
            rw [← he, if_pos rfl] at hQ
            exact hQ
          | succ m ih =>
            intro i a2 hi ha he
            subst ha
            have e40 : Unit → w32 (w32 (40 * (r : Int)) + (i : Int)) = 40 * (r : Int) + (i : Int) := fun _ => by rw [w32_id (x := 40 * (r : Int)) (by omega) (by omega), w32_id (by omega) (by omega)]
            rw [g183_50, hn, e40 (), k_isScene hN h2 (c4 i (by omega))]
            refine ⟨by omega, fun h => absurd h (by omega), fun _ => ⟨by omega, ?_⟩⟩
            simp only [tl_some]
            rw [g183_75]
            rw [allS] at he
            cases hok : scB N (w 190 (40 * (r : Int) + (i : Int)))
            · rw [hok, Bool.false_and] at he
              rw [← he, if_neg (by decide)] at hQ
              exact ⟨fun h => absurd rfl h, fun _ => hQ⟩
            · rw [hok, Bool.true_and] at he
              exact ⟨fun _ => ih (i + 1) _ (by omega) (by rw [w32_id (by omega) (by omega)]; omega) he, fun h => absurd (by decide) h⟩
        exact key n 0 _ (by omega) rfl rfl
      · rw [b01_f (decide_eq_false hc)]
        rw [if_neg hc] at hQ
        exact ⟨fun h => absurd rfl h, fun _ => hQ⟩
    · rw [if_pos (by omega)] at hQ
      exact hQ
  · rw [b01_f (decide_eq_false (by omega))]
    rw [if_neg hl] at hQ
    exact ⟨fun h => absurd rfl h, fun _ => hQ⟩
/-- goSo(next, p) -/
theorem k_goSo {n p B : Nat} {f : Nat → Int} {nx : Nat → Nat} {x3 x4 : Option aV} (hs : SnC w n f) (hn : n ≤ 12) (hB : B ≤ 1024) (hF : ∀ q : Nat, q < B → w 20 (q : Int) = ((nx q : Nat) : Int)) (hnx : ∀ q, q < B → nx q < B) (hp : p < B)
    (hQ : Q (some (vi (b01 (goB f nx n 0 p)))) w) : T (d + 1) 182 0 [some (vr 57), some (vr 20), some (vi (p : Int)), x3, x4] [] w Q := by
  rw [g182_0]
  have key : ∀ (m i q : Nat) (a3 a4 : Int), i + m = n → a4 = (i : Int) → a3 = (q : Int) → q < B → goB f nx m i q = goB f nx n 0 p → T (d + 1) 182 5 [some (vr 57), some (vr 20), some (vi (p : Int)), some (vi a3), some (vi a4)] [] w Q := by
    intro m
    induction m with
    | zero =>
      intro i q a3 a4 hi ha4 ha3 hq he
      rw [g182_5, hs.1]
      refine ⟨fun _ => ?_, fun h => absurd (by omega) h⟩
      rw [goB] at he
      rw [← he] at hQ
      exact hQ
    | succ m ih =>
      intro i q a3 a4 hi ha4 ha3 hq he
      subst ha4 ha3
      rw [g182_5, hs.1, k_isSo hs (by omega) hn (by omega)]
      refine ⟨fun h => absurd h (by omega), fun _ => ?_⟩
      simp only [tl_some]
      rw [g182_21, hF q hq]
      rw [goB] at he
      cases hok : soB (f i) q
      · rw [hok, Bool.false_and] at he
        rw [← he] at hQ
        exact ⟨fun h => absurd rfl h, fun _ => hQ⟩
      · rw [hok, Bool.true_and] at he
        exact ⟨fun _ => ⟨by omega, ih (i + 1) (nx q) _ _ (by omega) (by rw [w32_id (by omega) (by omega)]; omega) rfl (hnx q hq) he⟩, fun h => absurd (by decide) h⟩
  exact key n 0 p _ _ (by omega) rfl rfl hp rfl
/-- isBeginning(p, row) -/
theorem k_isBeg {N n p B r : Nat} {nx : Nat → Nat} {x3 x4 : Option aV} (hr : r < 4) (h9 : w 189 (r : Int) = (n : Int)) (hn : n ≤ 12) (hB : B ≤ 1024) (hF : ∀ q : Nat, q < B → w 174 (q : Int) = ((nx q : Nat) : Int)) (hnx : ∀ q, q < B → nx q < B) (hp : p < B)
    (hS : ∀ i : Nat, i < n → 0 ≤ w 190 (40 * (r : Int) + (i : Int)) ∧ R64 (w 190 (40 * (r : Int) + (i : Int))))
    (hQ : Q (some (vi (b01 (goB (fun i => w 190 (40 * (r : Int) + (i : Int))) nx n 0 p)))) w) : T (d + 1) 184 0 [some (vr 167), some (vi (p : Int)), some (vi (r : Int)), x3, x4] [] w Q := by
  rw [g184_0]
  have key : ∀ (m i q : Nat) (a3 a4 : Int), i + m = n → a4 = (i : Int) → a3 = (q : Int) → q < B → goB (fun i => w 190 (40 * (r : Int) + (i : Int))) nx m i q = goB (fun i => w 190 (40 * (r : Int) + (i : Int))) nx n 0 p → T (d + 1) 184 5 [some (vr 167), some (vi (p : Int)), some (vi (r : Int)), some (vi a3), some (vi a4)] [] w Q := by
    intro m
    induction m with
    | zero =>
      intro i q a3 a4 hi ha4 ha3 hq he
      rw [g184_5, h9]
      refine ⟨by omega, fun _ => ?_, fun h => absurd (by omega) h⟩
      rw [goB] at he
      rw [← he] at hQ
      exact hQ
    | succ m ih =>
      intro i q a3 a4 hi ha4 ha3 hq he
      subst ha4 ha3
      have e40 : Unit → w32 (w32 (40 * (r : Int)) + (i : Int)) = 40 * (r : Int) + (i : Int) := fun _ => by rw [w32_id (x := 40 * (r : Int)) (by omega) (by omega), w32_id (by omega) (by omega)]
      rw [g184_5, h9, e40 (), k_isAs (hS i (by omega)).1 (hS i (by omega)).2 (by omega)]
      refine ⟨by omega, fun h => absurd h (by omega), fun _ => ⟨by omega, ?_⟩⟩
      simp only [tl_some]
      rw [g184_32, hF q hq]
      rw [goB] at he
      cases hok : soB (w 190 (40 * (r : Int) + (i : Int))) q
      · rw [hok, Bool.false_and] at he
        rw [← he] at hQ
        exact ⟨fun h => absurd rfl h, fun _ => hQ⟩
      · rw [hok, Bool.true_and] at he
        exact ⟨fun _ => ⟨by omega, ih (i + 1) (nx q) _ _ (by omega) (by rw [w32_id (by omega) (by omega)]; omega) rfl (hnx q hq) he⟩, fun h => absurd (by decide) h⟩
  exact key n 0 p _ _ (by omega) rfl rfl hp rfl
/-- what is known of a script that can be read -/
theorem noS_0 {N : Nat} {a : Int} (hrow : ∀ r, r < 4 → RoR w r) (h : noS w N a = 0) : ∃ r n : Nat, r < 4 ∧ a = (r : Int) ∧ w 189 a = (n : Int) ∧ 1 ≤ n ∧ n ≤ 12 ∧ ∀ i : Nat, i < n → scB N (w 190 (40 * a + (i : Int))) = true ∧ R64 (w 190 (40 * a + (i : Int))) := by
  unfold noS at h
  by_cases hl : 0 ≤ a ∧ a < 4
  · obtain ⟨r, rfl⟩ : ∃ r : Nat, a = (r : Int) := ⟨a.toNat, by omega⟩
    have hr : r < 4 := by omega
    rw [if_pos hl] at h
    by_cases h8 : w 188 (r : Int) = -1
    · rw [if_pos h8] at h; exact absurd h (by decide)
    · rw [if_neg h8] at h
      by_cases hc : 1 ≤ w 189 (r : Int) ∧ w 189 (r : Int) ≤ 12
      · rw [if_pos hc] at h
        by_cases ha : allS N (fun i => w 190 (40 * (r : Int) + (i : Int))) (w 189 (r : Int)).toNat 0 = true
        · rcases hrow r hr with m | ⟨c1, c2, c3, c4⟩
          · exact absurd m h8
          refine ⟨r, (w 189 (r : Int)).toNat, hr, rfl, by omega, by omega, by omega, fun i hi => ⟨allS_at _ 0 i ha (by omega) (by omega), c4 i (by omega)⟩⟩
        · rw [if_neg ha] at h; exact absurd h (by decide)
      · rw [if_neg hc] at h; exact absurd h (by decide)
  · rw [if_neg hl] at h; exact absurd h (by decide)
end Begins
