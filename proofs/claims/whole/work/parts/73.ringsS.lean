/-! round, rings, basin, farthest. -/
theorem exLeast {P : Nat → Prop} : ∀ j, P j → ∃ s, P s ∧ ∀ i, i < s → ¬ P i := by
  intro j
  induction j using Nat.strongRecOn with
  | ind j ih =>
    intro h
    by_cases z : ∃ i, i < j ∧ P i
    · obtain ⟨i, i1, i2⟩ := z
      exact ih i i1 i2
    · exact ⟨j, h, fun i hi hp => z ⟨i, hi, hp⟩⟩
theorem sim_r {D m1 m2 : Nat} {e1 e2 : List (Option aV)} (h : ∀ w g n ps, Inv w → IvS w (trR w 0) g n ps →
      T D m1 0 e1 [] w (fun r1 w1 => ∃ x : Int, r1 = some (vi x) ∧ Inv w1 ∧ RS w w1 ∧ (RfT w1 (trR w 0) → SgM w1 0 (trR w 0).1 (trR w 0).2.1 g → ∀ Q : Option aV → aW → Prop, (∀ w2, SK w1 w2 → Q (some (vi x)) w2) → T D m2 0 e2 [] w1 Q))) : Sim Inv D m1 m2 e1 e2 := by
  intro w hI
  obtain ⟨g, n, ps, hS⟩ := Inv_ex hI
  obtain ⟨hO, hR, hC, s1, s2, s3, -⟩ := id hS
  refine T.imp (h w g n ps hI hS) ?_
  rintro r1 w1 ⟨x, rfl, hI1, hr, h2⟩
  refine ⟨x, rfl, fun j => hr 999 j (by decide) scr_999, ?_⟩
  refine h2 (hR.of ⟨hO.1, hO.2.1⟩ (fun i _ => hr.k8 i)) (s2.of hO.1 hO.2.1 (fun i _ _ => hr.k8 i)) _ (fun w2 hk => ⟨rfl, fun j => ?_, hk.inv hI1⟩)
  rw [hk 999 j scr_999]
  exact hr 999 j (by decide) scr_999
section RingsS
variable {d D : Nat} {w : aW} {Q : Option aV → aW → Prop}
/-- what holds ahead of the k-th walk of the second sort -/
def P2 (w : aW) (f : Nat → Nat) (n k : Nat) : Prop := KB f n (fl w 175) (fl w 176) ∧ (∀ q, q < n → onR f q → fl w 176 q ≠ -1) ∧ (∀ q, q < n → ∃ j, fl w 176 (itF f j q) ≠ -1) ∧ (∀ q, q < k → fl w 176 q ≠ -1)
theorem k_walk2 {f : Nat → Nat} {n N k : Nat} {x4 x5 : Option aV} (hT : TbR w f n N) (hP : P2 w f n k) (hk : k < n)
    (hQ : ∀ (w' : aW) (y2 y3 y4 y5 : Option aV), (∀ c i, ¬ (175 ≤ c ∧ c ≤ 176) → w' c i = w c i) → P2 w' f n (k + 1) → T d 159 179 [some (vr 167), some (vi ((k + 1 : Nat) : Int)), y2, y3, y4, y5] [] w' Q) :
    T d 159 191 [some (vr 167), some (vi (k : Int)), some (vi 0), some (vi (k : Int)), x4, x5] [] w Q := by
  obtain ⟨hB, hO, hX, hC⟩ := hP
  have hn := hT.2.2.2.2.1
  have hff := hT.2.2.2.2.2
  have hil : ∀ i, itF f i k < n := fun i => itF_lt hff i k hk
  have kn : ∀ i, itF f (i + 1) k = f (itF f i k) := fun i => itF_s i k
  obtain ⟨j, hj⟩ := hX k hk
  obtain ⟨s, hs, hls⟩ := exLeast (P := fun j => fl w 176 (itF f j k) ≠ -1) j hj
  have hun : ∀ i, i < s → fl w 176 (itF f i k) = -1 := fun i hi => Classical.byContradiction fun z => hls i hi z
  have hno : ∀ i, i < s → ¬ onR f (itF f i k) := fun i hi ho => hO _ (hil i) ho (hun i hi)
  obtain ⟨ld', le', kb, kin, kout⟩ := KB_chain hB hff s k hk (fun i hi => ⟨hun i hi, hno i hi⟩) hs
  obtain ⟨b1, -, b3, b4⟩ := hB _ (hil s) hs
  have hld0 := b3.2.2
  have hsn : (s : Int) + fl w 175 (itF f s k) ≤ 1024 := by
    rcases Nat.eq_zero_or_pos s with z | z
    · subst z
      have : 0 ≤ (unk (fl w 176) n : Int) := by omega
      omega
    · obtain ⟨k1, k2⟩ := kin 0 z
      rw [itF] at k1 k2
      obtain ⟨-, -, -, c4⟩ := kb k hk (by rw [k2]; exact hs)
      omega
  have r174 : ∀ (w2 : aW) (j : Nat), (∀ c i, ¬ (175 ≤ c ∧ c ≤ 176) → w2 c i = w c i) → w2 174 ((itF f j k : Nat) : Int) = ((itF f (j + 1) k : Nat) : Int) := by
    intro w2 j h
    rw [h 174 _ (by omega), hT.2.2.2.1 _ (hil j), kn]
  have key2 : ∀ (m i : Nat) (w1 : aW) (a2 a5 : Int) (y3 : Option aV), i + m = s → a5 = ((itF f i k : Nat) : Int) → a2 = fl w 175 (itF f s k) + ((s - i : Nat) : Int) → (∀ c j, ¬ (175 ≤ c ∧ c ≤ 176) → w1 c j = w c j) → (∀ j, j < i → fl w1 175 (itF f j k) = fl w 175 (itF f s k) + ((s - j : Nat) : Int) ∧ fl w1 176 (itF f j k) = fl w 176 (itF f s k)) → (∀ q, (∀ j, j < i → q ≠ itF f j k) → fl w1 175 q = fl w 175 q ∧ fl w1 176 q = fl w 176 q) →
      T d 159 234 [some (vr 167), some (vi (k : Int)), some (vi a2), y3, some (vi (fl w 176 (itF f s k))), some (vi a5)] [] w1 Q := by
    intro m
    induction m with
    | zero =>
      intro i w1 a2 a5 y3 hi ha5 ha2 hw hin hout
      subst ha5
      have his : i = s := by omega
      subst his
      have e6 : w1 176 ((itF f i k : Nat) : Int) = fl w 176 (itF f i k) := by
        have := (hout (itF f i k) (fun j hj e => hs (by rw [e]; exact hun j hj))).2
        exact this
      have hil' := hil i
      rw [g159_234, e6]
      refine ⟨by omega, fun _ => ?_, fun h => absurd hs h⟩
      have el : fl w1 175 = ld' := by
        funext q
        by_cases z : ∃ j, j < i ∧ q = itF f j k
        · obtain ⟨j, j1, rfl⟩ := z
          rw [(hin j j1).1, (kin j j1).1]
        · rw [(hout q (fun j j1 e => z ⟨j, j1, e⟩)).1, (kout q (fun j j1 e => z ⟨j, j1, e⟩)).1]
      have ee : fl w1 176 = le' := by
        funext q
        by_cases z : ∃ j, j < i ∧ q = itF f j k
        · obtain ⟨j, j1, rfl⟩ := z
          rw [(hin j j1).2, (kin j j1).2]
        · rw [(hout q (fun j j1 e => z ⟨j, j1, e⟩)).2, (kout q (fun j j1 e => z ⟨j, j1, e⟩)).2]
      have hold : ∀ q, fl w 176 q ≠ -1 → le' q ≠ -1 := by
        intro q h
        by_cases z : ∃ j, j < i ∧ q = itF f j k
        · obtain ⟨j, j1, rfl⟩ := z
          rw [(kin j j1).2]; exact hs
        · rw [(kout q (fun j j1 e => z ⟨j, j1, e⟩)).2]; exact h
      rw [show w32 ((k : Int) + 1) = ((k + 1 : Nat) : Int) by rw [w32_id (by omega) (by omega)]; omega]
      refine hQ w1 _ _ _ _ hw ⟨by rw [el, ee]; exact kb, fun q hq h => by rw [ee]; exact hold q (hO q hq h), fun q hq => ?_, fun q hq => ?_⟩
      · obtain ⟨j, hj⟩ := hX q hq
        exact ⟨j, by rw [ee]; exact hold _ hj⟩
      · rw [ee]
        by_cases z : q = k
        · subst z
          rcases Nat.eq_zero_or_pos i with y | y
          · subst y; exact hold _ hs
          · have := (kin 0 y).2
            rw [itF] at this
            rw [this]; exact hs
        · exact hold q (hC q (by omega))
    | succ m ih =>
      intro i w1 a2 a5 y3 hi ha5 ha2 hw hin hout
      subst ha5
      have hni : ∀ j, j < i → itF f i k ≠ itF f j k := by
        intro j hj e
        refine hno j (by omega) ⟨i - j, by omega, ?_⟩
        rw [← itF_add, show i - j + j = i by omega]; exact e
      have e6 : w1 176 ((itF f i k : Nat) : Int) = -1 := by
        have := (hout (itF f i k) hni).2
        rw [hun i (by omega)] at this
        exact this
      have hil' := hil i
      have er : iup (iup w1 176 ((itF f i k : Nat) : Int) (fl w 176 (itF f s k))) 175 ((itF f i k : Nat) : Int) a2 174 ((itF f i k : Nat) : Int) = ((itF f (i + 1) k : Nat) : Int) := by rw [iup_c (by decide), iup_c (by decide)]; exact r174 w1 i hw
      have g5 : fl (iup (iup w1 176 ((itF f i k : Nat) : Int) (fl w 176 (itF f s k))) 175 ((itF f i k : Nat) : Int) a2) 175 = fup (fl w1 175) (itF f i k) a2 := by rw [fl_iup, fl_o (by decide)]
      have g6 : fl (iup (iup w1 176 ((itF f i k : Nat) : Int) (fl w 176 (itF f s k))) 175 ((itF f i k : Nat) : Int) a2) 176 = fup (fl w1 176) (itF f i k) (fl w 176 (itF f s k)) := by rw [fl_o (by decide), fl_iup]
      rw [g159_234, e6, er]
      refine ⟨by omega, fun h => absurd rfl h, fun _ => ⟨by omega, by omega, by omega, ?_⟩⟩
      refine ih (i + 1) _ _ _ _ (by omega) rfl (by rw [w32_id (by omega) (by omega)]; omega) (fun c j q => by rw [iup_c (by omega), iup_c (by omega)]; exact hw c j q) (fun j hj => ?_) (fun q hq => ?_)
      · rw [g5, g6]
        by_cases z : j = i
        · subst z; rw [fup_s, fup_s]; exact ⟨ha2, rfl⟩
        · have := hni j (by omega)
          rw [fup_n (fun e => this e.symm), fup_n (fun e => this e.symm)]; exact hin j (by omega)
      · have z := hq i (by omega)
        rw [g5, g6, fup_n z, fup_n z]
        exact hout q (fun j hj => hq j (by omega))
  have key1 : ∀ (m i : Nat) (a2 a3 : Int) (y4 y5 : Option aV), i + m = s → a2 = (i : Int) → a3 = ((itF f i k : Nat) : Int) → T d 159 191 [some (vr 167), some (vi (k : Int)), some (vi a2), some (vi a3), y4, y5] [] w Q := by
    intro m
    induction m with
    | zero =>
      intro i a2 a3 y4 y5 hi ha2 ha3
      subst ha3
      have his : i = s := by omega
      subst his
      have hil' := hil i
      rw [g159_191, show w 176 ((itF f i k : Nat) : Int) = fl w 176 (itF f i k) from rfl, show w 175 ((itF f i k : Nat) : Int) = fl w 175 (itF f i k) from rfl]
      refine ⟨by omega, fun _ => ⟨by omega, by omega, ?_⟩, fun h => absurd hs h⟩
      exact key2 i 0 w _ _ _ (by omega) rfl (by rw [w32_id (by omega) (by omega)]; omega) (fun _ _ _ => rfl) (fun j hj => by omega) (fun _ _ => ⟨rfl, rfl⟩)
    | succ m ih =>
      intro i a2 a3 y4 y5 hi ha2 ha3
      subst ha3
      have hil' := hil i
      rw [g159_191, show w 176 ((itF f i k : Nat) : Int) = -1 from hun i (by omega), r174 w i (fun _ _ _ => rfl)]
      refine ⟨by omega, fun h => absurd rfl h, fun _ => ⟨by omega, ?_⟩⟩
      exact ih (i + 1) _ _ _ _ (by omega) (by rw [w32_id (by omega) (by omega)]; omega) rfl
  exact key1 s 0 _ _ _ _ (by omega) rfl rfl
/-- laysRings() -/
theorem k_laysR {t : aTr} {g : aSg} {x1 x2 x3 x4 x5 : Option aV} (hO : TrOk t) (hT : RfT w t) (hS : SgM w 0 t.1 t.2.1 g) (hG : SgOk t.1 t.2.1 g)
    (hQ : ∀ w', (∀ c i, c ≠ 172 → ¬ (174 ≤ c ∧ c ≤ 177) → w' c i = w c i) → TbR w' (fwF t g) (2 ^ t.1) t.1 → RgR (fwF t g) (2 ^ t.1) (fl w' 175) (fl w' 176) → Q none w') : T (d + 6) 159 0 [some (vr 167), x1, x2, x3, x4, x5] [] w Q := by
  obtain ⟨hN, hM, -⟩ := id hO
  have hN2 := two10 hN
  rw [g159_0]
  refine k_laysN hO hT hS hG (fun w0 hw0 hF => ?_)
  have hT0 : TbR w0 (fwF t g) (2 ^ t.1) t.1 := ⟨by rw [hw0 168 2 (by decide) (by decide)]; exact hT.1, hN, rfl, hF, hN2.2, fun _ _ => fwF_lt⟩
  simp only [tl_none]
  rw [g159_4]
  generalize hn : 2 ^ t.1 = n at *
  generalize fwF t g = f at *
  have hn1 := hT0.2.2.2.2.1
  have key3 : ∀ (m k : Nat) (w1 : aW) (y2 y3 y4 y5 : Option aV), k + m = n → (∀ c i, ¬ (175 ≤ c ∧ c ≤ 177) → w1 c i = w0 c i) → P2 w1 f n k → T (d + 6) 159 179 [some (vr 167), some (vi (k : Int)), y2, y3, y4, y5] [] w1 Q := by
    intro m
    induction m with
    | zero =>
      intro k w1 y2 y3 y4 y5 hk hw hp
      have hT1 := hT0.of (w' := w1) (fun c i q => hw c i (by omega))
      rw [g159_179, k_poR hT1]
      simp only [tl_some]
      rw [g159_184]
      refine ⟨fun _ => ?_, fun h => absurd (by omega) h⟩
      refine hQ w1 (fun c i q1 q2 => by rw [hw c i (by omega)]; exact hw0 c i q1 (by omega)) hT1 (fun q hq => ?_)
      exact (hp.1 q hq (hp.2.2.2 q (by omega))).2.2.1
    | succ m ih =>
      intro k w1 y2 y3 y4 y5 hk hw hp
      have hT1 := hT0.of (w' := w1) (fun c i q => hw c i (by omega))
      rw [g159_179, k_poR hT1]
      simp only [tl_some]
      rw [g159_184]
      refine ⟨fun h => absurd h (by omega), fun _ => ?_⟩
      refine k_walk2 hT1 hp (by omega) (fun w2 z2 z3 z4 z5 hw2 hp2 => ?_)
      exact ih (k + 1) w2 _ _ _ _ (by omega) (fun c i q => by rw [hw2 c i (by omega)]; exact hw c i q) hp2
  have key2 : ∀ (m k : Nat) (w1 : aW) (y2 y3 y4 y5 : Option aV), k + m = n → (∀ c i, ¬ (175 ≤ c ∧ c ≤ 177) → w1 c i = w0 c i) → P1 w1 f n k → T (d + 6) 159 36 [some (vr 167), some (vi (k : Int)), y2, y3, y4, y5] [] w1 Q := by
    intro m
    induction m with
    | zero =>
      intro k w1 y2 y3 y4 y5 hk hw hp
      have hT1 := hT0.of (w' := w1) (fun c i q => hw c i (by omega))
      rw [g159_36, k_poR hT1]
      simp only [tl_some]
      rw [g159_41]
      refine ⟨fun _ => ?_, fun h => absurd (by omega) h⟩
      obtain ⟨a1, a2, a3, a4, a5⟩ := hp
      have hex : ∀ q, q < n → ∃ j, fl w1 176 (itF f j q) ≠ -1 := fun q hq => (a3 q hq (a4 q (by omega))).2
      refine key3 n 0 w1 _ _ _ _ (by omega) hw ⟨a1, fun q hq ho => ?_, hex, fun q hq => by omega⟩
      obtain ⟨j, hj⟩ := hex q hq
      obtain ⟨i, hi⟩ := onR_back ho j
      have := KB_on a1 hT0.2.2.2.2.2 i _ (itF_lt hT0.2.2.2.2.2 j q hq) hj
      rw [hi] at this
      exact this
    | succ m ih =>
      intro k w1 y2 y3 y4 y5 hk hw hp
      have hT1 := hT0.of (w' := w1) (fun c i q => hw c i (by omega))
      rw [g159_36, k_poR hT1]
      simp only [tl_some]
      rw [g159_41]
      refine ⟨fun h => absurd h (by omega), fun _ => ?_⟩
      refine k_walk1 hT1 hp (by omega) (fun w2 z2 z3 z4 hw2 hp2 => ?_)
      rw [g159_171, show w32 ((k : Int) + 1) = ((k + 1 : Nat) : Int) by rw [w32_id (by omega) (by omega)]; omega]
      exact ih (k + 1) w2 _ _ _ _ (by omega) (fun c i q => by rw [hw2 c i q]; exact hw c i q) hp2
  have key1 : ∀ (m k : Nat) (w1 : aW) (a1 : Int) (y2 y3 y4 y5 : Option aV), k + m = n → a1 = (k : Int) → (∀ c i, ¬ (175 ≤ c ∧ c ≤ 177) → w1 c i = w0 c i) → (∀ q, q < k → fl w1 176 q = -1 ∧ fl w1 177 q = -1) → T (d + 6) 159 6 [some (vr 167), some (vi a1), y2, y3, y4, y5] [] w1 Q := by
    intro m
    induction m with
    | zero =>
      intro k w1 a1 y2 y3 y4 y5 hk ha hw hp
      have hT1 := hT0.of (w' := w1) (fun c i q => hw c i (by omega))
      rw [g159_6, k_poR hT1]
      simp only [tl_some]
      rw [g159_11]
      refine ⟨fun _ => ?_, fun h => absurd (by omega) h⟩
      exact key2 n 0 w1 _ _ _ _ (by omega) hw ⟨fun q hq h => absurd (hp q (by omega)).1 h, fun q hq h => absurd (hp q (by omega)).1 h, fun q hq h => absurd (hp q (by omega)).2 h, fun q hq => by omega, fun q hq h => absurd (hp q (by omega)).2 h⟩
    | succ m ih =>
      intro k w1 a1 y2 y3 y4 y5 hk ha hw hp
      subst ha
      have hT1 := hT0.of (w' := w1) (fun c i q => hw c i (by omega))
      rw [g159_6, k_poR hT1]
      simp only [tl_some]
      rw [g159_11]
      refine ⟨fun h => absurd h (by omega), fun _ => ⟨by omega, by omega, ?_⟩⟩
      refine ih (k + 1) _ _ _ _ _ _ (by omega) (by rw [w32_id (by omega) (by omega)]; omega) (fun c i q => by rw [iup_c (by omega), iup_c (by omega)]; exact hw c i q) (fun q hq => ?_)
      rw [fl_iup, fl_o (show (176 : Nat) ≠ 177 by decide), fl_o (show (177 : Nat) ≠ 176 by decide), fl_iup]
      by_cases z : q = k
      · subst z; rw [fup_s, fup_s]; exact ⟨rfl, rfl⟩
      · rw [fup_n z, fup_n z]; exact hp q (by omega)
  exact key1 n 0 w0 _ _ _ _ _ (by omega) rfl (fun _ _ _ => rfl) (fun q hq => by omega)
/-- lengthOf(pose) -/
theorem k_lenOf {f : Nat → Nat} {n N p L q : Nat} {x2 x3 : Option aV} (hT : TbR w f n N) (hp : p < n) (hq : w 176 (p : Int) = (q : Int)) (hqn : q < n) (hL : 0 < L) (h1 : itF f L q = q) (h2 : ∀ j, 0 < j → j < L → itF f j q ≠ q) (hLn : L < 2000000) (hQ : Q (some (vi (L : Int))) w) : T d 160 0 [some (vr 167), some (vi (p : Int)), x2, x3] [] w Q := by
  have hn := hT.2.2.2.2.1
  have hff := hT.2.2.2.2.2
  have hil : ∀ i, itF f i q < n := fun i => itF_lt hff i q hqn
  have kn : ∀ i, itF f (i + 1) q = f (itF f i q) := fun i => itF_s i q
  rw [g160_0, hq, hT.2.2.2.1 q hqn]
  refine ⟨by omega, by omega, ?_⟩
  have key : ∀ (m j : Nat) (a2 a3 : Int), j + m = L → 0 < j → a2 = (j : Int) → a3 = ((itF f j q : Nat) : Int) → T d 160 14 [some (vr 167), some (vi (p : Int)), some (vi a2), some (vi a3)] [] w Q := by
    intro m
    induction m with
    | zero =>
      intro j a2 a3 hj hj0 ha2 ha3
      rw [g160_14, hq, ha3, show j = L by omega, h1]
      refine ⟨by omega, fun _ => ?_, fun h => absurd rfl h⟩
      rw [ha2, show j = L by omega]; exact hQ
    | succ m ih =>
      intro j a2 a3 hj hj0 ha2 ha3
      subst ha3
      have hjl := hil j
      have hne := h2 j hj0 (by omega)
      rw [g160_14, hq, hT.2.2.2.1 _ hjl, ← kn]
      refine ⟨by omega, fun h => absurd h (by omega), fun _ => ⟨by omega, ?_⟩⟩
      exact ih (j + 1) _ _ (by omega) (by omega) (by rw [w32_id (by omega) (by omega)]; omega) rfl
  exact key (L - 1) 1 _ _ (by omega) (by omega) rfl rfl
end RingsS
