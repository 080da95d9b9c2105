/-! The reference's rings. -/
def RgBt (f : Nat → Nat) (ld le : Nat → Int) (p : Nat) : Prop :=
  (onR f p → ld p = 0 ∧ (∃ k, le p = ((itF f k p : Nat) : Int)) ∧ ∀ k, le p ≤ ((itF f k p : Nat) : Int)) ∧ (¬ onR f p → ld p = ld (f p) + 1 ∧ le p = le (f p)) ∧ 0 ≤ ld p
def KB (f : Nat → Nat) (n : Nat) (ld le : Nat → Int) : Prop := ∀ q, q < n → le q ≠ -1 → 0 ≤ le q ∧ le (f q) ≠ -1 ∧ RgBt f ld le q ∧ ld q + (unk le n : Int) ≤ (n : Int)
theorem KB_tail {f : Nat → Nat} {n p : Nat} {ld le : Nat → Int} (h : KB f n ld le) (hf : ∀ p, p < n → f p < n) (hp : p < n) (h1 : le p = -1) (h2 : le (f p) ≠ -1) (hn : ¬ onR f p) : KB f n (fup ld p (ld (f p) + 1)) (fup le p (le (f p))) := by
  have hfp : f p ≠ p := fun e => hn ⟨1, by decide, e⟩
  obtain ⟨a1, a2, a3, a4⟩ := h (f p) (hf p hp) h2
  have hu : unk (fup le p (le (f p))) n + 1 = unk le n := by
    refine cntP_dec (q := p) (by simp [h1]) (by simp [fup_s, h2]) (fun j hj => by rw [fup_n hj]) n hp
  intro q hq hk
  by_cases z : q = p
  · subst z
    rw [fup_s, fup_s, fup_n hfp]
    refine ⟨a1, h2, ⟨fun o => absurd o hn, fun _ => ?_, ?_⟩, by omega⟩
    · rw [fup_s, fup_s, fup_n hfp, fup_n hfp]
      exact ⟨rfl, rfl⟩
    · rw [fup_s]
      have := a3.2.2
      omega
  · rw [fup_n z] at hk
    obtain ⟨b1, b2, b3, b4⟩ := h q hq hk
    have zf : f q ≠ p := fun e => b2 (by rw [e]; exact h1)
    rw [fup_n z, fup_n z, fup_n zf]
    refine ⟨b1, b2, ?_, by omega⟩
    unfold RgBt
    rw [fup_n z, fup_n z, fup_n zf, fup_n zf]
    exact b3
theorem KB_chain {f : Nat → Nat} {n : Nat} {ld le : Nat → Int} (h : KB f n ld le) (hf : ∀ p, p < n → f p < n) : ∀ (s p0 : Nat), p0 < n → (∀ i, i < s → le (itF f i p0) = -1 ∧ ¬ onR f (itF f i p0)) → le (itF f s p0) ≠ -1 →
    ∃ ld' le', KB f n ld' le' ∧ (∀ i, i < s → ld' (itF f i p0) = ld (itF f s p0) + ((s - i : Nat) : Int) ∧ le' (itF f i p0) = le (itF f s p0)) ∧ (∀ q, (∀ i, i < s → q ≠ itF f i p0) → ld' q = ld q ∧ le' q = le q) := by
  intro s
  induction s with
  | zero => intro p0 _ _ _; exact ⟨ld, le, h, fun i hi => by omega, fun _ _ => ⟨rfl, rfl⟩⟩
  | succ s ih =>
    intro p0 hp hc hs
    obtain ⟨ld1, le1, k1, k2, k3⟩ := ih (f p0) (hf p0 hp) (fun i hi => hc (i + 1) (by omega)) hs
    have hno : ∀ i, i < s → p0 ≠ itF f i (f p0) := by
      intro i hi e
      refine (hc 0 (by omega)).2 ⟨i + 1, by omega, ?_⟩
      rw [itF]; exact e.symm
    obtain ⟨e1, e2⟩ := k3 p0 hno
    have hfn : ∀ x : Nat → Int, (le1 (f p0) ≠ -1 ∧ ld1 (f p0) = ld (itF f s (f p0)) + (s : Int) ∧ le1 (f p0) = le (itF f s (f p0))) := by
      intro _
      rcases Nat.eq_zero_or_pos s with z | z
      · subst z
        obtain ⟨g1, g2⟩ := k3 (f p0) (fun i hi => by omega)
        rw [g1, g2]
        exact ⟨hs, by simp [itF], rfl⟩
      · obtain ⟨g1, g2⟩ := k2 0 z
        rw [itF] at g1 g2
        rw [g1, g2]
        exact ⟨hs, by simp, rfl⟩
    obtain ⟨g0, g1, g2⟩ := hfn ld
    have h1 : le1 p0 = -1 := by rw [e2]; exact (hc 0 (by omega)).1
    refine ⟨_, _, KB_tail k1 hf hp h1 g0 (hc 0 (by omega)).2, fun i hi => ?_, fun q hq => ?_⟩
    · rcases Nat.eq_zero_or_pos i with z | z
      · subst z
        show fup ld1 p0 _ p0 = _ ∧ fup le1 p0 _ p0 = _
        rw [fup_s, fup_s, g1, g2]
        refine ⟨?_, rfl⟩
        show ld (itF f s (f p0)) + (s : Int) + 1 = ld (itF f s (f p0)) + ((s + 1 - 0 : Nat) : Int)
        omega
      · obtain ⟨j, rfl⟩ : ∃ j, i = j + 1 := ⟨i - 1, by omega⟩
        have hne : itF f (j + 1) p0 ≠ p0 := by
          rw [itF]; exact fun e => hno j (by omega) e.symm
        rw [fup_n hne, fup_n hne]
        obtain ⟨m1, m2⟩ := k2 j (by omega)
        rw [itF, m1, m2]
        refine ⟨?_, rfl⟩
        show ld (itF f s (f p0)) + ((s - j : Nat) : Int) = ld (itF f s (f p0)) + ((s + 1 - (j + 1) : Nat) : Int)
        omega
    · have z0 : q ≠ p0 := hq 0 (by omega)
      rw [fup_n z0, fup_n z0]
      exact k3 q (fun i hi => by have := hq (i + 1) (by omega); rwa [itF] at this)
theorem KB_ring {f : Nat → Nat} {n p0 t0 s : Nat} {ld le ld' le' : Nat → Int} {lo : Int} (h : KB f n ld le) (hts : t0 < s) (hc : itF f s p0 = itF f t0 p0)
    (hu : ∀ i, i < s → le (itF f i p0) = -1) (l1 : ∃ m, t0 ≤ m ∧ m < s ∧ lo = ((itF f m p0 : Nat) : Int)) (l2 : ∀ m, t0 ≤ m → m < s → lo ≤ ((itF f m p0 : Nat) : Int))
    (hin : ∀ i, t0 ≤ i → i < s → ld' (itF f i p0) = 0 ∧ le' (itF f i p0) = lo) (hout : ∀ q, (∀ i, t0 ≤ i → i < s → q ≠ itF f i p0) → ld' q = ld q ∧ le' q = le q) : KB f n ld' le' := by
  have hlo : 0 ≤ lo := by obtain ⟨m, -, -, e⟩ := l1; omega
  have hcn : unk le' n ≤ unk le n := by
    refine cntP_sub (fun j hj => ?_) n
    simp only [decide_eq_true_eq] at hj ⊢
    by_cases z : ∃ i, t0 ≤ i ∧ i < s ∧ j = itF f i p0
    · obtain ⟨i, i1, i2, rfl⟩ := z
      exact hu i i2
    · rw [← (hout j (fun i i1 i2 e => z ⟨i, i1, i2, e⟩)).2]; exact hj
  have hcl : unk le' n ≤ n := cntP_le n
  intro q hq hk
  by_cases z : ∃ i, t0 ≤ i ∧ i < s ∧ q = itF f i p0
  · obtain ⟨i, i1, i2, rfl⟩ := z
    obtain ⟨e1, e3⟩ := hin i i1 i2
    have ho : itF f (s - t0) (itF f i p0) = itF f i p0 := by rw [← itF_add, Nat.add_comm]; exact ring_pl hts hc i1
    refine ⟨by rw [e3]; exact hlo, ?_, ⟨fun _ => ⟨e1, ?_, fun k => ?_⟩, fun hno => absurd ⟨s - t0, by omega, ho⟩ hno, by rw [e1]; decide⟩, by rw [e1]; omega⟩
    · obtain ⟨m, m1, m2, m3⟩ := ring_in hts hc (i + 1) (by omega)
      rw [← itF_s (f := f) i p0, m3, (hin m m1 m2).2]
      omega
    · obtain ⟨m, m1, m2, m3⟩ := l1
      rw [e3, m3]
      by_cases z2 : i ≤ m
      · exact ⟨m - i, by rw [← itF_add, show m - i + i = m by omega]⟩
      · refine ⟨m + (s - t0) - i, ?_⟩
        rw [← itF_add, show m + (s - t0) - i + i = m + (s - t0) by omega, ring_pl hts hc m1]
    · rw [e3, ← itF_add]
      obtain ⟨m, m1, m2, m3⟩ := ring_in hts hc (k + i) (by omega)
      rw [m3]
      exact l2 m m1 m2
  · have z' : ∀ i, t0 ≤ i → i < s → q ≠ itF f i p0 := fun i i1 i2 e => z ⟨i, i1, i2, e⟩
    obtain ⟨e1, e3⟩ := hout q z'
    rw [e3] at hk
    obtain ⟨b1, b2, b3, b4⟩ := h q hq hk
    have zf : ∀ i, t0 ≤ i → i < s → f q ≠ itF f i p0 := fun i i1 i2 e => b2 (by rw [e]; exact hu i i2)
    obtain ⟨g1, g3⟩ := hout (f q) zf
    refine ⟨by rw [e3]; exact b1, by rw [g3]; exact b2, ?_, by rw [e1]; omega⟩
    unfold RgBt
    rw [e1, e3, g1, g3]
    exact b3
theorem KB_on {f : Nat → Nat} {n : Nat} {ld le : Nat → Int} (h : KB f n ld le) (hf : ∀ p, p < n → f p < n) : ∀ k q, q < n → le q ≠ -1 → le (itF f k q) ≠ -1 := by
  intro k
  induction k with
  | zero => intro q _ h1; exact h1
  | succ k ih => intro q hq h1; exact ih (f q) (hf q hq) (h q hq h1).2.1
section RingsR
variable {d D : Nat} {w : aW} {Q : Option aV → aW → Prop}
/-- the reference's row of what follows, of n poses -/
def TbR (w : aW) (f : Nat → Nat) (n N : Nat) : Prop := w 168 2 = (N : Int) ∧ N ≤ 10 ∧ n = 2 ^ N ∧ (∀ p : Nat, p < n → w 174 (p : Int) = ((f p : Nat) : Int)) ∧ n ≤ 1024 ∧ (∀ p, p < n → f p < n)
theorem TbR.of {w' : aW} {f : Nat → Nat} {n N : Nat} (h : TbR w f n N) (e : ∀ c i, c = 168 ∨ c = 174 → w' c i = w c i) : TbR w' f n N := ⟨by rw [e 168 2 (Or.inl rfl)]; exact h.1, h.2.1, h.2.2.1, fun p hp => by rw [e 174 _ (Or.inr rfl)]; exact h.2.2.2.1 p hp, h.2.2.2.2⟩
theorem k_poR {f : Nat → Nat} {n N : Nat} (h : TbR w f n N) : T d 164 0 [some (vr 167)] [] w Q = Q (some (vi (n : Int))) w := by rw [k_poses h.1 h.2.1, ← h.2.2.1]
/-- what holds ahead of the k-th walk -/
def P1 (w : aW) (f : Nat → Nat) (n k : Nat) : Prop :=
  KB f n (fl w 175) (fl w 176) ∧ (∀ q, q < n → fl w 176 q ≠ -1 → onR f q ∧ fl w 177 q ≠ -1) ∧ (∀ q, q < n → fl w 177 q ≠ -1 → fl w 177 (f q) ≠ -1 ∧ ∃ j, fl w 176 (itF f j q) ≠ -1)
  ∧ (∀ q, q < k → fl w 177 q ≠ -1) ∧ (∀ q, q < n → fl w 177 q ≠ -1 → 0 ≤ fl w 177 q ∧ fl w 177 q < (k : Int))
/-- one walk of the first sort, from k -/
theorem k_walk1 {f : Nat → Nat} {n N k : Nat} {x3 x4 x5 : Option aV} (hT : TbR w f n N) (hP : P1 w f n k) (hk : k < n)
    (hQ : ∀ (w' : aW) (y2 y3 y4 : Option aV), (∀ c i, ¬ (175 ≤ c ∧ c ≤ 177) → w' c i = w c i) → P1 w' f n (k + 1) → T d 159 171 [some (vr 167), some (vi (k : Int)), y2, y3, y4, x5] [] w' Q) :
    T d 159 46 [some (vr 167), some (vi (k : Int)), some (vi (k : Int)), x3, x4, x5] [] w Q := by
  obtain ⟨hB, hR, hS, hC, hD⟩ := hP
  have hn := hT.2.2.2.2.1
  have hff := hT.2.2.2.2.2
  have hil : ∀ i, itF f i k < n := fun i => itF_lt hff i k hk
  have kn : ∀ i, itF f (i + 1) k = f (itF f i k) := fun i => itF_s i k
  have exit : ∀ (s : Nat) (w1 : aW), (∀ c i, c ≠ 177 → w1 c i = w c i) → (∀ i, i < s → fl w1 177 (itF f i k) = (k : Int) ∧ fl w 177 (itF f i k) = -1) → (∀ q, (∀ i, i < s → q ≠ itF f i k) → fl w1 177 q = fl w 177 q) → fl w1 177 (itF f s k) ≠ -1 → (∀ i j, i < s → j < s → itF f i k = itF f j k → i = j) →
      T d 159 46 [some (vr 167), some (vi (k : Int)), some (vi ((itF f s k : Nat) : Int)), x3, x4, x5] [] w1 Q := by
    intro s w1 hw hv ho hx hd
    have hsl := hil s
    have f175 : fl w1 175 = fl w 175 := funext fun q => hw 175 _ (by decide)
    have f176 : fl w1 176 = fl w 176 := funext fun q => hw 176 _ (by decide)
    have hnk : ∀ i, i < s → fl w 176 (itF f i k) = -1 := by
      intro i hi
      refine Classical.byContradiction fun z => ?_
      exact (hR _ (hil i) z).2 (hv i hi).2
    have seen' : ∀ q, q < n → fl w1 177 q ≠ -1 → (∃ i, i < s ∧ q = itF f i k) ∨ fl w 177 q ≠ -1 := by
      intro q hq h
      by_cases z : ∃ i, i < s ∧ q = itF f i k
      · exact Or.inl z
      · right
        rw [← ho q (fun i i1 e => z ⟨i, i1, e⟩)]; exact h
    have old' : ∀ q, fl w 177 q ≠ -1 → fl w1 177 q ≠ -1 := by
      intro q h
      by_cases z : ∃ i, i < s ∧ q = itF f i k
      · obtain ⟨i, i1, rfl⟩ := z
        exact absurd (hv i i1).2 h
      · rw [ho q (fun i i1 e => z ⟨i, i1, e⟩)]; exact h
    have newI : ∀ i, i ≤ s → fl w1 177 (itF f i k) ≠ -1 := by
      intro i hi
      rcases Nat.lt_or_ge i s with z | z
      · rw [(hv i z).1]; omega
      · rw [show i = s by omega]; exact hx
    have fin : ∀ w' : aW, (∀ c i, ¬ (175 ≤ c ∧ c ≤ 176) → w' c i = w1 c i) → KB f n (fl w' 175) (fl w' 176) → (∀ q, q < n → fl w' 176 q ≠ -1 → onR f q ∧ fl w1 177 q ≠ -1) → (∀ q, fl w 176 q ≠ -1 → fl w' 176 q ≠ -1) → (∃ j, fl w' 176 (itF f j (itF f s k)) ≠ -1) → P1 w' f n (k + 1) := by
      intro w' hw' hB' hR' hold hex
      have f177 : fl w' 177 = fl w1 177 := funext fun q => hw' 177 _ (by omega)
      refine ⟨hB', fun q hq h => by rw [f177]; exact hR' q hq h, fun q hq h => ?_, fun q hq => ?_, fun q hq h => ?_⟩
      · rw [f177] at h ⊢
        rcases seen' q hq h with ⟨i, i1, rfl⟩ | z
        · refine ⟨by rw [← kn]; exact newI (i + 1) (by omega), ?_⟩
          obtain ⟨j, hj⟩ := hex
          refine ⟨j + (s - i), ?_⟩
          rw [← itF_add, show j + (s - i) + i = j + s by omega, itF_add]; exact hj
        · obtain ⟨z1, j, z2⟩ := hS q hq z
          exact ⟨old' _ z1, j, hold _ z2⟩
      · rw [f177]
        by_cases z : q = k
        · subst z
          exact newI 0 (by omega)
        · exact old' q (hC q (by omega))
      · rw [f177] at h ⊢
        rcases seen' q hq h with ⟨i, i1, rfl⟩ | z
        · rw [(hv i i1).1]; omega
        · by_cases y : ∃ i, i < s ∧ q = itF f i k
          · obtain ⟨i, i1, rfl⟩ := y
            rw [(hv i i1).1]; omega
          · rw [ho q (fun i i1 e => y ⟨i, i1, e⟩)]
            have := hD q hq z
            omega
    have e177 : w1 177 ((itF f s k : Nat) : Int) = fl w1 177 (itF f s k) := rfl
    have e176 : w1 176 ((itF f s k : Nat) : Int) = fl w 176 (itF f s k) := by rw [← f176]; rfl
    rw [g159_46, e177, e176]
    refine ⟨by omega, fun _ => ⟨by omega, fun h1 => ?_, fun h1 => ⟨by omega, fun h2 => ⟨by omega, ?_⟩, fun h2 => ?_⟩⟩, fun h => absurd hx h⟩
    · have hns : fl w 177 (itF f s k) ≠ -1 := by
        rcases seen' _ hsl hx with ⟨i, i1, e⟩ | z
        · rw [e] at h1
          exact absurd (hv i i1).1 h1
        · exact z
      obtain ⟨-, j, hj⟩ := hS _ hsl hns
      exact hQ w1 _ _ _ (fun c i q => hw c i (by omega)) (fin w1 (fun _ _ _ => rfl) (by rw [f175, f176]; exact hB) (fun q hq h => by rw [f176] at h; exact ⟨(hR q hq h).1, old' q (hR q hq h).2⟩) (fun q h => by rw [f176]; exact h) ⟨j, by rw [f176]; exact hj⟩)
    · obtain ⟨t0, t1, t2⟩ : ∃ i, i < s ∧ itF f s k = itF f i k := by
        refine Classical.byContradiction fun z => ?_
        have e := ho (itF f s k) (fun i i1 e => z ⟨i, i1, e⟩)
        have := hD _ hsl (by rw [← e]; exact hx)
        omega
      have e174 : w1 174 ((itF f s k : Nat) : Int) = ((itF f (t0 + 1) k : Nat) : Int) := by rw [hw 174 _ (by decide), hT.2.2.2.1 _ hsl, t2, kn]
      rw [e174, t2]
      have r174 : ∀ (w2 : aW) (j : Nat), (∀ c i, ¬ (175 ≤ c ∧ c ≤ 176) → w2 c i = w1 c i) → w2 174 ((itF f j k : Nat) : Int) = ((itF f (j + 1) k : Nat) : Int) := by
        intro w2 j h
        rw [h 174 _ (by omega), hw 174 _ (by decide), hT.2.2.2.1 _ (hil j), kn]
      have at0 : ∀ j, t0 < j → j < s → itF f j k ≠ itF f t0 k := fun j j1 j2 e => by have := hd j t0 j2 t1 e; omega
      have key2 : ∀ (lo : Int), (∃ m, t0 ≤ m ∧ m < s ∧ lo = ((itF f m k : Nat) : Int)) → (∀ m, t0 ≤ m → m < s → lo ≤ ((itF f m k : Nat) : Int)) → ∀ (m j : Nat) (w2 : aW), j + m = s → t0 ≤ j → j < s → (∀ c i, ¬ (175 ≤ c ∧ c ≤ 176) → w2 c i = w1 c i) → (∀ i, t0 ≤ i → i < j → fl w2 175 (itF f i k) = 0 ∧ fl w2 176 (itF f i k) = lo) → (∀ q, (∀ i, t0 ≤ i → i < j → q ≠ itF f i k) → fl w2 175 q = fl w 175 q ∧ fl w2 176 q = fl w 176 q) →
          T d 159 140 [some (vr 167), some (vi (k : Int)), some (vi ((itF f t0 k : Nat) : Int)), some (vi lo), some (vi ((itF f j k : Nat) : Int)), x5] [] w2 Q := by
        intro lo l1 l2 m
        induction m with
        | zero => intro j w2 hj hj0 hj1; omega
        | succ m ih =>
          intro j w2 hj hj0 hj1 hw2 hin hout
          have hjl := hil j
          have hjl1 := hil (j + 1)
          have er : iup (iup w2 176 ((itF f j k : Nat) : Int) lo) 175 ((itF f j k : Nat) : Int) 0 174 ((itF f j k : Nat) : Int) = ((itF f (j + 1) k : Nat) : Int) := by rw [iup_c (by decide), iup_c (by decide)]; exact r174 w2 j hw2
          have g5 : fl (iup (iup w2 176 ((itF f j k : Nat) : Int) lo) 175 ((itF f j k : Nat) : Int) 0) 175 = fup (fl w2 175) (itF f j k) 0 := by rw [fl_iup, fl_o (by decide)]
          have g6 : fl (iup (iup w2 176 ((itF f j k : Nat) : Int) lo) 175 ((itF f j k : Nat) : Int) 0) 176 = fup (fl w2 176) (itF f j k) lo := by rw [fl_o (by decide), fl_iup]
          have hw3 : ∀ c i, ¬ (175 ≤ c ∧ c ≤ 176) → iup (iup w2 176 ((itF f j k : Nat) : Int) lo) 175 ((itF f j k : Nat) : Int) 0 c i = w1 c i := fun c i q => by rw [iup_c (by omega), iup_c (by omega)]; exact hw2 c i q
          have hin3 : ∀ i, t0 ≤ i → i < j + 1 → fl (iup (iup w2 176 ((itF f j k : Nat) : Int) lo) 175 ((itF f j k : Nat) : Int) 0) 175 (itF f i k) = 0 ∧ fl (iup (iup w2 176 ((itF f j k : Nat) : Int) lo) 175 ((itF f j k : Nat) : Int) 0) 176 (itF f i k) = lo := by
            intro i i1 i2
            rw [g5, g6]
            by_cases z : itF f i k = itF f j k
            · rw [z, fup_s, fup_s]; exact ⟨rfl, rfl⟩
            · rw [fup_n z, fup_n z]
              have : i ≠ j := fun e => z (by rw [e])
              exact hin i i1 (by omega)
          have hout3 : ∀ q, (∀ i, t0 ≤ i → i < j + 1 → q ≠ itF f i k) → fl (iup (iup w2 176 ((itF f j k : Nat) : Int) lo) 175 ((itF f j k : Nat) : Int) 0) 175 q = fl w 175 q ∧ fl (iup (iup w2 176 ((itF f j k : Nat) : Int) lo) 175 ((itF f j k : Nat) : Int) 0) 176 q = fl w 176 q := by
            intro q hq
            have z := hq j hj0 (by omega)
            rw [g5, g6, fup_n z, fup_n z]
            exact hout q (fun i i1 i2 => hq i i1 (by omega))
          rw [g159_140, er]
          generalize iup (iup w2 176 ((itF f j k : Nat) : Int) lo) 175 ((itF f j k : Nat) : Int) 0 = w3 at *
          refine ⟨by omega, by omega, by omega, fun h => ?_, fun h => ?_⟩
          · have hj2 : j + 1 < s := by
              refine Classical.byContradiction fun z => h ?_
              rw [show j + 1 = s by omega, t2]
            exact ih (j + 1) w3 (by omega) (by omega) hj2 hw3 hin3 hout3
          · have hj2 : j + 1 = s := by
              refine Classical.byContradiction fun z => ?_
              exact at0 (j + 1) (by omega) (by omega) (by omega)
            have hB3 : KB f n (fl w3 175) (fl w3 176) := KB_ring hB t1 t2 hnk l1 l2 (fun i i1 i2 => hin3 i i1 (by omega)) (fun q hq => hout3 q (fun i i1 i2 => hq i i1 (by omega)))
            have hlo : 0 ≤ lo := by obtain ⟨m, -, -, e⟩ := l1; omega
            refine hQ w3 _ _ _ (fun c i q => by rw [hw3 c i (by omega)]; exact hw c i (by omega)) (fin w3 hw3 hB3 (fun q hq h => ?_) (fun q h => ?_) ⟨0, ?_⟩)
            · by_cases z : ∃ i, t0 ≤ i ∧ i < s ∧ q = itF f i k
              · obtain ⟨i, i1, i2, rfl⟩ := z
                exact ⟨⟨s - t0, by omega, by rw [← itF_add, Nat.add_comm]; exact ring_pl t1 t2 i1⟩, newI i (by omega)⟩
              · rw [(hout3 q (fun i i1 i2 e => z ⟨i, i1, by omega, e⟩)).2] at h
                exact ⟨(hR q hq h).1, old' q (hR q hq h).2⟩
            · by_cases z : ∃ i, t0 ≤ i ∧ i < s ∧ q = itF f i k
              · obtain ⟨i, i1, i2, rfl⟩ := z
                rw [(hin3 i i1 (by omega)).2]; omega
              · rw [(hout3 q (fun i i1 i2 e => z ⟨i, i1, by omega, e⟩)).2]; exact h
            · show fl w3 176 (itF f s k) ≠ -1
              rw [t2, (hin3 t0 (Nat.le_refl _) (by omega)).2]; omega
      have key1 : ∀ (m j : Nat) (a3 : Int), j + m = s → t0 < j → j ≤ s → (∃ m, t0 ≤ m ∧ m < s ∧ a3 = ((itF f m k : Nat) : Int)) → (∀ m, t0 ≤ m → m < j → a3 ≤ ((itF f m k : Nat) : Int)) → T d 159 106 [some (vr 167), some (vi (k : Int)), some (vi ((itF f t0 k : Nat) : Int)), some (vi a3), some (vi ((itF f j k : Nat) : Int)), x5] [] w1 Q := by
        intro m
        induction m with
        | zero =>
          intro j a3 hj hj0 hj1 l1 l2
          rw [g159_106, show j = s by omega, t2]
          refine ⟨fun _ => ?_, fun h => absurd rfl h⟩
          exact key2 a3 l1 (fun m m1 m2 => l2 m m1 (by omega)) (s - t0) t0 w1 (by omega) (Nat.le_refl _) t1 (fun _ _ _ => rfl) (fun i i1 i2 => by omega) (fun q _ => by rw [f175, f176]; exact ⟨rfl, rfl⟩)
        | succ m ih =>
          intro j a3 hj hj0 hj1 l1 l2
          have hjl := hil j
          rw [g159_106]
          refine ⟨fun h => absurd h (fun e => at0 j hj0 (by omega) (by omega)), fun _ => ⟨fun h => ?_, fun h => ?_⟩⟩
          · rw [g159_124, r174 w1 j (fun _ _ _ => rfl)]
            refine ⟨by omega, ih (j + 1) _ (by omega) (by omega) (by omega) l1 (fun m m1 m2 => ?_)⟩
            by_cases z : m = j
            · subst z; exact h
            · exact l2 m m1 (by omega)
          · rw [g159_124, r174 w1 j (fun _ _ _ => rfl)]
            refine ⟨by omega, ih (j + 1) _ (by omega) (by omega) (by omega) ⟨j, by omega, by omega, rfl⟩ (fun m m1 m2 => ?_)⟩
            by_cases z : m = j
            · subst z; exact Int.le_refl _
            · have := l2 m m1 (by omega)
              omega
      exact key1 (s - (t0 + 1)) (t0 + 1) _ (by omega) (by omega) (by omega) ⟨t0, Nat.le_refl _, t1, rfl⟩ (fun m m1 m2 => by rw [show m = t0 by omega]; exact Int.le_refl _)
    · exfalso
      apply h2
      rcases seen' _ hsl hx with ⟨i, i1, e⟩ | z
      · rw [e]; exact hnk i i1
      · refine Classical.byContradiction fun y => ?_
        by_cases q : ∃ i, i < s ∧ itF f s k = itF f i k
        · obtain ⟨i, i1, e⟩ := q
          rw [e] at z
          exact z (hv i i1).2
        · have e := ho (itF f s k) (fun i i1 e => q ⟨i, i1, e⟩)
          have := hD _ hsl z
          omega
  have key : ∀ (m s : Nat) (w1 : aW), cntP (fun q => decide (fl w1 177 q = -1)) n = m → (∀ c i, c ≠ 177 → w1 c i = w c i) → (∀ i, i < s → fl w1 177 (itF f i k) = (k : Int) ∧ fl w 177 (itF f i k) = -1) → (∀ q, (∀ i, i < s → q ≠ itF f i k) → fl w1 177 q = fl w 177 q) → (∀ i j, i < s → j < s → itF f i k = itF f j k → i = j) →
      T d 159 46 [some (vr 167), some (vi (k : Int)), some (vi ((itF f s k : Nat) : Int)), x3, x4, x5] [] w1 Q := by
    intro m
    induction m with
    | zero =>
      intro s w1 hm hw hv ho hd
      refine exit s w1 hw hv ho (fun h => ?_) hd
      have := cntP_pos (P := fun q => decide (fl w1 177 q = -1)) (hil s) (by simp [h])
      omega
    | succ m ih =>
      intro s w1 hm hw hv ho hd
      by_cases hx : fl w1 177 (itF f s k) = -1
      · have hsl := hil s
        have e177 : w1 177 ((itF f s k : Nat) : Int) = -1 := hx
        have er : iup w1 177 ((itF f s k : Nat) : Int) (k : Int) 174 ((itF f s k : Nat) : Int) = ((itF f (s + 1) k : Nat) : Int) := by rw [iup_c (by decide), hw 174 _ (by decide), hT.2.2.2.1 _ hsl, kn]
        have g7 : fl (iup w1 177 ((itF f s k : Nat) : Int) (k : Int)) 177 = fup (fl w1 177) (itF f s k) (k : Int) := fl_iup
        have hne : ∀ i, i < s → itF f i k ≠ itF f s k := by
          intro i hi e
          have := (hv i hi).1
          rw [e, hx] at this
          omega
        rw [g159_46, e177, er]
        refine ⟨by omega, fun h => absurd rfl h, fun _ => ⟨by omega, by omega, ?_⟩⟩
        refine ih (s + 1) _ ?_ (fun c i q => by rw [iup_c q]; exact hw c i q) (fun i hi => ?_) (fun q hq => ?_) (fun i j hi hj e => ?_)
        · have := cntP_dec (P := fun q => decide (fl w1 177 q = -1)) (P' := fun q => decide (fl (iup w1 177 ((itF f s k : Nat) : Int) (k : Int)) 177 q = -1)) (q := itF f s k) (by simp [hx]) (by rw [g7, fup_s]; simp) (fun j hj => by rw [g7, fup_n hj]) n hsl
          omega
        · rw [g7]
          by_cases z : i = s
          · subst z
            rw [fup_s]
            refine ⟨rfl, ?_⟩
            rw [← ho (itF f i k) (fun j hj e => hne j hj e.symm)]; exact hx
          · rw [fup_n (hne i (by omega))]; exact hv i (by omega)
        · rw [g7, fup_n (hq s (by omega))]
          exact ho q (fun i hi => hq i (by omega))
        · by_cases z1 : i = s <;> by_cases z2 : j = s
          · omega
          · subst z1; exact absurd e.symm (hne j (by omega))
          · subst z2; exact absurd e (hne i (by omega))
          · exact hd i j (by omega) (by omega) e
      · exact exit s w1 hw hv ho hx hd
  exact key _ 0 w rfl (fun _ _ _ => rfl) (fun i hi => by omega) (fun _ _ => rfl) (fun i j hi => by omega)
end RingsR
