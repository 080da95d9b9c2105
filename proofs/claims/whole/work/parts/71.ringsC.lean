/-! The class's rings. -/
section RingsC
variable {d D : Nat} {w : aW} {Q : Option aV → aW → Prop}
def fl (w : aW) (c : Nat) : Nat → Int := fun q => w c (q : Int)
theorem fl_iup {c q : Nat} {x : Int} : fl (iup w c (q : Int) x) c = fup (fl w c) q x := by
  funext j
  unfold fl fup
  by_cases h : j = q
  · subst h; rw [iup_s, if_pos rfl]
  · rw [iup_i (by omega), if_neg h]
theorem fl_o {c k : Nat} {i x : Int} (h : c ≠ k) : fl (iup w k i x) c = fl w c := by
  funext j
  unfold fl
  rw [iup_c h]
/-- the row of what follows, of n poses -/
def TbC (w : aW) (f : Nat → Nat) (n : Nat) : Prop := w 19 0 = (n : Int) ∧ (∀ p : Nat, p < n → w 20 (p : Int) = ((f p : Nat) : Int)) ∧ n ≤ 1024 ∧ (∀ p, p < n → f p < n)
theorem TbC.of {w' : aW} {f : Nat → Nat} {n : Nat} (h : TbC w f n) (e : ∀ c i, c = 19 ∨ c = 20 → w' c i = w c i) : TbC w' f n := ⟨by rw [e 19 0 (Or.inl rfl)]; exact h.1, fun p hp => by rw [e 20 _ (Or.inr rfl)]; exact h.2.1 p hp, h.2.2⟩
/-- closeRing(begin, end) -/
theorem k_close {f : Nat → Nat} {n p0 t0 s : Nat} {x3 x4 x5 : Option aV} (hts : t0 < s) (hs : s ≤ n) (hn : n ≤ 1024) (hP : ∀ i : Nat, i < s → w 24 (i : Int) = ((itF f i p0 : Nat) : Int) ∧ itF f i p0 < n)
    (hQ : ∀ w' (lo : Int), (∀ c i, ¬ (21 ≤ c ∧ c ≤ 23) → w' c i = w c i) → (∃ m, t0 ≤ m ∧ m < s ∧ lo = ((itF f m p0 : Nat) : Int)) → (∀ m, t0 ≤ m → m < s → lo ≤ ((itF f m p0 : Nat) : Int))
      → (∀ i, t0 ≤ i → i < s → fl w' 21 (itF f i p0) = 0 ∧ fl w' 22 (itF f i p0) = ((s - t0 : Nat) : Int) ∧ fl w' 23 (itF f i p0) = lo) → (∀ q, (∀ i, t0 ≤ i → i < s → q ≠ itF f i p0) → fl w' 21 q = fl w 21 q ∧ fl w' 22 q = fl w 22 q ∧ fl w' 23 q = fl w 23 q) → Q none w') :
    T d 303 0 [some (vr 19), some (vi (t0 : Int)), some (vi (s : Int)), x3, x4, x5] [] w Q := by
  rw [g303_0]
  refine ⟨by omega, ?_⟩
  have key2 : ∀ (lo : Int), (∃ m, t0 ≤ m ∧ m < s ∧ lo = ((itF f m p0 : Nat) : Int)) → (∀ m, t0 ≤ m → m < s → lo ≤ ((itF f m p0 : Nat) : Int)) → ∀ (m j : Nat) (w1 : aW) (a4 : Int) (y5 : Option aV), j + m = s → t0 ≤ j → a4 = (j : Int) → (∀ c i, ¬ (21 ≤ c ∧ c ≤ 23) → w1 c i = w c i)
      → (∀ i, t0 ≤ i → i < j → fl w1 21 (itF f i p0) = 0 ∧ fl w1 22 (itF f i p0) = ((s - t0 : Nat) : Int) ∧ fl w1 23 (itF f i p0) = lo) → (∀ q, (∀ i, t0 ≤ i → i < j → q ≠ itF f i p0) → fl w1 21 q = fl w 21 q ∧ fl w1 22 q = fl w 22 q ∧ fl w1 23 q = fl w 23 q) →
      T d 303 37 [some (vr 19), some (vi (t0 : Int)), some (vi (s : Int)), some (vi lo), some (vi a4), y5] [] w1 Q := by
    intro lo l1 l2 m
    induction m with
    | zero =>
      intro j w1 a4 y5 hj hj0 ha hw hin hout
      rw [g303_37]
      exact ⟨fun _ => hQ w1 lo hw l1 l2 (fun i i1 i2 => hin i i1 (by omega)) (fun q hq => hout q (fun i i1 i2 => hq i i1 (by omega))), fun h => absurd (by omega) h⟩
    | succ m ih =>
      intro j w1 a4 y5 hj hj0 ha hw hin hout
      subst ha
      obtain ⟨p1, p2⟩ := hP j (by omega)
      have e24 : w1 24 (j : Int) = ((itF f j p0 : Nat) : Int) := by rw [hw 24 _ (by omega)]; exact p1
      rw [g303_37, e24, show w32 ((s : Int) - (t0 : Int)) = ((s - t0 : Nat) : Int) by rw [w32_id (by omega) (by omega)]; omega]
      refine ⟨fun h => absurd h (by omega), fun _ => ⟨by omega, by omega, by omega, by omega, ?_⟩⟩
      have e21 : fl (iup (iup (iup w1 21 ((itF f j p0 : Nat) : Int) 0) 22 ((itF f j p0 : Nat) : Int) ((s - t0 : Nat) : Int)) 23 ((itF f j p0 : Nat) : Int) lo) 21 = fup (fl w1 21) (itF f j p0) 0 := by rw [fl_o (by decide), fl_o (by decide), fl_iup]
      have e22 : fl (iup (iup (iup w1 21 ((itF f j p0 : Nat) : Int) 0) 22 ((itF f j p0 : Nat) : Int) ((s - t0 : Nat) : Int)) 23 ((itF f j p0 : Nat) : Int) lo) 22 = fup (fl w1 22) (itF f j p0) ((s - t0 : Nat) : Int) := by rw [fl_o (by decide), fl_iup, fl_o (by decide)]
      have e23 : fl (iup (iup (iup w1 21 ((itF f j p0 : Nat) : Int) 0) 22 ((itF f j p0 : Nat) : Int) ((s - t0 : Nat) : Int)) 23 ((itF f j p0 : Nat) : Int) lo) 23 = fup (fl w1 23) (itF f j p0) lo := by rw [fl_iup, fl_o (by decide), fl_o (by decide)]
      refine ih (j + 1) _ _ _ (by omega) (by omega) (by rw [w32_id (by omega) (by omega)]; omega) (fun c i q => by rw [iup_c (by omega), iup_c (by omega), iup_c (by omega)]; exact hw c i q) (fun i i1 i2 => ?_) (fun q hq => ?_)
      · rw [e21, e22, e23]
        by_cases z : itF f i p0 = itF f j p0
        · rw [z, fup_s, fup_s, fup_s]; exact ⟨rfl, rfl, rfl⟩
        · rw [fup_n z, fup_n z, fup_n z]
          have : i ≠ j := fun e => z (by rw [e])
          exact hin i i1 (by omega)
      · have z := hq j hj0 (by omega)
        rw [e21, e22, e23, fup_n z, fup_n z, fup_n z]
        exact hout q (fun i i1 i2 => hq i i1 (by omega))
  have key1 : ∀ (m j : Nat) (a3 a4 : Int), j + m = s → t0 ≤ j → a4 = (j : Int) → (∃ m, t0 ≤ m ∧ m < s ∧ a3 = ((itF f m p0 : Nat) : Int)) → (∀ m, t0 ≤ m → m < j → a3 ≤ ((itF f m p0 : Nat) : Int)) → T d 303 10 [some (vr 19), some (vi (t0 : Int)), some (vi (s : Int)), some (vi a3), some (vi a4), x5] [] w Q := by
    intro m
    induction m with
    | zero =>
      intro j a3 a4 hj hj0 ha l1 l2
      rw [g303_10]
      refine ⟨fun _ => ?_, fun h => absurd (by omega) h⟩
      exact key2 a3 l1 (fun m m1 m2 => l2 m m1 (by omega)) (s - t0) t0 w _ _ (by omega) (Nat.le_refl _) rfl (fun _ _ _ => rfl) (fun i i1 i2 => by omega) (fun _ _ => ⟨rfl, rfl, rfl⟩)
    | succ m ih =>
      intro j a3 a4 hj hj0 ha l1 l2
      subst ha
      rw [g303_10, (hP j (by omega)).1]
      refine ⟨fun h => absurd h (by omega), fun _ => ⟨by omega, ?_⟩⟩
      refine ih (j + 1) _ _ (by omega) (by omega) (by rw [w32_id (by omega) (by omega)]; omega) ?_ (fun m m1 m2 => ?_)
      · split
        · exact ⟨j, hj0, by omega, rfl⟩
        · exact l1
      · by_cases z : m = j
        · subst z; split <;> omega
        · have := l2 m m1 (by omega)
          split <;> omega
  exact key1 (s - t0) t0 _ _ (by omega) (Nat.le_refl _) rfl ⟨t0, Nat.le_refl _, hts, (hP t0 hts).1⟩ (fun m m1 m2 => by omega)
/-- what is told in the class's rows, and what is marked there -/
def KnC (w : aW) (f : Nat → Nat) (n : Nat) : Prop := KA f n (fl w 21) (fl w 22) (fl w 23) ∧ ∀ q : Nat, q < n → w 25 (q : Int) ≠ -1 → fl w 23 q ≠ -1
/-- the way back: tails -/
theorem k_tail {f : Nat → Nat} {n p0 t : Nat} {x1 x2 x3 x4 x6 x7 : Option aV} (hT : TbC w f n) (ht : t ≤ n) (hA : KA f n (fl w 21) (fl w 22) (fl w 23)) (hP : ∀ i : Nat, i < t → w 24 (i : Int) = ((itF f i p0 : Nat) : Int)) (hl : ∀ i : Nat, i ≤ t → itF f i p0 < n) (hd : ∀ i j, i < t → j < t → itF f i p0 = itF f j p0 → i = j)
    (hu : ∀ i, i < t → fl w 23 (itF f i p0) = -1) (hk : fl w 23 (itF f t p0) ≠ -1) (hno : ∀ i, i < t → ¬ onR f (itF f i p0))
    (hQ : ∀ w', (∀ c i, ¬ (21 ≤ c ∧ c ≤ 23) → w' c i = w c i) → KA f n (fl w' 21) (fl w' 22) (fl w' 23) → (∀ i, i < t → fl w' 23 (itF f i p0) ≠ -1) → (∀ q, fl w 23 q ≠ -1 → fl w' 23 q ≠ -1) → Q none w') :
    T d 286 87 [some (vr 19), x1, x2, x3, some (vi (t : Int)), x4, x6, x7] [] w Q := by
  rw [g286_87]
  have hn := hT.2.2.1
  have key : ∀ (i : Nat) (w1 : aW) (a5 : Int) (y6 y7 : Option aV), i ≤ t → a5 = (i : Int) - 1 → (∀ c j, ¬ (21 ≤ c ∧ c ≤ 23) → w1 c j = w c j) → KA f n (fl w1 21) (fl w1 22) (fl w1 23) → (∀ j, j < i → fl w1 23 (itF f j p0) = -1) → (∀ j, i ≤ j → j ≤ t → fl w1 23 (itF f j p0) ≠ -1) → (∀ q, fl w 23 q ≠ -1 → fl w1 23 q ≠ -1) →
      T d 286 93 [some (vr 19), x1, x2, x3, some (vi (t : Int)), some (vi a5), y6, y7] [] w1 Q := by
    intro i
    induction i with
    | zero =>
      intro w1 a5 y6 y7 hi ha hw hA1 hu1 hk1 hm
      rw [g286_93]
      exact ⟨fun _ => hQ w1 hw hA1 (fun j hj => hk1 j (by omega) (by omega)) hm, fun h => absurd (by omega) h⟩
    | succ i ih =>
      intro w1 a5 y6 y7 hi ha hw hA1 hu1 hk1 hm
      have ha' : a5 = (i : Int) := by omega
      subst ha'
      have hpl := hl i (by omega)
      have hfl := hT.2.2.2 _ hpl
      have e24 : w1 24 (i : Int) = ((itF f i p0 : Nat) : Int) := by rw [hw 24 _ (by omega)]; exact hP i (by omega)
      have e20 : w1 20 ((itF f i p0 : Nat) : Int) = ((f (itF f i p0) : Nat) : Int) := by rw [hw 20 _ (by omega)]; exact hT.2.1 _ hpl
      have hnr := hno i (by omega)
      have hne : f (itF f i p0) ≠ itF f i p0 := fun e => hnr ⟨1, by decide, e⟩
      have hkn : fl w1 23 (f (itF f i p0)) ≠ -1 := by rw [← itF_s (f := f) i p0]; exact hk1 (i + 1) (by omega) (by omega)
      have hb := (hA1 _ hfl hkn).2.2.2
      have hb0 := (hA1 _ hfl hkn).2.2.1.2.2
      have ei := hu1 i (by omega)
      rw [g286_93, e24, e20]
      have e21 : w1 21 ((f (itF f i p0) : Nat) : Int) = fl w1 21 (f (itF f i p0)) := rfl
      rw [e21, w32_id (x := fl w1 21 (f (itF f i p0)) + 1) (by omega) (by omega)]
      rw [show iup w1 21 ((itF f i p0 : Nat) : Int) (fl w1 21 (f (itF f i p0)) + 1) 22 ((f (itF f i p0) : Nat) : Int) = fl w1 22 (f (itF f i p0)) from iup_c (by decide)]
      rw [show iup (iup w1 21 ((itF f i p0 : Nat) : Int) (fl w1 21 (f (itF f i p0)) + 1)) 22 ((itF f i p0 : Nat) : Int) (fl w1 22 (f (itF f i p0))) 23 ((f (itF f i p0) : Nat) : Int) = fl w1 23 (f (itF f i p0)) by rw [iup_c (by decide), iup_c (by decide)]; rfl]
      refine ⟨fun h => absurd h (by omega), fun _ => ⟨by omega, by omega, by omega, by omega, by omega, by omega, by omega, by omega, ?_⟩⟩
      have g21 : fl (iup (iup (iup w1 21 ((itF f i p0 : Nat) : Int) (fl w1 21 (f (itF f i p0)) + 1)) 22 ((itF f i p0 : Nat) : Int) (fl w1 22 (f (itF f i p0)))) 23 ((itF f i p0 : Nat) : Int) (fl w1 23 (f (itF f i p0)))) 21 = fup (fl w1 21) (itF f i p0) (fl w1 21 (f (itF f i p0)) + 1) := by rw [fl_o (by decide), fl_o (by decide), fl_iup]
      have g22 : fl (iup (iup (iup w1 21 ((itF f i p0 : Nat) : Int) (fl w1 21 (f (itF f i p0)) + 1)) 22 ((itF f i p0 : Nat) : Int) (fl w1 22 (f (itF f i p0)))) 23 ((itF f i p0 : Nat) : Int) (fl w1 23 (f (itF f i p0)))) 22 = fup (fl w1 22) (itF f i p0) (fl w1 22 (f (itF f i p0))) := by rw [fl_o (by decide), fl_iup, fl_o (by decide)]
      have g23 : fl (iup (iup (iup w1 21 ((itF f i p0 : Nat) : Int) (fl w1 21 (f (itF f i p0)) + 1)) 22 ((itF f i p0 : Nat) : Int) (fl w1 22 (f (itF f i p0)))) 23 ((itF f i p0 : Nat) : Int) (fl w1 23 (f (itF f i p0)))) 23 = fup (fl w1 23) (itF f i p0) (fl w1 23 (f (itF f i p0))) := by rw [fl_iup, fl_o (by decide), fl_o (by decide)]
      refine ih _ _ _ _ (by omega) (by rw [w32_id (by omega) (by omega)]; omega) (fun c j q => by rw [iup_c (by omega), iup_c (by omega), iup_c (by omega)]; exact hw c j q) ?_ (fun j hj => ?_) (fun j hj hj2 => ?_) (fun q hq => ?_)
      · rw [g21, g22, g23]
        exact KA_tail hA1 hT.2.2.2 hpl ei hkn hnr
      · rw [g23, fup_n (fun e => by have := hd j i (by omega) (by omega) e; omega)]
        exact hu1 j (by omega)
      · rw [g23]
        by_cases z : itF f j p0 = itF f i p0
        · rw [z, fup_s]; exact hkn
        · rw [fup_n z]
          have : j ≠ i := fun e => z (by rw [e])
          exact hk1 j (by omega) hj2
      · rw [g23]
        by_cases z : q = itF f i p0
        · rw [z, fup_s]; exact hkn
        · rw [fup_n z]; exact hm q hq
  have e5 : Unit → w32 ((t : Int) - 1) = (t : Int) - 1 := fun _ => w32_id (by omega) (by omega)
  rw [(e5 ())]
  exact key t w _ _ _ (Nat.le_refl _) rfl (fun _ _ _ => rfl) hA hu (fun j h1 h2 => by rw [show j = t by omega]; exact hk) (fun _ h => h)
/-- goAlong(pose) -/
theorem k_goAlong {f : Nat → Nat} {n p0 : Nat} {x2 x3 x4 x5 x6 x7 : Option aV} (hT : TbC w f n) (hK : KnC w f n) (hp0 : p0 < n) (h0 : fl w 23 p0 = -1)
    (hQ : ∀ w', (∀ c i, ¬ (21 ≤ c ∧ c ≤ 25) → w' c i = w c i) → KnC w' f n → fl w' 23 p0 ≠ -1 → (∀ q, fl w 23 q ≠ -1 → fl w' 23 q ≠ -1) → Q none w') :
    T (d + 1) 286 0 [some (vr 19), some (vi (p0 : Int)), x2, x3, x4, x5, x6, x7] [] w Q := by
  obtain ⟨hA, hB⟩ := hK
  have hn := hT.2.2.1
  have hff := hT.2.2.2
  have hil : ∀ i, itF f i p0 < n := fun i => itF_lt hff i p0 hp0
  have kn : ∀ i, itF f (i + 1) p0 = f (itF f i p0) := fun i => itF_s i p0
  have fw : ∀ w1 : aW, (∀ c i, ¬ (24 ≤ c ∧ c ≤ 25) → w1 c i = w c i) → fl w1 21 = fl w 21 ∧ fl w1 22 = fl w 22 ∧ fl w1 23 = fl w 23 := by
    intro w1 hw
    refine ⟨?_, ?_, ?_⟩ <;> (funext q; exact hw _ _ (by omega))
  have exit : ∀ (s : Nat) (w1 : aW), s ≤ n → (∀ c i, ¬ (24 ≤ c ∧ c ≤ 25) → w1 c i = w c i)
      → (∀ i, i < s → w1 24 (i : Int) = ((itF f i p0 : Nat) : Int) ∧ fl w1 25 (itF f i p0) = (i : Int) ∧ fl w 23 (itF f i p0) = -1) → (∀ q, (∀ i, i < s → q ≠ itF f i p0) → fl w1 25 q = fl w 25 q) → (fl w 23 (itF f s p0) ≠ -1 ∨ fl w1 25 (itF f s p0) ≠ -1) →
      T (d + 1) 286 59 [some (vr 19), some (vi (p0 : Int)), some (vi (s : Int)), some (vi ((itF f s p0 : Nat) : Int)), x4, x5, x6, x7] [] w1 Q := by
    intro s w1 hs hw hv ho hx
    obtain ⟨f21, f22, f23⟩ := fw w1 hw
    have hsl := hil s
    have hd : ∀ i j, i < s → j < s → itF f i p0 = itF f j p0 → i = j := by
      intro i j hi hj e
      have e1 := (hv i hi).2.1
      have e2 := (hv j hj).2.1
      rw [e] at e1
      omega
    have hT1 : TbC w1 f n := hT.of (fun c i q => hw c i (by omega))
    have fin : ∀ w' : aW, (∀ c i, ¬ (21 ≤ c ∧ c ≤ 23) → w' c i = w1 c i) → KA f n (fl w' 21) (fl w' 22) (fl w' 23) → (∀ i, i < s → fl w' 23 (itF f i p0) ≠ -1) → (∀ q, fl w 23 q ≠ -1 → fl w' 23 q ≠ -1) → 0 < s → Q none w' := by
      intro w' hw' hA' hin hold hs0
      refine hQ w' (fun c i q => by rw [hw' c i (by omega)]; exact hw c i (by omega)) ⟨hA', fun q hq h25 => ?_⟩ (hin 0 hs0) hold
      rw [hw' 25 _ (by omega)] at h25
      by_cases z : ∃ i, i < s ∧ q = itF f i p0
      · obtain ⟨i, i1, rfl⟩ := z
        exact hin i i1
      · have := ho q (fun i i1 e => z ⟨i, i1, e⟩)
        refine hold q (hB q hq ?_)
        show fl w 25 q ≠ -1
        rw [← this]
        exact h25
    have e23 : w1 23 ((itF f s p0 : Nat) : Int) = fl w 23 (itF f s p0) := by rw [hw 23 _ (by omega)]; rfl
    rw [g286_59, e23]
    refine ⟨by omega, fun h => ?_, fun h => ⟨by omega, ?_⟩⟩
    · have hs0 : 0 < s := by
        rcases Nat.eq_zero_or_pos s with z | z
        · subst z; exact absurd h0 h
        · exact z
      refine k_tail (f := f) (n := n) (p0 := p0) hT1 hs (by rw [f21, f22, f23]; exact hA) (fun i hi => (hv i hi).1) (fun i _ => hil i) hd (fun i hi => by rw [f23]; exact (hv i hi).2.2) (by rw [f23]; exact h) (fun i hi => tail_no2 hA hff hp0 h hi (hv i hi).2.2) (fun w' hw' hA' hin hold => fin w' hw' hA' hin (fun q hq => hold q (by rw [f23]; exact hq)) hs0)
    · have h1 : fl w 23 (itF f s p0) = -1 := by omega
      have h2 : fl w1 25 (itF f s p0) ≠ -1 := by
        rcases hx with q | q
        · exact absurd h1 q
        · exact q
      obtain ⟨t0, t1, t2⟩ : ∃ i, i < s ∧ itF f s p0 = itF f i p0 := by
        refine Classical.byContradiction fun z => ?_
        have e := ho (itF f s p0) (fun i i1 e => z ⟨i, i1, e⟩)
        rw [e] at h2
        exact hB _ hsl h2 h1
      have e25 : w1 25 ((itF f s p0 : Nat) : Int) = (t0 : Int) := by rw [t2]; exact (hv t0 t1).2.1
      rw [e25]
      refine k_close (f := f) (n := n) (p0 := p0) t1 hs hn (fun i hi => ⟨(hv i hi).1, hil i⟩) (fun w2 lo hw2 l1 l2 hin hout => ?_)
      have hlo : 0 ≤ lo := by obtain ⟨m, -, -, e⟩ := l1; omega
      have hA2 : KA f n (fl w2 21) (fl w2 22) (fl w2 23) := by
        refine KA_ring (f := f) (n := n) (ld := fl w1 21) (ln := fl w1 22) (le := fl w1 23) (by rw [f21, f22, f23]; exact hA) t1 t2 hd (fun i hi => by rw [f23]; exact (hv i hi).2.2) l1 l2 hin hout
      have hun : ∀ i, i < t0 → fl w2 23 (itF f i p0) = -1 := by
        intro i hi
        rw [(hout (itF f i p0) (fun j j1 j2 e => by have := hd i j (by omega) j2 e; omega)).2.2, f23]
        exact (hv i (by omega)).2.2
      simp only [tl_none]
      refine k_tail (f := f) (n := n) (p0 := p0) (hT1.of (fun c i q => hw2 c i (by omega))) (by omega) hA2 (fun i hi => by rw [hw2 24 _ (by omega)]; exact (hv i (by omega)).1) (fun i _ => hil i) (fun i j hi hj e => hd i j (by omega) (by omega) e) hun (by rw [(hin t0 (Nat.le_refl _) t1).2.2]; omega) (fun i hi => tail_no t1 t2 hd hi) (fun w' hw' hA' hin' hold => fin w' (fun c i q => by rw [hw' c i q]; exact hw2 c i q) hA' (fun i hi => ?_) (fun q hq => hold q ?_) (by omega))
      · by_cases z : i < t0
        · exact hin' i z
        · refine hold _ ?_
          rw [(hin i (by omega) hi).2.2]; omega
      · by_cases z : ∃ i, t0 ≤ i ∧ i < s ∧ q = itF f i p0
        · obtain ⟨i, i1, i2, rfl⟩ := z
          rw [(hin i i1 i2).2.2]; omega
        · rw [(hout q (fun i i1 i2 e => z ⟨i, i1, i2, e⟩)).2.2, f23]; exact hq
  have one : ∀ (s : Nat) (w1 : aW), s + cntP (fun q => decide (fl w 23 q = -1) && decide (fl w1 25 q = -1)) n ≤ n → (∀ c i, ¬ (24 ≤ c ∧ c ≤ 25) → w1 c i = w c i)
      → (∀ i, i < s → w1 24 (i : Int) = ((itF f i p0 : Nat) : Int) ∧ fl w1 25 (itF f i p0) = (i : Int) ∧ fl w 23 (itF f i p0) = -1) → (∀ q, (∀ i, i < s → q ≠ itF f i p0) → fl w1 25 q = fl w 25 q) →
      (fl w 23 (itF f s p0) = -1 → fl w1 25 (itF f s p0) = -1 → T (d + 1) 286 4 [some (vr 19), some (vi (p0 : Int)), some (vi ((s + 1 : Nat) : Int)), some (vi ((itF f (s + 1) p0 : Nat) : Int)), x4, x5, x6, x7] [] (iup (iup w1 25 ((itF f s p0 : Nat) : Int) (s : Int)) 24 (s : Int) ((itF f s p0 : Nat) : Int)) Q) →
      T (d + 1) 286 4 [some (vr 19), some (vi (p0 : Int)), some (vi (s : Int)), some (vi ((itF f s p0 : Nat) : Int)), x4, x5, x6, x7] [] w1 Q := by
    intro s w1 hm hw hv ho hnx
    have hsl := hil s
    have e23 : w1 23 ((itF f s p0 : Nat) : Int) = fl w 23 (itF f s p0) := by rw [hw 23 _ (by omega)]; rfl
    have e25 : w1 25 ((itF f s p0 : Nat) : Int) = fl w1 25 (itF f s p0) := rfl
    have un : fl w 23 (itF f s p0) = -1 → fl w1 25 (itF f s p0) = -1 → s < n := by
      intro h1 h2
      have := cntP_pos (P := fun q => decide (fl w 23 q = -1) && decide (fl w1 25 q = -1)) hsl (by simp [h1, h2])
      omega
    have ex := exit s w1 (by omega) hw hv ho
    rw [g286_4, hw 19 0 (by omega), hT.1, e23, e25]
    refine ⟨fun h => ex ?_, fun h => ⟨by omega, fun h1 => ex (Or.inl h1), fun h1 => ⟨by omega, fun h2 => ex (Or.inr h2), fun h2 => ⟨by omega, by omega, by omega, ?_⟩⟩⟩⟩
    · refine Classical.byContradiction fun z => ?_
      have h1 : fl w 23 (itF f s p0) = -1 := Classical.byContradiction fun q => z (Or.inl q)
      have h2 : fl w1 25 (itF f s p0) = -1 := Classical.byContradiction fun q => z (Or.inr q)
      have := un h1 h2
      omega
    · have e20 : iup (iup w1 25 ((itF f s p0 : Nat) : Int) (s : Int)) 24 (s : Int) ((itF f s p0 : Nat) : Int) 20 ((itF f s p0 : Nat) : Int) = ((itF f (s + 1) p0 : Nat) : Int) := by
        rw [iup_c (by decide), iup_c (by decide), hw 20 _ (by omega), hT.2.1 _ hsl, kn]
      have ew : Unit → w32 ((s : Int) + 1) = ((s + 1 : Nat) : Int) := fun _ => by rw [w32_id (by omega) (by omega)]; omega
      rw [e20, (ew ())]
      exact hnx (by omega) (by omega)
  rw [g286_0]
  have key : ∀ (m s : Nat) (w1 : aW), cntP (fun q => decide (fl w 23 q = -1) && decide (fl w1 25 q = -1)) n = m → s + m ≤ n → (∀ c i, ¬ (24 ≤ c ∧ c ≤ 25) → w1 c i = w c i)
      → (∀ i, i < s → w1 24 (i : Int) = ((itF f i p0 : Nat) : Int) ∧ fl w1 25 (itF f i p0) = (i : Int) ∧ fl w 23 (itF f i p0) = -1) → (∀ q, (∀ i, i < s → q ≠ itF f i p0) → fl w1 25 q = fl w 25 q) →
      T (d + 1) 286 4 [some (vr 19), some (vi (p0 : Int)), some (vi (s : Int)), some (vi ((itF f s p0 : Nat) : Int)), x4, x5, x6, x7] [] w1 Q := by
    intro m
    induction m with
    | zero =>
      intro s w1 hm hsm hw hv ho
      refine one s w1 (by omega) hw hv ho (fun h1 h2 => ?_)
      have := cntP_pos (P := fun q => decide (fl w 23 q = -1) && decide (fl w1 25 q = -1)) (hil s) (by simp [h1, h2])
      omega
    | succ m ih =>
      intro s w1 hm hsm hw hv ho
      refine one s w1 (by omega) hw hv ho (fun h1 h2 => ?_)
      have g25 : fl (iup (iup w1 25 ((itF f s p0 : Nat) : Int) (s : Int)) 24 (s : Int) ((itF f s p0 : Nat) : Int)) 25 = fup (fl w1 25) (itF f s p0) (s : Int) := by rw [fl_o (by decide), fl_iup]
      have hne : ∀ i, i < s → itF f i p0 ≠ itF f s p0 := by
        intro i hi e
        have := (hv i hi).2.1
        rw [e] at this
        omega
      have hdec : cntP (fun q => decide (fl w 23 q = -1) && decide (fl (iup (iup w1 25 ((itF f s p0 : Nat) : Int) (s : Int)) 24 (s : Int) ((itF f s p0 : Nat) : Int)) 25 q = -1)) n + 1 = cntP (fun q => decide (fl w 23 q = -1) && decide (fl w1 25 q = -1)) n := by
        rw [g25]
        refine cntP_dec (q := itF f s p0) (by simp [h1, h2]) ?_ (fun j hj => by rw [fup_n hj]) n (hil s)
        rw [fup_s, decide_eq_false (show ¬ (s : Int) = -1 by omega), Bool.and_false]
      refine ih (s + 1) _ (by omega) (by omega) (fun c i q => by rw [iup_c (by omega), iup_c (by omega)]; exact hw c i q) (fun i hi => ?_) (fun q hq => ?_)
      · rw [g25]
        by_cases z : i = s
        · subst z
          rw [iup_s, fup_s]
          exact ⟨rfl, rfl, h1⟩
        · have hi' : i < s := by omega
          rw [iup_i (by omega), iup_c (by decide), fup_n (hne i hi')]
          exact hv i hi'
      · rw [g25, fup_n (hq s (by omega))]
        exact ho q (fun i hi => hq i (by omega))
  exact key _ 0 w rfl (by have := cntP_le (P := fun q => decide (fl w 23 q = -1) && decide (fl w 25 q = -1)) n; omega) (fun _ _ _ => rfl) (fun i hi => by omega) (fun _ _ => rfl)
/-- prepareRings(), anew -/
theorem k_prepR {f : Nat → Nat} {n : Nat} {x1 : Option aV} (hT : TbC w f n) (h9 : w 19 9 = 0)
    (hQ : ∀ w', (∀ c i, ¬ (21 ≤ c ∧ c ≤ 25) → ¬ (c = 19 ∧ i = 9) → w' c i = w c i) → w' 19 9 = 1 → RgOk f n (fl w' 21) (fl w' 22) (fl w' 23) → Q none w') : T (d + 2) 240 0 [some (vr 19), x1] [] w Q := by
  have hn := hT.2.2.1
  rw [g240_0, h9]
  refine ⟨fun _ => ?_, fun h => absurd rfl h⟩
  rw [k_fill (by decide) lay_23 (by decide)]
  simp only [tl_none]
  rw [g240_16, k_fill (by decide) lay_25 (by decide)]
  simp only [tl_none]
  rw [g240_24]
  have key : ∀ (m p : Nat) (w1 : aW) (a1 : Int), p + m = n → a1 = (p : Int) → (∀ c i, ¬ (21 ≤ c ∧ c ≤ 25) → w1 c i = w c i) → KnC w1 f n → (∀ q, q < p → fl w1 23 q ≠ -1) → T (d + 2) 240 26 [some (vr 19), some (vi a1)] [] w1 Q := by
    intro m
    induction m with
    | zero =>
      intro p w1 a1 hp ha hw hK hk
      rw [g240_26, hw 19 0 (by omega), hT.1]
      refine ⟨fun _ => ?_, fun h => absurd (by omega) h⟩
      refine hQ _ (fun c i q1 q2 => by rw [iup_n q2]; exact hw c i q1) iup_s ?_
      rw [fl_o (by decide), fl_o (by decide), fl_o (by decide)]
      intro q hq
      exact (hK.1 q hq (hk q (by omega))).2.2.1
    | succ m ih =>
      intro p w1 a1 hp ha hw hK hk
      subst ha
      rw [g240_26, hw 19 0 (by omega), hT.1]
      refine ⟨fun h => absurd h (by omega), fun _ => ⟨by omega, fun h => ?_, fun h => ?_⟩⟩
      · rw [g240_49]
        refine ih (p + 1) w1 _ (by omega) (by rw [w32_id (by omega) (by omega)]; omega) hw hK (fun q hq => ?_)
        by_cases z : q = p
        · subst z; exact h
        · exact hk q (by omega)
      · refine k_goAlong (hT.of (fun c i q => hw c i (by omega))) hK (by omega) (show w1 23 (p : Int) = -1 by omega) (fun w2 hw2 hK2 h0 hold => ?_)
        simp only [tl_none]
        rw [g240_49]
        refine ih (p + 1) w2 _ (by omega) (by rw [w32_id (by omega) (by omega)]; omega) (fun c i q => by rw [hw2 c i q]; exact hw c i q) hK2 (fun q hq => ?_)
        by_cases z : q = p
        · subst z; exact h0
        · exact hold q (hk q (by omega))
  refine key n 0 _ _ (by omega) rfl (fun c i q => by rw [setA_c (by omega), setA_c (by omega)]) ⟨fun q hq h => ?_, fun q hq h => ?_⟩ (fun q hq => by omega)
  · refine absurd ?_ h
    unfold fl
    rw [setA_c (by decide), setA_s (show q < 1024 by omega)]
  · exact absurd (by rw [setA_s (show q < 1024 by omega)]) h
/-- readyRings() -/
theorem k_readyR {g : aSg} {n : Nat} {ps : Nat → aSg} (hI : Inv w) (hS : IvS w (trR w 0) g n ps)
    (hQ : ∀ w', Inv w' → (∀ c i, ¬ (16 ≤ c ∧ c ≤ 26) → w' c i = w c i) → FwC w' (trR w 0) g → RgOk (fwF (trR w 0) g) (2 ^ (trR w 0).1) (fl w' 21) (fl w' 22) (fl w' 23) → Q none w') : T (d + 5) 158 0 [some (vr 0)] [] w Q := by
  have htr := tr_of hI
  obtain ⟨hO, -, hC, -⟩ := id hS
  have hN2 := two10 hO.1
  rw [g158_0]
  refine k_prepare hI hS (fun w1 hI1 hw1 hF => ?_)
  have etr : trR w1 0 = trR w 0 := trR_eq htr (fun i _ => hw1 168 i (by omega) (by omega))
  have hca := CaR_of hI1
  have e69 : (w1 69 1).toNat = (trR w 0).1 := by rw [hw1 69 1 (by omega) (by omega), hC.1]; simp
  simp only [tl_none]
  rw [g158_19]
  rcases hF.2.2 with h9 | ⟨h9, hrg⟩
  · refine k_prepR (f := fwF (trR w 0) g) (n := 2 ^ (trR w 0).1) ⟨hF.1, hF.2.1, hN2.2, fun _ _ => fwF_lt⟩ h9 (fun w2 hw2 h92 hrg => ?_)
    simp only [tl_none]
    rw [g158_26]
    have hF2 : FwC w2 (trR w 0) g := ⟨by rw [hw2 19 0 (by omega) (by omega)]; exact hF.1, fun p hp => by rw [hw2 20 _ (by omega) (by omega)]; exact hF.2.1 p hp, Or.inr ⟨h92, hrg⟩⟩
    refine hQ w2 (Inv_cg hI1 (fun c i q0 q1 q2 => hw2 c i (by have := scr_17 q0; omega) (by omega)) ?_) (fun c i q => by rw [hw2 c i (by omega) (by omega)]; exact hw1 c i (by omega) (by omega)) hF2 hrg
    have e19 : ∀ i : Int, i ≠ 9 → w2 19 i = w1 19 i := fun i q => hw2 19 i (by omega) (by omega)
    have etr2 : trR w2 0 = trR w1 0 := trR_eq (tr_of hI1) (fun i _ => hw2 168 i (by omega) (by omega))
    have e692 : w2 69 1 = w1 69 1 := hw2 69 1 (by omega) (by omega)
    have e26 : ∀ i, w2 26 i = w1 26 i := fun i => hw2 26 i (by omega) (by omega)
    have e20 : ∀ i, w2 20 i = w1 20 i := fun i => hw2 20 i (by omega) (by omega)
    rcases hca with q | ⟨q1, q2, q3, -⟩
    · exact Or.inl (by rw [e19 8 (by decide)]; exact q)
    · refine Or.inr ⟨by rw [e19 8 (by decide)]; exact q1, by rw [e19 0 (by decide), e692]; exact q2, ?_, Or.inr ⟨h92, ?_⟩⟩
      · obtain ⟨u, u1, u2⟩ := q3
        refine ⟨u, by rw [e19 10 (by decide)]; exact u1, fun p hp => ?_⟩
        rw [e692] at hp
        rw [e20, etr2, u2 p hp]
        rw [show (fun k : Nat => w2 26 (k : Int)) = (fun k : Nat => w1 26 (k : Int)) from funext fun k => e26 k]
      · rw [e692, e69]
        refine RgOk_cg (f := fun p => (w2 20 (p : Int)).toNat) (h := fwF (trR w 0) g) (fun p hp => ?_) (fun p hp => ?_) hrg
        · show (w2 20 (p : Int)).toNat < 2 ^ (trR w 0).1
          rw [hF2.2.1 p hp, Int.toNat_natCast]; exact fwF_lt
        · show fwF (trR w 0) g p = (w2 20 (p : Int)).toNat
          rw [hF2.2.1 p hp, Int.toNat_natCast]
  · rw [g240_0, h9]
    refine ⟨fun h => absurd h (by decide), fun _ => ?_⟩
    simp only [tl_none]
    rw [g158_26]
    exact hQ w1 hI1 (fun c i q => hw1 c i (by omega) (by omega)) hF hrg
end RingsC
