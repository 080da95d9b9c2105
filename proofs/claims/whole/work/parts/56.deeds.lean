/-! Deeds: what they leave of class and reference. -/
/-- a bit taken out -/
def andn (a b : Nat) : Nat := a &&& (b ^^^ 4294967295)
theorem andn_tb {a b i : Nat} (ha : a < 2147483648) : (andn a b).testBit i = (a.testBit i && !b.testBit i) := by
  unfold andn
  rw [Nat.testBit_and, Nat.testBit_xor, show 4294967295 = 2 ^ 32 - 1 from rfl, Nat.testBit_two_pow_sub_one]
  by_cases h : i < 32
  · simp [h]
  · have : a.testBit i = false := Nat.testBit_lt_two_pow (Nat.lt_of_lt_of_le ha (show 2147483648 ≤ 2 ^ i from Nat.le_trans (by decide) (Nat.pow_le_pow_right (n := 2) (by decide) (show 31 ≤ i by omega))))
    simp [this]
theorem jandn {a b : Nat} (ha : a < 2147483648) : jand (a : Int) (jxor (b : Int) (-1)) = ((andn a b : Nat) : Int) := by
  unfold jand jxor andn
  rw [i32_o, nI_i, nI_i, show Int32.ofInt (-1) = nI 4294967295 by decide, n_xor, n_and, nI_toInt (Nat.lt_of_le_of_lt Nat.and_le_left ha)]
theorem andn_lt {a b n : Nat} (h : a < 2 ^ n) : andn a b < 2 ^ n := Nat.lt_of_le_of_lt Nat.and_le_left h
theorem bI_andn {x k j : Nat} (hx : x < 2147483648) : bI (andn x (2 ^ k)) j = if j = k then 0 else bI x j := by
  unfold bI
  rw [andn_tb hx, Nat.testBit_two_pow]
  by_cases h : j = k
  · subst h; simp
  · simp [h, show ¬ k = j by omega]
theorem bI_or {x k j : Nat} : bI (x ||| 2 ^ k) j = if j = k then 1 else bI x j := by
  unfold bI
  rw [Nat.testBit_or, Nat.testBit_two_pow]
  by_cases h : j = k
  · subst h; simp
  · simp [h, show ¬ k = j by omega]
theorem or_lt {x k n : Nat} (hx : x < 2 ^ n) (hk : k < n) : x ||| 2 ^ k < 2 ^ n := Nat.or_lt_two_pow hx (Nat.pow_lt_pow_right (by decide) hk)
theorem xor_lt {x k n : Nat} (hx : x < 2 ^ n) (hk : k < n) : x ^^^ 2 ^ k < 2 ^ n := Nat.xor_lt_two_pow hx (Nat.pow_lt_pow_right (by decide) hk)
def fup (f : Nat → Int) (k : Nat) (v : Int) : Nat → Int := fun j => if j = k then v else f j
theorem fup_s {f : Nat → Int} {k : Nat} {v : Int} : fup f k v k = v := by unfold fup; rw [if_pos rfl]
theorem fup_n {f : Nat → Int} {k j : Nat} {v : Int} (h : j ≠ k) : fup f k v j = f j := by unfold fup; rw [if_neg h]
section Sg
variable {w : aW} {s N M : Nat} {g : aSg}
theorem SgC.pose (h : SgC w s N M g) {p : Nat} : SgC (iup w s 0 (p : Int)) s N M (p, g.2) := by
  obtain ⟨a1, a2, a3, a4⟩ := h
  refine ⟨iup_s, ?_, fun k hk => ?_, fun l hl => ?_⟩
  · rw [iup_i (by decide)]; exact a2
  · rw [iup_c (by omega), iup_c (by omega)]; exact a3 k hk
  · rw [iup_c (by omega)]; exact a4 l hl
theorem SgC.whole (h : SgC w s N M g) {x : Nat} : SgC (iup w s 1 (x : Int)) s N M (g.1, x, g.2.2) := by
  obtain ⟨a1, a2, a3, a4⟩ := h
  refine ⟨?_, iup_s, fun k hk => ?_, fun l hl => ?_⟩
  · rw [iup_i (by decide)]; exact a1
  · rw [iup_c (by omega), iup_c (by omega)]; exact a3 k hk
  · rw [iup_c (by omega)]; exact a4 l hl
theorem SgC.from (h : SgC w s N M g) {k : Nat} {v : Int} : SgC (iup w (s + 1) (k : Int) v) s N M (g.1, g.2.1, fup g.2.2.1 k v, g.2.2.2) := by
  obtain ⟨a1, a2, a3, a4⟩ := h
  refine ⟨?_, ?_, fun j hj => ⟨?_, ?_⟩, fun l hl => ?_⟩
  · rw [iup_c (by omega)]; exact a1
  · rw [iup_c (by omega)]; exact a2
  · by_cases q : j = k
    · subst q; rw [iup_s]; exact fup_s.symm
    · rw [iup_i (by omega), (a3 j hj).1]; exact (fup_n q).symm
  · rw [iup_c (by omega)]; exact (a3 j hj).2
  · rw [iup_c (by omega)]; exact a4 l hl
theorem SgC.wear (h : SgC w s N M g) {k : Nat} {v : Int} : SgC (iup w (s + 2) (k : Int) v) s N M (g.1, g.2.1, g.2.2.1, fup g.2.2.2.1 k v, g.2.2.2.2) := by
  obtain ⟨a1, a2, a3, a4⟩ := h
  refine ⟨?_, ?_, fun j hj => ⟨?_, ?_⟩, fun l hl => ?_⟩
  · rw [iup_c (by omega)]; exact a1
  · rw [iup_c (by omega)]; exact a2
  · rw [iup_c (by omega)]; exact (a3 j hj).1
  · by_cases q : j = k
    · subst q; rw [iup_s]; exact fup_s.symm
    · rw [iup_i (by omega), (a3 j hj).2]; exact (fup_n q).symm
  · rw [iup_c (by omega)]; exact a4 l hl
theorem SgC.place (h : SgC w s N M g) {k : Nat} {v : Int} : SgC (iup w (s + 3) (k : Int) v) s N M (g.1, g.2.1, g.2.2.1, g.2.2.2.1, fup g.2.2.2.2 k v) := by
  obtain ⟨a1, a2, a3, a4⟩ := h
  refine ⟨?_, ?_, fun j hj => ⟨?_, ?_⟩, fun l hl => ?_⟩
  · rw [iup_c (by omega)]; exact a1
  · rw [iup_c (by omega)]; exact a2
  · rw [iup_c (by omega)]; exact (a3 j hj).1
  · rw [iup_c (by omega)]; exact (a3 j hj).2
  · by_cases q : l = k
    · subst q; rw [iup_s]; exact fup_s.symm
    · rw [iup_i (by omega), a4 l hl]; exact (fup_n q).symm
theorem SgM.l0 (h : SgM w 0 N M g) {l : Nat} (hl : l < N) : w 168 (54 + (l : Int)) = g.2.2.2.2 l := by
  have := h.2.2 l hl
  simpa only [Int.zero_add] using this
theorem SgM.p0 (h : SgM w 0 N M g) : w 168 5 = (g.1 : Int) := by
  have := h.1
  simpa only [Int.zero_add] using this
theorem SgM_mk (h1 : w 168 5 = (g.1 : Int)) (h2 : ∀ k : Nat, k < M → w 168 (22 + (k : Int)) = bI g.2.1 k ∧ w 168 (6 + (k : Int)) = g.2.2.1 k ∧ w 168 (38 + (k : Int)) = g.2.2.2.1 k) (h3 : ∀ l : Nat, l < N → w 168 (54 + (l : Int)) = g.2.2.2.2 l) : SgM w 0 N M g := by
  unfold SgM
  simp only [Int.zero_add]
  exact ⟨h1, h2, h3⟩
theorem SgM.pose (hM : M ≤ 16) (h : SgM w 0 N M g) {p : Nat} : SgM (iup w 168 5 (p : Int)) 0 N M (p, g.2) := by
  refine SgM_mk iup_s (fun k hk => ?_) (fun l hl => ?_)
  · rw [iup_i (by omega), iup_i (by omega), iup_i (by omega)]; exact h.k0 hk
  · rw [iup_i (by omega)]; exact h.l0 hl
theorem SgM.whole (hM : M ≤ 16) (h : SgM w 0 N M g) {k x : Nat} {v : Int} (hk : k < M) (hx : ∀ j, j < M → bI x j = if j = k then v else bI g.2.1 j) : SgM (iup w 168 (22 + (k : Int)) v) 0 N M (g.1, x, g.2.2) := by
  refine SgM_mk ?_ (fun j hj => ⟨?_, ?_, ?_⟩) (fun l hl => ?_)
  · rw [iup_i (by omega)]; exact h.p0
  · dsimp only
    rw [hx j hj]
    by_cases q : j = k
    · subst q; rw [iup_s, if_pos rfl]
    · rw [iup_i (by omega), if_neg q]; exact (h.k0 hj).1
  · rw [iup_i (by omega)]; exact (h.k0 hj).2.1
  · rw [iup_i (by omega)]; exact (h.k0 hj).2.2
  · rw [iup_i (by omega)]; exact h.l0 hl
theorem SgM.from (hM : M ≤ 16) (h : SgM w 0 N M g) {k : Nat} {v : Int} (hk : k < M) : SgM (iup w 168 (6 + (k : Int)) v) 0 N M (g.1, g.2.1, fup g.2.2.1 k v, g.2.2.2) := by
  refine SgM_mk ?_ (fun j hj => ⟨?_, ?_, ?_⟩) (fun l hl => ?_)
  · rw [iup_i (by omega)]; exact h.p0
  · rw [iup_i (by omega)]; exact (h.k0 hj).1
  · by_cases q : j = k
    · subst q; rw [iup_s]; exact fup_s.symm
    · rw [iup_i (by omega), (h.k0 hj).2.1]; exact (fup_n q).symm
  · rw [iup_i (by omega)]; exact (h.k0 hj).2.2
  · rw [iup_i (by omega)]; exact h.l0 hl
theorem SgM.wear (hM : M ≤ 16) (h : SgM w 0 N M g) {k : Nat} {v : Int} (hk : k < M) : SgM (iup w 168 (38 + (k : Int)) v) 0 N M (g.1, g.2.1, g.2.2.1, fup g.2.2.2.1 k v, g.2.2.2.2) := by
  refine SgM_mk ?_ (fun j hj => ⟨?_, ?_, ?_⟩) (fun l hl => ?_)
  · rw [iup_i (by omega)]; exact h.p0
  · rw [iup_i (by omega)]; exact (h.k0 hj).1
  · rw [iup_i (by omega)]; exact (h.k0 hj).2.1
  · by_cases q : j = k
    · subst q; rw [iup_s]; exact fup_s.symm
    · rw [iup_i (by omega), (h.k0 hj).2.2]; exact (fup_n q).symm
  · rw [iup_i (by omega)]; exact h.l0 hl
theorem SgM.place (hN : N ≤ 10) (hM : M ≤ 16) (h : SgM w 0 N M g) {k : Nat} {v : Int} (hk : k < N) : SgM (iup w 168 (54 + (k : Int)) v) 0 N M (g.1, g.2.1, g.2.2.1, g.2.2.2.1, fup g.2.2.2.2 k v) := by
  refine SgM_mk ?_ (fun j hj => ⟨?_, ?_, ?_⟩) (fun l hl => ?_)
  · rw [iup_i (by omega)]; exact h.p0
  · rw [iup_i (by omega)]; exact (h.k0 hj).1
  · rw [iup_i (by omega)]; exact (h.k0 hj).2.1
  · rw [iup_i (by omega)]; exact (h.k0 hj).2.2
  · by_cases q : l = k
    · subst q; rw [iup_s]; exact fup_s.symm
    · rw [iup_i (by omega), h.l0 hl]; exact (fup_n q).symm
theorem SgM_167 {i x : Int} {o : Int} (h : SgM w o N M g) : SgM (iup w 167 i x) o N M g := by
  unfold SgM at h ⊢
  simp only [iup_c (show (168 : Nat) ≠ 167 by decide)]
  exact h
end Sg
theorem PaM.of {w w' : aW} {N M n : Nat} {ps : Nat → aSg} (hN : N ≤ 10) (hM : M ≤ 16) (hn : n ≤ 10) (h : PaM w N M n ps) (e : ∀ i : Int, 152 ≤ i → i < 743 → w' 168 i = w 168 i) : PaM w' N M n ps :=
  ⟨by rw [e 152 (by omega) (by omega)]; exact h.1, fun i hi => (h.2 i hi).of hN hM (fun j q1 q2 => e j (by omega) (by omega))⟩
theorem RfT_167 {w : aW} {t : aTr} {i x : Int} (h : RfT w t) : RfT (iup w 167 i x) t := by
  unfold RfT at h ⊢
  simp only [iup_c (show (168 : Nat) ≠ 167 by decide)]
  exact h
/-- the reference, what was being kept -/
def RK (w w0 : aW) (N M n : Nat) (ps : Nat → aSg) (g : aSg) : Prop := DR w w0 ∧ PaM w0 N M n ps ∧ SgF (w0 173) N M g
theorem scr_168 {i : Int} : scr 168 i = false := by unfold scr; simp
theorem RK_keep {w : aW} {N M n : Nat} {ps : Nat → aSg} {g : aSg} (hN : N ≤ 10) (hM : M ≤ 16) (hn : n ≤ 10) (hP : PaM w N M n ps) (hS : SgM w 0 N M g) : RK w (wKeep (iup w 167 0 0) 59) N M n ps g ∧ SgM (wKeep (iup w 167 0 0) 59) 0 N M g ∧ ∀ i, wKeep (iup w 167 0 0) 59 168 i = w 168 i := by
  have e : ∀ c i, c ≠ 173 → c ≠ 167 → wKeep (iup w 167 0 0) 59 c i = w c i := by
    intro c i h1 h2
    unfold wKeep
    rw [if_neg (fun q => h1 q.1), iup_c h2]
  have e8 : ∀ i, wKeep (iup w 167 0 0) 59 168 i = w 168 i := fun i => e 168 i (by decide) (by decide)
  refine ⟨⟨fun c i q0 q1 q2 => ?_, hP.of hN hM hn (fun i _ _ => e8 i), ?_⟩, hS.of hN hM (fun i _ _ => e8 i), e8⟩
  · by_cases h1 : c = 173
    · subst h1
      exact absurd q0 (by unfold scr; simp)
    · by_cases h2 : c = 167
      · subst h2
        unfold wKeep
        rw [if_neg (by omega)]
        by_cases h3 : i = 0
        · subst h3
          exact absurd q0 (by decide)
        · exact iup_i h3
      · exact e c i h1 h2
  · refine (SgM_F.mp hS).of hN hM (fun j h1 h2 => ?_)
    unfold wKeep
    rw [if_pos ⟨rfl, h1, h2⟩, iup_c (by decide), Int.zero_add]
theorem RK.put {w w0 : aW} {N M n : Nat} {ps : Nat → aSg} {g : aSg} {j x : Int} (hN : N ≤ 10) (hM : M ≤ 16) (hn : n ≤ 10) (h : RK w w0 N M n ps g) (h1 : 5 ≤ j) (h2 : j < 64) : RK w (iup w0 168 j x) N M n ps g := by
  obtain ⟨a1, a2, a3⟩ := h
  refine ⟨fun c i q0 q1 q2 => ?_, a2.of hN hM hn (fun i _ _ => iup_i (by omega)), a3.of hN hM (fun j _ _ => iup_c (by decide))⟩
  unfold iup
  rw [if_neg (by omega)]
  exact a1 c i q0 q1 q2
/-- the class, the stage being remembered -/
def CK (w w1 : aW) (N M n : Nat) (ps : Nat → aSg) (g : aSg) : Prop := DC w w1 ∧ PaC w1 N M (pushN n) (pushF n ps g)
theorem PaC.of {w w' : aW} {N M n : Nat} {ps : Nat → aSg} (h : PaC w N M n ps) (e0 : w' 0 12 = w 0 12) (e : ∀ c i, (c = 87 ∨ (91 ≤ c ∧ c ≤ 130)) → w' c i = w c i) : PaC w' N M n ps := by
  obtain ⟨a1, a2, a3, a4, a5⟩ := h
  refine ⟨by rw [e0]; exact a1, a2, fun i hi => by rw [e 87 i (by omega)]; exact a3 i hi, fun i j hi hj => by rw [e 87 i (by omega), e 87 j (by omega)]; exact a4 i j hi hj, fun i hi => ?_⟩
  rw [e 87 i (by omega)]
  obtain ⟨c, c1, c2⟩ := a3 i (by omega)
  exact (a5 i hi).of (fun c' j q1 q2 => e c' j (by omega))
theorem CK.put {w w1 : aW} {N M n : Nat} {ps : Nat → aSg} {g : aSg} {c : Nat} {j x : Int} (h : CK w w1 N M n ps g) (h1 : 79 ≤ c) (h2 : c ≤ 82) : CK w (iup w1 c j x) N M n ps g := by
  obtain ⟨a1, a2⟩ := h
  refine ⟨fun c' i q0 q1 q2 q3 q4 => ?_, a2.of (iup_c (by omega)) (fun c' i q => iup_c (by omega))⟩
  rw [iup_c (by omega)]
  exact a1 c' i q0 q1 q2 q3 q4
section Deeds
variable {d D : Nat} {w : aW} {Q : Option aV → aW → Prop}
theorem k_remD {N M n : Nat} {ps : Nat → aSg} {g : aSg} {x1 x2 : Option aV} (hN : N ≤ 10) (hM : M ≤ 16) (hP : PaC w N M n ps) (hS : SgC w 79 N M g)
    (hQ : ∀ w', CK w w' N M n ps g → SgC w' 79 N M g → (∀ c i, 1 ≤ c → c ≤ 86 → w' c i = w c i) → Q none w') : T (d + 1) 128 0 [some (vr 0), x1, x2] [] w Q := by
  refine k_remember hN hM hP hS (fun w' hw hp => hQ w' ⟨fun c i q0 q1 q2 q3 q4 => hw c i q2 q3 q4, hp⟩ (hS.of (fun c i q1 q2 => hw c i (by omega) (by omega) (by omega))) (fun c i q1 q2 => hw c i (by omega) (by omega) (by omega)))
theorem k_notD {w1 w0 : aW} {N M n : Nat} {ps : Nat → aSg} {g g' : aSg} {x1 : Option aV} (hN : N ≤ 10) (hM : M ≤ 16) (hn : n ≤ 10) (hk : RK w1 w0 N M n ps g) (hS : SgM w0 0 N M g')
    (hQ : ∀ w2, DR w1 w2 → SgM w2 0 N M g' → PaM w2 N M (pushN n) (pushF n ps g) → (∀ i, 0 ≤ i → i < 152 → w2 168 i = w0 168 i) → Q none w2) : T d 130 0 [some (vr 167), x1] [] w0 Q := by
  obtain ⟨a1, a2, a3⟩ := hk
  refine k_notes hN hM hn a2 a3 (fun w2 hw hp => hQ w2 (fun c i q0 q1 q2 => ?_) (hS.of hN hM (fun i q1 q2 => hw 168 i (by omega))) hp (fun i q1 q2 => hw 168 i (by omega)))
  rw [hw c i q2]
  exact a1 c i q0 q1 q2
/-- wholeMany() of a stage -/
theorem k_wmF {N M : Nat} {g : aSg} {x1 x2 : Option aV} (hM : M ≤ 16) (h3 : w 168 3 = (M : Int)) (hS : SgM w 0 N M g) (hx : g.2.1 < 2 ^ M) : T d 139 0 [some (vr 167), x1, x2] [] w Q = Q (some (vi (bsum g.2.1 16))) w := by
  rw [k_wholeMany h3 hM (fun k hk => by rw [(hS.k0 hk).1]; exact bI_01 _ _), sm_bsum M (fun k hk => (hS.k0 hk).1), bsum_hi hx 16 hM]
theorem thI {w : aW} {i : Int} : iup w 167 0 0 168 i = w 168 i := iup_c (by decide)
/-- nudge -/
theorem s_nudge {a : Int} (ha : R32 a) : Sim Inv (D + 3) 11 12 [some (vr 0), some (vi a)] [some (vr 167), some (vi a)] := by
  refine sim_deed fun w g n ps hI hS => ?_
  generalize trR w 0 = t at *
  obtain ⟨hO, hR, hC, s1, s2, s3, p1, p2, p3, -⟩ := hS
  obtain ⟨hN, hM, -⟩ := id hO
  have hn := p1.2.1
  by_cases hl : 0 ≤ a ∧ a < (t.1 : Int)
  · obtain ⟨l, rfl⟩ : ∃ l : Nat, a = (l : Int) := ⟨a.toNat, by omega⟩
    have hlN : l < t.1 := by omega
    have h10 := two10 (n := l) (by omega)
    have hp := s3.1
    have hN2 := two10 hN
    have ex : jxor (g.1 : Int) (jshl 1 (l : Int)) = ((g.1 ^^^ 2 ^ l : Nat) : Int) := by rw [jshl_n (by omega), jxor_n (by omega) (by omega)]
    refine Or.inl ⟨((g.1 ^^^ 2 ^ l : Nat) : Int), (g.1 ^^^ 2 ^ l, g.2), ⟨xor_lt hp hlN, s3.2⟩, fun Q hQ => ?_, fun w1 hk hR1 hM1 hP1 Q hQ => ?_⟩
    · rw [g11_0, k_hasLimb, hC.1, b01_t (decide_eq_true hl)]
      simp only [tl_some]
      rw [g11_5]
      refine ⟨fun _ => ?_, fun h => absurd (by decide) h⟩
      refine k_remD hN hM p1 s1 (fun w' hck hs hw => ?_)
      simp only [tl_none]
      rw [g11_15, hs.1, ex, iup_s]
      exact hQ _ (hck.put (by decide) (by decide)).1 hs.pose (hck.put (by decide) (by decide)).2
    · rw [g12_0, k_isLimb (by rw [thI, hR1.1]; omega) (by rw [thI, hR1.1]; omega), thI, hR1.1, b01_t (decide_eq_true hl)]
      simp only [tl_some]
      rw [g12_11]
      refine ⟨fun _ => ?_, fun h => absurd (by decide) h⟩
      obtain ⟨k1, k2, k3⟩ := RK_keep hN hM hn hP1 hM1
      rw [k_keeps]
      simp only [tl_none]
      rw [g12_21, k2.p0, ex]
      refine k_notD hN hM hn (k1.put hN hM hn (by decide) (by decide)) (k2.pose hM) (fun w2 q1 q2 q3 q4 => ?_)
      simp only [tl_none]
      rw [g12_37, q2.p0]
      exact hQ w2 q1 q2 q3
  · refine Or.inr ⟨-2, fun Q hQ => ?_, fun Q hQ => ?_⟩
    · rw [g11_0, k_hasLimb, hC.1, b01_f (decide_eq_false hl)]
      simp only [tl_some]
      rw [g11_5]
      exact ⟨fun h => absurd rfl h, fun _ => hQ⟩
    · rw [g12_0, k_isLimb (by rw [thI, hR.1]; omega) (by rw [thI, hR.1]; omega), thI, hR.1, b01_f (decide_eq_false hl)]
      simp only [tl_some]
      rw [g12_11]
      exact ⟨fun h => absurd rfl h, fun _ => hQ⟩
/-- strike -/
theorem s_strike {a : Int} (ha : R32 a) : Sim Inv (D + 3) 13 14 [some (vr 0), some (vi a), none] [some (vr 167), some (vi a), none] := by
  refine sim_deed fun w g n ps hI hS => ?_
  generalize trR w 0 = t at *
  obtain ⟨hO, hR, hC, s1, s2, s3, p1, p2, p3, -⟩ := hS
  obtain ⟨hN, hM, -⟩ := id hO
  have hn := p1.2.1
  have hN2 := two10 hN
  have hp := s3.1
  by_cases hl : 0 ≤ a ∧ a < ((2 ^ t.1 : Nat) : Int)
  · obtain ⟨p, rfl⟩ : ∃ p : Nat, a = (p : Int) := ⟨a.toNat, by omega⟩
    have hpN : p < 2 ^ t.1 := by omega
    have hx : g.1 ^^^ p < 65536 := Nat.lt_of_lt_of_le (Nat.xor_lt_two_pow hp hpN) (by omega)
    have hb := bsum_le (g.1 ^^^ p) 16
    have hc1 : ∀ Q : Option aV → aW → Prop, T (D + 3) 13 23 [some (vr 0), some (vi (p : Int)), none] [vi (bsum (g.1 ^^^ p) 16)] w Q → T (D + 3) 13 0 [some (vr 0), some (vi (p : Int)), none] [] w Q := by
      intro Q h
      rw [g13_0, k_hasPose ha hC.1 hN, b01_t (decide_eq_true hl)]
      simp only [tl_some]
      rw [g13_5]
      refine ⟨fun _ => ?_, fun h => absurd (by decide) h⟩
      rw [s1.1, jxor_n (by omega) (by omega), k_bitCount hx]
      simp only [tl_some]
      exact h
    have hr1 : ∀ w1 : aW, RfT w1 t → SgM w1 0 t.1 t.2.1 g → ∀ Q : Option aV → aW → Prop, T (D + 3) 14 28 [some (vr 167), some (vi (p : Int)), none] [vi (bsum (g.1 ^^^ p) 16)] (iup w1 167 0 0) Q → T (D + 3) 14 0 [some (vr 167), some (vi (p : Int)), none] [] w1 Q := by
      intro w1 hR1 hM1 Q h
      rw [g14_0, k_isPose (by rw [thI]; exact hR1.1) hN, b01_t (decide_eq_true hl)]
      simp only [tl_some]
      rw [g14_11]
      refine ⟨fun _ => ?_, fun h => absurd (by decide) h⟩
      rw [thI, hM1.p0, jxor_n (by omega) (by omega), Nat.xor_comm, k_bitsOf (by omega)]
      simp only [tl_some]
      exact h
    by_cases hz : bsum (g.1 ^^^ p) 16 = 0
    · refine Or.inr ⟨0, fun Q hQ => hc1 Q ?_, fun Q hQ => hr1 w hR s2 Q ?_⟩
      · rw [g13_23]
        refine ⟨fun _ => ?_, fun h => absurd (by omega) h⟩
        rw [g13_40, hz]; exact hQ
      · rw [g14_28]
        exact ⟨fun h => absurd hz h, fun _ => hQ⟩
    · refine Or.inl ⟨bsum (g.1 ^^^ p) 16, (p, g.2), ⟨hpN, s3.2⟩, fun Q hQ => hc1 Q ?_, fun w1 hk hR1 hM1 hP1 Q hQ => hr1 w1 hR1 hM1 Q ?_⟩
      · rw [g13_23]
        refine ⟨fun h => absurd h (by omega), fun _ => ?_⟩
        refine k_remD hN hM p1 s1 (fun w' hck hs hw => ?_)
        simp only [tl_none]
        rw [g13_32, g13_40]
        exact hQ _ (hck.put (by decide) (by decide)).1 hs.pose (hck.put (by decide) (by decide)).2
      · rw [g14_28]
        refine ⟨fun _ => ?_, fun h => absurd hz h⟩
        obtain ⟨k1, k2, k3⟩ := RK_keep hN hM hn hP1 hM1
        rw [k_keeps]
        simp only [tl_none]
        rw [g14_39]
        refine k_notD hN hM hn (k1.put hN hM hn (by decide) (by decide)) (k2.pose hM) (fun w2 q1 q2 q3 q4 => ?_)
        simp only [tl_none]
        rw [g14_50]
        exact hQ w2 q1 q2 q3
  · refine Or.inr ⟨-3, fun Q hQ => ?_, fun Q hQ => ?_⟩
    · rw [g13_0, k_hasPose ha hC.1 hN, b01_f (decide_eq_false hl)]
      simp only [tl_some]
      rw [g13_5]
      exact ⟨fun h => absurd rfl h, fun _ => hQ⟩
    · rw [g14_0, k_isPose (by rw [thI]; exact hR.1) hN, b01_f (decide_eq_false hl)]
      simp only [tl_some]
      rw [g14_11]
      exact ⟨fun h => absurd rfl h, fun _ => hQ⟩
end Deeds
