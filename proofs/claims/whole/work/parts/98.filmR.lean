/-! Films: what is asked of the class's sets; the reference's guesses. -/
theorem jand_m1 {a : Nat} (h : a < 2147483648) : jand (-1) (a : Int) = (a : Int) := by
  unfold jand
  have e : (4294967295 : Nat) &&& a = a := by
    rw [Nat.and_comm, show (4294967295 : Nat) = 2 ^ 32 - 1 from rfl, Nat.and_two_pow_sub_one_of_lt_two_pow (by omega)]
  rw [nI_i, show Int32.ofInt (-1) = nI 4294967295 by decide, n_and, e, nI_toInt h]
theorem and_pow0 {p l : Nat} : (p &&& 2 ^ l = 0) ↔ p.testBit l = false := by
  constructor
  · intro h
    have h1 : (p &&& 2 ^ l).testBit l = (0 : Nat).testBit l := by rw [h]
    rw [Nat.testBit_and, Nat.testBit_two_pow_self, Nat.zero_testBit, Bool.and_true] at h1
    exact h1
  · intro h
    apply Nat.eq_of_testBit_eq
    intro i
    rw [Nat.testBit_and, Nat.testBit_two_pow, Nat.zero_testBit]
    by_cases z : l = i
    · subst z; rw [h]; rfl
    · rw [decide_eq_false z, Bool.and_false]
theorem and_fl {A : Type} {f : A → Nat} : ∀ (L : List A) (a : Nat), L.foldl (fun a x => a &&& f x) a ≤ a := by
  intro L
  induction L with
  | nil => intro a; exact Nat.le_refl _
  | cons x xs ih => intro a; rw [List.foldl_cons]; exact Nat.le_trans (ih _) Nat.and_le_left
def fwG (L : List aG) : Int := L.foldl opF (-1)
def GOks (l : Nat) (L : List aG) : Prop := ∀ x, x ∈ L → GOk l 1024 x
theorem GOks_at {l : Nat} {L : List aG} (h : GOks l L) {k : Nat} (hk : k < L.length) : GOk l 1024 L[k] := h _ (List.getElem_mem hk)
theorem gL_oks {fr : Nat → Nat} {l m n : Nat} (hn : n ≤ 1024) : GOks l (gL fr l m n) := fun x hx => by
  obtain ⟨a, b, c⟩ := gL_ok n x hx
  exact ⟨a, by omega, c⟩
theorem bs16 {a : Nat} : bsN a 16 ≤ 16 := by
  have h16 := bsum_le a 16
  rw [bsN_i] at h16
  omega
section FilmA
variable {d D : Nat} {w : aW} {Q : Option aV → aW → Prop}
/-- smallest() -/
theorem k_smallest {L : List aG} {l : Nat} {x1 x2 : Option aV} (hG : GsC w L) (hO : GOks l L) (hlen : L.length ≤ 1024)
    (hQ : ∀ a1 : Int, ((a1 = -1 ∧ fwG L = -1) ∨ ∃ (j : Nat) (h : j < L.length), a1 = (j : Int) ∧ fwG L = ((16 * (L[j]).1 + (L[j]).2.1 : Nat) : Int)) → Q (some (vi a1)) w) : T (d + 1) 201 0 [some (vr 64), x1, x2] [] w Q := by
  rw [g201_0]
  have key : ∀ (m k : Nat) (a1 a2 : Int), k + m = L.length → a2 = (k : Int) → ((a1 = -1 ∧ (L.take k).foldl opF (-1) = -1) ∨ ∃ (j : Nat) (h : j < L.length), a1 = (j : Int) ∧ (L.take k).foldl opF (-1) = ((16 * (L[j]).1 + (L[j]).2.1 : Nat) : Int)) → T (d + 1) 201 4 [some (vr 64), some (vi a1), some (vi a2)] [] w Q := by
    intro m
    induction m with
    | zero =>
      intro k a1 a2 hk ha h
      rw [g201_4, hG.1]
      refine ⟨fun _ => hQ a1 ?_, fun h' => absurd (by omega) h'⟩
      rw [List.take_of_length_le (by omega)] at h
      exact h
    | succ m ih =>
      intro k a1 a2 hk ha h
      subst ha
      have hkl : k < L.length := by omega
      have t1 : Unit → w32 ((k : Int) + 1) = ((k + 1 : Nat) : Int) := fun _ => by rw [w32_id (by omega) (by omega)]; omega
      obtain ⟨o1, o2, o3, o4, o5, o6⟩ := GOks_at hO hkl
      have hk5 := (hG.2.2 k hkl).1
      rw [g201_4, hG.1]
      refine ⟨fun h' => absurd h' (by omega), fun _ => ⟨fun h' => ?_, fun h' => ⟨by omega, ?_⟩⟩⟩
      · rw [g201_38, g201_40, t1 ()]
        refine ih (k + 1) _ _ (by omega) rfl (Or.inr ⟨k, hkl, rfl, ?_⟩)
        rw [fl_take L _ k hkl]
        rcases h with ⟨-, h⟩ | ⟨j, hj, e1, -⟩
        · rw [h]; unfold opF; rw [if_pos (Or.inl rfl)]
        · omega
      · rcases h with ⟨e, -⟩ | ⟨j, hj, e1, e2⟩
        · exact absurd e h'
        · subst e1
          obtain ⟨p1, p2, p3, p4, p5, p6⟩ := GOks_at hO hj
          have h10 := bs10 _ p2
          have hj5 := (hG.2.2 j hj).1
          rw [hk5, k_bitCount (by omega)]
          simp only [tl_some]
          rw [g201_26, hj5]
          refine ⟨by omega, ?_⟩
          rw [k_bitCount (by omega)]
          simp only [tl_some]
          rw [g201_35, bsN_i, bsN_i]
          have ej : (16 * (L[j]).1 + (L[j]).2.1) / 16 = (L[j]).1 := by omega
          refine ⟨fun q => ?_, fun q => ?_⟩
          · rw [g201_40, t1 ()]
            refine ih (k + 1) _ _ (by omega) rfl (Or.inr ⟨j, hj, rfl, ?_⟩)
            rw [fl_take L _ k hkl, e2]
            unfold opF
            rw [Int.toNat_natCast, ej, if_neg (by omega)]
          · rw [g201_38, g201_40, t1 ()]
            refine ih (k + 1) _ _ (by omega) rfl (Or.inr ⟨k, hkl, rfl, ?_⟩)
            rw [fl_take L _ k hkl, e2]
            unfold opF
            rw [Int.toNat_natCast, ej, if_pos (by omega)]
  exact key L.length 0 _ _ (by omega) rfl (Or.inl ⟨rfl, rfl⟩)
/-- inAll() -/
theorem k_inAll {L : List aG} {N l : Nat} {x1 x2 : Option aV} (hN : N ≤ 10) (hG : GsC w L) (hO : GOks l L) (hlt : ∀ x, x ∈ L → x.1 < 2 ^ N) (hlen : L.length ≤ 1024) (hne : 0 < L.length)
    (hQ : Q (some (vi ((L.foldl (fun a x => a &&& x.1) (2 ^ N - 1) : Nat) : Int))) w) : T d 202 0 [some (vr 64), x1, x2] [] w Q := by
  have hN2 := two10 hN
  rw [g202_0]
  have key : ∀ (m k : Nat) (a1 a2 : Int), k + m = L.length → a2 = (k : Int) → ((k = 0 ∧ a1 = -1) ∨ (0 < k ∧ a1 = (((L.take k).foldl (fun a x => a &&& x.1) (2 ^ N - 1) : Nat) : Int))) → T d 202 4 [some (vr 64), some (vi a1), some (vi a2)] [] w Q := by
    intro m
    induction m with
    | zero =>
      intro k a1 a2 hk ha h
      rw [g202_4, hG.1]
      refine ⟨fun _ => ?_, fun h' => absurd (by omega) h'⟩
      rcases h with ⟨h, -⟩ | ⟨h, e⟩
      · omega
      · rw [List.take_of_length_le (by omega)] at e
        rw [e]; exact hQ
    | succ m ih =>
      intro k a1 a2 hk ha h
      subst ha
      have hkl : k < L.length := by omega
      have t1 : Unit → w32 ((k : Int) + 1) = ((k + 1 : Nat) : Int) := fun _ => by rw [w32_id (by omega) (by omega)]; omega
      have hx := hlt _ (List.getElem_mem hkl)
      rw [g202_4, hG.1, (hG.2.2 k hkl).1]
      refine ⟨fun h' => absurd h' (by omega), fun _ => ⟨by omega, ?_⟩⟩
      rw [t1 ()]
      refine ih (k + 1) _ _ (by omega) rfl (Or.inr ⟨by omega, ?_⟩)
      rw [fl_take L _ k hkl]
      rcases h with ⟨h, e⟩ | ⟨h, e⟩
      · subst h
        rw [e, jand_m1 (by omega), List.take_zero, List.foldl_nil, Nat.and_comm, Nat.and_two_pow_sub_one_of_lt_two_pow hx]
      · have hle := and_fl (f := fun x : aG => x.1) (L.take k) (2 ^ N - 1)
        rw [e, jand_n (by omega)]
  exact key L.length 0 _ _ (by omega) rfl (Or.inl ⟨rfl, rfl⟩)
/-- upBehind(pose) -/
theorem k_upBehind {L : List aG} {l p : Nat} {x2 x3 x4 : Option aV} (hG : GsC w L) (hO : GOks l L) (hlen : L.length ≤ 1024) (htot : tot L ≤ 2304) (hp : p < 1024) (hQ : Q (some (vi (upN L p : Int))) w) : T (d + 1) 265 0 [some (vr 64), some (vi (p : Int)), x2, x3, x4] [] w Q := by
  rw [g265_0]
  have key : ∀ (m k : Nat) (a2 a3 : Int) (y4 : Option aV), k + m = L.length → a3 = (k : Int) → a2 = (((L.take k).foldl (upO p) 0 : Nat) : Int) → T (d + 1) 265 4 [some (vr 64), some (vi (p : Int)), some (vi a2), some (vi a3), y4] [] w Q := by
    intro m
    induction m with
    | zero =>
      intro k a2 a3 y4 hk ha h
      rw [g265_4, hG.1]
      refine ⟨fun _ => ?_, fun h' => absurd (by omega) h'⟩
      rw [List.take_of_length_le (by omega)] at h
      rw [h]; exact hQ
    | succ m ih =>
      intro k a2 a3 y4 hk ha h
      subst ha
      have hkl : k < L.length := by omega
      have t1 : Unit → w32 ((k : Int) + 1) = ((k + 1 : Nat) : Int) := fun _ => by rw [w32_id (by omega) (by omega)]; omega
      obtain ⟨o1, o2, o3, o4, o5, o6⟩ := GOks_at hO hkl
      obtain ⟨g1, g2, g3⟩ := hG.2.2 k hkl
      have h10 := bs10 _ o2
      have hle := (up_le (p := p) (L.take k) 0).2
      have htt := tot_take (L := L) (k := k)
      have hand : p &&& (L[k]).1 < 1024 := Nat.lt_of_le_of_lt Nat.and_le_left hp
      have hb := bs16 (a := p &&& (L[k]).1)
      rw [g265_4, hG.1, g1, g3, jand_n (by omega), k_bitCount (by omega), bsN_i]
      simp only [tl_some]
      refine ⟨fun h' => absurd h' (by omega), fun _ => ⟨by omega, by omega, ?_⟩⟩
      rw [g265_29, g2, t1 ()]
      refine ⟨by omega, ih (k + 1) _ _ _ (by omega) rfl ?_⟩
      rw [fl_take L _ k hkl, h]
      generalize (L.take k).foldl (upO p) 0 = A at *
      generalize L[k] = x at *
      unfold upO
      generalize bsN (p &&& x.1) 16 = c at *
      by_cases z : (c : Int) < (x.2.2 : Int)
      · rw [if_pos z, w32_id (x := (c : Int) - (x.2.1 : Int)) (by omega) (by omega), w32_id (x := (c : Int) - (x.2.1 : Int) + 1) (by omega) (by omega)]
        by_cases z2 : 0 < (c : Int) - (x.2.1 : Int) + 1
        · rw [if_pos z2, w32_id (by omega) (by omega)]; omega
        · rw [if_neg z2, w32_id (by omega) (by omega)]; omega
      · rw [if_neg z, w32_id (x := (x.2.2 : Int) - (x.2.1 : Int)) (by omega) (by omega), w32_id (x := (x.2.2 : Int) - (x.2.1 : Int) + 1) (by omega) (by omega)]
        by_cases z2 : 0 < (x.2.2 : Int) - (x.2.1 : Int) + 1
        · rw [if_pos z2, w32_id (by omega) (by omega)]; omega
        · rw [if_neg z2, w32_id (by omega) (by omega)]; omega
  exact key L.length 0 _ _ _ (by omega) rfl rfl
/-- mostTelling(all, bit) -/
theorem k_mostTelling {L : List aG} {N l : Nat} {x3 x4 x5 x6 x7 : Option aV} (hN : N ≤ 10) (hl : l < 10) (hG : GsC w L) (hO : GOks l L) (hlen : L.length ≤ 1024) (htot : tot L ≤ 2304) (hQ : Q (some (vi ((tlF L l (2 ^ N)).1 : Int))) w) :
    T (d + 2) 203 0 [some (vr 64), some (vi (((2 ^ N : Nat) : Int) - 1)), some (vi (jshl 1 (l : Int))), x3, x4, x5, x6, x7] [] w Q := by
  have hN2 := two10 hN
  have hl2 : (2 : Nat) ^ l ≤ 1024 := Nat.pow_le_pow_right (n := 2) (by decide) (show l ≤ 10 by omega)
  rw [g203_0, hG.2.1, jshl_n (by omega)]
  have key : ∀ (m p : Nat) (a3 a4 a5 : Int) (y6 y7 : Option aV), p + m = 2 ^ N → a5 = (p : Int) → a3 = ((tlF L l p).1 : Int) → a4 = ((tlF L l p).2 : Int) → T (d + 2) 203 13 [some (vr 64), some (vi (((2 ^ N : Nat) : Int) - 1)), some (vi ((2 ^ l : Nat) : Int)), some (vi a3), some (vi a4), some (vi a5), y6, y7] [] w Q := by
    intro m
    induction m with
    | zero =>
      intro p a3 a4 a5 y6 y7 hm ha h3 h4
      rw [g203_13]
      refine ⟨fun _ => ?_, fun h => absurd (by omega) h⟩
      rw [h3, show p = 2 ^ N by omega]; exact hQ
    | succ m ih =>
      intro p a3 a4 a5 y6 y7 hm ha h3 h4
      subst ha
      have t1 : Unit → w32 ((p : Int) + 1) = ((p + 1 : Nat) : Int) := fun _ => by rw [w32_id (by omega) (by omega)]; omega
      rw [g203_13, jand_n (by omega)]
      refine ⟨fun h => absurd h (by omega), fun _ => ⟨fun h => ?_, fun h => ?_⟩⟩
      · have hb : p.testBit l = true := by
          cases hb : p.testBit l with
          | true => rfl
          | false => exact absurd (by rw [and_pow0.mpr hb]; rfl) h
        rw [g203_62, t1 ()]
        refine ih (p + 1) _ _ _ _ _ (by omega) rfl ?_ ?_
        · rw [tlF, if_pos hb]; exact h3
        · rw [tlF, if_pos hb]; exact h4
      · have hb : p.testBit l = false := and_pow0.mp (by omega)
        refine k_upBehind hG hO hlen htot (by omega) ?_
        simp only [tl_some]
        have hle := (up_le (p := p) L 0).2
        have hup : upN L p ≤ tot L := by unfold upN; omega
        have elf : (if (upN L p : Int) < w32 ((tot L : Int) - (upN L p : Int)) then w32 ((tot L : Int) - (upN L p : Int)) else (upN L p : Int)) = (lfN L p : Int) := by
          rw [w32_id (x := (tot L : Int) - (upN L p : Int)) (by omega) (by omega)]
          unfold lfN
          split <;> omega
        rw [g203_32, hG.2.1, elf]
        refine ⟨fun q => ?_, fun q => ?_⟩
        · rw [g203_62, t1 ()]
          refine ih (p + 1) _ _ _ _ _ (by omega) rfl ?_ ?_
          · rw [tlF, if_neg (by rw [hb]; decide), if_neg (by omega)]; exact h3
          · rw [tlF, if_neg (by rw [hb]; decide), if_neg (by omega)]; exact h4
        · rw [g203_62, t1 ()]
          refine ih (p + 1) _ _ _ _ _ (by omega) rfl ?_ ?_
          · rw [tlF, if_neg (by rw [hb]; decide), if_pos (by omega)]
          · rw [tlF, if_neg (by rw [hb]; decide), if_pos (by omega)]
  exact key (2 ^ N) 0 _ _ _ _ _ (by omega) rfl rfl (by rw [w32_id (by omega) (by omega)]; rfl)
/-- noFilm(row, l) -/
theorem k_noFilm {N : Nat} {a b : Int} {x3 : Option aV} (hN : N ≤ 10) (h2 : w 168 2 = (N : Int)) (hrow : ∀ r, r < 4 → RoR w r) (hQ : Q (some (vi (noG w N a b))) w) : T (d + 2) 199 0 [some (vr 167), some (vi a), some (vi b), x3] [] w Q := by
  rw [g199_0, k_within]
  simp only [tl_some]
  rw [g199_9]
  by_cases hl : 0 ≤ a ∧ a ≤ 3
  · rw [b01_t (decide_eq_true hl)]
    refine ⟨fun h => absurd h (by decide), fun _ => ?_⟩
    rw [k_isLimb (by omega) (by omega), h2]
    simp only [tl_some]
    rw [g199_18]
    by_cases hb : 0 ≤ b ∧ b < (N : Int)
    · obtain ⟨r, rfl⟩ : ∃ r : Nat, a = (r : Int) := ⟨a.toNat, by omega⟩
      have hr : r < 4 := by omega
      have hlb : (0 ≤ (r : Int) ∧ (r : Int) < 4) ∧ (0 ≤ b ∧ b < (N : Int)) := ⟨by omega, hb⟩
      rw [b01_t (decide_eq_true hb)]
      refine ⟨fun _ => ⟨by omega, fun hne => ⟨by omega, ?_⟩, fun he => ?_⟩, fun h => absurd (by decide) h⟩
      · rw [k_within]
        simp only [tl_some]
        rw [g199_53]
        rcases hrow r hr with h1 | ⟨-, c2, c3, c4⟩
        · exact absurd h1 hne
        · by_cases h30 : 2 ≤ w 189 (r : Int) ∧ w 189 (r : Int) ≤ 30
          · have hno : noG w N (r : Int) b = if allP N (fun i => w 190 (40 * (r : Int) + (i : Int))) (w 189 (r : Int)).toNat 0 = true then 0 else -3 := by
              unfold noG; rw [if_pos hlb, if_neg hne, if_pos h30]
            obtain ⟨n, hn⟩ : ∃ n : Nat, w 189 (r : Int) = (n : Int) := ⟨(w 189 (r : Int)).toNat, by omega⟩
            rw [hn, Int.toNat_natCast] at hno
            rw [hno] at hQ
            rw [b01_t (decide_eq_true h30)]
            refine ⟨fun _ => ?_, fun h => absurd (by decide) h⟩
            have key : ∀ (m i : Nat) (a3 : Int), i + m = n → a3 = (i : Int) → allP N (fun i => w 190 (40 * (r : Int) + (i : Int))) m i = allP N (fun i => w 190 (40 * (r : Int) + (i : Int))) n 0 → T (d + 2) 199 61 [some (vr 167), some (vi (r : Int)), some (vi b), some (vi a3)] [] w Q := by
              intro m
              induction m with
              | zero =>
                intro i a3 hm ha he
                rw [g199_61, hn]
                refine ⟨by omega, fun _ => ?_, fun h => absurd (by omega) h⟩
                rw [← he, allP, if_pos rfl] at hQ
                exact hQ
              | succ m ih =>
                intro i a3 hm ha he
                subst ha
                have t0 : Unit → w32 (w32 (40 * (r : Int)) + (i : Int)) = 40 * (r : Int) + (i : Int) := fun _ => by rw [w32_id (x := 40 * (r : Int)) (by omega) (by omega), w32_id (by omega) (by omega)]
                rw [g199_61, hn, t0 ()]
                refine ⟨by omega, fun h => absurd h (by omega), fun _ => ⟨by omega, ?_⟩⟩
                rw [k_isPose h2 hN]
                simp only [tl_some]
                rw [g199_86]
                by_cases hp : 0 ≤ w 190 (40 * (r : Int) + (i : Int)) ∧ w 190 (40 * (r : Int) + (i : Int)) < ((2 ^ N : Nat) : Int)
                · rw [b01_t (decide_eq_true hp)]
                  refine ⟨fun _ => ih (i + 1) _ (by omega) (by rw [w32_id (by omega) (by omega)]; omega) ?_, fun h => absurd (by decide) h⟩
                  rw [← he, allP, decide_eq_true hp, Bool.true_and]
                · rw [b01_f (decide_eq_false hp)]
                  refine ⟨fun h => absurd rfl h, fun _ => ?_⟩
                  rw [allP, decide_eq_false hp, Bool.false_and] at he
                  rw [← he] at hQ
                  exact hQ
            exact key n 0 _ (by omega) rfl rfl
          · rw [b01_f (decide_eq_false h30)]
            refine ⟨fun h => absurd rfl h, fun _ => ?_⟩
            unfold noG at hQ
            rw [if_pos hlb, if_neg hne, if_neg h30] at hQ
            exact hQ
      · unfold noG at hQ
        rw [if_pos hlb, if_pos (Classical.byContradiction he)] at hQ
        exact hQ
    · rw [b01_f (decide_eq_false hb)]
      refine ⟨fun h => absurd rfl h, fun _ => ?_⟩
      rw [g199_21]
      unfold noG at hQ
      rw [if_neg (fun q => hb q.2)] at hQ
      exact hQ
  · rw [b01_f (decide_eq_false hl)]
    refine ⟨fun _ => ?_, fun h => absurd rfl h⟩
    rw [g199_21]
    unfold noG at hQ
    rw [if_neg (by omega)] at hQ
    exact hQ
/-- the film as the reference has it -/
def FmR (w : aW) (r F : Nat) (fr : Nat → Nat) : Prop := w 189 (r : Int) = (F : Int) ∧ ∀ i : Nat, i < F → w 190 (40 * (r : Int) + (i : Int)) = (fr i : Int) ∧ fr i < 1024
/-- isFit(row, l, set, need) -/
theorem k_isFit {r l S n F : Nat} {fr : Nat → Nat} {x5 x6 : Option aV} (hr : r < 4) (hl : l < 10) (hF : FmR w r F fr) (hF2 : 2 ≤ F) (hF30 : F ≤ 30) (hS : S < 1024) (hn1 : 1 ≤ n) (hn2 : n ≤ bsN S 16)
    (hQ : Q (some (vi (b01 (decide (loF fr l S (F - 1) ≤ n ∧ n ≤ hiF fr l S (F - 1)))))) w) : T (d + 1) 264 0 [some (vr 167), some (vi (r : Int)), some (vi (l : Int)), some (vi (S : Int)), some (vi (n : Int)), x5, x6] [] w Q := by
  have hb16 := bs16 (a := S)
  rw [g264_0]
  have key : ∀ (m i : Nat) (a5 : Int) (y6 : Option aV), i + m = F - 1 → a5 = (i : Int) → (∀ j, j < i → decide (n ≤ cnF fr S j) = uB fr l j) → T (d + 1) 264 3 [some (vr 167), some (vi (r : Int)), some (vi (l : Int)), some (vi (S : Int)), some (vi (n : Int)), some (vi a5), y6] [] w Q := by
    intro m
    induction m with
    | zero =>
      intro i a5 y6 hm ha he
      subst ha
      rw [g264_3, hF.1, w32_id (x := (i : Int) + 1) (by omega) (by omega)]
      refine ⟨by omega, fun _ => ?_, fun h => absurd (by omega) h⟩
      rw [decide_eq_true ((lohi (F - 1)).mpr ⟨hn1, hn2, fun j hj => he j (by omega)⟩)] at hQ
      exact hQ
    | succ m ih =>
      intro i a5 y6 hm ha he
      subst ha
      have t0 : Unit → w32 (w32 (40 * (r : Int)) + (i : Int)) = 40 * (r : Int) + (i : Int) := fun _ => by rw [w32_id (x := 40 * (r : Int)) (by omega) (by omega), w32_id (by omega) (by omega)]
      have t2 : Unit → w32 (40 * (r : Int) + (i : Int) + 1) = 40 * (r : Int) + ((i + 1 : Nat) : Int) := fun _ => by rw [w32_id (by omega) (by omega)]; omega
      obtain ⟨f1, f2⟩ := hF.2 i (by omega)
      obtain ⟨f3, f4⟩ := hF.2 (i + 1) (by omega)
      have hand : fr i &&& S < 1024 := Nat.lt_of_le_of_lt Nat.and_le_right hS
      rw [g264_3, hF.1, w32_id (x := (i : Int) + 1) (by omega) (by omega), t0 (), f1, w32_id (x := (fr i : Int)) (by omega) (by omega), jand_n (by omega)]
      refine ⟨by omega, fun h => absurd h (by omega), fun _ => ⟨by omega, ?_⟩⟩
      rw [k_bitsOf (by omega), bsN_i]
      simp only [tl_some]
      rw [g264_34]
      have ec : bsN (fr i &&& S) 16 = cnF fr S i := rfl
      have h44 : ∀ s0 : Int, s0 = b01 (decide (n ≤ cnF fr S i)) → T (d + 1) 264 44 [some (vr 167), some (vi (r : Int)), some (vi (l : Int)), some (vi (S : Int)), some (vi (n : Int)), some (vi (i : Int)), y6] [vi s0] w Q := by
        intro s0 hs0
        rw [g264_44, t0 (), t2 (), f3]
        refine ⟨by omega, ?_⟩
        rw [k_isIn (by omega) (by omega)]
        simp only [tl_some]
        rw [g264_66]
        have eu : bI (fr (i + 1)) l = b01 (uB fr l i) := rfl
        rw [eu, hs0]
        refine ⟨fun h => ?_, fun h => ?_⟩
        · refine ih (i + 1) _ _ (by omega) (by rw [w32_id (by omega) (by omega)]; omega) (fun j hj => ?_)
          by_cases z : j = i
          · subst z
            revert h
            cases decide (n ≤ cnF fr S j) <;> cases uB fr l j <;> decide
          · exact he j (by omega)
        · rw [decide_eq_false (fun q => h (by rw [((lohi (F - 1)).mp q).2.2 i (by omega)]))] at hQ
          exact hQ
      rw [ec]
      refine ⟨fun h => h44 0 ?_, fun h => h44 1 ?_⟩
      · rw [decide_eq_false (show ¬ n ≤ cnF fr S i by omega)]; rfl
      · rw [decide_eq_true (show n ≤ cnF fr S i by omega)]; rfl
  exact key (F - 1) 0 _ _ (by omega) rfl (fun j hj => absurd hj (Nat.not_lt_zero _))
def RsR (w : aW) (R : List Nat) : Prop := w 167 33 = (R.length : Int) ∧ ∀ (i : Nat) (h : i < R.length), w 187 (i : Int) = (R[i] : Int)
theorem RsR_add {R : List Nat} {g : Nat} (h : RsR w R) : RsR (iup (iup w 187 (R.length : Int) (g : Int)) 167 33 ((R.length + 1 : Nat) : Int)) (R ++ [g]) := by
  obtain ⟨h1, h2⟩ := h
  refine ⟨by rw [iup_s, List.length_append]; rfl, fun i hi => ?_⟩
  rw [List.length_append] at hi
  have hl : i < R.length ∨ i = R.length := by have : ([g] : List Nat).length = 1 := rfl; omega
  rw [iup_c (by decide)]
  rcases hl with hl | hl
  · rw [List.getElem_append_left hl, iup_i (by omega)]; exact h2 i hl
  · subst hl
    rw [List.getElem_concat_length rfl, iup_s]
def exP (S lo hi k : Nat) : List Nat := (List.range (min (hi + 1) k - lo)).map fun j => 16 * S + lo + j
theorem exP_y {S lo hi k : Nat} (h : lo ≤ k ∧ k ≤ hi) : exP S lo hi (k + 1) = exP S lo hi k ++ [16 * S + k] := by
  unfold exP
  rw [show min (hi + 1) (k + 1) - lo = (k - lo) + 1 by omega, show min (hi + 1) k - lo = k - lo by omega, List.range_succ, List.map_append]
  congr 1
  show [16 * S + lo + (k - lo)] = _
  rw [show 16 * S + lo + (k - lo) = 16 * S + k by omega]
theorem exP_n {S lo hi k : Nat} (h : ¬ (lo ≤ k ∧ k ≤ hi)) : exP S lo hi (k + 1) = exP S lo hi k := by
  unfold exP
  rw [show min (hi + 1) (k + 1) - lo = min (hi + 1) k - lo by omega]
theorem exP_len {S lo hi k : Nat} : (exP S lo hi k).length ≤ k - lo := by
  unfold exP
  rw [List.length_map, List.length_range]
  omega
/-- laysGuesses(row, l) -/
theorem k_laysG {r l N F : Nat} {fr : Nat → Nat} {x3 x4 : Option aV} (hr : r < 4) (hN : N ≤ 10) (h2 : w 168 2 = (N : Int)) (hl : l < N) (hF : FmR w r F fr) (hF2 : 2 ≤ F) (hF30 : F ≤ 30)
    (hQ : ∀ w', (∀ c i, c ≠ 187 → ¬ (c = 167 ∧ i = 33) → w' c i = w c i) → RsR w' (rL (gL fr l (F - 1) (2 ^ N))) → Q none w') : T (d + 2) 200 0 [some (vr 167), some (vi (r : Int)), some (vi (l : Int)), x3, x4] [] w Q := by
  have hN2 := two10 hN
  rw [g200_0]
  have key : ∀ (m S : Nat) (w1 : aW) (a3 : Int) (y4 : Option aV), S + m = 2 ^ N → 1 ≤ S → a3 = (S : Int) → (∀ c i, c ≠ 187 → ¬ (c = 167 ∧ i = 33) → w1 c i = w c i) → RsR w1 (rL (gL fr l (F - 1) S)) → T (d + 2) 200 7 [some (vr 167), some (vi (r : Int)), some (vi (l : Int)), some (vi a3), y4] [] w1 Q := by
    intro m
    induction m with
    | zero =>
      intro S w1 a3 y4 hm h1 ha hw hg
      rw [g200_7, k_poses (by rw [hw 168 2 (by decide) (by decide)]; exact h2) hN]
      simp only [tl_some]
      rw [g200_12]
      refine ⟨fun _ => ?_, fun h => absurd (by omega) h⟩
      rw [show S = 2 ^ N by omega] at hg
      exact hQ w1 hw hg
    | succ m ih =>
      intro S w1 a3 y4 hm h1 ha hw hg
      subst ha
      have t1 : Unit → w32 ((S : Int) + 1) = ((S + 1 : Nat) : Int) := fun _ => by rw [w32_id (by omega) (by omega)]; omega
      rw [g200_7, k_poses (by rw [hw 168 2 (by decide) (by decide)]; exact h2) hN]
      simp only [tl_some]
      rw [g200_12]
      refine ⟨fun h => absurd h (by omega), fun _ => ?_⟩
      rw [k_isIn (by omega) (by omega)]
      simp only [tl_some]
      rw [g200_21]
      refine ⟨fun h => ?_, fun h => ?_⟩
      · have hb : S.testBit l = false := bI_0.mp h
        have hhs := hs_le (l := l) (n := S + 1) (by omega) (by omega)
        rw [hsN, if_neg (by rw [hb]; decide)] at hhs
        have htl := tot_le (fr := fr) (l := l) (m := F - 1) S
        have hbl := rL_len (gL fr l (F - 1) S)
        have hlo := lo_1 (fr := fr) (l := l) (S := S) (m := F - 1)
        have hhi := hi_b (fr := fr) (l := l) (S := S) (m := F - 1)
        have b10 := bs10 S (by omega)
        have hend : rL (gL fr l (F - 1) (S + 1)) = rL (gL fr l (F - 1) S) ++ exP S (loF fr l S (F - 1)) (hiF fr l S (F - 1)) (bsN S 16 + 1) := by
          rw [gL, rL_app]
          congr 1
          by_cases q : loF fr l S (F - 1) ≤ hiF fr l S (F - 1)
          · have hg : gdB fr l (F - 1) S = true := by unfold gdB; rw [decide_eq_true q, hb, decide_eq_true (show S ≠ 0 by omega)]; rfl
            rw [if_pos hg, rL, rL, List.append_nil]
            unfold exL exP
            rw [show min (hiF fr l S (F - 1) + 1) (bsN S 16 + 1) = hiF fr l S (F - 1) + 1 by omega]
          · have hg : gdB fr l (F - 1) S = false := by unfold gdB; rw [decide_eq_false q, Bool.and_false]
            rw [if_neg (by rw [hg]; decide), rL]
            unfold exP
            rw [show min (hiF fr l S (F - 1) + 1) (bsN S 16 + 1) - loF fr l S (F - 1) = 0 by omega]
            rfl
        have key2 : ∀ (m k : Nat) (w2 : aW) (a4 : Int), k + m = bsN S 16 + 1 → 1 ≤ k → a4 = (k : Int) → (∀ c i, c ≠ 187 → ¬ (c = 167 ∧ i = 33) → w2 c i = w c i) → RsR w2 (rL (gL fr l (F - 1) S) ++ exP S (loF fr l S (F - 1)) (hiF fr l S (F - 1)) k) → T (d + 2) 200 30 [some (vr 167), some (vi (r : Int)), some (vi (l : Int)), some (vi (S : Int)), some (vi a4)] [] w2 Q := by
          intro m
          induction m with
          | zero =>
            intro k w2 a4 hk k1 ha hw2 hR
            rw [g200_30, k_bitsOf (by omega), bsN_i]
            simp only [tl_some]
            rw [g200_36]
            refine ⟨fun _ => ?_, fun h => absurd (by omega) h⟩
            rw [g200_86, t1 ()]
            refine ih (S + 1) w2 _ _ (by omega) (by omega) rfl hw2 ?_
            rw [hend, ← show k = bsN S 16 + 1 by omega]
            exact hR
          | succ m ih2 =>
            intro k w2 a4 hk k1 ha hw2 hR
            subst ha
            have t4 : Unit → w32 ((k : Int) + 1) = ((k + 1 : Nat) : Int) := fun _ => by rw [w32_id (by omega) (by omega)]; omega
            rw [g200_30, k_bitsOf (by omega), bsN_i]
            simp only [tl_some]
            rw [g200_36]
            refine ⟨fun h => absurd h (by omega), fun _ => ?_⟩
            refine k_isFit (fr := fr) hr (by omega) ⟨by rw [hw2 189 _ (by decide) (by omega)]; exact hF.1, fun i hi => by rw [hw2 190 _ (by decide) (by omega)]; exact hF.2 i hi⟩ hF2 hF30 (by omega) (by omega) (by omega) ?_
            simp only [tl_some]
            rw [g200_48]
            by_cases q : loF fr l S (F - 1) ≤ k ∧ k ≤ hiF fr l S (F - 1)
            · rw [b01_t (decide_eq_true q)]
              refine ⟨fun _ => ?_, fun h => absurd (by decide) h⟩
              have hlen : (rL (gL fr l (F - 1) S) ++ exP S (loF fr l S (F - 1)) (hiF fr l S (F - 1)) k).length ≤ 2304 := by
                have := exP_len (S := S) (lo := loF fr l S (F - 1)) (hi := hiF fr l S (F - 1)) (k := k)
                rw [List.length_append]
                omega
              have hadd := RsR_add (g := 16 * S + k) hR
              rw [List.append_assoc, ← exP_y q] at hadd
              generalize rL (gL fr l (F - 1) S) ++ exP S (loF fr l S (F - 1)) (hiF fr l S (F - 1)) k = R at *
              have e1 : Unit → w32 (w32 (16 * (S : Int)) + (k : Int)) = ((16 * S + k : Nat) : Int) := fun _ => by rw [w32_id (x := 16 * (S : Int)) (by omega) (by omega), w32_id (by omega) (by omega)]; omega
              have e2 : Unit → w32 ((R.length : Int) + 1) = ((R.length + 1 : Nat) : Int) := fun _ => by rw [w32_id (by omega) (by omega)]; omega
              rw [iup_c (show (167 : Nat) ≠ 187 by decide), hR.1, e1 (), e2 ()]
              refine ⟨by omega, ?_⟩
              rw [g200_80, t4 ()]
              refine ih2 (k + 1) _ _ (by omega) (by omega) rfl (fun c i q1 q2 => by rw [iup_n q2, iup_c q1]; exact hw2 c i q1 q2) ?_
              exact hadd
            · rw [b01_f (decide_eq_false q)]
              refine ⟨fun h => absurd rfl h, fun _ => ?_⟩
              rw [g200_80, t4 ()]
              refine ih2 (k + 1) w2 _ (by omega) (by omega) rfl hw2 ?_
              rw [exP_n q]
              exact hR
        refine key2 (bsN S 16) 1 w1 _ (by omega) (by omega) rfl hw ?_
        have e0 : exP S (loF fr l S (F - 1)) (hiF fr l S (F - 1)) 1 = [] := by
          unfold exP
          rw [show min (hiF fr l S (F - 1) + 1) 1 - loF fr l S (F - 1) = 0 by omega]
          rfl
        rw [e0, List.append_nil]
        exact hg
      · have hb : S.testBit l = true := bI_1.mp (by rcases bI_01 S l with z | z <;> omega)
        rw [g200_86, t1 ()]
        refine ih (S + 1) w1 _ _ (by omega) (by omega) rfl hw ?_
        rw [gL, if_neg (by unfold gdB; rw [hb]; simp), List.append_nil]
        exact hg
  have hg0 : gL fr l (F - 1) 1 = [] := by
    rw [gL, gL, if_neg (by unfold gdB; simp)]
    rfl
  refine key (2 ^ N - 1) 1 _ _ _ (by omega) (by omega) rfl (fun c i q1 q2 => iup_n q2) ?_
  rw [hg0]
  exact ⟨by rw [iup_s]; rfl, fun i hi => absurd hi (Nat.not_lt_zero _)⟩
end FilmA
