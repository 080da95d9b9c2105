/-! Tokens of a text (pure); how the class cuts them. -/
def blB (c : Int) : Bool := decide (c = 10 ∨ c = 32)
def leB (c : Int) : Bool := decide (97 ≤ c ∧ c ≤ 122)
def diB (c : Int) : Bool := decide (48 ≤ c ∧ c ≤ 57)
def runF (p : Int → Bool) (b : Nat → Int) : Nat → Nat → Nat
  | 0, i => i
  | m + 1, i => if p (b i) = true then runF p b m (i + 1) else i
/-- where a row of such bytes ends -/
def enF (p : Int → Bool) (b : Nat → Int) (n i : Nat) : Nat := runF p b (n - i) i
theorem enF_s {p : Int → Bool} {b : Nat → Int} {n i : Nat} (h : i < n) : enF p b n i = if p (b i) = true then enF p b n (i + 1) else i := by
  unfold enF
  rw [show n - i = (n - (i + 1)) + 1 by omega, runF]
theorem enF_n {p : Int → Bool} {b : Nat → Int} {n i : Nat} (h : n ≤ i) : enF p b n i = i := by
  unfold enF
  rw [show n - i = 0 by omega, runF]
theorem enF_b {p : Int → Bool} {b : Nat → Int} {n : Nat} : ∀ (m i : Nat), i + m = n → i ≤ enF p b n i ∧ enF p b n i ≤ n := by
  intro m
  induction m with
  | zero => intro i h; rw [enF_n (by omega)]; omega
  | succ m ih =>
    intro i h
    have := ih (i + 1) (by omega)
    rw [enF_s (by omega)]
    split <;> omega
theorem enF_le {p : Int → Bool} {b : Nat → Int} {n i : Nat} (h : i ≤ n) : i ≤ enF p b n i ∧ enF p b n i ≤ n := enF_b (n - i) i (by omega)
theorem enF_f {p : Int → Bool} {b : Nat → Int} {n : Nat} : ∀ (m i : Nat), i + m = n → enF p b n i < n → p (b (enF p b n i)) = false := by
  intro m
  induction m with
  | zero => intro i h h2; rw [enF_n (by omega)] at h2; omega
  | succ m ih =>
    intro i h h2
    rw [enF_s (by omega)] at h2 ⊢
    cases q : p (b i) with
    | true => rw [q, if_pos rfl] at h2; rw [if_pos rfl]; exact ih (i + 1) (by omega) h2
    | false => rw [if_neg Bool.false_ne_true]; exact q
/-- the number that k digits tell -/
def nvF (b : Nat → Int) (s : Nat) : Nat → Int
  | 0 => 0
  | k + 1 => 10 * nvF b s k + (b (s + k) - 48)
/-- the kind of the token that begins at s, as the class has it; where it ends; its number -/
def tkK (b : Nat → Int) (n s : Nat) : Int :=
  if n ≤ s then 0 else if leB (b s) = true then (if wxF b s (enF leB b n s) 14 0 = 14 then 200 else 201 + (wxF b s (enF leB b n s) 14 0 : Nat))
  else if diB (b s) = true then (if 3 < enF diB b n s - s then -1 else 1) else if sgB (b s) = true then b s else -1
def tkE (b : Nat → Int) (n s : Nat) : Nat := if n ≤ s then s else if leB (b s) = true then enF leB b n s else if diB (b s) = true then enF diB b n s else s + 1
def tkV (b : Nat → Int) (n s : Nat) : Int := nvF b s (enF diB b n s - s)
def tkP (b : Nat → Int) (n : Nat) : Nat → Nat
  | 0 => 0
  | k + 1 => tkE b n (enF blB b n (tkP b n k))
/-- where token k begins -/
def tkS (b : Nat → Int) (n k : Nat) : Nat := enF blB b n (tkP b n k)
theorem tkE_le {b : Nat → Int} {n s : Nat} (h : s < n) : s < tkE b n s ∧ tkE b n s ≤ n := by
  unfold tkE
  rw [if_neg (by omega)]
  by_cases q : leB (b s) = true
  · rw [if_pos q, enF_s h, if_pos q]
    have := enF_le (p := leB) (b := b) (n := n) (i := s + 1) (by omega)
    omega
  · rw [if_neg q]
    by_cases q2 : diB (b s) = true
    · rw [if_pos q2, enF_s h, if_pos q2]
      have := enF_le (p := diB) (b := b) (n := n) (i := s + 1) (by omega)
      omega
    · rw [if_neg q2]; omega
theorem tkP_le {b : Nat → Int} {n : Nat} : ∀ k, tkP b n k ≤ n := by
  intro k
  induction k with
  | zero => exact Nat.zero_le _
  | succ k ih =>
    have h1 := enF_le (p := blB) (b := b) ih
    rw [tkP]
    by_cases z : enF blB b n (tkP b n k) < n
    · exact (tkE_le z).2
    · unfold tkE
      rw [if_pos (by omega)]; omega
theorem tkS_le {b : Nat → Int} {n k : Nat} : tkP b n k ≤ tkS b n k ∧ tkS b n k ≤ n := enF_le (tkP_le k)
theorem tkK_0 {b : Nat → Int} {n s : Nat} (h : s < n) : tkK b n s ≠ 0 := by
  unfold tkK
  rw [if_neg (by omega)]
  split
  · split <;> omega
  · split
    · split <;> omega
    · split
      · next q =>
        obtain ⟨i, i1, i2⟩ := sgB_t.mp q
        have := sg_pos i i1
        omega
      · omega
theorem tkS_t {b : Nat → Int} {n k : Nat} (h : tkS b n k < n) : blB (b (tkS b n k)) = false := enF_f (n - tkP b n k) _ (by have := tkP_le (b := b) (n := n) k; omega) h
/-- so many tokens are cut -/
def TkC (w : aW) (b : Nat → Int) (n k : Nat) : Prop :=
  w 1 8 = (k : Int) ∧ ∀ j : Nat, j < k → w 13 (j : Int) = tkK b n (tkS b n j) ∧ w 14 (j : Int) = ((tkS b n j : Nat) : Int) ∧ (tkK b n (tkS b n j) = 1 → w 15 (j : Int) = tkV b n (tkS b n j))
def TpB (w : aW) (b : Nat → Int) (n : Nat) : Prop := ∀ i : Nat, i < n → w 2 (i : Int) = j8 (b i)
def ByB (b : Nat → Int) (n : Nat) : Prop := ∀ i : Nat, i < n → 0 ≤ b i ∧ b i ≤ 255
section Toks
variable {d : Nat} {w : aW} {Q : Option aV → aW → Prop}
theorem j8_i {c : Int} (h0 : 0 ≤ c) (h1 : c ≤ 255) : j8 c = if c < 128 then c else c - 256 := by
  obtain ⟨k, rfl⟩ : ∃ k : Nat, c = (k : Int) := ⟨c.toNat, by omega⟩
  rw [j8_v k (by omega)]
  split <;> split <;> omega
theorem k_isBlank {c : Int} (h0 : 0 ≤ c) (h1 : c ≤ 255) : T d 208 0 [some (vi (j8 c))] [] w Q = Q (some (vi (b01 (blB c)))) w := by
  have hj := j8_i h0 h1
  unfold blB
  rw [g208_0]
  by_cases q : c = 10 ∨ c = 32
  · rw [if_pos (by omega)] at hj
    rw [hj, decide_eq_true q]
    rcases q with q | q
    · rw [if_t q, g208_12, g208_17, gd (Or.inr rfl)]; rfl
    · rw [if_f (show ¬ (c = 10) by omega), if_f (fun z => z q), g208_12, g208_17, gd (Or.inr rfl)]; rfl
  · have h2 : ¬ (j8 c = 10) ∧ ¬ (j8 c = 32) := by
      split at hj <;> omega
    rw [decide_eq_false q, if_f h2.1, if_t h2.2, g208_17, gd (Or.inl rfl)]; rfl
theorem k_isLetter {c : Int} (h0 : 0 ≤ c) (h1 : c ≤ 255) : T d 268 0 [some (vi (j8 c))] [] w Q = Q (some (vi (b01 (leB c)))) w := by
  have hj := j8_i h0 h1
  unfold leB
  rw [g268_0]
  by_cases q : 97 ≤ c ∧ c ≤ 122
  · rw [if_pos (by omega)] at hj
    rw [hj, decide_eq_true q, if_f (show ¬ (c < 97) by omega), if_f (show ¬ (122 < c) by omega), g268_17, gd (Or.inr rfl)]; rfl
  · rw [decide_eq_false q]
    by_cases z : j8 c < 97
    · rw [if_t z, g268_16, g268_17, gd (Or.inl rfl)]; rfl
    · rw [if_f z, if_t (show 122 < j8 c by split at hj <;> omega), g268_16, g268_17, gd (Or.inl rfl)]; rfl
theorem k_isDigitC {c : Int} (h0 : 0 ≤ c) (h1 : c ≤ 255) : T d 270 0 [some (vi (j8 c))] [] w Q = Q (some (vi (b01 (diB c)))) w := by
  have hj := j8_i h0 h1
  unfold diB
  rw [g270_0]
  by_cases q : 48 ≤ c ∧ c ≤ 57
  · rw [if_pos (by omega)] at hj
    rw [hj, decide_eq_true q, if_f (show ¬ (c < 48) by omega), if_f (show ¬ (57 < c) by omega), g270_17, gd (Or.inr rfl)]; rfl
  · rw [decide_eq_false q]
    by_cases z : j8 c < 48
    · rw [if_t z, g270_16, g270_17, gd (Or.inl rfl)]; rfl
    · rw [if_f z, if_t (show 57 < j8 c by split at hj <;> omega), g270_16, g270_17, gd (Or.inl rfl)]; rfl
/-- addToken(kind, start, number) -/
theorem k_addToken {k : Nat} {a1 a2 a3 : Int} (h8 : w 1 8 = (k : Int)) (hk : k ≤ 900)
    (hQ : ∀ w' : aW, (∀ c i, ¬ (c = 1 ∧ i = 8) → ¬ (13 ≤ c ∧ c ≤ 15 ∧ i = (k : Int)) → w' c i = w c i) → w' 1 8 = ((k + 1 : Nat) : Int) → w' 13 (k : Int) = a1 → w' 14 (k : Int) = a2 → w' 15 (k : Int) = a3 → Q none w') :
    T d 210 0 [some (vr 1), some (vi a1), some (vi a2), some (vi a3)] [] w Q := by
  have tk : Unit → w32 ((k : Int) + 1) = ((k + 1 : Nat) : Int) := fun _ => by rw [w32_id (by omega) (by omega)]; omega
  rw [g210_0]
  simp only [iup_c (show (1 : Nat) ≠ 13 by decide), iup_c (show (1 : Nat) ≠ 14 by decide), iup_c (show (1 : Nat) ≠ 15 by decide), h8]
  refine ⟨fun h => absurd h (by omega), fun _ => ⟨by omega, by omega, by omega, ?_⟩⟩
  rw [g210_50, tk ()]
  refine hQ _ (fun c i q1 q2 => ?_) iup_s ?_ ?_ ?_
  · have g1 : iup (iup (iup (iup w 13 (k : Int) a1) 14 (k : Int) a2) 15 (k : Int) a3) 1 8 ((k + 1 : Nat) : Int) c i = iup (iup (iup w 13 (k : Int) a1) 14 (k : Int) a2) 15 (k : Int) a3 c i := by
      unfold iup; rw [if_neg q1]
    rw [g1]
    by_cases z : i = (k : Int)
    · rw [iup_c (by omega), iup_c (by omega), iup_c (by omega)]
    · rw [iup_i z, iup_i z, iup_i z]
  · rw [iup_c (by decide), iup_c (by decide), iup_c (by decide), iup_s]
  · rw [iup_c (by decide), iup_c (by decide), iup_s]
  · rw [iup_c (by decide), iup_s]
/-- isWord(start, end, begin, behind) -/
theorem k_isWord {b : Nat → Int} {n s e j : Nat} {x5 : Option aV} (hn : n ≤ 900) (hB : ByB b n) (hT : TpB w b n) (hse : s ≤ e) (he : e ≤ n) (hj : j < 14) (hQ : Q (some (vi (b01 (maB b s e j)))) w) :
    T (d + 4) 295 0 [some (vr 1), some (vi (s : Int)), some (vi (e : Int)), some (vi ((woF j : Nat) : Int)), some (vi ((woF j + wlF j : Nat) : Int)), x5] [] w Q := by
  obtain ⟨w1, w2, w3, w4⟩ := wo_ok j hj
  have e1 : Unit → w32 ((e : Int) - (s : Int)) = ((e - s : Nat) : Int) := fun _ => by rw [w32_id (by omega) (by omega)]; omega
  have e2 : Unit → w32 (((woF j + wlF j : Nat) : Int) - ((woF j : Nat) : Int)) = ((wlF j : Nat) : Int) := fun _ => by rw [w32_id (by omega) (by omega)]; omega
  rw [g295_0, e1 (), e2 ()]
  refine ⟨fun h => ?_, fun h => ?_⟩
  · have hl : e - s = wlF j := by omega
    have key : ∀ (m i : Nat) (a5 : Int), i + m = wlF j → a5 = (i : Int) → (∀ q, q < i → b (s + q) = sBy 0 ((woF j + q : Nat) : Int)) → T (d + 4) 295 15 [some (vr 1), some (vi (s : Int)), some (vi (e : Int)), some (vi ((woF j : Nat) : Int)), some (vi ((woF j + wlF j : Nat) : Int)), some (vi a5)] [] w Q := by
      intro m
      induction m with
      | zero =>
        intro i a5 hi h5 hq
        rw [g295_15, e1 ()]
        refine ⟨fun _ => ?_, fun h => absurd (by omega) h⟩
        rw [maB_t.mpr ⟨hl, fun q z => hq q (by omega)⟩] at hQ
        exact hQ
      | succ m ih =>
        intro i a5 hi h5 hq
        subst h5
        have i1 : Unit → w32 (((woF j : Nat) : Int) + (i : Int)) = ((woF j + i : Nat) : Int) := fun _ => by rw [w32_id (by omega) (by omega)]; omega
        have i2 : Unit → w32 ((s : Int) + (i : Int)) = ((s + i : Nat) : Int) := fun _ => by rw [w32_id (by omega) (by omega)]; omega
        have c1 := sBy_b 0 (by decide) (woF j + i) (show woF j + i < lnS 0 by rw [lnS_0]; omega)
        have c2 := hB (s + i) (by omega)
        have c3 := j8_i c2.1 c2.2
        have hch : ∀ Q' : Option aV → aW → Prop, T (d + 3) 227 0 [some (vr 1000), some (vi ((woF j + i : Nat) : Int))] [] w Q' = Q' (some (vi (sBy 0 ((woF j + i : Nat) : Int)))) w := fun Q' => k_charAt (k := 0) (by decide) (by rw [lnS_0]; omega)
        rw [g295_15, e1 (), i1 (), hch]
        refine ⟨fun h => absurd h (by omega), fun _ => ⟨by decide, ?_⟩⟩
        simp only [tl_some]
        rw [g295_32, i2 (), hT (s + i) (by omega)]
        refine ⟨by omega, fun h => ?_, fun h => ?_⟩
        · refine ih (i + 1) _ (by omega) (by rw [w32_id (by omega) (by omega)]; omega) (fun q hq' => ?_)
          by_cases z : q = i
          · subst z
            split at c3 <;> omega
          · exact hq q (by omega)
        · have hf : maB b s e j = false := by
            cases z : maB b s e j with
            | false => rfl
            | true =>
              have := (maB_t.mp z).2 i (by omega)
              rw [if_pos (by omega)] at c3
              omega
          rw [hf] at hQ
          exact hQ
    exact key (wlF j) 0 _ (by omega) rfl (fun q z => absurd z (Nat.not_lt_zero _))
  · have hf : maB b s e j = false := by
      cases z : maB b s e j with
      | false => rfl
      | true =>
        have := (maB_t.mp z).1
        omega
    rw [hf] at hQ
    exact hQ
/-- wordKind(start, end) -/
theorem k_wordKind {b : Nat → Int} {n s e : Nat} {x3 x4 x5 : Option aV} (hn : n ≤ 900) (hB : ByB b n) (hT : TpB w b n) (hse : s ≤ e) (he : e ≤ n)
    (hQ : Q (some (vi (if wxF b s e 14 0 = 14 then 200 else 201 + ((wxF b s e 14 0 : Nat) : Int)))) w) :
    T (d + 5) 269 0 [some (vr 1), some (vi (s : Int)), some (vi (e : Int)), x3, x4, x5] [] w Q := by
  rw [g269_0]
  have hln : ∀ Q' : Option aV → aW → Prop, T (d + 4) 226 0 [some (vr 1000)] [] w Q' = Q' (some (vi 68)) w := fun Q' => k_len (k := 0) (by decide)
  have key : ∀ (m j : Nat) (a3 a4 a5 : Int), j + m = 14 → a3 = 201 + (j : Int) → a4 = ((woF j : Nat) : Int) → a5 = ((woF j : Nat) : Int) → wxF b s e m j = wxF b s e 14 0 → T (d + 5) 269 10 [some (vr 1), some (vi (s : Int)), some (vi (e : Int)), some (vi a3), some (vi a4), some (vi a5)] [] w Q := by
    intro m
    induction m with
    | zero =>
      intro j a3 a4 a5 hj h3 h4 h5 hx
      have hj' : j = 14 := by omega
      subst hj'
      have h68 : woF 14 = 68 := by decide +kernel
      rw [g269_10, gd (by decide), hln]
      simp only [tl_some]
      rw [g269_17]
      refine ⟨fun _ => ?_, fun h => absurd (by omega) h⟩
      rw [← hx, wxF, if_pos rfl] at hQ
      exact hQ
    | succ m ih =>
      intro j a3 a4 a5 hj h3 h4 h5 hx
      have hj14 : j < 14 := by omega
      obtain ⟨w1, w2, w3, w4⟩ := wo_ok j hj14
      subst h4
      have key2 : ∀ (q i : Nat) (a5 : Int), i + q = wlF j → a5 = ((woF j + i : Nat) : Int) → T (d + 5) 269 10 [some (vr 1), some (vi (s : Int)), some (vi (e : Int)), some (vi a3), some (vi ((woF j : Nat) : Int)), some (vi a5)] [] w Q := by
        intro q
        induction q with
        | zero =>
          intro i a5 hi h5
          have hi' : i = wlF j := by omega
          subst hi'
          subst h5
          have hch : ∀ Q' : Option aV → aW → Prop, T (d + 4) 227 0 [some (vr 1000), some (vi ((woF j + wlF j : Nat) : Int))] [] w Q' = Q' (some (vi (sBy 0 ((woF j + wlF j : Nat) : Int)))) w := fun Q' => k_charAt (k := 0) (by decide) (by rw [lnS_0]; omega)
          rw [g269_10, gd (by decide), hln]
          simp only [tl_some]
          rw [g269_17, hch, w4]
          refine ⟨fun h => absurd h (by omega), fun _ => ⟨by decide, ?_⟩⟩
          simp only [tl_some]
          rw [g269_27]
          refine ⟨fun h => absurd rfl h, fun _ => ?_⟩
          refine k_isWord hn hB hT hse he hj14 ?_
          simp only [tl_some]
          rw [g269_42]
          rw [wxF] at hx
          refine ⟨fun h => ?_, fun h => ?_⟩
          · rw [b01_ne] at h
            rw [h, if_neg Bool.false_ne_true] at hx
            rw [g269_56, show w32 (((woF j + wlF j : Nat) : Int) + 1) = ((woF (j + 1) : Nat) : Int) by rw [w32_id (by omega) (by omega)]; omega]
            exact ih (j + 1) _ _ _ (by omega) (by rw [w32_id (by omega) (by omega)]; omega) rfl rfl hx
          · rw [b01_ne, Bool.not_eq_false] at h
            rw [h, if_pos rfl] at hx
            rw [← hx, if_neg (by omega)] at hQ
            rw [h3]; exact hQ
        | succ q ihq =>
          intro i a5 hi h5
          subst h5
          have hch : ∀ Q' : Option aV → aW → Prop, T (d + 4) 227 0 [some (vr 1000), some (vi ((woF j + i : Nat) : Int))] [] w Q' = Q' (some (vi (sBy 0 ((woF j + i : Nat) : Int)))) w := fun Q' => k_charAt (k := 0) (by decide) (by rw [lnS_0]; omega)
          rw [g269_10, gd (by decide), hln]
          simp only [tl_some]
          rw [g269_17, hch]
          refine ⟨fun h => absurd h (by omega), fun _ => ⟨by decide, ?_⟩⟩
          simp only [tl_some]
          rw [g269_27]
          refine ⟨fun _ => ?_, fun h => absurd (w3 i (by omega)) h⟩
          rw [g269_56]
          exact ihq (i + 1) _ (by omega) (by rw [w32_id (by omega) (by omega)]; omega)
      exact key2 (wlF j) 0 a5 (by omega) (by rw [h5, Nat.add_zero])
  exact key 14 0 _ _ _ (by omega) rfl rfl rfl rfl
end Toks
