/-! Rules: the numbers that stand open, as a list (the newest first); what codes do to it. -/
/-- words hold a row of open numbers -/
def stk (f : Int → Int) : List Int → Prop
  | [] => True
  | x :: s => f (s.length : Int) = x ∧ stk f s
theorem stk_cg {f g : Int → Int} : ∀ {s : List Int}, (∀ i : Int, i < (s.length : Int) → g i = f i) → stk f s → stk g s
  | [], _, _ => trivial
  | x :: s, h, h2 => ⟨by rw [h _ (by rw [List.length_cons]; omega)]; exact h2.1, stk_cg (fun i hi => h i (by rw [List.length_cons]; omega)) h2.2⟩
theorem stk_iup {w : aW} {c : Nat} {i x : Int} {s : List Int} (hi : (s.length : Int) ≤ i) (h : stk (w c) s) : stk (iup w c i x c) s := stk_cg (fun _ hj => iup_i (by omega)) h
theorem stk_push {w : aW} {c : Nat} {i x : Int} {s : List Int} (hi : i = (s.length : Int)) (h : stk (w c) s) : stk (iup w c i x c) (x :: s) := by
  subst hi
  exact ⟨iup_s, stk_iup (Int.le_refl _) h⟩
/-- a truth, or a number within bounds -/
def tyV (b : Bool) (x : Int) : Prop := if b = true then (x = 0 ∨ x = 1) else (-1000000 ≤ x ∧ x ≤ 1000000)
theorem tyV_b {b : Bool} {x : Int} (h : tyV b x) : -1000000 ≤ x ∧ x ≤ 1000000 := by
  unfold tyV at h
  split at h <;> omega
def tyS : List Bool → List Int → Prop
  | [], [] => True
  | b :: bs, x :: xs => tyV b x ∧ tyS bs xs
  | _, _ => False
theorem tyS_len : ∀ {ts : List Bool} {st : List Int}, tyS ts st → ts.length = st.length
  | [], [], _ => rfl
  | _ :: _, _ :: _, h => by rw [List.length_cons, List.length_cons, tyS_len h.2]
  | [], _ :: _, h => h.elim
  | _ :: _, [], h => h.elim
theorem tyC_cases {n c : Int} {ts ts' : List Bool} (hn : n ≤ 10) (h : tyC n c ts = some ts') :
    (c < 3000 ∧ ts' = false :: ts ∧ ((0 ≤ c ∧ c < 1000) ∨ c = 1100 ∨ c = 1101 ∨ (1000 ≤ c ∧ c < 1000 + n)))
    ∨ (c = 3008 ∧ ∃ s, ts = true :: s ∧ ts' = true :: s)
    ∨ (3000 ≤ c ∧ c ≤ 3007 ∧ ∃ s, ts = decide (3006 ≤ c) :: decide (3006 ≤ c) :: s ∧ ts' = decide (3003 ≤ c) :: s) := by
  unfold tyC at h
  split at h
  · next h1 => exact Or.inl ⟨by omega, by simpa using h.symm, Or.inl h1⟩
  · split at h
    · next h2 =>
      refine Or.inl ⟨by omega, by simpa using h.symm, ?_⟩
      rcases h2 with q | q | q
      · exact Or.inr (Or.inl q)
      · exact Or.inr (Or.inr (Or.inl q))
      · exact Or.inr (Or.inr (Or.inr q))
    · split at h
      · next h3 =>
        split at h
        · next s => exact Or.inr (Or.inl ⟨h3, s, rfl, by simpa using h.symm⟩)
        · cases h
      · split at h
        · next h4 =>
          split at h
          · next s =>
            refine Or.inr (Or.inr ⟨by omega, by omega, s, ?_, ?_⟩)
            · rw [decide_eq_false (show ¬ (3006 ≤ c) by omega)]
            · rw [decide_eq_false (show ¬ (3003 ≤ c) by omega)]; simpa using h.symm
          · cases h
        · split at h
          · next h5 =>
            split at h
            · next s =>
              refine Or.inr (Or.inr ⟨by omega, by omega, s, ?_, ?_⟩)
              · rw [decide_eq_false (show ¬ (3006 ≤ c) by omega)]
              · rw [decide_eq_true (show 3003 ≤ c by omega)]; simpa using h.symm
            · cases h
          · split at h
            · next h6 =>
              split at h
              · next s =>
                refine Or.inr (Or.inr ⟨by omega, by omega, s, ?_, ?_⟩)
                · rw [decide_eq_true (show 3006 ≤ c by omega)]
                · rw [decide_eq_true (show 3003 ≤ c by omega)]; simpa using h.symm
              · cases h
            · cases h
theorem btw_ty {c a b : Int} (h1 : 3000 ≤ c) (h2 : c ≤ 3007) : tyV (decide (3003 ≤ c)) (btw c a b) := by
  unfold tyV btw
  by_cases h : c ≤ 3002
  · rw [decide_eq_false (show ¬ (3003 ≤ c) by omega), if_neg (by decide), if_pos h]
    dsimp only
    split
    · omega
    · split <;> omega
  · rw [decide_eq_true (show 3003 ≤ c by omega), if_pos rfl, if_neg h]
    repeat' split
    all_goals omega
/-- what a code below 3000 puts down -/
def putC (l pose : Nat) (pl c : Int) : Int := if c < 1000 then c else if c = 1101 then pl else bI pose (if c = 1100 then l else (c - 1000).toNat)
theorem stepC_put {l pose : Nat} {pl c : Int} {st : List Int} (h : c < 3000) : stepC l pose pl c st = putC l pose pl c :: st := by unfold stepC putC; rw [if_pos h]
theorem stepC_not {l pose : Nat} {pl x : Int} {s : List Int} : stepC l pose pl 3008 (x :: s) = (1 - x) :: s := by unfold stepC; rw [if_neg (by decide), if_pos rfl]
theorem stepC_two {l pose : Nat} {pl c a b : Int} {s : List Int} (h1 : 3000 ≤ c) (h2 : c ≤ 3007) : stepC l pose pl c (b :: a :: s) = btw c a b :: s := by unfold stepC; rw [if_neg (by omega), if_neg (by omega)]
theorem putC_ty {l pose : Nat} {pl c : Int} (h0 : 0 ≤ pl) (h1 : pl ≤ 1000) (hc : 0 ≤ c) : tyV false (putC l pose pl c) := by
  unfold tyV putC
  rw [if_neg (by decide)]
  split
  · omega
  · split
    · omega
    · have := bI_le pose (if c = 1100 then l else (c - 1000).toNat)
      omega
theorem drop_all {cs : List Int} {n : Nat} (h : cs.length = n) : cs.drop n = [] := List.drop_eq_nil_of_le (by omega)
theorem okC_cons {n c : Int} {cs : List Int} {ts : List Bool} {r : List Bool} (h : okC n (c :: cs) ts = some r) : ∃ ts', tyC n c ts = some ts' ∧ ts'.length ≤ 64 ∧ okC n cs ts' = some r := by
  rw [okC] at h
  split at h
  · next ts' h1 =>
    split at h
    · next h2 => exact ⟨ts', h1, h2, h⟩
    · cases h
  · cases h
/-- the class's code of a number, a limb, the limb itself, pulls -/
theorem cd_num {c : Int} (h0 : 0 ≤ c) (h1 : c < 1000) : jdiv (cdR c) 1024 = 0 ∧ jrem (cdR c) 1024 = c := by
  obtain ⟨k, rfl⟩ : ∃ k : Nat, c = (k : Int) := ⟨c.toNat, by omega⟩
  unfold cdR
  rw [if_pos h1, show (1024 : Int) = ((1024 : Nat) : Int) from rfl, jdiv_n (by omega) (by omega) (by omega), jrem_n (by omega) (by omega) (by omega)]
  omega
theorem cd_limb {c : Int} (h0 : 1000 ≤ c) (h1 : c < 1010) : jdiv (cdR c) 1024 = 1 ∧ jrem (cdR c) 1024 = c - 1000 := by
  obtain ⟨k, rfl⟩ : ∃ k : Nat, c = (k : Int) := ⟨c.toNat, by omega⟩
  unfold cdR
  rw [if_neg (by omega), if_neg (by omega), if_neg (by omega), if_pos (by omega), show (1024 : Int) + ((k : Int) - 1000) = ((k + 24 : Nat) : Int) by omega, show (1024 : Int) = ((1024 : Nat) : Int) from rfl, jdiv_n (by omega) (by omega) (by omega), jrem_n (by omega) (by omega) (by omega)]
  omega
section Rules
variable {d : Nat} {w : aW} {Q : Option aV → aW → Prop}
theorem k_valueOf {l pose : Nat} {pl c : Int} (hp : pose < 1024) (hl : l < 10) (hc : (0 ≤ c ∧ c < 1000) ∨ c = 1100 ∨ c = 1101 ∨ (1000 ≤ c ∧ c < 1010)) : T d 301 0 [some (vi (jdiv (cdR c) 1024)), some (vi (jrem (cdR c) 1024)), some (vi (pose : Int)), some (vi (l : Int)), some (vi pl)] [] w Q = Q (some (vi (putC l pose pl c))) w := by
  rw [g301_0]
  unfold putC
  rcases hc with h | h | h | h
  · obtain ⟨e1, e2⟩ := cd_num h.1 h.2
    rw [e1, e2, if_pos h.2]
    simp
  · subst h
    rw [show jdiv (cdR 1100) 1024 = 2 by decide, jbit_n (by omega) (by omega)]
    simp
  · subst h
    rw [show jdiv (cdR 1101) 1024 = 3 by decide]
    simp
  · obtain ⟨e1, e2⟩ := cd_limb h.1 h.2
    obtain ⟨k, hk⟩ : ∃ k : Nat, c = 1000 + (k : Int) := ⟨(c - 1000).toNat, by omega⟩
    subst hk
    rw [e1, e2, show (1000 + (k : Int) - 1000) = (k : Int) by omega, jbit_n (by omega) (by omega), if_neg (by omega), if_neg (by omega), if_neg (by omega)]
    simp
theorem k_joined {c a b : Int} {x3 x4 : Option aV} (h1 : 3000 ≤ c) (h2 : c ≤ 3007) (ha : tyV (decide (3006 ≤ c)) a) (hb : tyV (decide (3006 ≤ c)) b) : T d 302 0 [some (vi (jdiv (cdR c) 1024)), some (vi a), some (vi b), x3, x4] [] w Q = Q (some (vi (btw c a b))) w := by
  have ba := tyV_b ha
  have bb := tyV_b hb
  have fin : ∀ (v : Int), -2000000000000 ≤ v → v ≤ 2000000000000 → T d 302 110 [some (vi (jdiv (cdR c) 1024)), some (vi a), some (vi b), x3, x4] [vl v] w Q = Q (some (vi (if 1000000 < v then 1000000 else if v < -1000000 then -1000000 else v))) w := by
    intro v v1 v2
    rw [g302_110]
    simp only [kcmp_le, kcmp_ge, g302_139]
    by_cases q1 : 1000000 < v
    · rw [if_pos q1, if_f (by omega)]
    · rw [if_neg q1, if_t (by omega)]
      by_cases q2 : v < -1000000
      · rw [if_pos q2, if_f (by omega)]
      · rw [if_neg q2, if_t (by omega), w32_id (by omega) (by omega)]
  rw [g302_0]
  have hc : c = 3000 ∨ c = 3001 ∨ c = 3002 ∨ c = 3003 ∨ c = 3004 ∨ c = 3005 ∨ c = 3006 ∨ c = 3007 := by omega
  rcases hc with rfl | rfl | rfl | rfl | rfl | rfl | rfl | rfl
  · rw [show jdiv (cdR 3000) 1024 = 10 by decide] at fin ⊢
    rw [w64_id (x := a + b) (by omega) (by omega), fin (a + b) (by omega) (by omega)]
    simp [btw]
  · rw [show jdiv (cdR 3001) 1024 = 11 by decide] at fin ⊢
    rw [w64_id (x := a - b) (by omega) (by omega), fin (a - b) (by omega) (by omega)]
    simp [btw]
  · rw [show jdiv (cdR 3002) 1024 = 12 by decide] at fin ⊢
    have hm : -1000000000000 ≤ a * b ∧ a * b ≤ 1000000000000 := by
      have m1 : (a + 1000000) * (b + 1000000) ≥ 0 := Int.mul_nonneg (by omega) (by omega)
      have m2 : (1000000 - a) * (1000000 - b) ≥ 0 := Int.mul_nonneg (by omega) (by omega)
      have m3 : (a + 1000000) * (1000000 - b) ≥ 0 := Int.mul_nonneg (by omega) (by omega)
      have m4 : (1000000 - a) * (b + 1000000) ≥ 0 := Int.mul_nonneg (by omega) (by omega)
      rw [Int.add_mul, Int.mul_add, Int.mul_add] at m1
      rw [Int.sub_mul, Int.mul_sub, Int.mul_sub] at m2
      rw [Int.add_mul, Int.mul_sub, Int.mul_sub] at m3
      rw [Int.sub_mul, Int.mul_add, Int.mul_add] at m4
      omega
    rw [w64_id (x := a * b) (by omega) (by omega), fin (a * b) (by omega) (by omega)]
    simp [btw]
  · rw [show jdiv (cdR 3003) 1024 = 7 by decide]
    simp only [g302_54]
    by_cases h : a = b <;> simp [btw, h]
  · rw [show jdiv (cdR 3004) 1024 = 8 by decide]
    simp only [g302_65]
    by_cases h : a < b
    · simp [btw, h, show ¬ (b ≤ a) by omega]
    · simp [btw, h, show b ≤ a by omega]
  · rw [show jdiv (cdR 3005) 1024 = 9 by decide]
    simp only [g302_76]
    by_cases h : b < a
    · simp [btw, h, show ¬ (a ≤ b) by omega]
    · simp [btw, h, show a ≤ b by omega]
  · rw [show jdiv (cdR 3006) 1024 = 5 by decide]
    unfold tyV at ha hb
    simp only [decide_eq_true_eq, show (3006 : Int) ≤ 3006 from by decide, if_true] at ha hb
    rcases ha with rfl | rfl <;> rcases hb with rfl | rfl
    · rw [show jand 0 0 = 0 by decide]; simp [btw]
    · rw [show jand 0 1 = 0 by decide]; simp [btw]
    · rw [show jand 1 0 = 0 by decide]; simp [btw]
    · rw [show jand 1 1 = 1 by decide]; simp [btw]
  · rw [show jdiv (cdR 3007) 1024 = 6 by decide]
    unfold tyV at ha hb
    simp only [decide_eq_true_eq, show (3006 : Int) ≤ 3007 from by decide, if_true] at ha hb
    rcases ha with rfl | rfl <;> rcases hb with rfl | rfl
    · rw [show jor 0 0 = 0 by decide]; simp [btw]
    · rw [show jor 0 1 = 1 by decide]; simp [btw]
    · rw [show jor 1 0 = 1 by decide]; simp [btw]
    · rw [show jor 1 1 = 1 by decide]; simp [btw]
theorem k_between {c a b : Int} {x3 x4 : Option aV} (h1 : 3000 ≤ c) (h2 : c ≤ 3007) (ha : tyV (decide (3006 ≤ c)) a) (hb : tyV (decide (3006 ≤ c)) b) : T d 283 0 [some (vi c), some (vi a), some (vi b), x3, x4] [] w Q = Q (some (vi (btw c a b))) w := by
  have ba := tyV_b ha
  have bb := tyV_b hb
  have fin : ∀ (v : Int), -2000000000000 ≤ v → v ≤ 2000000000000 → T d 283 42 [some (vi c), some (vi a), some (vi b), x3, x4] [vl v] w Q = Q (some (vi (if 1000000 < v then 1000000 else if v < -1000000 then -1000000 else v))) w := by
    intro v v1 v2
    rw [g283_42]
    simp only [kcmp_le, kcmp_ge, g283_72]
    by_cases q1 : 1000000 < v
    · rw [if_pos q1, if_f (by omega), w32_id (by omega) (by omega)]
    · rw [if_neg q1, if_t (by omega)]
      by_cases q2 : v < -1000000
      · rw [if_pos q2, if_f (by omega), w32_id (by omega) (by omega)]
      · rw [if_neg q2, if_t (by omega), w32_id (by omega) (by omega)]
  have z0 : ∀ (x : Int), T d 283 167 [some (vi c), some (vi a), some (vi b), x3, x4] [vi x] w Q = Q (some (vi (if x = 0 then 0 else 1))) w := by
    intro x
    rw [g283_167]
    simp only [g283_177]
    by_cases q : x = 0 <;> simp [q]
  rw [g283_0]
  simp only [z0, w32_id (x := a + b) (by omega) (by omega)]
  have hc : c = 3000 ∨ c = 3001 ∨ c = 3002 ∨ c = 3003 ∨ c = 3004 ∨ c = 3005 ∨ c = 3006 ∨ c = 3007 := by omega
  rcases hc with rfl | rfl | rfl | rfl | rfl | rfl | rfl | rfl
  · rw [w64_id (x := a + b) (by omega) (by omega), fin (a + b) (by omega) (by omega)]
    simp [btw]
  · rw [w64_id (x := a - b) (by omega) (by omega), fin (a - b) (by omega) (by omega)]
    simp [btw]
  · have hm : -1000000000000 ≤ a * b ∧ a * b ≤ 1000000000000 := by
      have m1 : (a + 1000000) * (b + 1000000) ≥ 0 := Int.mul_nonneg (by omega) (by omega)
      have m2 : (1000000 - a) * (1000000 - b) ≥ 0 := Int.mul_nonneg (by omega) (by omega)
      have m3 : (a + 1000000) * (1000000 - b) ≥ 0 := Int.mul_nonneg (by omega) (by omega)
      have m4 : (1000000 - a) * (b + 1000000) ≥ 0 := Int.mul_nonneg (by omega) (by omega)
      rw [Int.add_mul, Int.mul_add, Int.mul_add] at m1
      rw [Int.sub_mul, Int.mul_sub, Int.mul_sub] at m2
      rw [Int.add_mul, Int.mul_sub, Int.mul_sub] at m3
      rw [Int.sub_mul, Int.mul_add, Int.mul_add] at m4
      omega
    rw [w64_id (x := a * b) (by omega) (by omega), fin (a * b) (by omega) (by omega)]
    simp [btw]
  · by_cases h : a = b <;> simp [btw, h]
  · by_cases h : a < b
    · simp [btw, h, show ¬ (b ≤ a) by omega]
    · simp [btw, h, show b ≤ a by omega]
  · by_cases h : b < a
    · simp [btw, h, show ¬ (a ≤ b) by omega]
    · simp [btw, h, show a ≤ b by omega]
  · by_cases h : a + b = 2 <;> simp [btw, h]
  · by_cases h : 0 < a + b
    · simp [btw, h, show ¬ (a + b ≤ 0) by omega]
    · simp [btw, h, show a + b ≤ 0 by omega]
theorem ev_last {x : Int} (h : tyV true x) : b01 (decide (([x] : List Int).getLastD 0 = 1)) = x := by
  unfold tyV at h
  rw [if_pos rfl] at h
  rcases h with rfl | rfl <;> decide
/-- codes that are no rule that stands answer as 0 -/
def holdsF (t : aTr) (l pose : Nat) (pl : Int) : Bool := decide ((evC l pose pl (t.2.2.2.2.2.2 l) []).getLastD 0 = 1)
set_option maxHeartbeats 4000000 in
/-- the class's holds(troupe, l, pose, pulling) -/
theorem k_holdsC {t : aTr} {l pose : Nat} {pl : Int} {x5 x6 x7 x8 : Option aV} (hO : TrOk t) (hT : ClT w t) (hl : l < t.1) (hm : t.2.2.2.2.2.2 l ≠ []) (hp : pose < 1024) (h0 : 0 ≤ pl) (h1 : pl ≤ 1000)
    (hQ : ∀ w', (∀ c i, c ≠ 18 → w' c i = w c i) → Q (some (vi (b01 (holdsF t l pose pl)))) w') :
    T (d + 1) 282 0 [some (vr 16), some (vr 69), some (vi (l : Int)), some (vi (pose : Int)), some (vi pl), x5, x6, x7, x8] [] w Q := by
  obtain ⟨-, -, -, -, ⟨rr, qq, -, -, -, -, hk⟩⟩ := id hT
  obtain ⟨-, -, hk2⟩ := hk l hl
  obtain ⟨-, ⟨b, mb, e3, e4, e5⟩, -⟩ := hk2 hm
  have e6 := (hO.2.2.2 l hl).2.2 hm
  have hN := hO.1
  have hl10 : l < 10 := by omega
  unfold holdsF at hQ
  generalize t.2.2.2.2.2.2 l = cs at *
  have key : ∀ (k i : Nat) (ts : List Bool) (st : List Int) (w' : aW) (a5 a6 : Int) (y7 y8 : Option aV), i + k = cs.length → a5 = (st.length : Int) → a6 = (b : Int) + (i : Int) → okC (t.1 : Int) (cs.drop i) ts = some [true] → tyS ts st → ts.length ≤ 64 → stk (w' 18) st → (∀ c j, c ≠ 18 → w' c j = w c j) → evC l pose pl (cs.drop i) st = evC l pose pl cs [] →
      T (d + 1) 282 11 [some (vr 16), some (vr 69), some (vi (l : Int)), some (vi (pose : Int)), some (vi pl), some (vi a5), some (vi a6), y7, y8] [] w' Q := by
    intro k
    induction k with
    | zero =>
      intro i ts st w' a5 a6 y7 y8 hi ha5 ha6 hok hty hle hst hw hev
      have hdr : cs.drop i = [] := drop_all (by omega)
      rw [hdr, okC] at hok
      obtain rfl : ts = [true] := by simpa using hok
      obtain ⟨x, rfl⟩ : ∃ x, st = [x] := by
        have := tyS_len hty
        match st, this with
        | [x], _ => exact ⟨x, rfl⟩
      have hx : tyV true x := hty.1
      have h18 : w' 18 0 = x := hst.1
      rw [hdr, evC] at hev
      rw [g282_11, hw 77 _ (by decide), e4]
      refine ⟨by omega, fun _ => ?_, fun h => absurd ?_ h⟩
      · rw [g282_172, h18]
        have hl1 : ¬ (a5 ≤ 0) := by rw [ha5]; simp
        have hq := hQ w' hw
        rw [← hev, ev_last hx] at hq
        refine ⟨fun h => absurd h hl1, fun _ => ⟨fun h => ?_, fun h => ?_⟩⟩
        · rw [g282_190, g282_191]
          subst h
          exact ⟨Or.inl rfl, hq⟩
        · rw [g282_191]
          have h1 : x = 1 := by
            unfold tyV at hx
            rw [if_pos rfl] at hx
            omega
          subst h1
          exact ⟨Or.inr rfl, hq⟩
      · omega
    | succ k ih =>
      intro i ts st w' a5 a6 y7 y8 hi ha5 ha6 hok hty hle hst hw hev
      have him : i < cs.length := by omega
      have hd := List.drop_eq_getElem_cons him
      rw [hd] at hok hev
      rw [evC] at hev
      obtain ⟨ts', t1, t2, t3⟩ := okC_cons hok
      have hlen := tyS_len hty
      have e78 : w' 78 a6 = cdR cs[i] := by rw [ha6, hw 78 _ (by decide)]; exact e5 i him
      generalize cs[i] = c at *
      have h6 : Unit → w32 (a6 + 1) = (b : Int) + ((i + 1 : Nat) : Int) := fun _ => by rw [w32_id (by omega) (by omega)]; omega
      rw [g282_11, hw 77 _ (by decide), e4, e78]
      refine ⟨by omega, fun h => absurd h (by omega), fun _ => ⟨fun h => absurd h (by omega), fun _ => ⟨by omega, by omega, ?_⟩⟩⟩
      rcases tyC_cases (by omega) t1 with ⟨c1, rfl, c2⟩ | ⟨rfl, s, rfl, rfl⟩ | ⟨c1, c2, s, rfl, rfl⟩
      · have c2' : (0 ≤ c ∧ c < 1000) ∨ c = 1100 ∨ c = 1101 ∨ (1000 ≤ c ∧ c < 1010) := by omega
        have hdv : ¬ (3 < jdiv (cdR c) 1024) := by
          rcases c2' with q | q | q | q
          · rw [(cd_num q.1 q.2).1]; decide
          · subst q; decide
          · subst q; decide
          · rw [(cd_limb q.1 q.2).1]; decide
        have hl63 : ts.length ≤ 63 := by rw [List.length_cons] at t2; omega
        refine ⟨fun h => absurd h hdv, fun _ => ⟨fun h => absurd h (by omega), fun _ => ?_⟩⟩
        rw [k_valueOf hp hl10 c2']
        simp only [tl_some]
        rw [g282_86]
        refine ⟨by rw [ia0_18]; omega, ?_⟩
        rw [g282_166]
        rw [stepC_put c1] at hev
        refine ih (i + 1) _ (putC l pose pl c :: st) _ _ _ _ _ (by omega) ?_ (h6 ()) t3 ⟨putC_ty h0 h1 (by omega), hty⟩ t2 (stk_push ha5 hst) (fun c' j hc => by rw [iup_c hc]; exact hw c' j hc) hev
        rw [List.length_cons, w32_id (by omega) (by omega)]
        omega
      · obtain ⟨x, st', rfl⟩ : ∃ x s', st = x :: s' := by
          match st, hlen with
          | x :: s', _ => exact ⟨x, s', rfl⟩
        simp only [List.length_cons] at ha5 hlen hle
        rw [show jdiv (cdR 3008) 1024 = 4 by decide]
        have hx : x = 0 ∨ x = 1 := by
          have := hty.1
          unfold tyV at this
          rwa [if_pos rfl] at this
        have hi1 : Unit → w32 (a5 - 1) = (st'.length : Int) := fun _ => by rw [w32_id (by omega) (by omega)]; omega
        have e18 : w' 18 (st'.length : Int) = x := hst.1
        rw [(hi1 ())]
        refine ⟨fun _ => ⟨fun h => absurd rfl h, fun _ => ⟨fun h => absurd h (by omega), fun _ => ⟨by omega, by omega, ?_⟩⟩⟩, fun h => absurd (by decide) h⟩
        rw [e18, w32_id (by omega) (by omega), g282_166]
        rw [stepC_not] at hev
        refine ih (i + 1) _ ((1 - x) :: st') _ _ _ _ _ (by omega) ?_ (h6 ()) t3 ⟨?_, hty.2⟩ t2 (stk_push rfl hst.2) (fun c' j hc => by rw [iup_c hc]; exact hw c' j hc) hev
        · rw [List.length_cons]; exact ha5
        · unfold tyV; rw [if_pos rfl]; omega
      · obtain ⟨y, x, st', rfl⟩ : ∃ y x s', st = y :: x :: s' := by
          match st, hlen with
          | y :: x :: s', _ => exact ⟨y, x, s', rfl⟩
        simp only [List.length_cons] at ha5 hlen hle
        have hdv : 3 < jdiv (cdR c) 1024 ∧ jdiv (cdR c) 1024 ≠ 4 := by
          have hc : c = 3000 ∨ c = 3001 ∨ c = 3002 ∨ c = 3003 ∨ c = 3004 ∨ c = 3005 ∨ c = 3006 ∨ c = 3007 := by omega
          rcases hc with rfl | rfl | rfl | rfl | rfl | rfl | rfl | rfl <;> decide
        have hi0 : Unit → w32 (a5 + (-1)) = (st'.length : Int) + 1 := fun _ => by rw [w32_id (by omega) (by omega)]; omega
        have hi1 : Unit → w32 ((st'.length : Int) + 1 - 1) = (st'.length : Int) := fun _ => by rw [w32_id (by omega) (by omega)]; omega
        have e18 : w' 18 ((st'.length : Int) + 1) = y := by
          have := hst.1
          rw [List.length_cons] at this
          exact this
        have e19 : w' 18 (st'.length : Int) = x := hst.2.1
        refine ⟨fun _ => ⟨fun _ => ⟨fun h => absurd h (by omega), fun _ => ?_⟩, fun h => absurd hdv.2 h⟩, fun h => absurd hdv.1 h⟩
        rw [(hi0 ()), (hi1 ()), e18, e19, k_joined c1 c2 hty.2.1 hty.1]
        refine ⟨by omega, by omega, ?_⟩
        simp only [tl_some]
        rw [g282_165]
        refine ⟨by rw [ia0_18]; omega, ?_⟩
        rw [g282_166]
        rw [stepC_two c1 c2] at hev
        refine ih (i + 1) _ (btw c x y :: st') _ _ _ _ _ (by omega) ?_ (h6 ()) t3 ⟨btw_ty c1 c2, hty.2.2⟩ t2 (stk_push rfl hst.2.2) (fun c' j hc => by rw [iup_c hc]; exact hw c' j hc) hev
        rw [List.length_cons]; omega
  rw [g282_0]
  refine ⟨by omega, ?_⟩
  refine key cs.length 0 [] [] w _ _ _ _ (by omega) rfl ?_ ?_ trivial (by decide) trivial (fun _ _ _ => rfl) ?_
  · rw [e3]; simp
  · simpa using e6
  · simp
set_option maxHeartbeats 4000000 in
/-- the reference's holds(l, pose, but) -/
theorem k_holdsR {t : aTr} {l pose : Nat} {bt pl : Int} {x4 x5 x6 : Option aV} (hO : TrOk t) (hT : RfT w t) (hl : l < t.1) (hm : t.2.2.2.2.2.2 l ≠ []) (hp : pose < 1024) (h0 : 0 ≤ pl) (h1 : pl ≤ 1000)
    (hpl : ∀ (w' : aW) (R : Option aV → aW → Prop), (∀ c i, c ≠ 172 → w' c i = w c i) → R (some (vi pl)) w' → T (d + 1) 124 0 [some (vr 167), some (vi (l : Int)), some (vi (pose : Int)), some (vi bt), none, none] [] w' R)
    (hQ : ∀ w', (∀ c i, c ≠ 172 → w' c i = w c i) → Q (some (vi (b01 (holdsF t l pose pl)))) w') :
    T (d + 2) 231 0 [some (vr 167), some (vi (l : Int)), some (vi (pose : Int)), some (vi bt), x4, x5, x6] [] w Q := by
  obtain ⟨-, -, -, hk⟩ := id hT
  obtain ⟨-, e4, hk2⟩ := hk l hl
  obtain ⟨b, e3, mb, e5⟩ := hk2 hm
  have e6 := (hO.2.2.2 l hl).2.2 hm
  have hN := hO.1
  have hl10 : l < 10 := by omega
  unfold holdsF at hQ
  generalize t.2.2.2.2.2.2 l = cs at *
  have i142 : Unit → w32 (142 + (l : Int)) = 142 + (l : Int) := fun _ => w32_id (by omega) (by omega)
  have i132 : Unit → w32 (132 + (l : Int)) = 132 + (l : Int) := fun _ => w32_id (by omega) (by omega)
  have key : ∀ (k i : Nat) (ts : List Bool) (st : List Int) (w' : aW) (a4 a5 : Int) (y6 : Option aV), i + k = cs.length → a4 = (st.length : Int) → a5 = (i : Int) → okC (t.1 : Int) (cs.drop i) ts = some [true] → tyS ts st → ts.length ≤ 64 → stk (w' 172) st → (∀ c j, c ≠ 172 → w' c j = w c j) → evC l pose pl (cs.drop i) st = evC l pose pl cs [] →
      T (d + 2) 231 6 [some (vr 167), some (vi (l : Int)), some (vi (pose : Int)), some (vi bt), some (vi a4), some (vi a5), y6] [] w' Q := by
    intro k
    induction k with
    | zero =>
      intro i ts st w' a4 a5 y6 hi ha5 ha6 hok hty hle hst hw hev
      have hdr : cs.drop i = [] := drop_all (by omega)
      rw [hdr, okC] at hok
      obtain rfl : ts = [true] := by simpa using hok
      obtain ⟨x, rfl⟩ : ∃ x, st = [x] := by
        have := tyS_len hty
        match st, this with
        | [x], _ => exact ⟨x, rfl⟩
      have hx : tyV true x := hty.1
      have h18 : w' 172 0 = x := hst.1
      rw [hdr, evC] at hev
      rw [g231_6, (i142 ()), hw 168 _ (by decide), e4, h18]
      have hq := hQ w' hw
      rw [← hev, ev_last hx] at hq
      refine ⟨by omega, fun _ => ⟨fun h => ?_, fun h => ?_⟩, fun h => absurd ?_ h⟩
      · rw [g231_213]
        have h1 : x = 0 := by
          unfold tyV at hx
          rw [if_pos rfl] at hx
          omega
        subst h1
        exact ⟨Or.inl rfl, hq⟩
      · rw [g231_213]
        have h1 : x = 1 := by omega
        subst h1
        exact ⟨Or.inr rfl, hq⟩
      · omega
    | succ k ih =>
      intro i ts st w' a4 a5 y6 hi ha5 ha6 hok hty hle hst hw hev
      have him : i < cs.length := by omega
      have hd := List.drop_eq_getElem_cons him
      rw [hd] at hok hev
      rw [evC] at hev
      obtain ⟨ts', t1, t2, t3⟩ := okC_cons hok
      have hlen := tyS_len hty
      have i744 : Unit → w32 (w32 (744 + (b : Int)) + a5) = 744 + (b : Int) + (i : Int) := fun _ => by rw [w32_id (x := 744 + (b : Int)) (by omega) (by omega), w32_id (by omega) (by omega)]; omega
      have e78 : w' 168 (744 + (b : Int) + (i : Int)) = cs[i] := by rw [hw 168 _ (by decide)]; exact e5 i him
      generalize cs[i] = c at *
      have h6 : Unit → w32 (a5 + 1) = ((i + 1 : Nat) : Int) := fun _ => by rw [w32_id (by omega) (by omega)]; omega
      rw [g231_6, (i142 ()), (i132 ()), hw 168 (142 + (l : Int)) (by decide), hw 168 (132 + (l : Int)) (by decide), e4, e3, (i744 ()), e78]
      refine ⟨by omega, fun h => absurd h (by omega), fun _ => ⟨by omega, by omega, ?_⟩⟩
      rcases tyC_cases (by omega) t1 with ⟨c1, rfl, c2⟩ | ⟨rfl, s, rfl, rfl⟩ | ⟨c1, c2, s, rfl, rfl⟩
      · have hl63 : ts.length ≤ 63 := by rw [List.length_cons] at t2; omega
        refine ⟨fun h => absurd h (by omega), fun _ => ?_⟩
        rw [stepC_put c1] at hev
        have fin : ∀ x : Int, x = putC l pose pl c → T (d + 2) 231 121 [some (vr 167), some (vi (l : Int)), some (vi (pose : Int)), some (vi bt), some (vi a4), some (vi a5), some (vi c)] [vi x, vi a4, vr 172] w' Q := by
          intro x hx
          subst hx
          rw [g231_121]
          refine ⟨by rw [ia0_172]; omega, ?_⟩
          rw [g231_192]
          refine ih (i + 1) _ (putC l pose pl c :: st) _ _ _ _ (by omega) ?_ (h6 ()) t3 ⟨putC_ty h0 h1 (by omega), hty⟩ t2 (stk_push ha5 hst) (fun c' j hc => by rw [iup_c hc]; exact hw c' j hc) hev
          rw [List.length_cons, w32_id (by omega) (by omega)]
          omega
        have inn : ∀ j : Nat, j < 10 → (putC l pose pl c = bI pose j) → T (d + 2) 231 110 [some (vr 167), some (vi (l : Int)), some (vi (pose : Int)), some (vi bt), some (vi a4), some (vi a5), some (vi c)] [vi (j : Int), vl (pose : Int), vi a4, vr 172] w' Q := by
          intro j hj hpc
          rw [g231_110, k_isIn (by omega) (by omega)]
          simp only [tl_some]
          rw [g231_113]
          refine ⟨fun h => fin 0 (by rw [hpc, h]), fun h => fin 1 (by rcases bI_01 pose j with q | q; exact absurd q h; rw [hpc, q])⟩
        refine ⟨fun h => ⟨fun h2 => ⟨fun h3 => ?_, fun h3 => ?_⟩, fun h2 => ?_⟩, fun h => ?_⟩
        · have h4 : Unit → w32 (c - 1000) = ((c - 1000).toNat : Int) := fun _ => by rw [w32_id (by omega) (by omega)]; omega
          rw [(h4 ())]
          refine inn _ (by omega) ?_
          unfold putC
          rw [if_neg (by omega), if_neg h2, if_neg h3]
        · refine inn l hl10 ?_
          unfold putC
          rw [if_neg (by omega), if_neg h2, if_pos (by omega)]
        · refine hpl w' _ hw ?_
          simp only [tl_some]
          rw [g231_87]
          refine fin pl ?_
          unfold putC
          rw [if_neg (by omega), if_pos (by omega)]
        · refine fin c ?_
          unfold putC
          rw [if_pos (by omega)]
      · obtain ⟨x, st', rfl⟩ : ∃ x s', st = x :: s' := by
          match st, hlen with
          | x :: s', _ => exact ⟨x, s', rfl⟩
        simp only [List.length_cons] at ha5 hlen hle
        have hx : x = 0 ∨ x = 1 := by
          have := hty.1
          unfold tyV at this
          rwa [if_pos rfl] at this
        have hi1 : Unit → w32 (a4 - 1) = (st'.length : Int) := fun _ => by rw [w32_id (by omega) (by omega)]; omega
        have e18 : w' 172 (st'.length : Int) = x := hst.1
        rw [(hi1 ())]
        refine ⟨fun _ => ⟨fun h => absurd rfl h, fun _ => ⟨by omega, by omega, ?_⟩⟩, fun h => absurd (by decide) h⟩
        rw [e18, w32_id (by omega) (by omega), g231_192]
        rw [stepC_not] at hev
        refine ih (i + 1) _ ((1 - x) :: st') _ _ _ _ (by omega) ?_ (h6 ()) t3 ⟨?_, hty.2⟩ t2 (stk_push rfl hst.2) (fun c' j hc => by rw [iup_c hc]; exact hw c' j hc) hev
        · rw [List.length_cons]; exact ha5
        · unfold tyV; rw [if_pos rfl]; omega
      · obtain ⟨y, x, st', rfl⟩ : ∃ y x s', st = y :: x :: s' := by
          match st, hlen with
          | y :: x :: s', _ => exact ⟨y, x, s', rfl⟩
        simp only [List.length_cons] at ha5 hlen hle
        have hi0 : Unit → w32 (a4 + (-1)) = (st'.length : Int) + 1 := fun _ => by rw [w32_id (by omega) (by omega)]; omega
        have hi1 : Unit → w32 ((st'.length : Int) + 1 - 1) = (st'.length : Int) := fun _ => by rw [w32_id (by omega) (by omega)]; omega
        have e18 : w' 172 ((st'.length : Int) + 1) = y := by
          have := hst.1
          rw [List.length_cons] at this
          exact this
        have e19 : w' 172 (st'.length : Int) = x := hst.2.1
        refine ⟨fun _ => ⟨fun _ => ?_, fun h => absurd (show ¬ c = 3008 by omega) h⟩, fun h => absurd c1 h⟩
        rw [(hi0 ()), (hi1 ()), e18, e19, k_between c1 c2 hty.2.1 hty.1]
        refine ⟨by omega, by omega, ?_⟩
        simp only [tl_some]
        rw [g231_191]
        refine ⟨by rw [ia0_172]; omega, ?_⟩
        rw [g231_192]
        rw [stepC_two c1 c2] at hev
        refine ih (i + 1) _ (btw c x y :: st') _ _ _ _ (by omega) ?_ (h6 ()) t3 ⟨btw_ty c1 c2, hty.2.2⟩ t2 (stk_push rfl hst.2.2) (fun c' j hc => by rw [iup_c hc]; exact hw c' j hc) hev
        rw [List.length_cons]; omega
  rw [g231_0]
  refine key cs.length 0 [] [] w _ _ _ (by omega) rfl rfl ?_ trivial (by decide) trivial (fun _ _ _ => rfl) ?_
  · simpa using e6
  · simp
end Rules
