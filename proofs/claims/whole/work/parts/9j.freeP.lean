/-! Freeing a limb: room out of a side (pure). -/
theorem sm_add {f g : Nat → Int} : ∀ n, sm (fun k => f k + g k) n = sm f n + sm g n := by
  intro n
  induction n with
  | zero => rfl
  | succ n ih => rw [sm, sm, sm, ih]; omega
theorem sm_0 : ∀ n, sm (fun _ => 0) n = 0 := by
  intro n
  induction n with
  | zero => rfl
  | succ n ih => rw [sm, ih]; rfl
theorem sm_one {u : Nat} {x : Int} : ∀ n, sm (fun k => if k = u then x else 0) n = if u < n then x else 0 := by
  intro n
  induction n with
  | zero => rfl
  | succ n ih =>
    rw [sm, ih]
    by_cases z : n = u
    · subst z; rw [if_neg (by omega), if_pos rfl, if_pos (by omega)]; omega
    · rw [if_neg z]
      by_cases y : u < n
      · rw [if_pos y, if_pos (by omega)]; omega
      · rw [if_neg y, if_neg (by omega)]; omega
theorem sm_nn {f : Nat → Int} : ∀ n, (∀ k, k < n → 0 ≤ f k) → 0 ≤ sm f n ∧ ∀ k, k < n → f k ≤ sm f n := by
  intro n
  induction n with
  | zero => intro _; exact ⟨Int.le_refl _, fun k hk => absurd hk (Nat.not_lt_zero _)⟩
  | succ n ih =>
    intro h
    obtain ⟨h1, h2⟩ := ih (fun k hk => h k (by omega))
    have h3 := h n (by omega)
    rw [sm]
    refine ⟨by omega, fun k hk => ?_⟩
    by_cases z : k = n
    · rw [z]; omega
    · have := h2 k (by omega); omega
/-- does an edge from a to b lead out of side S? -/
def oB (S a b : Nat) : Bool := S.testBit a && !S.testBit b
/-- room out of a side -/
def outF (r : Nat → Nat → Int) (S N : Nat) : Int := sm (fun a => sm (fun b => if oB S a b = true then r a b else 0) N) N
theorem out_cg {r r' : Nat → Nat → Int} {S N : Nat} (h : ∀ a b, a < N → b < N → r a b = r' a b) : outF r S N = outF r' S N := by
  unfold outF
  refine sm_congr (fun a ha => sm_congr (fun b hb => ?_))
  rw [h a b ha hb]
theorem out_add {r : Nat → Nat → Int} {S N u v : Nat} {x : Int} (hu : u < N) (hv : v < N) : outF (fun a b => r a b + (if a = u ∧ b = v then x else 0)) S N = outF r S N + (if oB S u v = true then x else 0) := by
  have h1 : ∀ a, sm (fun b => if oB S a b = true then r a b + (if a = u ∧ b = v then x else 0) else 0) N = sm (fun b => if oB S a b = true then r a b else 0) N + (if a = u then (if oB S u v = true then x else 0) else 0) := by
    intro a
    have h2 : ∀ b, (if oB S a b = true then r a b + (if a = u ∧ b = v then x else 0) else 0) = (if oB S a b = true then r a b else 0) + (if b = v then (if a = u then (if oB S u v = true then x else 0) else 0) else 0) := by
      intro b
      by_cases z1 : a = u
      · by_cases z2 : b = v
        · subst z1 z2
          by_cases z3 : oB S a b = true
          · simp [z3]
          · simp [z3]
        · simp [z2]
      · simp [z1]
    rw [sm_congr (fun b _ => h2 b), sm_add, sm_one, if_pos hv]
  unfold outF
  rw [sm_congr (fun a _ => h1 a), sm_add, sm_one, if_pos hu]
theorem out_pos {r : Nat → Nat → Int} {S N : Nat} (h : ∀ a b, a < N → b < N → 0 ≤ r a b) : 0 ≤ outF r S N ∧ ∀ a b, a < N → b < N → oB S a b = true → r a b ≤ outF r S N := by
  have hb : ∀ a, a < N → ∀ b, b < N → 0 ≤ (if oB S a b = true then r a b else 0) := fun a ha b hb => by
    have := h a b ha hb
    split <;> omega
  have h1 : ∀ a, a < N → 0 ≤ sm (fun b => if oB S a b = true then r a b else 0) N := fun a ha => (sm_nn N (hb a ha)).1
  obtain ⟨p1, p2⟩ := sm_nn (f := fun a => sm (fun b => if oB S a b = true then r a b else 0) N) N h1
  refine ⟨p1, fun a b ha hb' ho => ?_⟩
  have h2 := (sm_nn N (hb a ha)).2 b hb'
  have h3 := p2 a ha
  simp only [ho, if_true] at h2
  unfold outF
  exact Int.le_trans h2 h3
theorem out_zero {r : Nat → Nat → Int} {S N : Nat} (h : ∀ a b, a < N → b < N → oB S a b = true → r a b = 0) : outF r S N = 0 := by
  unfold outF
  have h1 : ∀ a, a < N → sm (fun b => if oB S a b = true then r a b else 0) N = 0 := fun a ha => by
    have h2 : ∀ b, b < N → (if oB S a b = true then r a b else 0) = 0 := fun b hb => by
      split
      · exact h a b ha hb (by assumption)
      · rfl
    rw [sm_congr h2, sm_0]
  rw [sm_congr h1, sm_0]
/-- one unit goes from u to v -/
def mvF (r : Nat → Nat → Int) (u v : Nat) : Nat → Nat → Int := fun a b => (r a b + (if a = u ∧ b = v then -1 else 0)) + (if a = v ∧ b = u then 1 else 0)
theorem out_mv {r : Nat → Nat → Int} {S N u v : Nat} (hu : u < N) (hv : v < N) : outF (mvF r u v) S N = outF r S N - (bI S u - bI S v) := by
  have e1 : outF (mvF r u v) S N = outF (fun a b => r a b + (if a = u ∧ b = v then -1 else 0)) S N + (if oB S v u = true then 1 else 0) := out_add hv hu
  have e2 : outF (fun a b => r a b + (if a = u ∧ b = v then -1 else 0)) S N = outF r S N + (if oB S u v = true then -1 else 0) := out_add hu hv
  rw [e1, e2]
  unfold oB bI
  cases S.testBit u <;> cases S.testBit v <;> simp <;> omega
/-- the least cut: what both answer -/
def CutA (N l o : Nat) (rule : Nat → Nat → Bool) (str : Nat → Int) (x : Int) : Prop :=
  (x = -1 ∧ ∀ S, S < 2 ^ N → S.testBit l = true → S.testBit o = false → ∃ a b, a < N ∧ b < N ∧ rule a b = true ∧ oB S a b = true)
  ∨ ((∃ S, S < 2 ^ N ∧ S.testBit l = true ∧ S.testBit o = false ∧ (∀ a b, a < N → b < N → rule a b = true → oB S a b = false) ∧ str S = x)
    ∧ ∀ S, S < 2 ^ N → S.testBit l = true → S.testBit o = false → (∀ a b, a < N → b < N → rule a b = true → oB S a b = false) → x ≤ str S)
theorem CutA_one {N l o : Nat} {rule : Nat → Nat → Bool} {str : Nat → Int} {x y : Int} (hx : CutA N l o rule str x) (hy : CutA N l o rule str y) : x = y := by
  rcases hx with ⟨e1, h1⟩ | ⟨⟨S, a1, a2, a3, a4, a5⟩, h1⟩
  · rcases hy with ⟨e2, -⟩ | ⟨⟨S', b1, b2, b3, b4, b5⟩, -⟩
    · rw [e1, e2]
    · obtain ⟨a, b, q1, q2, q3, q4⟩ := h1 S' b1 b2 b3
      rw [b4 a b q1 q2 q3] at q4; cases q4
  · rcases hy with ⟨e2, h2⟩ | ⟨⟨S', b1, b2, b3, b4, b5⟩, h2⟩
    · obtain ⟨a, b, q1, q2, q3, q4⟩ := h2 S a1 a2 a3
      rw [a4 a b q1 q2 q3] at q4; cases q4
    · have h3 := h1 S' b1 b2 b3 b4
      have h4 := h2 S a1 a2 a3 a4
      omega
