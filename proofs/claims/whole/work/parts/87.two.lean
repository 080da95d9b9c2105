/-! Two hands: two. -/
/-- a limb held: not at all, up, down -/
def hdF (p l c : Nat) : Nat := if c = 0 then p else if c = 1 then p ||| 2 ^ l else andn p (2 ^ l)
theorem hdF_lt {p l c N : Nat} (hp : p < 2 ^ N) (hl : l < N) : hdF p l c < 2 ^ N := by
  unfold hdF
  split
  · exact hp
  · split
    · exact or_lt hp hl
    · exact andn_lt hp
def hhF (l m i p : Nat) : Nat := hdF (hdF p l (i / 3)) m (i % 3)
theorem hhF_lt {p l m i N : Nat} (hp : p < 2 ^ N) (hl : l < N) (hm : m < N) : hhF l m i p < 2 ^ N := hdF_lt (hdF_lt hp hl) hm
/-- how often a scene is played -/
def gnF (nx : Nat → Nat) (l m i : Nat) (v : Int) : Nat → Nat → Nat
  | 0, _ => 0
  | k + 1, p => (if soB v (hhF l m i (nx p)) = true then 1 else 0) + gnF nx l m i v k (hhF l m i (nx p))
theorem gnF_le {nx : Nat → Nat} {l m i : Nat} {v : Int} : ∀ k p, gnF nx l m i v k p ≤ k := by
  intro k
  induction k with
  | zero => intro p; exact Nat.le_refl _
  | succ k ih =>
    intro p
    have := ih (hhF l m i (nx p))
    rw [gnF]
    split <;> omega
def rsF (A B : Nat → Nat) (i : Nat) : Nat → Nat → Bool
  | 0, _ => true
  | m + 1, z => (decide (A (z * 3 + i % 3) ≤ A i) && decide (B (i / 3 * 3 + z) ≤ B i)) && rsF A B i m (z + 1)
def fsF (A B : Nat → Nat) : Nat → Nat → Int
  | 0, _ => -1
  | m + 1, i => if rsF A B i 3 0 = true then (i : Int) else fsF A B m (i + 1)
theorem fsF_r {A B : Nat → Nat} : ∀ m i, fsF A B m i = -1 ∨ ((i : Int) ≤ fsF A B m i ∧ fsF A B m i < (i : Int) + m) := by
  intro m
  induction m with
  | zero => intro i; exact Or.inl rfl
  | succ m ih =>
    intro i
    have := ih (i + 1)
    rw [fsF]
    split <;> omega
def twA (A B : Nat → Nat) (s e : Int) : Int := if s = -1 then -1 else if e = 0 then s / 3 else if e = 1 then s % 3 else if e = 2 then (A s.toNat : Int) else (B s.toNat : Int)
def f2 (b d : Int) (i : Nat) : Int := if i = 0 then b else d
section Two
variable {d D : Nat} {w : aW} {Q : Option aV → aW → Prop}
theorem k_held {p l c : Nat} (hp : p < 1024) (hl : l < 10) (hc : c < 3) : T d 259 0 [some (vi (p : Int)), some (vi ((2 ^ l : Nat) : Int)), some (vi (c : Int))] [] w Q = Q (some (vi ((hdF p l c : Nat) : Int))) w := by
  have h2 := two10 (n := l) (by omega)
  rw [g259_0, g259_22, g259_22, jandn (by omega), jor_n (by omega) (by omega)]
  unfold hdF
  by_cases h0 : c = 0
  · subst h0; rw [if_f (fun q => q rfl), if_pos rfl]
  · rw [if_t (show ¬ (c : Int) = 0 by omega), if_neg h0]
    by_cases h1 : c = 1
    · subst h1; rw [if_f (fun q => q rfl), if_pos rfl]
    · rw [if_t (show ¬ (c : Int) = 1 by omega), if_neg h1]
theorem k_holds2 {p l c : Nat} (hp : p < 1024) (hl : l < 10) (hc : c < 3) : T d 261 0 [some (vi (p : Int)), some (vi (l : Int)), some (vi (c : Int))] [] w Q = Q (some (vi ((hdF p l c : Nat) : Int))) w := by
  have h2 := two10 (n := l) (by omega)
  rw [g261_0, g261_29, g261_29, g261_29, jshl_n (by omega), jandn (by omega), jor_n (by omega) (by omega)]
  unfold hdF
  by_cases h1 : c = 1
  · subst h1; rw [if_f (fun q => q rfl), if_neg (by decide), if_pos rfl]
  · rw [if_t (show ¬ (c : Int) = 1 by omega)]
    by_cases h0 : c = 2
    · subst h0; rw [if_f (fun q => q rfl), if_neg (by decide), if_neg (by decide)]
    · rw [if_t (show ¬ (c : Int) = 2 by omega), if_pos (by omega)]
/-- playAll(next, pose, one, other) -/
theorem k_playAll {N l m s : Nat} {f : Nat → Int} {nx : Nat → Nat} {x5 x6 x7 : Option aV} (hN : N ≤ 10) (hl : l < N) (hm : m < N) (hsB : s < 2 ^ N) (hs : SnC w 2 f) (hF : ∀ q : Nat, q < 2 ^ N → w 20 (q : Int) = ((nx q : Nat) : Int)) (hnx : ∀ q, nx q < 2 ^ N)
    (hQ : ∀ w', (∀ c i, c ≠ 58 → c ≠ 59 → w' c i = w c i) → (∀ i : Nat, i < 9 → w' 58 (i : Int) = ((gnF nx l m i (f 0) 60 (hhF l m i s) : Nat) : Int) ∧ w' 59 (i : Int) = ((gnF nx l m i (f 1) 60 (hhF l m i s) : Nat) : Int)) → Q none w') :
    T (d + 1) 192 0 [some (vr 57), some (vr 20), some (vi (s : Int)), some (vi ((2 ^ l : Nat) : Int)), some (vi ((2 ^ m : Nat) : Int)), x5, x6, x7] [] w Q := by
  have hN2 := two10 hN
  rw [g192_0]
  have key : ∀ (k i : Nat) (w1 : aW) (a5 : Int) (x6 x7 : Option aV), i + k = 9 → a5 = (i : Int) → (∀ c j, c ≠ 58 → c ≠ 59 → w1 c j = w c j) → (∀ j : Nat, j < i → w1 58 (j : Int) = ((gnF nx l m j (f 0) 60 (hhF l m j s) : Nat) : Int) ∧ w1 59 (j : Int) = ((gnF nx l m j (f 1) 60 (hhF l m j s) : Nat) : Int)) → T (d + 1) 192 3 [some (vr 57), some (vr 20), some (vi (s : Int)), some (vi ((2 ^ l : Nat) : Int)), some (vi ((2 ^ m : Nat) : Int)), some (vi a5), x6, x7] [] w1 Q := by
    intro k
    induction k with
    | zero =>
      intro i w1 a5 x6 x7 hi ha hw hg
      rw [g192_3]
      exact ⟨fun _ => hQ w1 hw (fun j hj => hg j (by omega)), fun h => absurd (by omega) h⟩
    | succ k ih =>
      intro i w1 a5 x6 x7 hi ha hw hg
      subst ha
      have ed : jdiv (i : Int) 3 = ((i / 3 : Nat) : Int) := jdiv_n (b := 3) (by omega) (by decide) (by decide)
      have er : jrem (i : Int) 3 = ((i % 3 : Nat) : Int) := jrem_n (b := 3) (by omega) (by decide) (by decide)
      have hh1 := hdF_lt (c := i / 3) hsB hl
      rw [g192_3, ed, k_held (by omega) (by omega) (by omega)]
      refine ⟨fun h => absurd h (by omega), fun _ => ⟨by omega, by omega, ?_⟩⟩
      simp only [tl_some]
      rw [g192_35, er, k_held (by omega) (by omega) (by omega)]
      simp only [tl_some]
      rw [g192_44]
      have key2 : ∀ (k2 j p : Nat) (w2 : aW) (a6 a7 : Int) (c0 c1 : Nat), j + k2 = 60 → a7 = (j : Int) → a6 = (p : Int) → p < 2 ^ N → (∀ c x, c ≠ 58 → c ≠ 59 → w2 c x = w c x) → (∀ x : Nat, x < i → w2 58 (x : Int) = w1 58 (x : Int) ∧ w2 59 (x : Int) = w1 59 (x : Int)) → w2 58 (i : Int) = (c0 : Int) → w2 59 (i : Int) = (c1 : Int) → c0 ≤ j → c1 ≤ j →
          c0 + gnF nx l m i (f 0) k2 p = gnF nx l m i (f 0) 60 (hhF l m i s) → c1 + gnF nx l m i (f 1) k2 p = gnF nx l m i (f 1) 60 (hhF l m i s) → T (d + 1) 192 49 [some (vr 57), some (vr 20), some (vi (s : Int)), some (vi ((2 ^ l : Nat) : Int)), some (vi ((2 ^ m : Nat) : Int)), some (vi (i : Int)), some (vi a6), some (vi a7)] [] w2 Q := by
        intro k2
        induction k2 with
        | zero =>
          intro j p w2 a6 a7 c0 c1 hj ha7 ha6 hp z1 z2 z3 z4 b0 b1 e0 e1
          rw [gnF] at e0 e1
          rw [g192_49]
          refine ⟨fun _ => ih (i + 1) w2 _ _ _ (by omega) (by rw [w32_id (by omega) (by omega)]; omega) z1 (fun x hx => ?_), fun h => absurd (by omega) h⟩
          by_cases z : x = i
          · subst z; rw [z3, z4]; exact ⟨by rw [← e0]; rfl, by rw [← e1]; rfl⟩
          · rw [(z2 x (by omega)).1, (z2 x (by omega)).2]; exact hg x (by omega)
        | succ k2 ih2 =>
          intro j p w2 a6 a7 c0 c1 hj ha7 ha6 hp z1 z2 z3 z4 b0 b1 e0 e1
          subst ha7 ha6
          have hn := hnx p
          have hh2 := hdF_lt (c := i / 3) hn hl
          have hh3 : hhF l m i (nx p) < 2 ^ N := hhF_lt hn hl hm
          rw [g192_49, z1 20 _ (by decide) (by decide), hF p hp, ed, k_held (by omega) (by omega) (by omega)]
          refine ⟨fun h => absurd h (by omega), fun _ => ⟨by omega, ?_⟩⟩
          simp only [tl_some]
          rw [g192_68, er, k_held (by omega) (by omega) (by omega)]
          simp only [tl_some]
          rw [show hdF (hdF (nx p) l (i / 3)) m (i % 3) = hhF l m i (nx p) from rfl]
          have hs2 : ∀ w3 : aW, (∀ c x, c ≠ 58 → c ≠ 59 → w3 c x = w c x) → SnC w3 2 f := fun w3 q => ⟨by rw [q 57 2 (by decide) (by decide)]; exact hs.1, fun x hx => by rw [q 60 _ (by decide) (by decide), q 61 _ (by decide) (by decide)]; exact hs.2 x hx⟩
          have is0 : ∀ R : Option aV → aW → Prop, T d 249 0 [some (vr 57), some (vi 0), some (vi ((hhF l m i (nx p) : Nat) : Int))] [] w2 R = R (some (vi (b01 (soB (f 0) (hhF l m i (nx p)))))) w2 := fun R => k_isSo (i := 0) (hs2 w2 z1) (by decide) (by decide) (by omega)
          rw [gnF] at e0 e1
          rw [g192_77, is0, z3]
          refine ⟨by omega, ?_⟩
          simp only [tl_some]
          have h127 : ∀ (w3 : aW) (c0' : Nat) (x : Nat), (∀ c x, c ≠ 58 → c ≠ 59 → w3 c x = w c x) → (∀ x : Nat, x < i → w3 58 (x : Int) = w1 58 (x : Int) ∧ w3 59 (x : Int) = w1 59 (x : Int)) → w3 58 (i : Int) = (c0' : Int) → c0' ≤ j + 1 → c0' + gnF nx l m i (f 0) k2 (hhF l m i (nx p)) = gnF nx l m i (f 0) 60 (hhF l m i s) → x ≤ 1 → x = (if soB (f 1) (hhF l m i (nx p)) = true then 1 else 0) → T (d + 1) 192 127 [some (vr 57), some (vr 20), some (vi (s : Int)), some (vi ((2 ^ l : Nat) : Int)), some (vi ((2 ^ m : Nat) : Int)), some (vi (i : Int)), some (vi ((hhF l m i (nx p) : Nat) : Int)), some (vi (j : Int))] [vi (x : Int), vi (c1 : Int), vi (i : Int), vr 59] w3 Q := by
            intro w3 c0' x y1 y2 y3 y4 y5 hx hxe
            rw [g192_127, ia_of (t := 0) (n := 9) lay_59, w32_id (x := (c1 : Int) + (x : Int)) (by omega) (by omega)]
            refine ⟨by omega, ih2 (j + 1) _ _ _ _ c0' (c1 + x) (by omega) (by rw [w32_id (by omega) (by omega)]; omega) rfl hh3 (fun c q a1 a2 => by rw [iup_c a2]; exact y1 c q a1 a2) (fun q hq => ?_) (by rw [iup_c (by decide)]; exact y3) (by rw [iup_s]; omega) y4 (by omega) y5 (by rw [← e1, hxe]; omega)⟩
            rw [iup_c (by decide), iup_i (by omega)]
            exact y2 q hq
          have h102 : ∀ x : Nat, x ≤ 1 → x = (if soB (f 0) (hhF l m i (nx p)) = true then 1 else 0) → T (d + 1) 192 102 [some (vr 57), some (vr 20), some (vi (s : Int)), some (vi ((2 ^ l : Nat) : Int)), some (vi ((2 ^ m : Nat) : Int)), some (vi (i : Int)), some (vi ((hhF l m i (nx p) : Nat) : Int)), some (vi (j : Int))] [vi (x : Int), vi (c0 : Int), vi (i : Int), vr 58] w2 Q := by
            intro x hx hxe
            have y1 : ∀ c q, c ≠ 58 → c ≠ 59 → iup w2 58 (i : Int) ((c0 : Int) + (x : Int)) c q = w c q := fun c q a1 a2 => by rw [iup_c a1]; exact z1 c q a1 a2
            have is1 : ∀ R : Option aV → aW → Prop, T d 249 0 [some (vr 57), some (vi 1), some (vi ((hhF l m i (nx p) : Nat) : Int))] [] (iup w2 58 (i : Int) ((c0 : Int) + (x : Int))) R = R (some (vi (b01 (soB (f 1) (hhF l m i (nx p)))))) (iup w2 58 (i : Int) ((c0 : Int) + (x : Int))) := fun R => k_isSo (i := 1) (hs2 _ y1) (by decide) (by decide) (by omega)
            rw [g192_102, ia_of (t := 0) (n := 9) lay_58, w32_id (x := (c0 : Int) + (x : Int)) (by omega) (by omega), is1, iup_c (show (59 : Nat) ≠ 58 by decide), z4]
            refine ⟨by omega, by omega, ?_⟩
            simp only [tl_some]
            have fin := fun y hy hye => h127 _ (c0 + x) y y1 (fun q hq => by rw [iup_i (by omega), iup_c (by decide)]; exact z2 q hq) (by rw [iup_s]; omega) (by omega) (by rw [← e0, hxe]; omega) hy hye
            rw [g192_119]
            cases hok : soB (f 1) (hhF l m i (nx p))
            · exact ⟨fun _ => fin 0 (by decide) (by rw [hok]; rfl), fun h => absurd rfl h⟩
            · exact ⟨fun h => absurd h (by decide), fun _ => fin 1 (by decide) (by rw [hok]; rfl)⟩
          rw [g192_94]
          cases hok : soB (f 0) (hhF l m i (nx p))
          · exact ⟨fun _ => h102 0 (by decide) (by rw [hok]; rfl), fun h => absurd rfl h⟩
          · exact ⟨fun h => absurd h (by decide), fun _ => h102 1 (by decide) (by rw [hok]; rfl)⟩
      refine key2 60 0 (hhF l m i s) _ _ _ 0 0 (by omega) rfl rfl (hhF_lt hsB hl hm) (fun c x q1 q2 => by rw [iup_c q2, iup_c q1]; exact hw c x q1 q2) (fun x hx => ?_) ?_ ?_ (by decide) (by decide) (by omega) (by omega)
      · constructor
        · rw [iup_c (by decide), iup_i (by omega)]
        · rw [iup_i (by omega), iup_c (by decide)]
      · rw [iup_c (by decide), iup_s]; rfl
      · rw [iup_s]; rfl
  exact key 9 0 w _ _ _ (by omega) rfl (fun _ _ _ _ => rfl) (fun j hj => by omega)
/-- firstAtRest() -/
theorem k_firstRest {A B : Nat → Nat} {x1 : Option aV} (hA : ∀ i : Nat, i < 9 → w 58 (i : Int) = (A i : Int) ∧ w 59 (i : Int) = (B i : Int)) (hQ : Q (some (vi (fsF A B 9 0))) w) : T (d + 1) 193 0 [some (vr 57), x1] [] w Q := by
  rw [g193_0]
  have hrest : ∀ (i : Nat) (R : Option aV → aW → Prop) (x2 x3 x4 : Option aV), i < 9 → R (some (vi (b01 (rsF A B i 3 0)))) w → T d 260 0 [some (vr 57), some (vi (i : Int)), x2, x3, x4] [] w R := by
    intro i R x2 x3 x4 hi hR
    have ed : jdiv (i : Int) 3 = ((i / 3 : Nat) : Int) := jdiv_n (b := 3) (by omega) (by decide) (by decide)
    have er : jrem (i : Int) 3 = ((i % 3 : Nat) : Int) := jrem_n (b := 3) (by omega) (by decide) (by decide)
    rw [g260_0]
    have key : ∀ (m z : Nat) (a2 : Int) (x3 x4 : Option aV), z + m = 3 → a2 = (z : Int) → rsF A B i m z = rsF A B i 3 0 → T d 260 2 [some (vr 57), some (vi (i : Int)), some (vi a2), x3, x4] [] w R := by
      intro m
      induction m with
      | zero =>
        intro z a2 x3 x4 hz ha he
        rw [rsF] at he
        rw [← he] at hR
        rw [g260_2]
        exact ⟨fun _ => hR, fun h => absurd (by omega) h⟩
      | succ m ih =>
        intro z a2 x3 x4 hz ha he
        subst ha
        have e1 : Unit → w32 (w32 ((z : Int) * 3) + jrem (i : Int) 3) = ((z * 3 + i % 3 : Nat) : Int) := fun _ => by rw [er, w32_id (x := (z : Int) * 3) (by omega) (by omega), w32_id (by omega) (by omega)]; omega
        have e2 : Unit → w32 (w32 (jdiv (i : Int) 3 * 3) + (z : Int)) = ((i / 3 * 3 + z : Nat) : Int) := fun _ => by rw [ed, w32_id (x := ((i / 3 : Nat) : Int) * 3) (by omega) (by omega), w32_id (by omega) (by omega)]; omega
        rw [rsF] at he
        have h33 : ∀ x : Int, (x = 0 ∨ x = 1) → (x = 0 ↔ A (z * 3 + i % 3) ≤ A i) → T d 260 33 [some (vr 57), some (vi (i : Int)), some (vi (z : Int)), x3, x4] [vi x] w R := by
          intro x hx hxe
          rw [g260_33, e2 (), (hA (i / 3 * 3 + z) (by omega)).2, (hA i hi).2]
          have h60 : ∀ y : Int, (y = 0 ∨ y = 1) → (y = 0 ↔ B (i / 3 * 3 + z) ≤ B i) → T d 260 60 [some (vr 57), some (vi (i : Int)), some (vi (z : Int)), some (vi x), x4] [vi y] w R := by
            intro y hy hye
            rw [g260_60, g260_71]
            refine ⟨fun h => ?_, fun h => ⟨fun h2 => ?_, fun h2 => ?_⟩⟩
            · rw [decide_eq_false (fun q => h (hxe.mpr q)), Bool.false_and, Bool.false_and] at he
              rw [← he] at hR
              exact hR
            · rw [decide_eq_true (hxe.mp (by omega)), decide_eq_true (hye.mp h2), Bool.true_and, Bool.true_and] at he
              exact ih (z + 1) _ _ _ (by omega) (by rw [w32_id (by omega) (by omega)]; omega) he
            · rw [decide_eq_false (fun q => h2 (hye.mpr q)), Bool.and_false, Bool.false_and] at he
              rw [← he] at hR
              exact hR
          exact ⟨by omega, by omega, fun h => h60 0 (Or.inl rfl) ⟨fun _ => by omega, fun _ => rfl⟩, fun h => h60 1 (Or.inr rfl) ⟨fun q => absurd q (by decide), fun q => absurd (by omega) h⟩⟩
        rw [g260_2, e1 (), (hA (z * 3 + i % 3) (by omega)).1, (hA i hi).1]
        exact ⟨fun h => absurd h (by omega), fun _ => ⟨by omega, by omega, fun h => h33 0 (Or.inl rfl) ⟨fun _ => by omega, fun _ => rfl⟩, fun h => h33 1 (Or.inr rfl) ⟨fun q => absurd q (by decide), fun q => absurd (by omega) h⟩⟩⟩
    exact key 3 0 _ _ _ (by omega) rfl rfl
  have key : ∀ (m i : Nat) (a1 : Int), i + m = 9 → a1 = (i : Int) → fsF A B m i = fsF A B 9 0 → T (d + 1) 193 2 [some (vr 57), some (vi a1)] [] w Q := by
    intro m
    induction m with
    | zero =>
      intro i a1 hi ha he
      rw [fsF] at he
      rw [← he] at hQ
      rw [g193_2]
      exact ⟨fun _ => hQ, fun h => absurd (by omega) h⟩
    | succ m ih =>
      intro i a1 hi ha he
      subst ha
      rw [fsF] at he
      rw [g193_2]
      refine ⟨fun h => absurd h (by omega), fun _ => hrest i _ _ _ _ (by omega) ?_⟩
      simp only [tl_some]
      rw [g193_13]
      cases hok : rsF A B i 3 0
      · rw [hok, if_neg (by decide)] at he
        exact ⟨fun _ => ih (i + 1) _ (by omega) (by rw [w32_id (by omega) (by omega)]; omega) he, fun h => absurd rfl h⟩
      · rw [hok, if_pos rfl] at he
        rw [← he] at hQ
        exact ⟨fun h => absurd h (by decide), fun _ => hQ⟩
  exact key 9 0 _ (by omega) rfl rfl
end Two
