/-! THE LAW: its loop, out of what each pair of calls does (Sim). Printed by wip/whole/lawgen.py -/
/-- class and reference, called one behind the other: they answer alike, the relation holds again, the script stands -/
def Sim (Inv : aW → Prop) (D m1 m2 : Nat) (e1 e2 : List (Option aV)) : Prop := ∀ w, Inv w → T D m1 0 e1 [] w (fun r1 w1 => ∃ x, r1 = some (vi x) ∧ (∀ j, w1 999 j = w 999 j) ∧ T D m2 0 e2 [] w1 (fun r2 w2 => r2 = some (vi x) ∧ (∀ j, w2 999 j = w 999 j) ∧ Inv w2))
def SimL (Inv : aW → Prop) (D m1 m2 : Nat) (e1 e2 : List (Option aV)) : Prop := ∀ w, Inv w → T D m1 0 e1 [] w (fun r1 w1 => ∃ x, r1 = some (vl x) ∧ (∀ j, w1 999 j = w 999 j) ∧ T D m2 0 e2 [] w1 (fun r2 w2 => r2 = some (vl x) ∧ (∀ j, w2 999 j = w 999 j) ∧ Inv w2))
set_option maxHeartbeats 8000000 in
set_option maxRecDepth 20000 in
theorem law_step {Inv : aW → Prop} {D : Nat}
  (h0 : ∀ a b c d e : Int, R32 a → R32 b → R32 c → R32 d → R32 e → Sim Inv D 1 2 [some (vr 0), some (vi a), some (vi b), some (vi c), some (vi d), some (vi e)] [some (vr 167), some (vi a), some (vi b), some (vi c), some (vi d), some (vi e), none, none])
  (h1 : ∀ a : Int, R32 a → Sim Inv D 3 4 [some (vr 0), some (vi a)] [some (vr 167), some (vi a), none])
  (h2 : ∀ a : Int, R32 a → Sim Inv D 5 6 [some (vr 0), some (vi a)] [some (vr 167), some (vi a)])
  (h3 : ∀ a b : Int, R32 a → R32 b → Sim Inv D 7 8 [some (vr 0), some (vi a), some (vi b)] [some (vr 167), some (vi a), some (vi b)])
  (h4 : ∀ a b : Int, R32 a → R32 b → Sim Inv D 9 10 [some (vr 0), some (vi a), some (vi b)] [some (vr 167), some (vi a), some (vi b)])
  (h5 : ∀ a : Int, R32 a → Sim Inv D 11 12 [some (vr 0), some (vi a)] [some (vr 167), some (vi a)])
  (h6 : ∀ a : Int, R32 a → Sim Inv D 13 14 [some (vr 0), some (vi a), none] [some (vr 167), some (vi a), none])
  (h7 : ∀ a : Int, R32 a → Sim Inv D 15 16 [some (vr 0), some (vi a), none, none] [some (vr 167), some (vi a), none, none])
  (h8 : ∀ a : Int, R32 a → Sim Inv D 17 18 [some (vr 0), some (vi a)] [some (vr 167), some (vi a)])
  (h9 : ∀ a : Int, R32 a → Sim Inv D 19 20 [some (vr 0), some (vi a)] [some (vr 167), some (vi a)])
  (h10 : ∀ a b : Int, R32 a → R32 b → Sim Inv D 21 22 [some (vr 0), some (vi a), some (vi b), none] [some (vr 167), some (vi a), some (vi b), none])
  (h11 : ∀ a : Int, R32 a → Sim Inv D 23 24 [some (vr 0), some (vi a)] [some (vr 167), some (vi a), none, none])
  (h12 : ∀ a : Int, R32 a → Sim Inv D 25 26 [some (vr 0), some (vi a)] [some (vr 167), some (vi a), none])
  (h13 : ∀ a b : Int, R32 a → R32 b → Sim Inv D 27 28 [some (vr 0), some (vi a), some (vi b), none] [some (vr 167), some (vi a), some (vi b), none, none, none])
  (h14 : ∀ a : Int, R32 a → Sim Inv D 29 30 [some (vr 0), some (vi a), none] [some (vr 167), some (vi a), none])
  (h15 : ∀ a b : Int, R32 a → R32 b → Sim Inv D 31 32 [some (vr 0), some (vi a), some (vi b)] [some (vr 167), some (vi a), some (vi b), none])
  (h16 : ∀ a : Int, R32 a → Sim Inv D 33 34 [some (vr 0), some (vi a)] [some (vr 167), some (vi a)])
  (h17 : ∀ a b : Int, R32 a → R32 b → Sim Inv D 35 36 [some (vr 0), some (vi a), some (vi b), none, none, none] [some (vr 167), some (vi a), some (vi b)])
  (h18 : ∀ a b : Int, R32 a → R32 b → Sim Inv D 37 38 [some (vr 0), some (vi a), some (vi b)] [some (vr 167), some (vi a), some (vi b)])
  (h19 : ∀ a : Int, R32 a → Sim Inv D 39 40 [some (vr 0), some (vi a), none, none] [some (vr 167), some (vi a), none, none])
  (h20 : ∀ a : Int, R32 a → Sim Inv D 41 42 [some (vr 0), some (vi a), none] [some (vr 167), some (vi a), none, none])
  (h21 : ∀ a : Int, R32 a → Sim Inv D 43 44 [some (vr 0), some (vi a), none, none] [some (vr 167), some (vi a), none, none])
  (h22 : Sim Inv D 45 46 [some (vr 0)] [some (vr 167), none, none])
  (h23 : Sim Inv D 47 48 [some (vr 0), none, none] [some (vr 167), none, none])
  (h24 : ∀ a b : Int, R32 a → R32 b → Sim Inv D 49 50 [some (vr 0), some (vi a), some (vi b), none] [some (vr 167), some (vi a), some (vi b), none, none, none, none, none])
  (h25 : ∀ a : Int, R32 a → Sim Inv D 51 52 [some (vr 0), some (vi a), none, none] [some (vr 167), some (vi a), none])
  (h26 : ∀ a b : Int, R32 a → R32 b → Sim Inv D 53 54 [some (vr 0), some (vi a), some (vi b), none] [some (vr 167), some (vi a), some (vi b), none, none, none])
  (h27 : ∀ a : Int, R32 a → Sim Inv D 55 56 [some (vr 0), some (vi a)] [some (vr 167), some (vi a)])
  (h28 : ∀ a : Int, R32 a → Sim Inv D 57 58 [some (vr 0), some (vi a)] [some (vr 167), some (vi a)])
  (h29 : Sim Inv D 59 60 [some (vr 0), none, none] [some (vr 167), none, none])
  (h30 : ∀ a b : Int, R32 a → R32 b → Sim Inv D 61 62 [some (vr 0), some (vi a), some (vi b)] [some (vr 167), some (vi a), some (vi b), none, none])
  (h31 : ∀ a : Int, R32 a → Sim Inv D 63 64 [some (vr 0), some (vi a), none, none] [some (vr 167), some (vi a), none])
  (h32 : ∀ a b : Int, R32 a → R32 b → Sim Inv D 65 66 [some (vr 0), some (vi a), some (vi b), none, none, none] [some (vr 167), some (vi a), some (vi b), none, none, none])
  (h33 : ∀ a : Int, R32 a → Sim Inv D 67 68 [some (vr 0), some (vi a), none] [some (vr 167), some (vi a), none, none, none])
  (h34 : Sim Inv D 69 70 [some (vr 0)] [some (vr 167)])
  (h35 : Sim Inv D 71 72 [some (vr 0)] [some (vr 167)])
  (h36 : ∀ a b c d e : Int, R32 a → R32 b → R32 c → R32 d → R32 e → Sim Inv D 73 74 [some (vr 0), some (vi a), some (vi b), some (vi c), some (vi d), some (vi e), none, none] [some (vr 167), some (vi a), some (vi b), some (vi c), some (vi d), some (vi e), none, none])
  (h37 : ∀ a b : Int, R32 a → R32 b → Sim Inv D 75 76 [some (vr 0), some (vi a), some (vi b)] [some (vr 167), some (vi a), some (vi b), none, none])
  (h38 : ∀ a b : Int, R32 a → R32 b → Sim Inv D 77 78 [some (vr 0), some (vi a), some (vi b), none] [some (vr 167), some (vi a), some (vi b), none])
  (h39 : ∀ a b c : Int, R32 a → R32 b → R32 c → Sim Inv D 79 80 [some (vr 0), some (vi a), some (vi b), some (vi c), none, none] [some (vr 167), some (vi a), some (vi b), some (vi c), none, none, none])
  (h40 : ∀ a b : Int, R32 a → R32 b → Sim Inv D 81 82 [some (vr 0), some (vi a), some (vi b), none] [some (vr 167), some (vi a), some (vi b), none, none, none])
  (h41 : ∀ a b : Int, R32 a → R32 b → Sim Inv D 83 84 [some (vr 0), some (vi a), some (vi b), none] [some (vr 167), some (vi a), some (vi b), none, none, none, none, none, none])
  (h42 : ∀ a : Int, R32 a → Sim Inv D 85 86 [some (vr 0), some (vi a), none, none, none, none] [some (vr 167), some (vi a), none, none])
  (h43 : ∀ a : Int, R32 a → Sim Inv D 87 88 [some (vr 0), some (vi a), none, none] [some (vr 167), some (vi a), none, none, none, none])
  (h44 : ∀ a b c : Int, R32 a → R32 b → R32 c → Sim Inv D 89 90 [some (vr 0), some (vi a), some (vi b), some (vi c)] [some (vr 167), some (vi a), some (vi b), some (vi c), none])
  (h45 : ∀ a b c d : Int, R32 a → R32 b → R32 c → R32 d → SimL Inv D 91 92 [some (vr 0), some (vi a), some (vi b), some (vl (kor (kshl c 32) (kand d 4294967295))), none] [some (vr 167), some (vi a), some (vi b), some (vl (kor (kshl c 32) (kand d 4294967295))), none])
  (h46 : ∀ a : Int, R32 a → Sim Inv D 93 94 [some (vr 0), some (vi a)] [some (vr 167), some (vi a), none])
  (h47 : ∀ a : Int, R32 a → Sim Inv D 95 96 [some (vr 0), some (vi a)] [some (vr 167), some (vi a), none])
  (h48 : ∀ a : Int, R32 a → Sim Inv D 97 98 [some (vr 0), some (vi a)] [some (vr 167), some (vi a)])
  {w : aW} {i L : Int} {Q : Option aV → aW → Prop} (hI : Inv w) (hL : w 999 (-1) = L) (hL0 : 0 ≤ L) (hL2 : L ≤ 3072) (hi : 0 ≤ i) (hr0 : ∀ j, 0 ≤ j → j < L → R32 (w 999 j)) (hQ : Q (some (vi 1)) w)
  (next : ∀ w2, Inv w2 → (∀ j, w2 999 j = w 999 j) → i + 6 ≤ L → T (D + 1) 0 18 [some (vr 999), some (vr 0), some (vr 167), some (vi (i + 6))] [] w2 Q) :
  T (D + 1) 0 18 [some (vr 999), some (vr 0), some (vr 167), some (vi i)] [] w Q := by
  by_cases hx : L - 6 < i
  · rw [g0_18]
    refine ⟨Or.inl rfl, fun _ => hQ, fun q => absurd ?_ q⟩
    have : alv w 999 = L := by unfold alv; rw [if_pos rfl]; exact hL
    rw [this]
    rw [w32_id (by omega) (by omega)]; exact hx
  have hlen : i + 6 ≤ L := by omega
  have hr : ∀ j, 0 ≤ j → j < 6 → R32 (w 999 (i + j)) := fun j h1 h2 => hr0 _ (by omega) (by omega)
  have e0 : ∀ j : Int, 0 ≤ j → j < 6 → w32 (i + j) = i + j := fun j h1 h2 => w32_id (by omega) (by omega)
  have e1 := e0 1 (by omega) (by omega)
  have e2 := e0 2 (by omega) (by omega)
  have e3 := e0 3 (by omega) (by omega)
  have e4 := e0 4 (by omega) (by omega)
  have e5 := e0 5 (by omega) (by omega)
  have go : ∀ w2, Inv w2 → (∀ j, w2 999 j = w 999 j) → T (D + 1) 0 1642 [some (vr 999), some (vr 0), some (vr 167), some (vi i)] [] w2 Q := by
    intro w2 hI2 hk
    rw [g0_1642, w32_id (by omega) (by omega)]
    exact next w2 hI2 hk hlen
  have ge : ∀ j : Int, 0 ≤ j → j < 6 → ∀ w1 : aW, w1 999 (-1) = w 999 (-1) → 0 ≤ i + j ∧ i + j < w1 999 (-1) := by
    intro j h1 h2 w1 hw
    rw [hw, hL]; omega
  have hal : alv w 999 = L := by unfold alv; rw [if_pos rfl]; exact hL
  rw [g0_18]
  simp only [e1, e2, e3, e4, e5, hal]
  refine ⟨Or.inl rfl, fun q => absurd q (by rw [w32_id (by omega) (by omega)]; exact hx), fun _ => ⟨⟨hi, by omega⟩, ?_⟩⟩
  refine ⟨fun _ => ?_, fun _ => ?_, fun _ => ?_, fun _ => ?_, fun _ => ?_, fun _ => ?_, fun _ => ?_, fun _ => ?_, fun _ => ?_, fun _ => ?_, fun _ => ?_, fun _ => ?_, fun _ => ?_, fun _ => ?_, fun _ => ?_, fun _ => ?_, fun _ => ?_, fun _ => ?_, fun _ => ?_, fun _ => ?_, fun _ => ?_, fun _ => ?_, fun _ => ?_, fun _ => ?_, fun _ => ?_, fun _ => ?_, fun _ => ?_, fun _ => ?_, fun _ => ?_, fun _ => ?_, fun _ => ?_, fun _ => ?_, fun _ => ?_, fun _ => ?_, fun _ => ?_, fun _ => ?_, fun _ => ?_, fun _ => ?_, fun _ => ?_, fun _ => ?_, fun _ => ?_, fun _ => ?_, fun _ => ?_, fun _ => ?_, fun _ => ?_, fun _ => ?_, fun _ => ?_, fun _ => ?_, fun _ => ?_, fun _ => ?_⟩
  · refine ⟨ge 1 (by omega) (by omega) w rfl, ge 2 (by omega) (by omega) w rfl, ge 3 (by omega) (by omega) w rfl, ge 4 (by omega) (by omega) w rfl, ge 5 (by omega) (by omega) w rfl, lay_0, ?_⟩
    refine T.imp (h0 (w 999 (i + 1)) (w 999 (i + 2)) (w 999 (i + 3)) (w 999 (i + 4)) (w 999 (i + 5)) (hr 1 (by omega) (by omega)) (hr 2 (by omega) (by omega)) (hr 3 (by omega) (by omega)) (hr 4 (by omega) (by omega)) (hr 5 (by omega) (by omega)) w hI) ?_
    rintro r1 w1 ⟨x, rfl, hk, hT⟩
    try dsimp only
    rw [tl_some, g0_273]
    try simp only [e1, e2, e3, e4, e5]
    refine ⟨ge 1 (by omega) (by omega) w1 (hk (-1)), ge 2 (by omega) (by omega) w1 (hk (-1)), ge 3 (by omega) (by omega) w1 (hk (-1)), ge 4 (by omega) (by omega) w1 (hk (-1)), ge 5 (by omega) (by omega) w1 (hk (-1)), lay_167, ?_⟩
    try simp only [hk]
    refine T.imp hT ?_
    rintro r2 w2 ⟨rfl, hk2, hI2⟩
    try dsimp only
    rw [tl_some, g0_302]
    exact ⟨fun _ => go w2 hI2 hk2, fun q => absurd rfl q⟩
  · refine ⟨ge 1 (by omega) (by omega) w rfl, lay_0, ?_⟩
    refine T.imp (h1 (w 999 (i + 1)) (hr 1 (by omega) (by omega)) w hI) ?_
    rintro r1 w1 ⟨x, rfl, hk, hT⟩
    try dsimp only
    rw [tl_some, g0_316]
    try simp only [e1, e2, e3, e4, e5]
    refine ⟨ge 1 (by omega) (by omega) w1 (hk (-1)), lay_167, ?_⟩
    try simp only [hk]
    refine T.imp hT ?_
    rintro r2 w2 ⟨rfl, hk2, hI2⟩
    try dsimp only
    rw [tl_some, g0_325]
    exact ⟨fun _ => go w2 hI2 hk2, fun q => absurd rfl q⟩
  · refine ⟨ge 1 (by omega) (by omega) w rfl, lay_0, ?_⟩
    refine T.imp (h2 (w 999 (i + 1)) (hr 1 (by omega) (by omega)) w hI) ?_
    rintro r1 w1 ⟨x, rfl, hk, hT⟩
    try dsimp only
    rw [tl_some, g0_339]
    try simp only [e1, e2, e3, e4, e5]
    refine ⟨ge 1 (by omega) (by omega) w1 (hk (-1)), lay_167, ?_⟩
    try simp only [hk]
    refine T.imp hT ?_
    rintro r2 w2 ⟨rfl, hk2, hI2⟩
    try dsimp only
    rw [tl_some, g0_348]
    exact ⟨fun _ => go w2 hI2 hk2, fun q => absurd rfl q⟩
  · refine ⟨ge 1 (by omega) (by omega) w rfl, ge 2 (by omega) (by omega) w rfl, lay_0, ?_⟩
    refine T.imp (h3 (w 999 (i + 1)) (w 999 (i + 2)) (hr 1 (by omega) (by omega)) (hr 2 (by omega) (by omega)) w hI) ?_
    rintro r1 w1 ⟨x, rfl, hk, hT⟩
    try dsimp only
    rw [tl_some, g0_367]
    try simp only [e1, e2, e3, e4, e5]
    refine ⟨ge 1 (by omega) (by omega) w1 (hk (-1)), ge 2 (by omega) (by omega) w1 (hk (-1)), lay_167, ?_⟩
    try simp only [hk]
    refine T.imp hT ?_
    rintro r2 w2 ⟨rfl, hk2, hI2⟩
    try dsimp only
    rw [tl_some, g0_381]
    exact ⟨fun _ => go w2 hI2 hk2, fun q => absurd rfl q⟩
  · refine ⟨ge 1 (by omega) (by omega) w rfl, ge 2 (by omega) (by omega) w rfl, lay_0, ?_⟩
    refine T.imp (h4 (w 999 (i + 1)) (w 999 (i + 2)) (hr 1 (by omega) (by omega)) (hr 2 (by omega) (by omega)) w hI) ?_
    rintro r1 w1 ⟨x, rfl, hk, hT⟩
    try dsimp only
    rw [tl_some, g0_400]
    try simp only [e1, e2, e3, e4, e5]
    refine ⟨ge 1 (by omega) (by omega) w1 (hk (-1)), ge 2 (by omega) (by omega) w1 (hk (-1)), lay_167, ?_⟩
    try simp only [hk]
    refine T.imp hT ?_
    rintro r2 w2 ⟨rfl, hk2, hI2⟩
    try dsimp only
    rw [tl_some, g0_414]
    exact ⟨fun _ => go w2 hI2 hk2, fun q => absurd rfl q⟩
  · refine ⟨ge 1 (by omega) (by omega) w rfl, lay_0, ?_⟩
    refine T.imp (h5 (w 999 (i + 1)) (hr 1 (by omega) (by omega)) w hI) ?_
    rintro r1 w1 ⟨x, rfl, hk, hT⟩
    try dsimp only
    rw [tl_some, g0_428]
    try simp only [e1, e2, e3, e4, e5]
    refine ⟨ge 1 (by omega) (by omega) w1 (hk (-1)), lay_167, ?_⟩
    try simp only [hk]
    refine T.imp hT ?_
    rintro r2 w2 ⟨rfl, hk2, hI2⟩
    try dsimp only
    rw [tl_some, g0_437]
    exact ⟨fun _ => go w2 hI2 hk2, fun q => absurd rfl q⟩
  · refine ⟨ge 1 (by omega) (by omega) w rfl, lay_0, ?_⟩
    refine T.imp (h6 (w 999 (i + 1)) (hr 1 (by omega) (by omega)) w hI) ?_
    rintro r1 w1 ⟨x, rfl, hk, hT⟩
    try dsimp only
    rw [tl_some, g0_451]
    try simp only [e1, e2, e3, e4, e5]
    refine ⟨ge 1 (by omega) (by omega) w1 (hk (-1)), lay_167, ?_⟩
    try simp only [hk]
    refine T.imp hT ?_
    rintro r2 w2 ⟨rfl, hk2, hI2⟩
    try dsimp only
    rw [tl_some, g0_460]
    exact ⟨fun _ => go w2 hI2 hk2, fun q => absurd rfl q⟩
  · refine ⟨ge 1 (by omega) (by omega) w rfl, lay_0, ?_⟩
    refine T.imp (h7 (w 999 (i + 1)) (hr 1 (by omega) (by omega)) w hI) ?_
    rintro r1 w1 ⟨x, rfl, hk, hT⟩
    try dsimp only
    rw [tl_some, g0_474]
    try simp only [e1, e2, e3, e4, e5]
    refine ⟨ge 1 (by omega) (by omega) w1 (hk (-1)), lay_167, ?_⟩
    try simp only [hk]
    refine T.imp hT ?_
    rintro r2 w2 ⟨rfl, hk2, hI2⟩
    try dsimp only
    rw [tl_some, g0_483]
    exact ⟨fun _ => go w2 hI2 hk2, fun q => absurd rfl q⟩
  · refine ⟨ge 1 (by omega) (by omega) w rfl, lay_0, ?_⟩
    refine T.imp (h8 (w 999 (i + 1)) (hr 1 (by omega) (by omega)) w hI) ?_
    rintro r1 w1 ⟨x, rfl, hk, hT⟩
    try dsimp only
    rw [tl_some, g0_497]
    try simp only [e1, e2, e3, e4, e5]
    refine ⟨ge 1 (by omega) (by omega) w1 (hk (-1)), lay_167, ?_⟩
    try simp only [hk]
    refine T.imp hT ?_
    rintro r2 w2 ⟨rfl, hk2, hI2⟩
    try dsimp only
    rw [tl_some, g0_506]
    exact ⟨fun _ => go w2 hI2 hk2, fun q => absurd rfl q⟩
  · refine ⟨ge 1 (by omega) (by omega) w rfl, lay_0, ?_⟩
    refine T.imp (h9 (w 999 (i + 1)) (hr 1 (by omega) (by omega)) w hI) ?_
    rintro r1 w1 ⟨x, rfl, hk, hT⟩
    try dsimp only
    rw [tl_some, g0_520]
    try simp only [e1, e2, e3, e4, e5]
    refine ⟨ge 1 (by omega) (by omega) w1 (hk (-1)), lay_167, ?_⟩
    try simp only [hk]
    refine T.imp hT ?_
    rintro r2 w2 ⟨rfl, hk2, hI2⟩
    try dsimp only
    rw [tl_some, g0_529]
    exact ⟨fun _ => go w2 hI2 hk2, fun q => absurd rfl q⟩
  · refine ⟨ge 1 (by omega) (by omega) w rfl, ge 2 (by omega) (by omega) w rfl, lay_0, ?_⟩
    refine T.imp (h10 (w 999 (i + 1)) (w 999 (i + 2)) (hr 1 (by omega) (by omega)) (hr 2 (by omega) (by omega)) w hI) ?_
    rintro r1 w1 ⟨x, rfl, hk, hT⟩
    try dsimp only
    rw [tl_some, g0_548]
    try simp only [e1, e2, e3, e4, e5]
    refine ⟨ge 1 (by omega) (by omega) w1 (hk (-1)), ge 2 (by omega) (by omega) w1 (hk (-1)), lay_167, ?_⟩
    try simp only [hk]
    refine T.imp hT ?_
    rintro r2 w2 ⟨rfl, hk2, hI2⟩
    try dsimp only
    rw [tl_some, g0_562]
    exact ⟨fun _ => go w2 hI2 hk2, fun q => absurd rfl q⟩
  · refine ⟨ge 1 (by omega) (by omega) w rfl, lay_0, ?_⟩
    refine T.imp (h11 (w 999 (i + 1)) (hr 1 (by omega) (by omega)) w hI) ?_
    rintro r1 w1 ⟨x, rfl, hk, hT⟩
    try dsimp only
    rw [tl_some, g0_576]
    try simp only [e1, e2, e3, e4, e5]
    refine ⟨ge 1 (by omega) (by omega) w1 (hk (-1)), lay_167, ?_⟩
    try simp only [hk]
    refine T.imp hT ?_
    rintro r2 w2 ⟨rfl, hk2, hI2⟩
    try dsimp only
    rw [tl_some, g0_585]
    exact ⟨fun _ => go w2 hI2 hk2, fun q => absurd rfl q⟩
  · refine ⟨ge 1 (by omega) (by omega) w rfl, lay_0, ?_⟩
    refine T.imp (h12 (w 999 (i + 1)) (hr 1 (by omega) (by omega)) w hI) ?_
    rintro r1 w1 ⟨x, rfl, hk, hT⟩
    try dsimp only
    rw [tl_some, g0_599]
    try simp only [e1, e2, e3, e4, e5]
    refine ⟨ge 1 (by omega) (by omega) w1 (hk (-1)), lay_167, ?_⟩
    try simp only [hk]
    refine T.imp hT ?_
    rintro r2 w2 ⟨rfl, hk2, hI2⟩
    try dsimp only
    rw [tl_some, g0_608]
    exact ⟨fun _ => go w2 hI2 hk2, fun q => absurd rfl q⟩
  · refine ⟨ge 1 (by omega) (by omega) w rfl, ge 2 (by omega) (by omega) w rfl, lay_0, ?_⟩
    refine T.imp (h13 (w 999 (i + 1)) (w 999 (i + 2)) (hr 1 (by omega) (by omega)) (hr 2 (by omega) (by omega)) w hI) ?_
    rintro r1 w1 ⟨x, rfl, hk, hT⟩
    try dsimp only
    rw [tl_some, g0_627]
    try simp only [e1, e2, e3, e4, e5]
    refine ⟨ge 1 (by omega) (by omega) w1 (hk (-1)), ge 2 (by omega) (by omega) w1 (hk (-1)), lay_167, ?_⟩
    try simp only [hk]
    refine T.imp hT ?_
    rintro r2 w2 ⟨rfl, hk2, hI2⟩
    try dsimp only
    rw [tl_some, g0_641]
    exact ⟨fun _ => go w2 hI2 hk2, fun q => absurd rfl q⟩
  · refine ⟨ge 1 (by omega) (by omega) w rfl, lay_0, ?_⟩
    refine T.imp (h14 (w 999 (i + 1)) (hr 1 (by omega) (by omega)) w hI) ?_
    rintro r1 w1 ⟨x, rfl, hk, hT⟩
    try dsimp only
    rw [tl_some, g0_655]
    try simp only [e1, e2, e3, e4, e5]
    refine ⟨ge 1 (by omega) (by omega) w1 (hk (-1)), lay_167, ?_⟩
    try simp only [hk]
    refine T.imp hT ?_
    rintro r2 w2 ⟨rfl, hk2, hI2⟩
    try dsimp only
    rw [tl_some, g0_664]
    exact ⟨fun _ => go w2 hI2 hk2, fun q => absurd rfl q⟩
  · refine ⟨ge 1 (by omega) (by omega) w rfl, ge 2 (by omega) (by omega) w rfl, lay_0, ?_⟩
    refine T.imp (h15 (w 999 (i + 1)) (w 999 (i + 2)) (hr 1 (by omega) (by omega)) (hr 2 (by omega) (by omega)) w hI) ?_
    rintro r1 w1 ⟨x, rfl, hk, hT⟩
    try dsimp only
    rw [tl_some, g0_683]
    try simp only [e1, e2, e3, e4, e5]
    refine ⟨ge 1 (by omega) (by omega) w1 (hk (-1)), ge 2 (by omega) (by omega) w1 (hk (-1)), lay_167, ?_⟩
    try simp only [hk]
    refine T.imp hT ?_
    rintro r2 w2 ⟨rfl, hk2, hI2⟩
    try dsimp only
    rw [tl_some, g0_697]
    exact ⟨fun _ => go w2 hI2 hk2, fun q => absurd rfl q⟩
  · refine ⟨ge 1 (by omega) (by omega) w rfl, lay_0, ?_⟩
    refine T.imp (h16 (w 999 (i + 1)) (hr 1 (by omega) (by omega)) w hI) ?_
    rintro r1 w1 ⟨x, rfl, hk, hT⟩
    try dsimp only
    rw [tl_some, g0_711]
    try simp only [e1, e2, e3, e4, e5]
    refine ⟨ge 1 (by omega) (by omega) w1 (hk (-1)), lay_167, ?_⟩
    try simp only [hk]
    refine T.imp hT ?_
    rintro r2 w2 ⟨rfl, hk2, hI2⟩
    try dsimp only
    rw [tl_some, g0_720]
    exact ⟨fun _ => go w2 hI2 hk2, fun q => absurd rfl q⟩
  · refine ⟨ge 1 (by omega) (by omega) w rfl, ge 2 (by omega) (by omega) w rfl, lay_0, ?_⟩
    refine T.imp (h17 (w 999 (i + 1)) (w 999 (i + 2)) (hr 1 (by omega) (by omega)) (hr 2 (by omega) (by omega)) w hI) ?_
    rintro r1 w1 ⟨x, rfl, hk, hT⟩
    try dsimp only
    rw [tl_some, g0_739]
    try simp only [e1, e2, e3, e4, e5]
    refine ⟨ge 1 (by omega) (by omega) w1 (hk (-1)), ge 2 (by omega) (by omega) w1 (hk (-1)), lay_167, ?_⟩
    try simp only [hk]
    refine T.imp hT ?_
    rintro r2 w2 ⟨rfl, hk2, hI2⟩
    try dsimp only
    rw [tl_some, g0_753]
    exact ⟨fun _ => go w2 hI2 hk2, fun q => absurd rfl q⟩
  · refine ⟨ge 1 (by omega) (by omega) w rfl, ge 2 (by omega) (by omega) w rfl, lay_0, ?_⟩
    refine T.imp (h18 (w 999 (i + 1)) (w 999 (i + 2)) (hr 1 (by omega) (by omega)) (hr 2 (by omega) (by omega)) w hI) ?_
    rintro r1 w1 ⟨x, rfl, hk, hT⟩
    try dsimp only
    rw [tl_some, g0_772]
    try simp only [e1, e2, e3, e4, e5]
    refine ⟨ge 1 (by omega) (by omega) w1 (hk (-1)), ge 2 (by omega) (by omega) w1 (hk (-1)), lay_167, ?_⟩
    try simp only [hk]
    refine T.imp hT ?_
    rintro r2 w2 ⟨rfl, hk2, hI2⟩
    try dsimp only
    rw [tl_some, g0_786]
    exact ⟨fun _ => go w2 hI2 hk2, fun q => absurd rfl q⟩
  · refine ⟨ge 1 (by omega) (by omega) w rfl, lay_0, ?_⟩
    refine T.imp (h19 (w 999 (i + 1)) (hr 1 (by omega) (by omega)) w hI) ?_
    rintro r1 w1 ⟨x, rfl, hk, hT⟩
    try dsimp only
    rw [tl_some, g0_800]
    try simp only [e1, e2, e3, e4, e5]
    refine ⟨ge 1 (by omega) (by omega) w1 (hk (-1)), lay_167, ?_⟩
    try simp only [hk]
    refine T.imp hT ?_
    rintro r2 w2 ⟨rfl, hk2, hI2⟩
    try dsimp only
    rw [tl_some, g0_809]
    exact ⟨fun _ => go w2 hI2 hk2, fun q => absurd rfl q⟩
  · refine ⟨ge 1 (by omega) (by omega) w rfl, lay_0, ?_⟩
    refine T.imp (h20 (w 999 (i + 1)) (hr 1 (by omega) (by omega)) w hI) ?_
    rintro r1 w1 ⟨x, rfl, hk, hT⟩
    try dsimp only
    rw [tl_some, g0_823]
    try simp only [e1, e2, e3, e4, e5]
    refine ⟨ge 1 (by omega) (by omega) w1 (hk (-1)), lay_167, ?_⟩
    try simp only [hk]
    refine T.imp hT ?_
    rintro r2 w2 ⟨rfl, hk2, hI2⟩
    try dsimp only
    rw [tl_some, g0_832]
    exact ⟨fun _ => go w2 hI2 hk2, fun q => absurd rfl q⟩
  · refine ⟨ge 1 (by omega) (by omega) w rfl, lay_0, ?_⟩
    refine T.imp (h21 (w 999 (i + 1)) (hr 1 (by omega) (by omega)) w hI) ?_
    rintro r1 w1 ⟨x, rfl, hk, hT⟩
    try dsimp only
    rw [tl_some, g0_846]
    try simp only [e1, e2, e3, e4, e5]
    refine ⟨ge 1 (by omega) (by omega) w1 (hk (-1)), lay_167, ?_⟩
    try simp only [hk]
    refine T.imp hT ?_
    rintro r2 w2 ⟨rfl, hk2, hI2⟩
    try dsimp only
    rw [tl_some, g0_855]
    exact ⟨fun _ => go w2 hI2 hk2, fun q => absurd rfl q⟩
  · refine ⟨lay_0, ?_⟩
    refine T.imp (h22   w hI) ?_
    rintro r1 w1 ⟨x, rfl, hk, hT⟩
    try dsimp only
    rw [tl_some, g0_864]
    try simp only [e1, e2, e3, e4, e5]
    refine ⟨lay_167, ?_⟩
    try simp only [hk]
    refine T.imp hT ?_
    rintro r2 w2 ⟨rfl, hk2, hI2⟩
    try dsimp only
    rw [tl_some, g0_868]
    exact ⟨fun _ => go w2 hI2 hk2, fun q => absurd rfl q⟩
  · refine ⟨lay_0, ?_⟩
    refine T.imp (h23   w hI) ?_
    rintro r1 w1 ⟨x, rfl, hk, hT⟩
    try dsimp only
    rw [tl_some, g0_877]
    try simp only [e1, e2, e3, e4, e5]
    refine ⟨lay_167, ?_⟩
    try simp only [hk]
    refine T.imp hT ?_
    rintro r2 w2 ⟨rfl, hk2, hI2⟩
    try dsimp only
    rw [tl_some, g0_881]
    exact ⟨fun _ => go w2 hI2 hk2, fun q => absurd rfl q⟩
  · refine ⟨ge 1 (by omega) (by omega) w rfl, ge 2 (by omega) (by omega) w rfl, lay_0, ?_⟩
    refine T.imp (h24 (w 999 (i + 1)) (w 999 (i + 2)) (hr 1 (by omega) (by omega)) (hr 2 (by omega) (by omega)) w hI) ?_
    rintro r1 w1 ⟨x, rfl, hk, hT⟩
    try dsimp only
    rw [tl_some, g0_900]
    try simp only [e1, e2, e3, e4, e5]
    refine ⟨ge 1 (by omega) (by omega) w1 (hk (-1)), ge 2 (by omega) (by omega) w1 (hk (-1)), lay_167, ?_⟩
    try simp only [hk]
    refine T.imp hT ?_
    rintro r2 w2 ⟨rfl, hk2, hI2⟩
    try dsimp only
    rw [tl_some, g0_914]
    exact ⟨fun _ => go w2 hI2 hk2, fun q => absurd rfl q⟩
  · refine ⟨ge 1 (by omega) (by omega) w rfl, lay_0, ?_⟩
    refine T.imp (h25 (w 999 (i + 1)) (hr 1 (by omega) (by omega)) w hI) ?_
    rintro r1 w1 ⟨x, rfl, hk, hT⟩
    try dsimp only
    rw [tl_some, g0_928]
    try simp only [e1, e2, e3, e4, e5]
    refine ⟨ge 1 (by omega) (by omega) w1 (hk (-1)), lay_167, ?_⟩
    try simp only [hk]
    refine T.imp hT ?_
    rintro r2 w2 ⟨rfl, hk2, hI2⟩
    try dsimp only
    rw [tl_some, g0_937]
    exact ⟨fun _ => go w2 hI2 hk2, fun q => absurd rfl q⟩
  · refine ⟨ge 1 (by omega) (by omega) w rfl, ge 2 (by omega) (by omega) w rfl, lay_0, ?_⟩
    refine T.imp (h26 (w 999 (i + 1)) (w 999 (i + 2)) (hr 1 (by omega) (by omega)) (hr 2 (by omega) (by omega)) w hI) ?_
    rintro r1 w1 ⟨x, rfl, hk, hT⟩
    try dsimp only
    rw [tl_some, g0_956]
    try simp only [e1, e2, e3, e4, e5]
    refine ⟨ge 1 (by omega) (by omega) w1 (hk (-1)), ge 2 (by omega) (by omega) w1 (hk (-1)), lay_167, ?_⟩
    try simp only [hk]
    refine T.imp hT ?_
    rintro r2 w2 ⟨rfl, hk2, hI2⟩
    try dsimp only
    rw [tl_some, g0_970]
    exact ⟨fun _ => go w2 hI2 hk2, fun q => absurd rfl q⟩
  · refine ⟨ge 1 (by omega) (by omega) w rfl, lay_0, ?_⟩
    refine T.imp (h27 (w 999 (i + 1)) (hr 1 (by omega) (by omega)) w hI) ?_
    rintro r1 w1 ⟨x, rfl, hk, hT⟩
    try dsimp only
    rw [tl_some, g0_984]
    try simp only [e1, e2, e3, e4, e5]
    refine ⟨ge 1 (by omega) (by omega) w1 (hk (-1)), lay_167, ?_⟩
    try simp only [hk]
    refine T.imp hT ?_
    rintro r2 w2 ⟨rfl, hk2, hI2⟩
    try dsimp only
    rw [tl_some, g0_993]
    exact ⟨fun _ => go w2 hI2 hk2, fun q => absurd rfl q⟩
  · refine ⟨ge 1 (by omega) (by omega) w rfl, lay_0, ?_⟩
    refine T.imp (h28 (w 999 (i + 1)) (hr 1 (by omega) (by omega)) w hI) ?_
    rintro r1 w1 ⟨x, rfl, hk, hT⟩
    try dsimp only
    rw [tl_some, g0_1007]
    try simp only [e1, e2, e3, e4, e5]
    refine ⟨ge 1 (by omega) (by omega) w1 (hk (-1)), lay_167, ?_⟩
    try simp only [hk]
    refine T.imp hT ?_
    rintro r2 w2 ⟨rfl, hk2, hI2⟩
    try dsimp only
    rw [tl_some, g0_1016]
    exact ⟨fun _ => go w2 hI2 hk2, fun q => absurd rfl q⟩
  · refine ⟨lay_0, ?_⟩
    refine T.imp (h29   w hI) ?_
    rintro r1 w1 ⟨x, rfl, hk, hT⟩
    try dsimp only
    rw [tl_some, g0_1025]
    try simp only [e1, e2, e3, e4, e5]
    refine ⟨lay_167, ?_⟩
    try simp only [hk]
    refine T.imp hT ?_
    rintro r2 w2 ⟨rfl, hk2, hI2⟩
    try dsimp only
    rw [tl_some, g0_1029]
    exact ⟨fun _ => go w2 hI2 hk2, fun q => absurd rfl q⟩
  · refine ⟨ge 1 (by omega) (by omega) w rfl, ge 2 (by omega) (by omega) w rfl, lay_0, ?_⟩
    refine T.imp (h30 (w 999 (i + 1)) (w 999 (i + 2)) (hr 1 (by omega) (by omega)) (hr 2 (by omega) (by omega)) w hI) ?_
    rintro r1 w1 ⟨x, rfl, hk, hT⟩
    try dsimp only
    rw [tl_some, g0_1048]
    try simp only [e1, e2, e3, e4, e5]
    refine ⟨ge 1 (by omega) (by omega) w1 (hk (-1)), ge 2 (by omega) (by omega) w1 (hk (-1)), lay_167, ?_⟩
    try simp only [hk]
    refine T.imp hT ?_
    rintro r2 w2 ⟨rfl, hk2, hI2⟩
    try dsimp only
    rw [tl_some, g0_1062]
    exact ⟨fun _ => go w2 hI2 hk2, fun q => absurd rfl q⟩
  · refine ⟨ge 1 (by omega) (by omega) w rfl, lay_0, ?_⟩
    refine T.imp (h31 (w 999 (i + 1)) (hr 1 (by omega) (by omega)) w hI) ?_
    rintro r1 w1 ⟨x, rfl, hk, hT⟩
    try dsimp only
    rw [tl_some, g0_1076]
    try simp only [e1, e2, e3, e4, e5]
    refine ⟨ge 1 (by omega) (by omega) w1 (hk (-1)), lay_167, ?_⟩
    try simp only [hk]
    refine T.imp hT ?_
    rintro r2 w2 ⟨rfl, hk2, hI2⟩
    try dsimp only
    rw [tl_some, g0_1085]
    exact ⟨fun _ => go w2 hI2 hk2, fun q => absurd rfl q⟩
  · refine ⟨ge 1 (by omega) (by omega) w rfl, ge 2 (by omega) (by omega) w rfl, lay_0, ?_⟩
    refine T.imp (h32 (w 999 (i + 1)) (w 999 (i + 2)) (hr 1 (by omega) (by omega)) (hr 2 (by omega) (by omega)) w hI) ?_
    rintro r1 w1 ⟨x, rfl, hk, hT⟩
    try dsimp only
    rw [tl_some, g0_1104]
    try simp only [e1, e2, e3, e4, e5]
    refine ⟨ge 1 (by omega) (by omega) w1 (hk (-1)), ge 2 (by omega) (by omega) w1 (hk (-1)), lay_167, ?_⟩
    try simp only [hk]
    refine T.imp hT ?_
    rintro r2 w2 ⟨rfl, hk2, hI2⟩
    try dsimp only
    rw [tl_some, g0_1118]
    exact ⟨fun _ => go w2 hI2 hk2, fun q => absurd rfl q⟩
  · refine ⟨ge 1 (by omega) (by omega) w rfl, lay_0, ?_⟩
    refine T.imp (h33 (w 999 (i + 1)) (hr 1 (by omega) (by omega)) w hI) ?_
    rintro r1 w1 ⟨x, rfl, hk, hT⟩
    try dsimp only
    rw [tl_some, g0_1132]
    try simp only [e1, e2, e3, e4, e5]
    refine ⟨ge 1 (by omega) (by omega) w1 (hk (-1)), lay_167, ?_⟩
    try simp only [hk]
    refine T.imp hT ?_
    rintro r2 w2 ⟨rfl, hk2, hI2⟩
    try dsimp only
    rw [tl_some, g0_1141]
    exact ⟨fun _ => go w2 hI2 hk2, fun q => absurd rfl q⟩
  · refine ⟨lay_0, ?_⟩
    refine T.imp (h34   w hI) ?_
    rintro r1 w1 ⟨x, rfl, hk, hT⟩
    try dsimp only
    rw [tl_some, g0_1150]
    try simp only [e1, e2, e3, e4, e5]
    refine ⟨lay_167, ?_⟩
    try simp only [hk]
    refine T.imp hT ?_
    rintro r2 w2 ⟨rfl, hk2, hI2⟩
    try dsimp only
    rw [tl_some, g0_1154]
    exact ⟨fun _ => go w2 hI2 hk2, fun q => absurd rfl q⟩
  · refine ⟨lay_0, ?_⟩
    refine T.imp (h35   w hI) ?_
    rintro r1 w1 ⟨x, rfl, hk, hT⟩
    try dsimp only
    rw [tl_some, g0_1163]
    try simp only [e1, e2, e3, e4, e5]
    refine ⟨lay_167, ?_⟩
    try simp only [hk]
    refine T.imp hT ?_
    rintro r2 w2 ⟨rfl, hk2, hI2⟩
    try dsimp only
    rw [tl_some, g0_1167]
    exact ⟨fun _ => go w2 hI2 hk2, fun q => absurd rfl q⟩
  · refine ⟨ge 1 (by omega) (by omega) w rfl, ge 2 (by omega) (by omega) w rfl, ge 3 (by omega) (by omega) w rfl, ge 4 (by omega) (by omega) w rfl, ge 5 (by omega) (by omega) w rfl, lay_0, ?_⟩
    refine T.imp (h36 (w 999 (i + 1)) (w 999 (i + 2)) (w 999 (i + 3)) (w 999 (i + 4)) (w 999 (i + 5)) (hr 1 (by omega) (by omega)) (hr 2 (by omega) (by omega)) (hr 3 (by omega) (by omega)) (hr 4 (by omega) (by omega)) (hr 5 (by omega) (by omega)) w hI) ?_
    rintro r1 w1 ⟨x, rfl, hk, hT⟩
    try dsimp only
    rw [tl_some, g0_1201]
    try simp only [e1, e2, e3, e4, e5]
    refine ⟨ge 1 (by omega) (by omega) w1 (hk (-1)), ge 2 (by omega) (by omega) w1 (hk (-1)), ge 3 (by omega) (by omega) w1 (hk (-1)), ge 4 (by omega) (by omega) w1 (hk (-1)), ge 5 (by omega) (by omega) w1 (hk (-1)), lay_167, ?_⟩
    try simp only [hk]
    refine T.imp hT ?_
    rintro r2 w2 ⟨rfl, hk2, hI2⟩
    try dsimp only
    rw [tl_some, g0_1230]
    exact ⟨fun _ => go w2 hI2 hk2, fun q => absurd rfl q⟩
  · refine ⟨ge 1 (by omega) (by omega) w rfl, ge 2 (by omega) (by omega) w rfl, lay_0, ?_⟩
    refine T.imp (h37 (w 999 (i + 1)) (w 999 (i + 2)) (hr 1 (by omega) (by omega)) (hr 2 (by omega) (by omega)) w hI) ?_
    rintro r1 w1 ⟨x, rfl, hk, hT⟩
    try dsimp only
    rw [tl_some, g0_1249]
    try simp only [e1, e2, e3, e4, e5]
    refine ⟨ge 1 (by omega) (by omega) w1 (hk (-1)), ge 2 (by omega) (by omega) w1 (hk (-1)), lay_167, ?_⟩
    try simp only [hk]
    refine T.imp hT ?_
    rintro r2 w2 ⟨rfl, hk2, hI2⟩
    try dsimp only
    rw [tl_some, g0_1263]
    exact ⟨fun _ => go w2 hI2 hk2, fun q => absurd rfl q⟩
  · refine ⟨ge 1 (by omega) (by omega) w rfl, ge 2 (by omega) (by omega) w rfl, lay_0, ?_⟩
    refine T.imp (h38 (w 999 (i + 1)) (w 999 (i + 2)) (hr 1 (by omega) (by omega)) (hr 2 (by omega) (by omega)) w hI) ?_
    rintro r1 w1 ⟨x, rfl, hk, hT⟩
    try dsimp only
    rw [tl_some, g0_1282]
    try simp only [e1, e2, e3, e4, e5]
    refine ⟨ge 1 (by omega) (by omega) w1 (hk (-1)), ge 2 (by omega) (by omega) w1 (hk (-1)), lay_167, ?_⟩
    try simp only [hk]
    refine T.imp hT ?_
    rintro r2 w2 ⟨rfl, hk2, hI2⟩
    try dsimp only
    rw [tl_some, g0_1296]
    exact ⟨fun _ => go w2 hI2 hk2, fun q => absurd rfl q⟩
  · refine ⟨ge 1 (by omega) (by omega) w rfl, ge 2 (by omega) (by omega) w rfl, ge 3 (by omega) (by omega) w rfl, lay_0, ?_⟩
    refine T.imp (h39 (w 999 (i + 1)) (w 999 (i + 2)) (w 999 (i + 3)) (hr 1 (by omega) (by omega)) (hr 2 (by omega) (by omega)) (hr 3 (by omega) (by omega)) w hI) ?_
    rintro r1 w1 ⟨x, rfl, hk, hT⟩
    try dsimp only
    rw [tl_some, g0_1320]
    try simp only [e1, e2, e3, e4, e5]
    refine ⟨ge 1 (by omega) (by omega) w1 (hk (-1)), ge 2 (by omega) (by omega) w1 (hk (-1)), ge 3 (by omega) (by omega) w1 (hk (-1)), lay_167, ?_⟩
    try simp only [hk]
    refine T.imp hT ?_
    rintro r2 w2 ⟨rfl, hk2, hI2⟩
    try dsimp only
    rw [tl_some, g0_1339]
    exact ⟨fun _ => go w2 hI2 hk2, fun q => absurd rfl q⟩
  · refine ⟨ge 1 (by omega) (by omega) w rfl, ge 2 (by omega) (by omega) w rfl, lay_0, ?_⟩
    refine T.imp (h40 (w 999 (i + 1)) (w 999 (i + 2)) (hr 1 (by omega) (by omega)) (hr 2 (by omega) (by omega)) w hI) ?_
    rintro r1 w1 ⟨x, rfl, hk, hT⟩
    try dsimp only
    rw [tl_some, g0_1358]
    try simp only [e1, e2, e3, e4, e5]
    refine ⟨ge 1 (by omega) (by omega) w1 (hk (-1)), ge 2 (by omega) (by omega) w1 (hk (-1)), lay_167, ?_⟩
    try simp only [hk]
    refine T.imp hT ?_
    rintro r2 w2 ⟨rfl, hk2, hI2⟩
    try dsimp only
    rw [tl_some, g0_1372]
    exact ⟨fun _ => go w2 hI2 hk2, fun q => absurd rfl q⟩
  · refine ⟨ge 1 (by omega) (by omega) w rfl, ge 2 (by omega) (by omega) w rfl, lay_0, ?_⟩
    refine T.imp (h41 (w 999 (i + 1)) (w 999 (i + 2)) (hr 1 (by omega) (by omega)) (hr 2 (by omega) (by omega)) w hI) ?_
    rintro r1 w1 ⟨x, rfl, hk, hT⟩
    try dsimp only
    rw [tl_some, g0_1391]
    try simp only [e1, e2, e3, e4, e5]
    refine ⟨ge 1 (by omega) (by omega) w1 (hk (-1)), ge 2 (by omega) (by omega) w1 (hk (-1)), lay_167, ?_⟩
    try simp only [hk]
    refine T.imp hT ?_
    rintro r2 w2 ⟨rfl, hk2, hI2⟩
    try dsimp only
    rw [tl_some, g0_1405]
    exact ⟨fun _ => go w2 hI2 hk2, fun q => absurd rfl q⟩
  · refine ⟨ge 1 (by omega) (by omega) w rfl, lay_0, ?_⟩
    refine T.imp (h42 (w 999 (i + 1)) (hr 1 (by omega) (by omega)) w hI) ?_
    rintro r1 w1 ⟨x, rfl, hk, hT⟩
    try dsimp only
    rw [tl_some, g0_1419]
    try simp only [e1, e2, e3, e4, e5]
    refine ⟨ge 1 (by omega) (by omega) w1 (hk (-1)), lay_167, ?_⟩
    try simp only [hk]
    refine T.imp hT ?_
    rintro r2 w2 ⟨rfl, hk2, hI2⟩
    try dsimp only
    rw [tl_some, g0_1428]
    exact ⟨fun _ => go w2 hI2 hk2, fun q => absurd rfl q⟩
  · refine ⟨ge 1 (by omega) (by omega) w rfl, lay_0, ?_⟩
    refine T.imp (h43 (w 999 (i + 1)) (hr 1 (by omega) (by omega)) w hI) ?_
    rintro r1 w1 ⟨x, rfl, hk, hT⟩
    try dsimp only
    rw [tl_some, g0_1442]
    try simp only [e1, e2, e3, e4, e5]
    refine ⟨ge 1 (by omega) (by omega) w1 (hk (-1)), lay_167, ?_⟩
    try simp only [hk]
    refine T.imp hT ?_
    rintro r2 w2 ⟨rfl, hk2, hI2⟩
    try dsimp only
    rw [tl_some, g0_1451]
    exact ⟨fun _ => go w2 hI2 hk2, fun q => absurd rfl q⟩
  · refine ⟨ge 1 (by omega) (by omega) w rfl, ge 2 (by omega) (by omega) w rfl, ge 3 (by omega) (by omega) w rfl, lay_0, ?_⟩
    refine T.imp (h44 (w 999 (i + 1)) (w 999 (i + 2)) (w 999 (i + 3)) (hr 1 (by omega) (by omega)) (hr 2 (by omega) (by omega)) (hr 3 (by omega) (by omega)) w hI) ?_
    rintro r1 w1 ⟨x, rfl, hk, hT⟩
    try dsimp only
    rw [tl_some, g0_1475]
    try simp only [e1, e2, e3, e4, e5]
    refine ⟨ge 1 (by omega) (by omega) w1 (hk (-1)), ge 2 (by omega) (by omega) w1 (hk (-1)), ge 3 (by omega) (by omega) w1 (hk (-1)), lay_167, ?_⟩
    try simp only [hk]
    refine T.imp hT ?_
    rintro r2 w2 ⟨rfl, hk2, hI2⟩
    try dsimp only
    rw [tl_some, g0_1494]
    exact ⟨fun _ => go w2 hI2 hk2, fun q => absurd rfl q⟩
  · refine ⟨ge 1 (by omega) (by omega) w rfl, ge 2 (by omega) (by omega) w rfl, ge 3 (by omega) (by omega) w rfl, ge 4 (by omega) (by omega) w rfl, lay_0, ?_⟩
    refine T.imp (h45 (w 999 (i + 1)) (w 999 (i + 2)) (w 999 (i + 3)) (w 999 (i + 4)) (hr 1 (by omega) (by omega)) (hr 2 (by omega) (by omega)) (hr 3 (by omega) (by omega)) (hr 4 (by omega) (by omega)) w hI) ?_
    rintro r1 w1 ⟨x, rfl, hk, hT⟩
    try dsimp only
    rw [tl_some, g0_1533]
    try simp only [e1, e2, e3, e4, e5]
    refine ⟨ge 1 (by omega) (by omega) w1 (hk (-1)), ge 2 (by omega) (by omega) w1 (hk (-1)), ge 3 (by omega) (by omega) w1 (hk (-1)), ge 4 (by omega) (by omega) w1 (hk (-1)), lay_167, ?_⟩
    try simp only [hk]
    refine T.imp hT ?_
    rintro r2 w2 ⟨rfl, hk2, hI2⟩
    try dsimp only
    rw [tl_some, g0_1567]
    exact ⟨fun _ => go w2 hI2 hk2, fun q => absurd (by rw [kcmp_eq]) q⟩
  · refine ⟨ge 1 (by omega) (by omega) w rfl, lay_0, ?_⟩
    refine T.imp (h46 (w 999 (i + 1)) (hr 1 (by omega) (by omega)) w hI) ?_
    rintro r1 w1 ⟨x, rfl, hk, hT⟩
    try dsimp only
    rw [tl_some, g0_1582]
    try simp only [e1, e2, e3, e4, e5]
    refine ⟨ge 1 (by omega) (by omega) w1 (hk (-1)), lay_167, ?_⟩
    try simp only [hk]
    refine T.imp hT ?_
    rintro r2 w2 ⟨rfl, hk2, hI2⟩
    try dsimp only
    rw [tl_some, g0_1591]
    exact ⟨fun _ => go w2 hI2 hk2, fun q => absurd rfl q⟩
  · refine ⟨ge 1 (by omega) (by omega) w rfl, lay_0, ?_⟩
    refine T.imp (h47 (w 999 (i + 1)) (hr 1 (by omega) (by omega)) w hI) ?_
    rintro r1 w1 ⟨x, rfl, hk, hT⟩
    try dsimp only
    rw [tl_some, g0_1605]
    try simp only [e1, e2, e3, e4, e5]
    refine ⟨ge 1 (by omega) (by omega) w1 (hk (-1)), lay_167, ?_⟩
    try simp only [hk]
    refine T.imp hT ?_
    rintro r2 w2 ⟨rfl, hk2, hI2⟩
    try dsimp only
    rw [tl_some, g0_1614]
    exact ⟨fun _ => go w2 hI2 hk2, fun q => absurd rfl q⟩
  · refine ⟨ge 1 (by omega) (by omega) w rfl, lay_0, ?_⟩
    refine T.imp (h48 (w 999 (i + 1)) (hr 1 (by omega) (by omega)) w hI) ?_
    rintro r1 w1 ⟨x, rfl, hk, hT⟩
    try dsimp only
    rw [tl_some, g0_1628]
    try simp only [e1, e2, e3, e4, e5]
    refine ⟨ge 1 (by omega) (by omega) w1 (hk (-1)), lay_167, ?_⟩
    try simp only [hk]
    refine T.imp hT ?_
    rintro r2 w2 ⟨rfl, hk2, hI2⟩
    try dsimp only
    rw [tl_some, g0_1637]
    exact ⟨fun _ => go w2 hI2 hk2, fun q => absurd rfl q⟩
  · exact go w hI (fun _ => rfl)
theorem law_run {Inv : aW → Prop} {D : Nat}
  (h0 : ∀ a b c d e : Int, R32 a → R32 b → R32 c → R32 d → R32 e → Sim Inv D 1 2 [some (vr 0), some (vi a), some (vi b), some (vi c), some (vi d), some (vi e)] [some (vr 167), some (vi a), some (vi b), some (vi c), some (vi d), some (vi e), none, none])
  (h1 : ∀ a : Int, R32 a → Sim Inv D 3 4 [some (vr 0), some (vi a)] [some (vr 167), some (vi a), none])
  (h2 : ∀ a : Int, R32 a → Sim Inv D 5 6 [some (vr 0), some (vi a)] [some (vr 167), some (vi a)])
  (h3 : ∀ a b : Int, R32 a → R32 b → Sim Inv D 7 8 [some (vr 0), some (vi a), some (vi b)] [some (vr 167), some (vi a), some (vi b)])
  (h4 : ∀ a b : Int, R32 a → R32 b → Sim Inv D 9 10 [some (vr 0), some (vi a), some (vi b)] [some (vr 167), some (vi a), some (vi b)])
  (h5 : ∀ a : Int, R32 a → Sim Inv D 11 12 [some (vr 0), some (vi a)] [some (vr 167), some (vi a)])
  (h6 : ∀ a : Int, R32 a → Sim Inv D 13 14 [some (vr 0), some (vi a), none] [some (vr 167), some (vi a), none])
  (h7 : ∀ a : Int, R32 a → Sim Inv D 15 16 [some (vr 0), some (vi a), none, none] [some (vr 167), some (vi a), none, none])
  (h8 : ∀ a : Int, R32 a → Sim Inv D 17 18 [some (vr 0), some (vi a)] [some (vr 167), some (vi a)])
  (h9 : ∀ a : Int, R32 a → Sim Inv D 19 20 [some (vr 0), some (vi a)] [some (vr 167), some (vi a)])
  (h10 : ∀ a b : Int, R32 a → R32 b → Sim Inv D 21 22 [some (vr 0), some (vi a), some (vi b), none] [some (vr 167), some (vi a), some (vi b), none])
  (h11 : ∀ a : Int, R32 a → Sim Inv D 23 24 [some (vr 0), some (vi a)] [some (vr 167), some (vi a), none, none])
  (h12 : ∀ a : Int, R32 a → Sim Inv D 25 26 [some (vr 0), some (vi a)] [some (vr 167), some (vi a), none])
  (h13 : ∀ a b : Int, R32 a → R32 b → Sim Inv D 27 28 [some (vr 0), some (vi a), some (vi b), none] [some (vr 167), some (vi a), some (vi b), none, none, none])
  (h14 : ∀ a : Int, R32 a → Sim Inv D 29 30 [some (vr 0), some (vi a), none] [some (vr 167), some (vi a), none])
  (h15 : ∀ a b : Int, R32 a → R32 b → Sim Inv D 31 32 [some (vr 0), some (vi a), some (vi b)] [some (vr 167), some (vi a), some (vi b), none])
  (h16 : ∀ a : Int, R32 a → Sim Inv D 33 34 [some (vr 0), some (vi a)] [some (vr 167), some (vi a)])
  (h17 : ∀ a b : Int, R32 a → R32 b → Sim Inv D 35 36 [some (vr 0), some (vi a), some (vi b), none, none, none] [some (vr 167), some (vi a), some (vi b)])
  (h18 : ∀ a b : Int, R32 a → R32 b → Sim Inv D 37 38 [some (vr 0), some (vi a), some (vi b)] [some (vr 167), some (vi a), some (vi b)])
  (h19 : ∀ a : Int, R32 a → Sim Inv D 39 40 [some (vr 0), some (vi a), none, none] [some (vr 167), some (vi a), none, none])
  (h20 : ∀ a : Int, R32 a → Sim Inv D 41 42 [some (vr 0), some (vi a), none] [some (vr 167), some (vi a), none, none])
  (h21 : ∀ a : Int, R32 a → Sim Inv D 43 44 [some (vr 0), some (vi a), none, none] [some (vr 167), some (vi a), none, none])
  (h22 : Sim Inv D 45 46 [some (vr 0)] [some (vr 167), none, none])
  (h23 : Sim Inv D 47 48 [some (vr 0), none, none] [some (vr 167), none, none])
  (h24 : ∀ a b : Int, R32 a → R32 b → Sim Inv D 49 50 [some (vr 0), some (vi a), some (vi b), none] [some (vr 167), some (vi a), some (vi b), none, none, none, none, none])
  (h25 : ∀ a : Int, R32 a → Sim Inv D 51 52 [some (vr 0), some (vi a), none, none] [some (vr 167), some (vi a), none])
  (h26 : ∀ a b : Int, R32 a → R32 b → Sim Inv D 53 54 [some (vr 0), some (vi a), some (vi b), none] [some (vr 167), some (vi a), some (vi b), none, none, none])
  (h27 : ∀ a : Int, R32 a → Sim Inv D 55 56 [some (vr 0), some (vi a)] [some (vr 167), some (vi a)])
  (h28 : ∀ a : Int, R32 a → Sim Inv D 57 58 [some (vr 0), some (vi a)] [some (vr 167), some (vi a)])
  (h29 : Sim Inv D 59 60 [some (vr 0), none, none] [some (vr 167), none, none])
  (h30 : ∀ a b : Int, R32 a → R32 b → Sim Inv D 61 62 [some (vr 0), some (vi a), some (vi b)] [some (vr 167), some (vi a), some (vi b), none, none])
  (h31 : ∀ a : Int, R32 a → Sim Inv D 63 64 [some (vr 0), some (vi a), none, none] [some (vr 167), some (vi a), none])
  (h32 : ∀ a b : Int, R32 a → R32 b → Sim Inv D 65 66 [some (vr 0), some (vi a), some (vi b), none, none, none] [some (vr 167), some (vi a), some (vi b), none, none, none])
  (h33 : ∀ a : Int, R32 a → Sim Inv D 67 68 [some (vr 0), some (vi a), none] [some (vr 167), some (vi a), none, none, none])
  (h34 : Sim Inv D 69 70 [some (vr 0)] [some (vr 167)])
  (h35 : Sim Inv D 71 72 [some (vr 0)] [some (vr 167)])
  (h36 : ∀ a b c d e : Int, R32 a → R32 b → R32 c → R32 d → R32 e → Sim Inv D 73 74 [some (vr 0), some (vi a), some (vi b), some (vi c), some (vi d), some (vi e), none, none] [some (vr 167), some (vi a), some (vi b), some (vi c), some (vi d), some (vi e), none, none])
  (h37 : ∀ a b : Int, R32 a → R32 b → Sim Inv D 75 76 [some (vr 0), some (vi a), some (vi b)] [some (vr 167), some (vi a), some (vi b), none, none])
  (h38 : ∀ a b : Int, R32 a → R32 b → Sim Inv D 77 78 [some (vr 0), some (vi a), some (vi b), none] [some (vr 167), some (vi a), some (vi b), none])
  (h39 : ∀ a b c : Int, R32 a → R32 b → R32 c → Sim Inv D 79 80 [some (vr 0), some (vi a), some (vi b), some (vi c), none, none] [some (vr 167), some (vi a), some (vi b), some (vi c), none, none, none])
  (h40 : ∀ a b : Int, R32 a → R32 b → Sim Inv D 81 82 [some (vr 0), some (vi a), some (vi b), none] [some (vr 167), some (vi a), some (vi b), none, none, none])
  (h41 : ∀ a b : Int, R32 a → R32 b → Sim Inv D 83 84 [some (vr 0), some (vi a), some (vi b), none] [some (vr 167), some (vi a), some (vi b), none, none, none, none, none, none])
  (h42 : ∀ a : Int, R32 a → Sim Inv D 85 86 [some (vr 0), some (vi a), none, none, none, none] [some (vr 167), some (vi a), none, none])
  (h43 : ∀ a : Int, R32 a → Sim Inv D 87 88 [some (vr 0), some (vi a), none, none] [some (vr 167), some (vi a), none, none, none, none])
  (h44 : ∀ a b c : Int, R32 a → R32 b → R32 c → Sim Inv D 89 90 [some (vr 0), some (vi a), some (vi b), some (vi c)] [some (vr 167), some (vi a), some (vi b), some (vi c), none])
  (h45 : ∀ a b c d : Int, R32 a → R32 b → R32 c → R32 d → SimL Inv D 91 92 [some (vr 0), some (vi a), some (vi b), some (vl (kor (kshl c 32) (kand d 4294967295))), none] [some (vr 167), some (vi a), some (vi b), some (vl (kor (kshl c 32) (kand d 4294967295))), none])
  (h46 : ∀ a : Int, R32 a → Sim Inv D 93 94 [some (vr 0), some (vi a)] [some (vr 167), some (vi a), none])
  (h47 : ∀ a : Int, R32 a → Sim Inv D 95 96 [some (vr 0), some (vi a)] [some (vr 167), some (vi a), none])
  (h48 : ∀ a : Int, R32 a → Sim Inv D 97 98 [some (vr 0), some (vi a)] [some (vr 167), some (vi a)])
  {L : Int} (hL0 : 0 ≤ L) (hL2 : L ≤ 3072) : ∀ (n : Nat) (w : aW) (i : Int), Inv w → w 999 (-1) = L → (∀ j, 0 ≤ j → j < L → R32 (w 999 j)) → 0 ≤ i → L + 6 ≤ i + 6 * (n : Int) → T (D + 1) 0 18 [some (vr 999), some (vr 0), some (vr 167), some (vi i)] [] w (fun r _ => r = some (vi 1)) := by
  intro n
  induction n with
  | zero =>
    intro w i hI hL hr hi hn
    exact law_step h0 h1 h2 h3 h4 h5 h6 h7 h8 h9 h10 h11 h12 h13 h14 h15 h16 h17 h18 h19 h20 h21 h22 h23 h24 h25 h26 h27 h28 h29 h30 h31 h32 h33 h34 h35 h36 h37 h38 h39 h40 h41 h42 h43 h44 h45 h46 h47 h48 hI hL hL0 hL2 hi hr rfl (fun w2 hI2 hk h6 => by omega)
  | succ n ih =>
    intro w i hI hL hr hi hn
    exact law_step h0 h1 h2 h3 h4 h5 h6 h7 h8 h9 h10 h11 h12 h13 h14 h15 h16 h17 h18 h19 h20 h21 h22 h23 h24 h25 h26 h27 h28 h29 h30 h31 h32 h33 h34 h35 h36 h37 h38 h39 h40 h41 h42 h43 h44 h45 h46 h47 h48 hI hL hL0 hL2 hi hr rfl (fun w2 hI2 hk h6 => ih w2 (i + 6) hI2 (by rw [hk]; exact hL) (fun j h1 h2 => by rw [hk]; exact hr j h1 h2) (by omega) (by omega))
theorem law_T {Inv : aW → Prop} {D : Nat}
  (h0 : ∀ a b c d e : Int, R32 a → R32 b → R32 c → R32 d → R32 e → Sim Inv D 1 2 [some (vr 0), some (vi a), some (vi b), some (vi c), some (vi d), some (vi e)] [some (vr 167), some (vi a), some (vi b), some (vi c), some (vi d), some (vi e), none, none])
  (h1 : ∀ a : Int, R32 a → Sim Inv D 3 4 [some (vr 0), some (vi a)] [some (vr 167), some (vi a), none])
  (h2 : ∀ a : Int, R32 a → Sim Inv D 5 6 [some (vr 0), some (vi a)] [some (vr 167), some (vi a)])
  (h3 : ∀ a b : Int, R32 a → R32 b → Sim Inv D 7 8 [some (vr 0), some (vi a), some (vi b)] [some (vr 167), some (vi a), some (vi b)])
  (h4 : ∀ a b : Int, R32 a → R32 b → Sim Inv D 9 10 [some (vr 0), some (vi a), some (vi b)] [some (vr 167), some (vi a), some (vi b)])
  (h5 : ∀ a : Int, R32 a → Sim Inv D 11 12 [some (vr 0), some (vi a)] [some (vr 167), some (vi a)])
  (h6 : ∀ a : Int, R32 a → Sim Inv D 13 14 [some (vr 0), some (vi a), none] [some (vr 167), some (vi a), none])
  (h7 : ∀ a : Int, R32 a → Sim Inv D 15 16 [some (vr 0), some (vi a), none, none] [some (vr 167), some (vi a), none, none])
  (h8 : ∀ a : Int, R32 a → Sim Inv D 17 18 [some (vr 0), some (vi a)] [some (vr 167), some (vi a)])
  (h9 : ∀ a : Int, R32 a → Sim Inv D 19 20 [some (vr 0), some (vi a)] [some (vr 167), some (vi a)])
  (h10 : ∀ a b : Int, R32 a → R32 b → Sim Inv D 21 22 [some (vr 0), some (vi a), some (vi b), none] [some (vr 167), some (vi a), some (vi b), none])
  (h11 : ∀ a : Int, R32 a → Sim Inv D 23 24 [some (vr 0), some (vi a)] [some (vr 167), some (vi a), none, none])
  (h12 : ∀ a : Int, R32 a → Sim Inv D 25 26 [some (vr 0), some (vi a)] [some (vr 167), some (vi a), none])
  (h13 : ∀ a b : Int, R32 a → R32 b → Sim Inv D 27 28 [some (vr 0), some (vi a), some (vi b), none] [some (vr 167), some (vi a), some (vi b), none, none, none])
  (h14 : ∀ a : Int, R32 a → Sim Inv D 29 30 [some (vr 0), some (vi a), none] [some (vr 167), some (vi a), none])
  (h15 : ∀ a b : Int, R32 a → R32 b → Sim Inv D 31 32 [some (vr 0), some (vi a), some (vi b)] [some (vr 167), some (vi a), some (vi b), none])
  (h16 : ∀ a : Int, R32 a → Sim Inv D 33 34 [some (vr 0), some (vi a)] [some (vr 167), some (vi a)])
  (h17 : ∀ a b : Int, R32 a → R32 b → Sim Inv D 35 36 [some (vr 0), some (vi a), some (vi b), none, none, none] [some (vr 167), some (vi a), some (vi b)])
  (h18 : ∀ a b : Int, R32 a → R32 b → Sim Inv D 37 38 [some (vr 0), some (vi a), some (vi b)] [some (vr 167), some (vi a), some (vi b)])
  (h19 : ∀ a : Int, R32 a → Sim Inv D 39 40 [some (vr 0), some (vi a), none, none] [some (vr 167), some (vi a), none, none])
  (h20 : ∀ a : Int, R32 a → Sim Inv D 41 42 [some (vr 0), some (vi a), none] [some (vr 167), some (vi a), none, none])
  (h21 : ∀ a : Int, R32 a → Sim Inv D 43 44 [some (vr 0), some (vi a), none, none] [some (vr 167), some (vi a), none, none])
  (h22 : Sim Inv D 45 46 [some (vr 0)] [some (vr 167), none, none])
  (h23 : Sim Inv D 47 48 [some (vr 0), none, none] [some (vr 167), none, none])
  (h24 : ∀ a b : Int, R32 a → R32 b → Sim Inv D 49 50 [some (vr 0), some (vi a), some (vi b), none] [some (vr 167), some (vi a), some (vi b), none, none, none, none, none])
  (h25 : ∀ a : Int, R32 a → Sim Inv D 51 52 [some (vr 0), some (vi a), none, none] [some (vr 167), some (vi a), none])
  (h26 : ∀ a b : Int, R32 a → R32 b → Sim Inv D 53 54 [some (vr 0), some (vi a), some (vi b), none] [some (vr 167), some (vi a), some (vi b), none, none, none])
  (h27 : ∀ a : Int, R32 a → Sim Inv D 55 56 [some (vr 0), some (vi a)] [some (vr 167), some (vi a)])
  (h28 : ∀ a : Int, R32 a → Sim Inv D 57 58 [some (vr 0), some (vi a)] [some (vr 167), some (vi a)])
  (h29 : Sim Inv D 59 60 [some (vr 0), none, none] [some (vr 167), none, none])
  (h30 : ∀ a b : Int, R32 a → R32 b → Sim Inv D 61 62 [some (vr 0), some (vi a), some (vi b)] [some (vr 167), some (vi a), some (vi b), none, none])
  (h31 : ∀ a : Int, R32 a → Sim Inv D 63 64 [some (vr 0), some (vi a), none, none] [some (vr 167), some (vi a), none])
  (h32 : ∀ a b : Int, R32 a → R32 b → Sim Inv D 65 66 [some (vr 0), some (vi a), some (vi b), none, none, none] [some (vr 167), some (vi a), some (vi b), none, none, none])
  (h33 : ∀ a : Int, R32 a → Sim Inv D 67 68 [some (vr 0), some (vi a), none] [some (vr 167), some (vi a), none, none, none])
  (h34 : Sim Inv D 69 70 [some (vr 0)] [some (vr 167)])
  (h35 : Sim Inv D 71 72 [some (vr 0)] [some (vr 167)])
  (h36 : ∀ a b c d e : Int, R32 a → R32 b → R32 c → R32 d → R32 e → Sim Inv D 73 74 [some (vr 0), some (vi a), some (vi b), some (vi c), some (vi d), some (vi e), none, none] [some (vr 167), some (vi a), some (vi b), some (vi c), some (vi d), some (vi e), none, none])
  (h37 : ∀ a b : Int, R32 a → R32 b → Sim Inv D 75 76 [some (vr 0), some (vi a), some (vi b)] [some (vr 167), some (vi a), some (vi b), none, none])
  (h38 : ∀ a b : Int, R32 a → R32 b → Sim Inv D 77 78 [some (vr 0), some (vi a), some (vi b), none] [some (vr 167), some (vi a), some (vi b), none])
  (h39 : ∀ a b c : Int, R32 a → R32 b → R32 c → Sim Inv D 79 80 [some (vr 0), some (vi a), some (vi b), some (vi c), none, none] [some (vr 167), some (vi a), some (vi b), some (vi c), none, none, none])
  (h40 : ∀ a b : Int, R32 a → R32 b → Sim Inv D 81 82 [some (vr 0), some (vi a), some (vi b), none] [some (vr 167), some (vi a), some (vi b), none, none, none])
  (h41 : ∀ a b : Int, R32 a → R32 b → Sim Inv D 83 84 [some (vr 0), some (vi a), some (vi b), none] [some (vr 167), some (vi a), some (vi b), none, none, none, none, none, none])
  (h42 : ∀ a : Int, R32 a → Sim Inv D 85 86 [some (vr 0), some (vi a), none, none, none, none] [some (vr 167), some (vi a), none, none])
  (h43 : ∀ a : Int, R32 a → Sim Inv D 87 88 [some (vr 0), some (vi a), none, none] [some (vr 167), some (vi a), none, none, none, none])
  (h44 : ∀ a b c : Int, R32 a → R32 b → R32 c → Sim Inv D 89 90 [some (vr 0), some (vi a), some (vi b), some (vi c)] [some (vr 167), some (vi a), some (vi b), some (vi c), none])
  (h45 : ∀ a b c d : Int, R32 a → R32 b → R32 c → R32 d → SimL Inv D 91 92 [some (vr 0), some (vi a), some (vi b), some (vl (kor (kshl c 32) (kand d 4294967295))), none] [some (vr 167), some (vi a), some (vi b), some (vl (kor (kshl c 32) (kand d 4294967295))), none])
  (h46 : ∀ a : Int, R32 a → Sim Inv D 93 94 [some (vr 0), some (vi a)] [some (vr 167), some (vi a), none])
  (h47 : ∀ a : Int, R32 a → Sim Inv D 95 96 [some (vr 0), some (vi a)] [some (vr 167), some (vi a), none])
  (h48 : ∀ a : Int, R32 a → Sim Inv D 97 98 [some (vr 0), some (vi a)] [some (vr 167), some (vi a)])
  {L : Int} (hL0 : 0 ≤ L) (hL2 : L ≤ 3072) {w : aW} {x3 : Option aV} (hI : Inv w) (hL : w 999 (-1) = L) (hr : ∀ j, 0 ≤ j → j < L → R32 (w 999 j)) : T (D + 1) 0 16 [some (vr 999), some (vr 0), some (vr 167), x3] [] w (fun r _ => r = some (vi 1)) := by
  rw [g0_16]
  exact law_run h0 h1 h2 h3 h4 h5 h6 h7 h8 h9 h10 h11 h12 h13 h14 h15 h16 h17 h18 h19 h20 h21 h22 h23 h24 h25 h26 h27 h28 h29 h30 h31 h32 h33 h34 h35 h36 h37 h38 h39 h40 h41 h42 h43 h44 h45 h46 h47 h48 hL0 hL2 600 w 0 hI hL hr (by omega) (by omega)
