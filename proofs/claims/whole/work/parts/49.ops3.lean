/-! Pairs of calls: count. -/
theorem bsum_hi {a n : Nat} (h : a < 2 ^ n) : ∀ m, n ≤ m → bsum a m = bsum a n := by
  intro m
  induction m with
  | zero => intro h2; rw [show n = 0 by omega]
  | succ m ih =>
    intro h2
    rcases Nat.lt_or_ge m n with q | q
    · rw [show n = m + 1 by omega]
    · rw [bsum, ih q]
      have : bI a m = 0 := bI_0.mpr (Nat.testBit_lt_two_pow (Nat.lt_of_lt_of_le h (Nat.pow_le_pow_right (by decide) q)))
      omega
theorem sm_bsum {a : Nat} {f : Nat → Int} : ∀ n, (∀ k, k < n → f k = bI a k) → sm f n = bsum a n := by
  intro n
  induction n with
  | zero => intro _; rfl
  | succ n ih => intro h; rw [sm, bsum, ih (fun k hk => h k (by omega)), h n (by omega)]
section Ops3
variable {D : Nat}
/-- ruleMany() -/
theorem k_ruleMany {N : Nat} {x1 x2 : Option aV} {w : aW} {Q : Option aV → aW → Prop} (hN : w 168 2 = (N : Int)) (h10 : N ≤ 10) : T D 207 0 [some (vr 167), x1, x2] [] w Q = Q (some (vi (sm (fun l => if 0 < w 168 (142 + (l : Int)) then 1 else 0) N))) w := by
  rw [g207_0]
  refine loopE (F := fun k => T D 207 4 [some (vr 167), some (vi (sm (fun l => if 0 < w 168 (142 + (l : Int)) then 1 else 0) k)), some (vi (k : Int))] [] w Q) (n := N) ?_ ?_
  · rw [g207_4, hN]; simp
  · intro k hk
    have hs := sm_le (f := fun l => if 0 < w 168 (142 + (l : Int)) then 1 else 0) (c := 1) (by omega) (n := k) (fun j _ => ite01 _)
    have e1 : w32 ((k : Int) + 1) = ((k + 1 : Nat) : Int) := by rw [w32_id (by omega) (by omega)]; omega
    rw [g207_4, w32_id (x := 142 + (k : Int)) (by omega) (by omega), if_f (show ¬ (w 168 2 ≤ (k : Int)) by omega), gd (show (0 : Int) ≤ 142 + (k : Int) ∧ 142 + (k : Int) < 4932 by omega)]
    simp only [g207_33, e1]
    by_cases h : w 168 (142 + (k : Int)) ≤ 0
    · rw [if_t h, w32_id (by omega) (by omega), sm, if_neg (by omega)]
    · rw [if_f h, w32_id (by omega) (by omega), sm, if_pos (by omega)]
def vCnt (w : aW) (a : Int) : Int :=
  if a = 0 then w 69 0 else if a = 1 then w 69 1 else if a = 2 then w 69 2 else if a = 3 then bsum (w 79 1).toNat 16 else if a = 4 then w 79 0 else if a = 5 then w 0 12
  else if a = 6 then w 69 4 else if a = 7 then bsum (w 69 12).toNat 16 else if a = 8 then w 1 1 else if a = 9 then w 69 5 else -1
theorem c_count {a : Int} {w : aW} {Q : Option aV → aW → Prop} (hI : Inv w) (hQ : Q (some (vi (vCnt w a))) w) : T (D + 1) 97 0 [some (vr 0), some (vi a)] [] w Q := by
  obtain ⟨N, M, hN, hM, n1, n2, n3, n4⟩ := nm_of hI
  obtain ⟨-, -, -, -, -, ⟨r, q, tr, tq, rl, -⟩⟩ := tr_of hI
  obtain ⟨-, ⟨x, sx, sl, sb⟩, -⟩ := st_of hI
  have hx : x < 65536 := by
    have := two_le (n := (w 69 2).toNat) (by omega)
    omega
  have hr : r < 65536 := by
    have := two_le (n := (w 69 1).toNat) (by omega)
    omega
  have e1 : (w 79 1).toNat = x := by rw [sx]; omega
  have e2 : (w 69 12).toNat = r := by rw [tr]; omega
  unfold vCnt at hQ
  rw [e1, e2] at hQ
  rw [g97_0, sx, tr, k_bitCount hx, k_bitCount hr]
  simp only [tl_some, g97_90, g97_122]
  refine ⟨fun h => ?_, fun h => ?_, fun h => ?_, fun h => ?_, fun h => ?_, fun h => ?_, fun h => ?_, fun h => ?_, fun h => ?_, fun h => ?_, fun h => ?_⟩
  all_goals first
    | (subst h; simpa using hQ)
    | (obtain ⟨h0, h1, h2, h3, h4, h5, h6, h7, h8, h9⟩ := h
       rw [if_neg h0, if_neg h1, if_neg h2, if_neg h3, if_neg h4, if_neg h5, if_neg h6, if_neg h7, if_neg h8, if_neg h9] at hQ
       exact hQ)
theorem r_count {a : Int} {w : aW} {Q : Option aV → aW → Prop} (hI : Inv w) (hQ : Q (some (vi (vCnt w a))) (iup w 167 0 0)) : T (D + 1) 98 0 [some (vr 167), some (vi a)] [] w Q := by
  obtain ⟨N, M, hN, hM, n1, n2, n3, n4⟩ := nm_of hI
  obtain ⟨⟨p0, p1, p2, p3, p4⟩, -, -, -, -, ⟨r, q, tr, tq, rl, -, rk⟩⟩ := tr_of hI
  obtain ⟨⟨s0, -, -⟩, ⟨x, sx, sl, sb⟩, -⟩ := st_of hI
  have pc : w 0 12 = w 168 152 := hI.2.2.2.2.1.1
  have tp : w 1 1 = w 167 5 := hI.2.1.1
  have t5 : iup w 167 0 0 167 5 = w 167 5 := iup_i (by decide)
  have q0 : w 69 0 = w 168 1 := p0
  have q1 : w 69 1 = w 168 2 := p1
  have q2 : w 69 2 = w 168 3 := p2
  have q3 : w 69 4 = w 168 4 := p3
  have q4 : w 69 5 = w 168 0 := p4
  have q5 : w 79 0 = w 168 5 := s0
  have hwm : sm (fun k => iup w 167 0 0 168 (22 + (k : Int))) M = bsum (w 79 1).toNat 16 := by
    have e1 : (w 79 1).toNat = x := by rw [sx]; omega
    have hxm : x < 2 ^ M := by rw [show (w 69 2).toNat = M by omega] at sl; exact sl
    rw [e1, bsum_hi hxm 16 (by omega)]
    refine sm_bsum M (fun k hk => ?_)
    rw [th8]
    have := sb k (by omega)
    simpa using this
  have hrm : sm (fun l => if 0 < iup w 167 0 0 168 (142 + (l : Int)) then 1 else 0) N = bsum (w 69 12).toNat 16 := by
    have e1 : (w 69 12).toNat = r := by rw [tr]; omega
    have hrn : r < 2 ^ N := by rw [show (w 69 1).toNat = N by omega] at rl; exact rl
    rw [e1, bsum_hi hrn 16 (by omega)]
    refine sm_bsum N (fun l hl => ?_)
    rw [th8]
    obtain ⟨-, hb, -⟩ := rk l (by omega)
    have hb' : bI r l = 1 ↔ 0 < w 168 (142 + (l : Int)) := by simpa using hb
    by_cases h : 0 < w 168 (142 + (l : Int))
    · rw [if_pos h]; exact (hb'.mpr h).symm
    · rw [if_neg h]
      rcases bI_01 r l with z | z
      · exact z.symm
      · exact absurd (hb'.mp z) h
  have h01 : ∀ k : Nat, k < M → iup w 167 0 0 168 (22 + (k : Int)) = 0 ∨ iup w 167 0 0 168 (22 + (k : Int)) = 1 := by
    intro k hk
    have e : w 168 (22 + (k : Int)) = bI x k := by
      have := sb k (by omega)
      simpa using this
    rw [th8, e]
    exact bI_01 x k
  rw [g98_0, k_wholeMany (M := M) (by rw [th8]; exact n4) hM h01, k_ruleMany (N := N) (by rw [th8]; exact n3) hN, hwm, hrm]
  simp only [tl_some, g98_85, g98_113, th8, t5]
  unfold vCnt at hQ
  rw [q0, q1, q2, q3, q4, q5, pc, tp] at hQ
  refine ⟨fun h => ?_, fun h => ?_, fun h => ?_, fun h => ?_, fun h => ?_, fun h => ?_, fun h => ?_, fun h => ?_, fun h => ?_, fun h => ?_, fun h => ?_⟩
  all_goals first
    | (subst h; simpa using hQ)
    | (obtain ⟨h0, h1, h2, h3, h4, h5, h6, h7, h8, h9⟩ := h
       rw [if_neg h0, if_neg h1, if_neg h2, if_neg h3, if_neg h4, if_neg h5, if_neg h6, if_neg h7, if_neg h8, if_neg h9] at hQ
       exact hQ)
/-- count -/
theorem s_count {a : Int} : Sim Inv (D + 1) 97 98 [some (vr 0), some (vi a)] [some (vr 167), some (vi a)] := by
  refine sim_of fun w hI => ?_
  exact ⟨vCnt w a, w, iup w 167 0 0, fun Q hQ => c_count hI hQ, fun Q hQ => r_count hI hQ, fun _ => rfl, th9, Inv_res hI th0⟩
end Ops3
