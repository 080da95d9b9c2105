/-! Cures in the reference; cure. -/
theorem cu_cnt {t : aTr} {g : aSg} {l b : Nat} (h : ∀ i, b.testBit i = true → myF t g l i = true) : ∀ n, n ≤ t.2.1 → sm (fun k => b01 (goesF t (wb g.2.1) b l k)) n + (bsN b n : Int) = (skN (myF t g l) n : Int) := by
  intro n
  induction n with
  | zero => intro _; rfl
  | succ n ih =>
    intro hn
    have h1 := ih (by omega)
    have em : myF t g l n = goesF t (wb g.2.1) 0 l n := by unfold myF; rw [decide_eq_true (by omega), Bool.true_and]
    have eg : goesF t (wb g.2.1) b l n = (goesF t (wb g.2.1) 0 l n && !b.testBit n) := by unfold goesF; rw [Nat.zero_testBit]; simp
    rw [sm, bsN_s, skN, em]
    show sm (fun k => b01 (goesF t (wb g.2.1) b l k)) n + b01 (goesF t (wb g.2.1) b l n) + _ = _
    rw [eg]
    generalize sm (fun k => b01 (goesF t (wb g.2.1) b l k)) n = S at *
    cases hb : b.testBit n with
    | true =>
      have hg := h n hb
      rw [em] at hg
      rw [hg]
      show S + 0 + ((bsN b n + 1 : Nat) : Int) = ((skN (myF t g l) n + 1 : Nat) : Int)
      omega
    | false =>
      cases goesF t (wb g.2.1) 0 l n with
      | true =>
        show S + 1 + ((bsN b n + 0 : Nat) : Int) = ((skN (myF t g l) n + 1 : Nat) : Int)
        omega
      | false =>
        show S + 0 + ((bsN b n + 0 : Nat) : Int) = ((skN (myF t g l) n + 0 : Nat) : Int)
        omega
theorem cu_pull {t : aTr} {g : aSg} {p l b : Nat} (hO : TrOk t) (h : ∀ i, b.testBit i = true → myF t g l i = true) : ∀ n, n ≤ t.2.1 → sm (pullK t g.2.2.1 (wb g.2.1) b p l) n + (psN (plF t g p l) b n : Int) = (spN (myF t g l) (plF t g p l) n : Int) := by
  intro n
  induction n with
  | zero => intro _; rfl
  | succ n ih =>
    intro hn
    have h1 := ih (by omega)
    have em : myF t g l n = goesF t (wb g.2.1) 0 l n := by unfold myF; rw [decide_eq_true (by omega), Bool.true_and]
    have eg : goesF t (wb g.2.1) b l n = (goesF t (wb g.2.1) 0 l n && !b.testBit n) := by unfold goesF; rw [Nat.zero_testBit]; simp
    have hb3 := pullK_b (fr := g.2.2.1) (wh := wb g.2.1) (b := 0) (p := p) (l := l) hO (show n < t.2.1 by omega)
    have epl : (plF t g p l n : Int) = pullK t g.2.2.1 (wb g.2.1) 0 p l n := by unfold plF; omega
    rw [sm, psN, spN]
    cases hb : b.testBit n with
    | true =>
      have hm := h n hb
      have e0 : pullK t g.2.2.1 (wb g.2.1) b p l n = 0 := by
        unfold pullK
        rw [if_neg]
        rw [eg, hb]; simp
      rw [e0, hm, if_pos rfl]
      omega
    | false =>
      have e0 : pullK t g.2.2.1 (wb g.2.1) b p l n = pullK t g.2.2.1 (wb g.2.1) 0 p l n := by
        unfold pullK
        rw [eg, hb]; simp
      rw [e0, if_neg (by decide), em]
      cases hg : goesF t (wb g.2.1) 0 l n with
      | true => rw [if_pos rfl]; omega
      | false =>
        have e1 : pullK t g.2.2.1 (wb g.2.1) 0 p l n = 0 := by
          unfold pullK
          rw [if_neg]
          rw [hg]; simp
        rw [if_neg (by decide), e1]
        omega
theorem cu_up {t : aTr} {g : aSg} {p l b : Nat} (hO : TrOk t) (h : ∀ i, b.testBit i = true → myF t g l i = true) : upF t g.2.2.1 (wb g.2.1) b p l = upC t l p ((spN (myF t g l) (plF t g p l) t.2.1 : Int) - (psN (plF t g p l) b t.2.1 : Int)) (if bsN b t.2.1 < skN (myF t g l) t.2.1 then 1 else 0) := by
  have h1 := cu_cnt h t.2.1 (Nat.le_refl _)
  have h2 := cu_pull (p := p) hO h t.2.1 (Nat.le_refl _)
  have e2 : pullF t g.2.2.1 (wb g.2.1) b p l = (spN (myF t g l) (plF t g p l) t.2.1 : Int) - (psN (plF t g p l) b t.2.1 : Int) := by unfold pullF; omega
  have e1 : cntF t (wb g.2.1) b l = (skN (myF t g l) t.2.1 : Int) - (bsN b t.2.1 : Int) := by unfold cntF; omega
  unfold upF upC
  rw [e2, e1]
  split
  · by_cases z : bsN b t.2.1 < skN (myF t g l) t.2.1
    · rw [if_pos (by omega), if_pos z, if_neg (by decide)]
    · rw [if_neg (by omega), if_neg z, if_pos rfl]
  · rfl
theorem VcF_up {t : aTr} {g : aSg} {p l b : Nat} (hO : TrOk t) : VcF t g p l b ↔ (b < 2 ^ t.2.1 ∧ (∀ i, b.testBit i = true → myF t g l i = true) ∧ upF t g.2.2.1 (wb g.2.1) b p l = p.testBit l) := by
  constructor
  · rintro ⟨h1, h2, h3⟩
    refine ⟨h1, h2, ?_⟩
    rw [cu_up hO h2]
    exact eq_of_beq h3
  · rintro ⟨h1, h2, h3⟩
    refine ⟨h1, h2, ?_⟩
    rw [cu_up hO h2] at h3
    unfold okCu
    rw [h3]
    exact beq_self_eq_true _
theorem mine_iff {my : Nat → Bool} {M b : Nat} (hmy : ∀ i, my i = true → i < M) : (b &&& bitsF my M = b) ↔ (b < 2 ^ M ∧ ∀ i, b.testBit i = true → my i = true) := by
  constructor
  · intro h
    have hb : ∀ i, b.testBit i = true → i < M ∧ my i = true := by
      intro i hi
      rw [← h, Nat.testBit_and, bitsF_tb] at hi
      simp only [Bool.and_eq_true, decide_eq_true_eq] at hi
      exact hi.2
    refine ⟨?_, fun i hi => (hb i hi).2⟩
    apply Nat.lt_pow_two_of_testBit
    intro i hi
    cases q : b.testBit i with
    | false => rfl
    | true => have := (hb i q).1; omega
  · rintro ⟨h1, h2⟩
    apply Nat.eq_of_testBit_eq
    intro i
    rw [Nat.testBit_and, bitsF_tb]
    cases q : b.testBit i with
    | false => rfl
    | true => rw [h2 i q, decide_eq_true (hmy i (h2 i q))]; rfl
section CureS
variable {d D : Nat} {w : aW} {Q : Option aV → aW → Prop}
/-- cureOf(l, pose) -/
theorem k_cureOf {t : aTr} {g : aSg} {p l : Nat} {x3 x4 x5 : Option aV} (hO : TrOk t) (hT : RfT w t) (hS : SgM w 0 t.1 t.2.1 g) (hG : SgOk t.1 t.2.1 g) (hp : p < 1024) (hl : l < t.1)
    (hQ : ∀ (w' : aW) (a : Int), (∀ c i, c ≠ 172 → w' c i = w c i) → IsA (VcF t g p l) a → Q (some (vi a)) w') :
    T (d + 4) 171 0 [some (vr 167), some (vi (l : Int)), some (vi (p : Int)), x3, x4, x5] [] w Q := by
  have hN := hO.1
  have hM := hO.2.1
  have h2M : (2 : Nat) ^ t.2.1 ≤ 2 ^ 16 := Nat.pow_le_pow_right (by decide) hM
  have hmine := bitsF_lt (myF t g l) t.2.1
  rw [g171_0]
  -- the sets, from all down to none
  have key2 : ∀ (set : Nat) (w1 : aW) (a4 : Int), set &&& bitsF (myF t g l) t.2.1 = set → IsA (fun b => VcF t g p l b ∧ set < b) a4 → (∀ c i, c ≠ 172 → w1 c i = w c i) →
      T (d + 4) 171 62 [some (vr 167), some (vi (l : Int)), some (vi (p : Int)), some (vi (bitsF (myF t g l) t.2.1 : Int)), some (vi a4), some (vi (set : Int))] [] w1 Q := by
    intro set
    induction set using Nat.strongRecOn with
    | ind set ih =>
      intro w1 a4 hsub hA hw
      obtain ⟨m1, m2⟩ := (mine_iff (fun i hi => myF_lt hi)).mp hsub
      rw [g171_62]
      refine k_isUpR (b := set) hO (hT.of ⟨hN, hM⟩ (fun i _ => hw 168 i (by decide))) (hS.of hN hM (fun i _ _ => hw 168 i (by decide))) hG (by omega) hp hl (fun w2 hw2 => ?_)
      have hw2' : ∀ c i, c ≠ 172 → w2 c i = w c i := fun c i q => by rw [hw2 c i q]; exact hw c i q
      simp only [tl_some]
      rw [g171_70, k_isIn (by omega) (by omega)]
      simp only [tl_some]
      -- what comes behind this set
      have next : ∀ a : Int, IsA (fun b => VcF t g p l b ∧ set ≤ b) a → T (d + 4) 171 122 [some (vr 167), some (vi (l : Int)), some (vi (p : Int)), some (vi (bitsF (myF t g l) t.2.1 : Int)), some (vi a), some (vi (set : Int))] [] w2 Q := by
        intro a ha
        rw [g171_122]
        refine ⟨fun h => ?_, fun h => ?_⟩
        · have e1 : Unit → jand (w32 ((set : Int) - 1)) (bitsF (myF t g l) t.2.1 : Int) = (((set - 1) &&& bitsF (myF t g l) t.2.1 : Nat) : Int) := fun _ => by
            rw [w32_id (by omega) (by omega), show (set : Int) - 1 = ((set - 1 : Nat) : Int) by omega, jand_n (by omega)]
          have hlt : (set - 1) &&& bitsF (myF t g l) t.2.1 ≤ set - 1 := Nat.and_le_left
          rw [e1 ()]
          refine ih _ (by omega) w2 a (by rw [Nat.and_assoc, Nat.and_self]) (IsA_cg (fun b => ?_) ha) hw2'
          constructor
          · rintro ⟨v1, v2⟩; exact ⟨v1, by omega⟩
          · rintro ⟨v1, v2⟩
            refine ⟨v1, ?_⟩
            rcases Nat.lt_or_ge b set with z | z
            · have := sub_next _ set b hsub ((mine_iff (fun i hi => myF_lt hi)).mpr ⟨v1.1, v1.2.1⟩) z
              omega
            · exact z
        · exact hQ w2 a hw2' (IsA_cg (fun b => ⟨fun v => v.1, fun v => ⟨v, by omega⟩⟩) ha)
      have take : VcF t g p l set → (∀ b : Nat, a4 = (b : Int) → bsN set 16 ≤ bsN b 16) → IsA (fun b => VcF t g p l b ∧ set ≤ b) (set : Int) := by
        intro hv hb
        refine Or.inr ⟨set, rfl, ⟨hv, Nat.le_refl _⟩, fun b' h' => ?_⟩
        by_cases z : b' = set
        · rw [z]; exact Or.inr ⟨rfl, Nat.le_refl _⟩
        · have hgt : set < b' := by have := h'.2; omega
          rcases hA with ⟨-, h⟩ | ⟨b, e, -, h⟩
          · exact absurd ⟨h'.1, hgt⟩ (h b')
          · have h1 := h b' ⟨h'.1, hgt⟩
            have h2 := hb b e
            omega
      have keep : (VcF t g p l set → ∃ b : Nat, a4 = (b : Int) ∧ bsN b 16 < bsN set 16) → IsA (fun b => VcF t g p l b ∧ set ≤ b) a4 := by
        intro hk
        rcases hA with ⟨e, h⟩ | ⟨b, e, hb, h⟩
        · refine Or.inl ⟨e, fun b' h' => ?_⟩
          by_cases z : b' = set
          · rw [z] at h'
            obtain ⟨b, hb, -⟩ := hk h'.1
            omega
          · exact h b' ⟨h'.1, by have := h'.2; omega⟩
        · refine Or.inr ⟨b, e, ⟨hb.1, by have := hb.2; omega⟩, fun b' h' => ?_⟩
          by_cases z : b' = set
          · rw [z] at h' ⊢
            obtain ⟨b2, hb2, hlt⟩ := hk h'.1
            have : b2 = b := by omega
            rw [this] at hlt
            exact Or.inl hlt
          · exact h b' ⟨h'.1, by have := h'.2; omega⟩
      rw [g171_76]
      have e01 : bI p l = b01 (p.testBit l) := rfl
      rw [e01]
      refine ⟨fun h => next a4 (keep (fun hv => ?_)), fun h => ?_⟩
      · exact absurd (by rw [((VcF_up hO).mp hv).2.2]) h
      · have hv : VcF t g p l set := by
          refine (VcF_up hO).mpr ⟨m1, m2, ?_⟩
          have h' : b01 (upF t g.2.2.1 (wb g.2.1) set p l) = b01 (p.testBit l) := Classical.byContradiction h
          revert h'
          cases upF t g.2.2.1 (wb g.2.1) set p l <;> cases p.testBit l <;> decide
        refine ⟨fun h4 => ?_, fun h4 => ?_⟩
        · rw [g171_118]
          exact next _ (take hv (fun b hb => by omega))
        · rcases id hA with ⟨e, -⟩ | ⟨b0, e, hb0, -⟩
          · exact absurd e h4
          · have hbl := hb0.1.1
            have hgt : set < b0 := hb0.2
            rw [k_bitsOf (by omega)]
            simp only [tl_some]
            rw [e, g171_90, k_bitsOf (by omega)]
            simp only [tl_some]
            rw [g171_95, bsN_i, bsN_i]
            rw [e] at take keep
            refine ⟨fun h5 => ?_, fun h5 => ?_⟩
            · rw [g171_118]
              exact next _ (take hv (fun b hb => by have : b = b0 := by omega
                                                    rw [this]; omega))
            · rw [k_bitsOf (by omega)]
              simp only [tl_some]
              rw [g171_103, k_bitsOf (by omega)]
              simp only [tl_some]
              rw [g171_108, bsN_i, bsN_i]
              refine ⟨fun h6 => next _ (keep (fun _ => ⟨b0, rfl, by omega⟩)), fun h6 => ⟨fun h7 => absurd h7 (by omega), fun _ => ?_⟩⟩
              rw [g171_118]
              exact next _ (take hv (fun b hb => by have : b = b0 := by omega
                                                    rw [this]; omega))
  -- all strings of the limb
  have key : ∀ (q k : Nat) (a3 a4 : Int) (y5 : Option aV), k + q = t.2.1 → a4 = (k : Int) → a3 = (bitsF (myF t g l) k : Int) → T (d + 4) 171 5 [some (vr 167), some (vi (l : Int)), some (vi (p : Int)), some (vi a3), some (vi a4), y5] [] w Q := by
    intro q
    induction q with
    | zero =>
      intro k a3 a4 y5 hq h4 h3
      rw [g171_5, hT.2.1]
      refine ⟨fun _ => ?_, fun h => absurd (by omega) h⟩
      rw [h3, show k = t.2.1 by omega]
      refine key2 _ w _ (by rw [Nat.and_self]) (Or.inl ⟨rfl, fun b hb => ?_⟩) (fun _ _ _ => rfl)
      have h1 := (mine_iff (M := t.2.1) (my := myF t g l) (fun i hi => myF_lt hi)).mpr ⟨hb.1.1, hb.1.2.1⟩
      have h2 : b &&& bitsF (myF t g l) t.2.1 ≤ bitsF (myF t g l) t.2.1 := Nat.and_le_right
      have h3 := hb.2
      omega
    | succ q ih =>
      intro k a3 a4 y5 hq h4 h3
      subst h4 h3
      have hk : k < t.2.1 := by omega
      have hbl := bitsF_lt (myF t g l) k
      have h2k : (2 : Nat) ^ k ≤ 2 ^ 15 := Nat.pow_le_pow_right (by decide) (by omega)
      have t4 : Unit → w32 ((k : Int) + 1) = ((k + 1 : Nat) : Int) := fun _ => by rw [w32_id (by omega) (by omega)]; omega
      have e64 : Unit → w32 (64 + (k : Int)) = 64 + (k : Int) := fun _ => w32_id (by omega) (by omega)
      have hwh := (hS.2.1 k hk).1
      rw [Int.zero_add] at hwh
      have emy : myF t g l k = (decide (t.2.2.1 k = (l : Int)) && g.2.1.testBit k) := by
        unfold myF goesF wb
        rw [decide_eq_true hk, Nat.zero_testBit]
        simp
      have h48 : ∀ s1 : Int, s1 = (if myF t g l k = true then ((2 ^ k : Nat) : Int) else 0) → T (d + 4) 171 48 [some (vr 167), some (vi (l : Int)), some (vi (p : Int)), some (vi (bitsF (myF t g l) k : Int)), some (vi (k : Int)), y5] [vi s1, vi (bitsF (myF t g l) k : Int)] w Q := by
        intro s1 hs1
        rw [g171_48, t4 ()]
        refine ih (k + 1) _ _ _ (by omega) rfl ?_
        rw [hs1, bitsF]
        by_cases z : myF t g l k = true
        · rw [if_pos z, if_pos z, jor_n (by omega) (by omega), or_add hbl]
        · rw [if_neg z, if_neg z, show (0 : Int) = ((0 : Nat) : Int) from rfl, jor_n (by omega) (by omega), Nat.or_zero, Nat.add_zero]
      rw [g171_5, hT.2.1, e64 (), (hT.2.2.1 k hk).1]
      refine ⟨fun h => absurd h (by omega), fun _ => ⟨by omega, fun h => ?_, fun h => ?_⟩⟩
      · rw [g171_47]
        exact h48 0 (by rw [if_neg (by rw [emy, decide_eq_false h, Bool.false_and]; decide)])
      · rw [k_isWhole (by omega) (by omega), hwh]
        simp only [tl_some]
        rw [g171_37]
        have ht : t.2.2.1 k = (l : Int) := Classical.byContradiction h
        cases hb : g.2.1.testBit k with
        | false =>
          rw [bI_0.mpr hb, b01_f (decide_eq_false (by decide))]
          refine ⟨fun _ => ?_, fun h => absurd rfl h⟩
          rw [g171_47]
          exact h48 0 (by rw [if_neg (by rw [emy, hb, Bool.and_false]; decide)])
        | true =>
          rw [bI_1.mpr hb, b01_t (decide_eq_true rfl)]
          refine ⟨fun h => absurd h (by decide), fun _ => ?_⟩
          rw [jshl_n (by omega)]
          exact h48 _ (by rw [if_pos (by rw [emy, hb, decide_eq_true ht]; rfl)])
  exact key t.2.1 0 _ _ _ (by omega) rfl rfl
/-- cure -/
theorem s_cure {a b : Int} (ha : R32 a) (hb : R32 b) : Sim Inv (D + 7) 53 54 [some (vr 0), some (vi a), some (vi b), none] [some (vr 167), some (vi a), some (vi b), none, none, none] := by
  refine sim_ask fun w g n ps hI hS => ?_
  obtain ⟨hO, hR, hC, s1, s2, s3, -⟩ := hS
  obtain ⟨hN, hM, -⟩ := id hO
  have hN2 := two10 hN
  generalize trR w 0 = t at *
  have h2M : (2 : Nat) ^ t.2.1 ≤ 2 ^ 16 := Nat.pow_le_pow_right (by decide) hM
  by_cases hbb : 0 ≤ b ∧ b ≤ 1
  · by_cases hp : 0 ≤ a ∧ a < ((2 ^ t.1 : Nat) : Int)
    · obtain ⟨p, rfl⟩ : ∃ p : Nat, a = (p : Int) := ⟨a.toNat, by omega⟩
      have hex : ∀ l : Nat, ∃ x : Int, IsA (VcF t g p l) x := fun l => IsA_ex _ (B := 2 ^ t.2.1) (fun b hb => hb.1)
      obtain ⟨av, hav⟩ := Classical.axiomOfChoice hex
      have hrange : ∀ (q l acc : Nat), acc < 2 ^ 16 → cuF av q l acc = -1 ∨ ∃ u : Nat, cuF av q l acc = (u : Int) ∧ u < 2 ^ 16 := by
        intro q
        induction q with
        | zero => intro l acc h; exact Or.inr ⟨acc, rfl, h⟩
        | succ q ih =>
          intro l acc h
          rw [cuF]
          rcases hav l with ⟨e, -⟩ | ⟨u, e, hu, -⟩
          · rw [if_pos e]; exact Or.inl rfl
          · rw [if_neg (by omega), e, Int.toNat_natCast]
            have := hu.1
            exact ih (l + 1) (acc ||| u) (Nat.or_lt_two_pow h (by omega))
      refine ⟨if cuF av t.1 0 0 = -1 then -1 else if b = 0 then bsum (cuF av t.1 0 0).toNat 16 else cuF av t.1 0 0, fun Q hQ => ?_, fun w1 hk hR1 hM1 Q hQ => ?_⟩
      · rw [g53_0]
        refine ⟨fun h => absurd h (by omega), fun _ => ⟨fun _ => ?_, fun h => absurd hbb.2 h⟩⟩
        rw [k_hasPose ha hC.1 hN, b01_t (decide_eq_true hp)]
        simp only [tl_some]
        rw [g53_17]
        refine ⟨fun _ => ?_, fun h => absurd (by decide) h⟩
        refine k_toRest hO hC s1 s3 (by omega) hav (fun w2 hw2 => ?_)
        have hq := hQ w2 (fun c i q => hw2 c i (by have := scr_17 q; omega) (by have := scr_17 q; omega))
        simp only [tl_some]
        rw [g53_43]
        rcases hrange t.1 0 0 (by decide) with e | ⟨u, e, hu⟩
        · rw [if_pos e] at hq
          exact ⟨fun h => absurd e h, fun _ => hq⟩
        · rw [if_neg (by omega), e, Int.toNat_natCast] at hq
          rw [e]
          refine ⟨fun _ => ⟨fun h => ?_, fun h => ?_⟩, fun h => absurd (by omega) h⟩
          · rw [if_neg h] at hq
            rw [g53_63]; exact hq
          · rw [if_pos (Classical.byContradiction h)] at hq
            rw [k_bitCount (by omega)]
            simp only [tl_some]
            rw [g53_59, g53_63]; exact hq
      · rw [g54_0, k_within, b01_t (decide_eq_true hbb)]
        simp only [tl_some]
        rw [g54_12]
        refine ⟨fun _ => ?_, fun h => absurd (by decide) h⟩
        rw [k_isPose (n := t.1) (by rw [thI]; exact hR1.1) hN, b01_t (decide_eq_true hp)]
        simp only [tl_some]
        rw [g54_24]
        refine ⟨fun _ => ?_, fun h => absurd (by decide) h⟩
        have key : ∀ (q l acc : Nat) (w2 : aW) (a3 a4 : Int) (y5 : Option aV), l + q = t.1 → a3 = (acc : Int) → acc < 2 ^ 16 → a4 = (l : Int) → (∀ c i, c ≠ 172 → w2 c i = iup w1 167 0 0 c i) → cuF av q l acc = cuF av t.1 0 0 →
            T (D + 7) 54 35 [some (vr 167), some (vi (p : Int)), some (vi b), some (vi a3), some (vi a4), y5] [] w2 Q := by
          intro q
          induction q with
          | zero =>
            intro l acc w2 a3 a4 y5 hq h3 hacc h4 hw he
            have hq' := hQ w2 (SK_th.trans (fun c i q => hw c i (by have := scr_17 q; omega)))
            rw [cuF] at he
            rw [← he, if_neg (by omega), Int.toNat_natCast] at hq'
            rw [g54_35, hw 168 2 (by decide), thI, hR1.1, h3]
            refine ⟨fun _ => ⟨fun h => ?_, fun h => ?_⟩, fun h => absurd (by omega) h⟩
            · rw [if_neg h] at hq'
              rw [g54_86]; exact hq'
            · rw [if_pos (Classical.byContradiction h)] at hq'
              rw [k_bitsOf (by omega)]
              simp only [tl_some]
              rw [g54_82, g54_86]; exact hq'
          | succ q ih =>
            intro l acc w2 a3 a4 y5 hq h3 hacc h4 hw he
            subst h3 h4
            rw [g54_35, hw 168 2 (by decide), thI, hR1.1]
            refine ⟨fun h => absurd h (by omega), fun _ => ?_⟩
            refine k_cureOf (l := l) hO ((RfT_167 hR1).of ⟨hN, hM⟩ (fun i _ => hw 168 i (by decide))) ((SgM_167 hM1).of hN hM (fun i _ _ => hw 168 i (by decide))) s3 (by omega) (by omega) (fun w3 a' hw3 ha' => ?_)
            have hea : a' = av l := IsA_one ha' (hav l)
            subst hea
            have hw3' : ∀ c i, c ≠ 172 → w3 c i = iup w1 167 0 0 c i := fun c i q => by rw [hw3 c i q]; exact hw c i q
            simp only [tl_some]
            rw [g54_53]
            rw [cuF] at he
            refine ⟨fun h => ?_, fun h => ?_⟩
            · rw [if_neg h] at he
              rcases hav l with ⟨e, -⟩ | ⟨u, e, hu, -⟩
              · exact absurd e h
              · have hu1 := hu.1
                rw [e, Int.toNat_natCast] at he
                rw [e, jor_n (by omega) (by omega)]
                exact ih (l + 1) (acc ||| u) w3 _ _ _ (by omega) rfl (Nat.or_lt_two_pow hacc (by omega)) (by rw [w32_id (by omega) (by omega)]; omega) hw3' he
            · have h' : av l = -1 := Classical.byContradiction h
              rw [if_pos h'] at he
              have hq' := hQ w3 (SK_th.trans (fun c i q => hw3' c i (by have := scr_17 q; omega)))
              rw [← he, if_pos rfl] at hq'
              exact hq'
        exact key t.1 0 0 _ _ _ _ (by omega) rfl (by decide) rfl (fun _ _ _ => rfl) rfl
    · refine ⟨-3, fun Q hQ => ?_, fun w1 hk hR1 hM1 Q hQ => ?_⟩
      · rw [g53_0]
        refine ⟨fun h => absurd h (by omega), fun _ => ⟨fun _ => ?_, fun h => absurd hbb.2 h⟩⟩
        rw [k_hasPose ha hC.1 hN, b01_f (decide_eq_false hp)]
        simp only [tl_some]
        rw [g53_17]
        exact ⟨fun h => absurd rfl h, fun _ => hQ w (SK.refl w)⟩
      · rw [g54_0, k_within, b01_t (decide_eq_true hbb)]
        simp only [tl_some]
        rw [g54_12]
        refine ⟨fun _ => ?_, fun h => absurd (by decide) h⟩
        rw [k_isPose (n := t.1) (by rw [thI]; exact hR1.1) hN, b01_f (decide_eq_false hp)]
        simp only [tl_some]
        rw [g54_24]
        exact ⟨fun h => absurd rfl h, fun _ => hQ _ SK_th⟩
  · refine ⟨-2, fun Q hQ => ?_, fun w1 hk hR1 hM1 Q hQ => ?_⟩
    · rw [g53_0]
      have hq := hQ w (SK.refl w)
      exact ⟨fun _ => by rw [g53_9]; exact hq, fun h => ⟨fun h2 => absurd ⟨by omega, h2⟩ hbb, fun _ => by rw [g53_9]; exact hq⟩⟩
    · rw [g54_0, k_within, b01_f (decide_eq_false hbb)]
      simp only [tl_some]
      rw [g54_12]
      exact ⟨fun h => absurd rfl h, fun _ => hQ _ SK_th⟩
end CureS
