/-! Freeing a limb: the reference's rooms; free. -/
/-- room by rules; with the strings below n -/
def bsR (t : aTr) (a b : Nat) : Int := if (1000 + (a : Int)) ∈ t.2.2.2.2.2.2 b then 100 else 0
def rkF (t : aTr) (g : aSg) : Nat → Nat → Nat → Int
  | 0 => bsR t
  | k + 1 => if (g.2.1.testBit k && canB t (t.2.2.1 k).toNat) = true then (fun a b => rkF t g k a b + (if a = (g.2.2.1 k).toNat ∧ b = (t.2.2.1 k).toNat then 1 else 0)) else rkF t g k
theorem rkF_b {t : aTr} {g : aSg} : ∀ (n a b : Nat), 0 ≤ rkF t g n a b ∧ rkF t g n a b ≤ 100 + (n : Int) := by
  intro n
  induction n with
  | zero => intro a b; rw [rkF]; unfold bsR; split <;> omega
  | succ n ih =>
    intro a b
    have := ih a b
    rw [rkF]
    split
    · show 0 ≤ rkF t g n a b + (if a = (g.2.2.1 n).toNat ∧ b = (t.2.2.1 n).toNat then 1 else 0) ∧ rkF t g n a b + (if a = (g.2.2.1 n).toNat ∧ b = (t.2.2.1 n).toNat then 1 else 0) ≤ _
      split <;> omega
    · omega
theorem rkF_out {t : aTr} {g : aSg} {S : Nat} (hO : TrOk t) (hG : SgOk t.1 t.2.1 g) : ∀ n, n ≤ t.2.1 → outF (rkF t g n) S t.1 = outF (bsR t) S t.1 + sm (fun k => b01 (stB t g S k)) n := by
  intro n
  induction n with
  | zero => intro _; rw [rkF, sm]; omega
  | succ n ih =>
    intro hn
    have h1 := ih (by omega)
    have f1 := hG.2.2.1 n (by omega)
    have f2 := hO.2.2.1 n (by omega)
    rw [rkF, sm]
    by_cases q : (g.2.1.testBit n && canB t (t.2.2.1 n).toNat) = true
    · rw [if_pos q, out_add (by omega) (by omega), h1]
      have e : stB t g S n = oB S (g.2.2.1 n).toNat (t.2.2.1 n).toNat := by
        unfold stB; rw [Bool.and_assoc, q, Bool.and_true]
      rw [e]
      unfold b01
      omega
    · rw [if_neg q, h1]
      have e : stB t g S n = false := by
        unfold stB
        rw [Bool.and_assoc]
        cases z : (g.2.1.testBit n && canB t (t.2.2.1 n).toNat) with
        | true => exact absurd z q
        | false => rw [Bool.and_false]
      rw [e]
      show _ = _ + (_ + (0 : Int))
      omega
theorem bsR_out {t : aTr} {S : Nat} : ((∃ a b, a < t.1 ∧ b < t.1 ∧ rulB t a b = true ∧ oB S a b = true) → 100 ≤ outF (bsR t) S t.1) ∧ ((∀ a b, a < t.1 → b < t.1 → rulB t a b = true → oB S a b = false) → outF (bsR t) S t.1 = 0) := by
  constructor
  · rintro ⟨a, b, ha, hb, hr, ho⟩
    have h := (out_pos (r := bsR t) (S := S) (N := t.1) (fun a b _ _ => by unfold bsR; split <;> omega)).2 a b ha hb ho
    have e : bsR t a b = 100 := by
      unfold rulB at hr
      rw [Bool.and_eq_true] at hr
      unfold bsR
      rw [if_pos (of_decide_eq_true hr.2)]
    omega
  · intro h
    refine out_zero (fun a b ha hb ho => ?_)
    unfold bsR
    split
    · next q =>
      have hne : a ≠ b := fun e => by subst e; unfold oB at ho; cases S.testBit a <;> simp at ho
      have hr : rulB t a b = true := by unfold rulB; rw [decide_eq_true hne, decide_eq_true q]; rfl
      rw [h a b ha hb hr] at ho; cases ho
    · rfl
/-- what stays true as units go -/
def FlR (N l o : Nat) (c r : Nat → Nat → Int) (n : Nat) : Prop :=
  (∀ a b, a < N → b < N → 0 ≤ r a b ∧ r a b + r b a = c a b + c b a) ∧ ∀ S, S < 2 ^ N → S.testBit l = true → S.testBit o = false → outF r S N = outF c S N - (n : Int)
theorem mv_ok {N u v : Nat} {c r : Nat → Nat → Int} (huv : u ≠ v) (h : ∀ a b, a < N → b < N → 0 ≤ r a b ∧ r a b + r b a = c a b + c b a) (hp : 0 < r u v) : ∀ a b, a < N → b < N → 0 ≤ mvF r u v a b ∧ mvF r u v a b + mvF r u v b a = c a b + c b a := by
  intro a b ha hb
  have h1 := h a b ha hb
  unfold mvF
  by_cases z1 : a = u ∧ b = v
  · obtain ⟨rfl, rfl⟩ := z1
    rw [if_pos ⟨rfl, rfl⟩, if_neg (fun q => huv q.1), if_neg (fun q => huv q.2), if_pos ⟨rfl, rfl⟩]
    omega
  · rw [if_neg z1]
    by_cases z2 : a = v ∧ b = u
    · obtain ⟨rfl, rfl⟩ := z2
      rw [if_pos ⟨rfl, rfl⟩, if_pos ⟨rfl, rfl⟩, if_neg (fun q => huv q.1)]
      omega
    · rw [if_neg z2, if_neg (fun q => z2 ⟨q.2, q.1⟩), if_neg (fun q => z1 ⟨q.2, q.1⟩)]
      omega
section FreeS
variable {d D : Nat} {w : aW} {Q : Option aV → aW → Prop}
/-- one unit goes along the way that was found -/
theorem k_unit {N l o : Nat} {c r : Nat → Nat → Int} {rk : Nat → Nat} {tm n : Nat} {a3 : Int} (hN : N ≤ 10) (hl : l < N) (ho : o < N) (hlo : l ≠ o) (hc : ∀ a b, a < N → b < N → 0 ≤ c a b ∧ c a b ≤ 116) (hR : RmR w N r) (hF : FlR N l o c r n) (hC : CmR w N l r rk tm) (h1 : w 181 (o : Int) ≠ -1)
    (hQ : ∀ (w' : aW) (r' : Nat → Nat → Int) (y4 : Option aV), (∀ c i, c ≠ 180 → w' c i = w c i) → RmR w' N r' → FlR N l o c r' (n + 1) → T d 62 178 [some (vr 167), some (vi (l : Int)), some (vi (o : Int)), some (vi (w32 (a3 + 1))), y4] [] w' Q) :
    T d 62 196 [some (vr 167), some (vi (l : Int)), some (vi (o : Int)), some (vi a3), some (vi (o : Int))] [] w Q := by
  have key : ∀ (q p : Nat) (w1 : aW) (r1 : Nat → Nat → Int), rk p ≤ q → p < N → w 181 (p : Int) ≠ -1 → (∀ c i, c ≠ 180 → w1 c i = w c i) → RmR w1 N r1 → (∀ a b, a < N → b < N → 0 ≤ r1 a b ∧ r1 a b + r1 b a = c a b + c b a) → (∀ S, outF r1 S N = outF r S N - (bI S p - bI S o)) → (∀ x u : Nat, x < N → x ≠ l → w 181 (x : Int) = (u : Int) → u < N → rk x ≤ rk p → 0 < r1 u x) →
      T d 62 196 [some (vr 167), some (vi (l : Int)), some (vi (o : Int)), some (vi a3), some (vi (p : Int))] [] w1 Q := by
    intro q
    induction q with
    | zero =>
      intro p w1 r1 hq hp hpr hw hR1 hF1 hout hpos
      rw [g62_196]
      refine ⟨fun he => ?_, fun hne => ?_⟩
      · have hpl : p = l := by omega
        subst hpl
        refine hQ w1 r1 _ hw hR1 ⟨hF1, fun S s1 s2 s3 => ?_⟩
        have h2 := hF.2 S s1 s2 s3
        rw [hout S, h2, bI_1.mpr s2, bI_0.mpr s3]; omega
      · obtain ⟨-, h3⟩ := hC.2 p hp hpr
        obtain ⟨u, -, -, -, h4, -⟩ := h3 (fun e => hne (by rw [e]))
        omega
    | succ q ih =>
      intro p w1 r1 hq hp hpr hw hR1 hF1 hout hpos
      rw [g62_196]
      refine ⟨fun he => ?_, fun hne => ?_⟩
      · have hpl : p = l := by omega
        subst hpl
        refine hQ w1 r1 _ hw hR1 ⟨hF1, fun S s1 s2 s3 => ?_⟩
        have h2 := hF.2 S s1 s2 s3
        rw [hout S, h2, bI_1.mpr s2, bI_0.mpr s3]; omega
      · obtain ⟨-, h3⟩ := hC.2 p hp hpr
        obtain ⟨u, u1, u2, u3, u4, u5⟩ := h3 (fun e => hne (by rw [e]))
        clear h3
        have hup : u ≠ p := fun e => by rw [e] at u4; omega
        have hru := hpos p u hp (fun e => hne (by rw [e])) u2 u1 (Nat.le_refl _)
        have b1 := hF1 u p u1 hp
        have b2 := hF1 p u hp u1
        have b3 := hc u p u1 hp
        have b4 := hc p u hp u1
        have e1 : Unit → w32 (w32 (10 * (u : Int)) + (p : Int)) = 10 * (u : Int) + (p : Int) := fun _ => by rw [w32_id (x := 10 * (u : Int)) (by omega) (by omega), w32_id (by omega) (by omega)]
        have e2 : Unit → w32 (w32 (10 * (p : Int)) + (u : Int)) = 10 * (p : Int) + (u : Int) := fun _ => by rw [w32_id (x := 10 * (p : Int)) (by omega) (by omega), w32_id (by omega) (by omega)]
        have e181 : w1 181 (p : Int) = (u : Int) := by rw [hw 181 _ (by decide)]; exact u2
        simp only [iup_c (show (181 : Nat) ≠ 180 by decide), e181, e1 (), e2 ()]
        have e3 : iup w1 180 (10 * (u : Int) + (p : Int)) (w32 (w1 180 (10 * (u : Int) + (p : Int)) - 1)) 180 (10 * (p : Int) + (u : Int)) = r1 p u := by rw [iup_i (by omega)]; exact hR1 p u hp u1
        have e4 : Unit → w32 (w1 180 (10 * (u : Int) + (p : Int)) - 1) = r1 u p - 1 := fun _ => by rw [hR1 u p u1 hp, w32_id (by omega) (by omega)]
        have e5 : Unit → w32 (r1 p u + 1) = r1 p u + 1 := fun _ => w32_id (by omega) (by omega)
        rw [e3, e4 (), e5 ()]
        refine ⟨by omega, by omega, by omega, by omega, by omega, by omega, by omega, ?_⟩
        refine ih u _ (mvF r1 u p) (by omega) u1 u3 (fun c i q => by rw [iup_c q, iup_c q]; exact hw c i q) (fun a b ha hb => ?_) (mv_ok hup hF1 hru) (fun S => ?_) (fun x v x1 x2 x3 x4 x5 => ?_)
        · unfold mvF
          by_cases z2 : a = p ∧ b = u
          · obtain ⟨rfl, rfl⟩ := z2
            rw [iup_s, if_neg (fun q => hup q.1.symm), if_pos ⟨rfl, rfl⟩]
            omega
          · rw [iup_i (by omega)]
            by_cases z1 : a = u ∧ b = p
            · obtain ⟨rfl, rfl⟩ := z1
              rw [iup_s, if_pos ⟨rfl, rfl⟩, if_neg z2]
              omega
            · rw [iup_i (by omega), if_neg z1, if_neg z2, hR1 a b ha hb]
              omega
        · rw [out_mv u1 hp, hout S]; omega
        · have hxp : x ≠ p := fun e => by rw [e] at x5; omega
          have h6 := hpos x v x1 x2 x3 x4 (by omega)
          unfold mvF
          rw [if_neg (fun q => hxp q.2)]
          split <;> omega
  refine key (rk o) o w r (Nat.le_refl _) ho h1 (fun _ _ _ => rfl) hR hF.1 (fun S => by omega) (fun x u x1 x2 x3 x4 _ => ?_)
  obtain ⟨-, h3⟩ := hC.2 x x1 (by rw [x3]; omega)
  obtain ⟨v, v1, v2, -, -, v5⟩ := h3 x2
  have : v = u := by omega
  rw [← this]; exact v5
end FreeS
