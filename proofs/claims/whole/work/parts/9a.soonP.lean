/-! Soonest ways: steps with a nudge or none, by how few nudges in so many beats; levels (pure). -/
def stJ (f : Nat → Nat) (p j : Nat) : Nat := if j = 0 then f p else f (p ^^^ 2 ^ (j - 1))
def cJ (j : Nat) : Nat := if j = 0 then 0 else 1
theorem cJ_le {j : Nat} : cJ j ≤ 1 := by unfold cJ; split <;> omega
def pth (f : Nat → Nat) (N : Nat) : Nat → Nat → Nat → Prop
  | 0, p, q => p = q
  | n + 1, p, q => ∃ j, j ≤ N ∧ pth f N n (stJ f p j) q
theorem pth_snoc {f : Nat → Nat} {N : Nat} : ∀ (n p q j : Nat), pth f N n p q → j ≤ N → pth f N (n + 1) p (stJ f q j) := by
  intro n
  induction n with
  | zero => intro p q j h hj; rw [pth] at h; subst h; exact ⟨j, hj, rfl⟩
  | succ n ih =>
    intro p q j h hj
    obtain ⟨i, hi, h2⟩ := h
    exact ⟨i, hi, ih _ _ _ h2 hj⟩
theorem pth_app {f : Nat → Nat} {N : Nat} : ∀ (a b p q r : Nat), pth f N a p q → pth f N b q r → pth f N (a + b) p r := by
  intro a
  induction a with
  | zero => intro b p q r h h2; rw [pth] at h; subst h; rw [Nat.zero_add]; exact h2
  | succ a ih =>
    intro b p q r h h2
    obtain ⟨i, hi, h3⟩ := h
    rw [show a + 1 + b = (a + b) + 1 by omega]
    exact ⟨i, hi, ih b _ _ _ h3 h2⟩
theorem pth_last {f : Nat → Nat} {N : Nat} : ∀ (n p q : Nat), pth f N (n + 1) p q → ∃ y j, j ≤ N ∧ pth f N n p y ∧ q = stJ f y j := by
  intro n
  induction n with
  | zero =>
    intro p q h
    obtain ⟨j, hj, h2⟩ := h
    rw [pth] at h2
    exact ⟨p, j, hj, rfl, h2.symm⟩
  | succ n ih =>
    intro p q h
    obtain ⟨i, hi, h2⟩ := h
    obtain ⟨y, j, hj, h3, h4⟩ := ih _ _ h2
    exact ⟨y, j, hj, ⟨i, hi, h3⟩, h4⟩
theorem pth_lt {f : Nat → Nat} {N B : Nat} (hf : ∀ p, f p < B) : ∀ (n p q : Nat), p < B → pth f N n p q → q < B := by
  intro n
  induction n with
  | zero => intro p q hp h; rw [pth] at h; subst h; exact hp
  | succ n ih =>
    intro p q hp h
    obtain ⟨j, hj, h2⟩ := h
    refine ih _ q ?_ h2
    unfold stJ
    split <;> exact hf _
theorem stJ_lt {f : Nat → Nat} {B p j : Nat} (hf : ∀ p, f p < B) : stJ f p j < B := by unfold stJ; split <;> exact hf _
def mnJ (F : Nat → Nat) : Nat → Nat
  | 0 => F 0
  | k + 1 => if F (k + 1) < mnJ F k then F (k + 1) else mnJ F k
theorem mn_le {F : Nat → Nat} : ∀ k j, j ≤ k → mnJ F k ≤ F j := by
  intro k
  induction k with
  | zero => intro j h; rw [show j = 0 by omega, mnJ]; exact Nat.le_refl _
  | succ k ih =>
    intro j h
    rw [mnJ]
    by_cases z : j = k + 1
    · subst z; split <;> omega
    · have := ih j (by omega)
      split <;> omega
theorem mn_ex {F : Nat → Nat} : ∀ k, ∃ j, j ≤ k ∧ mnJ F k = F j := by
  intro k
  induction k with
  | zero => exact ⟨0, Nat.le_refl _, rfl⟩
  | succ k ih =>
    obtain ⟨j, hj, e⟩ := ih
    rw [mnJ]
    split
    · exact ⟨k + 1, Nat.le_refl _, rfl⟩
    · exact ⟨j, by omega, e⟩
/-- by how few nudges in n beats; 9999: not at all -/
def dpF (f : Nat → Nat) (N goal : Nat) : Nat → Nat → Nat
  | 0, p => if p = goal then 0 else 9999
  | n + 1, p => if 9999 < mnJ (fun j => dpF f N goal n (stJ f p j) + cJ j) N then 9999 else mnJ (fun j => dpF f N goal n (stJ f p j) + cJ j) N
section Soon
variable {f : Nat → Nat} {N goal : Nat}
theorem dp_le : ∀ n p, dpF f N goal n p ≤ 9999 := by
  intro n p
  cases n with
  | zero => rw [dpF]; split <;> omega
  | succ n => rw [dpF]; split <;> omega
theorem dp_ex {n p : Nat} (h : dpF f N goal (n + 1) p < 9999) : ∃ j, j ≤ N ∧ dpF f N goal (n + 1) p = dpF f N goal n (stJ f p j) + cJ j := by
  obtain ⟨j, hj, e⟩ := mn_ex (F := fun j => dpF f N goal n (stJ f p j) + cJ j) N
  refine ⟨j, hj, ?_⟩
  rw [dpF] at h ⊢
  split at h
  · omega
  · next q => rw [if_neg q]; exact e
theorem dp_min {n p j : Nat} (hj : j ≤ N) : dpF f N goal (n + 1) p ≤ dpF f N goal n (stJ f p j) + cJ j := by
  have := mn_le (F := fun j => dpF f N goal n (stJ f p j) + cJ j) N j hj
  rw [dpF]
  split
  · exact Nat.le_trans (Nat.le_of_lt (by assumption)) this
  · exact this
theorem dp_n : ∀ n p, dpF f N goal n p < 9999 → dpF f N goal n p ≤ n := by
  intro n
  induction n with
  | zero => intro p h; rw [dpF] at h ⊢; split at h <;> split <;> omega
  | succ n ih =>
    intro p h
    obtain ⟨j, hj, e⟩ := dp_ex h
    have h1 := ih (stJ f p j) (by omega)
    have h2 := cJ_le (j := j)
    omega
theorem dp_pth : ∀ n p, n ≤ 9000 → (dpF f N goal n p < 9999 ↔ pth f N n p goal) := by
  intro n
  induction n with
  | zero =>
    intro p _
    rw [dpF, pth]
    constructor
    · intro h; split at h
      · assumption
      · omega
    · intro h; rw [if_pos h]; decide
  | succ n ih =>
    intro p hn
    constructor
    · intro h
      obtain ⟨j, hj, e⟩ := dp_ex h
      exact ⟨j, hj, (ih _ (by omega)).mp (by omega)⟩
    · rintro ⟨j, hj, h⟩
      have h1 := (ih _ (by omega)).mpr h
      have h2 := dp_n _ _ h1
      have h3 := dp_min (f := f) (N := N) (goal := goal) (n := n) (p := p) hj
      have h4 := cJ_le (j := j)
      omega
def pmF (F : Nat → Nat) : Nat → Nat
  | 0 => 9999
  | j + 1 => if F j < pmF F j then F j else pmF F j
theorem pm_le {F : Nat → Nat} : ∀ k, pmF F k ≤ 9999 := by
  intro k
  induction k with
  | zero => exact Nat.le_refl _
  | succ k ih => rw [pmF]; split <;> omega
theorem pm_mn {F : Nat → Nat} : ∀ k, pmF F (k + 1) = if 9999 < mnJ F k then 9999 else mnJ F k := by
  intro k
  induction k with
  | zero => rw [pmF, pmF, mnJ]; split <;> split <;> omega
  | succ k ih => rw [pmF, ih, mnJ]; (repeat' split) <;> omega
theorem dp_pm {n p : Nat} : dpF f N goal (n + 1) p = pmF (fun j => dpF f N goal n (stJ f p j) + cJ j) (N + 1) := by rw [pm_mn, dpF]
/-- the first from j on -/
def fsJ (P : Nat → Bool) : Nat → Nat → Nat
  | 0, j => j
  | m + 1, j => if P j = true then j else fsJ P m (j + 1)
theorem fs_eq {P : Nat → Bool} {j : Nat} (hP : P j = true) : ∀ m a, a ≤ j → j < a + m → (∀ i, a ≤ i → i < j → P i = false) → fsJ P m a = j := by
  intro m
  induction m with
  | zero => intro a h1 h2; omega
  | succ m ih =>
    intro a h1 h2 h3
    rw [fsJ]
    by_cases z : a = j
    · rw [z, if_pos hP]
    · rw [if_neg (by rw [h3 a (by omega) (by omega)]; decide)]
      exact ih (a + 1) (by omega) (by omega) (fun i hi hj => h3 i (by omega) hj)
def bjP (f : Nat → Nat) (N goal n p j : Nat) : Bool := decide (dpF f N goal (n - 1) (stJ f p j) + cJ j = dpF f N goal n p)
def bjF (f : Nat → Nat) (N goal n p : Nat) : Nat := fsJ (bjP f N goal n p) (N + 1) 0
theorem bj_ok {n p : Nat} (h : dpF f N goal (n + 1) p < 9999) : bjF f N goal (n + 1) p ≤ N ∧ bjP f N goal (n + 1) p (bjF f N goal (n + 1) p) = true := by
  obtain ⟨j, hj, e⟩ := dp_ex h
  have hP : bjP f N goal (n + 1) p j = true := decide_eq_true (by rw [Nat.add_sub_cancel]; exact e.symm)
  have key : ∀ m a, a + m = N + 1 → a ≤ j → fsJ (bjP f N goal (n + 1) p) m a ≤ N ∧ bjP f N goal (n + 1) p (fsJ (bjP f N goal (n + 1) p) m a) = true := by
    intro m
    induction m with
    | zero => intro a h1 h2; omega
    | succ m ih =>
      intro a h1 h2
      rw [fsJ]
      by_cases q : bjP f N goal (n + 1) p a = true
      · rw [if_pos q]; exact ⟨by omega, q⟩
      · rw [if_neg q]
        by_cases z : a = j
        · subst z; exact absurd hP q
        · exact ih (a + 1) (by omega) (by omega)
  exact key (N + 1) 0 (by omega) (by omega)
/-- the pose at beat i of the way of n beats -/
def wpF (f : Nat → Nat) (N goal n s : Nat) : Nat → Nat
  | 0 => s
  | i + 1 => stJ f (wpF f N goal n s i) (bjF f N goal (n - i) (wpF f N goal n s i))
theorem wp_ok {n s : Nat} (h : dpF f N goal n s < 9999) : ∀ i, i ≤ n → dpF f N goal (n - i) (wpF f N goal n s i) < 9999 ∧ pth f N i s (wpF f N goal n s i) := by
  intro i
  induction i with
  | zero => intro _; exact ⟨h, rfl⟩
  | succ i ih =>
    intro hi
    obtain ⟨h1, h2⟩ := ih (by omega)
    rw [show n - i = (n - (i + 1)) + 1 by omega] at h1
    obtain ⟨b1, b2⟩ := bj_ok h1
    have b3 := of_decide_eq_true b2
    rw [Nat.add_sub_cancel] at b3
    rw [wpF, show n - i = (n - (i + 1)) + 1 by omega]
    exact ⟨by omega, pth_snoc _ _ _ _ h2 b1⟩
end Soon
theorem cnt_up {P P' : Nat → Bool} {q : Nat} (h1 : P q = false) (h2 : P' q = true) (h3 : ∀ x, x ≠ q → P' x = P x) : ∀ n, cntP P' n = cntP P n + (if q < n then 1 else 0) := by
  intro n
  induction n with
  | zero => rfl
  | succ n ih =>
    by_cases z : n = q
    · subst z
      have e1 : (if n < n then 1 else 0) = 0 := if_neg (by omega)
      have e2 : (if n < n + 1 then 1 else 0) = 1 := if_pos (by omega)
      rw [cntP, cntP, ih, e1, e2, if_pos h2, if_neg (by rw [h1]; decide)]
    · have e3 : (if q < n + 1 then 1 else 0) = (if q < n then 1 else 0) := by
        by_cases y : q < n
        · rw [if_pos y, if_pos (by omega)]
        · rw [if_neg y, if_neg (by omega)]
      rw [cntP, cntP, ih, e3, h3 n z]
      generalize (if q < n then 1 else 0) = u
      generalize (if P n = true then 1 else 0) = v
      omega
theorem cnt_lt {P : Nat → Bool} {q : Nat} (h : P q = false) : ∀ n, q < n → cntP P n < n := by
  intro n
  induction n with
  | zero => intro hq; omega
  | succ n ih =>
    intro hq
    rw [cntP]
    have := cntP_le (P := P) n
    by_cases z : n = q
    · subst z; rw [h]; simp; omega
    · have := ih (by omega)
      split <;> omega
/-- poses found so far: at which beat, in which order -/
def Bfs (f : Nat → Nat) (N B s : Nat) (re : Nat → Int) (qu : Nat → Nat) (m : Nat) : Prop :=
  1 ≤ m ∧ (∀ t, t < m → qu t < B ∧ 0 ≤ re (qu t) ∧ re (qu t) ≤ 40) ∧ (∀ x, x < B → re x ≠ -1 → ∃ t, t < m ∧ qu t = x)
  ∧ (∀ t u, t < u → u < m → re (qu t) ≤ re (qu u) ∧ qu t ≠ qu u) ∧ (∀ (x k : Nat), x < B → re x = (k : Int) → pth f N k s x)
  ∧ m = cntP (fun x => decide (re x ≠ -1)) B
/-- what comes behind the first i is found -/
def Bdn (f : Nat → Nat) (N : Nat) (re : Nat → Int) (qu : Nat → Nat) (i : Nat) : Prop := ∀ t, t < i → re (qu t) < 40 → ∀ j, j ≤ N → re (stJ f (qu t) j) ≠ -1 ∧ re (stJ f (qu t) j) ≤ re (qu t) + 1
def uF {A : Type} (g : Nat → A) (k : Nat) (v : A) : Nat → A := fun x => if x = k then v else g x
theorem uF_s {A : Type} {g : Nat → A} {k : Nat} {v : A} : uF g k v k = v := by unfold uF; rw [if_pos rfl]
theorem uF_n {A : Type} {g : Nat → A} {k x : Nat} {v : A} (h : x ≠ k) : uF g k v x = g x := by unfold uF; rw [if_neg h]
theorem Bfs_add {f : Nat → Nat} {N B s m i j : Nat} {re : Nat → Int} {qu : Nat → Nat} (hf : ∀ p, f p < B) (h : Bfs f N B s re qu m) (hi : i < m) (hj : j ≤ N) (h40 : re (qu i) < 40) (hfr : ∀ u, u < m → re (qu u) ≤ re (qu i) + 1) (hn : re (stJ f (qu i) j) = -1) :
    Bfs f N B s (uF re (stJ f (qu i) j) (re (qu i) + 1)) (uF qu m (stJ f (qu i) j)) (m + 1) ∧ m < B ∧ (∀ t, t < m → uF qu m (stJ f (qu i) j) t = qu t ∧ uF re (stJ f (qu i) j) (re (qu i) + 1) (qu t) = re (qu t)) := by
  obtain ⟨h1, h2, h3, h4, h5, h6⟩ := h
  have hq : stJ f (qu i) j < B := stJ_lt hf
  generalize hqe : stJ f (qu i) j = q at *
  have hne : ∀ t, t < m → qu t ≠ q := fun t ht e => by have := (h2 t ht).2.1; rw [e, hn] at this; omega
  have hmB : m < B := by
    have := cnt_lt (P := fun x => decide (re x ≠ -1)) (q := q) (by simp [hn]) B hq
    omega
  have hs : ∀ t, t < m → uF qu m q t = qu t ∧ uF re q (re (qu i) + 1) (qu t) = re (qu t) := fun t ht => ⟨uF_n (by omega), uF_n (hne t ht)⟩
  have hi2 := h2 i hi
  refine ⟨⟨by omega, fun t ht => ?_, fun x hx hr => ?_, fun t u htu hu => ?_, fun x k hx hr => ?_, ?_⟩, hmB, hs⟩
  · by_cases z : t = m
    · subst z; rw [uF_s, uF_s]; exact ⟨hq, by omega, by omega⟩
    · rw [(hs t (by omega)).1, (hs t (by omega)).2]; exact h2 t (by omega)
  · by_cases z : x = q
    · exact ⟨m, by omega, by rw [uF_s]; exact z.symm⟩
    · rw [uF_n z] at hr
      obtain ⟨t, ht, e⟩ := h3 x hx hr
      exact ⟨t, by omega, by rw [(hs t ht).1]; exact e⟩
  · rw [(hs t (by omega)).1, (hs t (by omega)).2]
    by_cases z : u = m
    · subst z; rw [uF_s, uF_s]; exact ⟨hfr t (by omega), hne t (by omega)⟩
    · rw [(hs u (by omega)).1, (hs u (by omega)).2]; exact h4 t u htu (by omega)
  · by_cases z : x = q
    · subst z
      rw [uF_s] at hr
      obtain ⟨k', hk'⟩ : ∃ k' : Nat, re (qu i) = (k' : Int) := ⟨(re (qu i)).toNat, by omega⟩
      have h7 := pth_snoc _ _ _ _ (h5 (qu i) k' hi2.1 hk') hj
      rw [hqe, show k' + 1 = k by omega] at h7
      exact h7
    · rw [uF_n z] at hr; exact h5 x k hx hr
  · have hc := cnt_up (P := fun x => decide (re x ≠ -1)) (P' := fun x => decide (uF re q (re (qu i) + 1) x ≠ -1)) (q := q) (by simp [hn]) (by rw [uF_s]; exact decide_eq_true (by omega)) (fun x hx => by rw [uF_n hx]) B
    rw [if_pos hq] at hc
    omega
/-- levels as they are found -/
def LvF (f : Nat → Nat) (N B s : Nat) (re : Nat → Int) (qu : Nat → Nat) (m : Nat) : Prop := Bfs f N B s re qu m ∧ ∀ (k x : Nat), k ≤ 40 → pth f N k s x → re x ≠ -1 ∧ re x ≤ (k : Int)
theorem LvF_of {f : Nat → Nat} {N B s m : Nat} {re : Nat → Int} {qu : Nat → Nat} (hf : ∀ p, f p < B) (hs : s < B) (h0 : re s = 0) (h : Bfs f N B s re qu m) (hd : Bdn f N re qu m) : LvF f N B s re qu m := by
  refine ⟨h, ?_⟩
  intro k
  induction k with
  | zero => intro x _ hp; rw [pth] at hp; subst hp; rw [h0]; exact ⟨by decide, by omega⟩
  | succ k ih =>
    intro x hk hp
    obtain ⟨y, j, hj, h1, rfl⟩ := pth_last _ _ _ hp
    obtain ⟨a1, a2⟩ := ih y (by omega) h1
    obtain ⟨t, ht, rfl⟩ := h.2.2.1 y (pth_lt hf _ _ _ hs h1) a1
    obtain ⟨b1, b2⟩ := hd t ht (by omega) j hj
    exact ⟨b1, by omega⟩
/-- fewest nudges left, on a soonest way -/
def spF (f : Nat → Nat) (N goal n : Nat) (re : Nat → Int) (x : Nat) : Int := if 0 ≤ re x ∧ re x ≤ (n : Int) ∧ dpF f N goal (n - (re x).toNat) x < 9999 then (dpF f N goal (n - (re x).toNat) x : Int) else -1
/-- at a pose before the goal's beat, a step is on the way where the nudges left are few -/
theorem on_way {f : Nat → Nat} {N B s m goal n k p j : Nat} {re : Nat → Int} {qu : Nat → Nat} (hf : ∀ p, f p < B) (hs : s < B) (h : LvF f N B s re qu m) (hg : re goal = (n : Int)) (hgB : goal < B) (hn : n ≤ 40) (hp : p < B) (hk : re p = (k : Int)) (hkn : k < n) (hj : j ≤ N) :
    (dpF f N goal (n - (k + 1)) (stJ f p j) < 9999 → re (stJ f p j) = ((k + 1 : Nat) : Int)) ∧ (re (stJ f p j) = ((k + 1 : Nat) : Int) → spF f N goal n re (stJ f p j) = (if dpF f N goal (n - (k + 1)) (stJ f p j) < 9999 then (dpF f N goal (n - (k + 1)) (stJ f p j) : Int) else -1)) := by
  have hqB : stJ f p j < B := stJ_lt hf
  constructor
  · intro hd
    have h1 := (dp_pth (f := f) (N := N) (goal := goal) (n - (k + 1)) (stJ f p j) (by omega)).mp hd
    have h2 := pth_snoc _ _ _ _ (h.1.2.2.2.2.1 p k hp hk) hj
    obtain ⟨a1, a2⟩ := h.2 (k + 1) _ (by omega) h2
    obtain ⟨t, ht, e⟩ := h.1.2.2.1 _ hqB a1
    have h0 := (h.1.2.1 t ht).2.1
    rw [e] at h0
    obtain ⟨k', hk'⟩ : ∃ k' : Nat, re (stJ f p j) = (k' : Int) := ⟨(re (stJ f p j)).toNat, by omega⟩
    have h3 := h.1.2.2.2.2.1 _ k' hqB hk'
    have h4 := h.2 (k' + (n - (k + 1))) goal (by omega) (pth_app _ _ _ _ _ h3 h1)
    omega
  · intro he
    unfold spF
    rw [he, show (((k + 1 : Nat) : Int)).toNat = k + 1 from Int.toNat_natCast _]
    by_cases hd : dpF f N goal (n - (k + 1)) (stJ f p j) < 9999
    · rw [if_pos ⟨by omega, by omega, hd⟩, if_pos hd]
    · rw [if_neg (fun q => hd q.2.2), if_neg hd]
