/-! The simplest pairs of calls. -/
section Ops1
variable {D : Nat}
/-- fault -/
theorem s_fault {a : Int} (ha : R32 a) : Sim Inv D 5 6 [some (vr 0), some (vi a)] [some (vr 167), some (vi a)] := by
  intro w hI
  have hf : w 1 2 = w 167 13 ∧ w 1 3 = w 167 14 := hI.1
  have h0 : res (iup w 167 0 0) = res w := res_iup (by decide)
  have e13 : iup w 167 0 0 167 13 = w 167 13 := iup_i (by decide)
  have e14 : iup w 167 0 0 167 14 = w 167 14 := iup_i (by decide)
  have e99 : ∀ j, iup w 167 0 0 999 j = w 999 j := fun j => iup_c (by decide)
  have key : ∀ x : Int, x = (if a = 0 then w 167 13 else if a = 1 then w 167 14 else -1) → (∃ y, some (vi x) = some (vi y) ∧ (∀ j, w 999 j = w 999 j) ∧ T D 6 0 [some (vr 167), some (vi a)] [] w (fun r2 w2 => r2 = some (vi y) ∧ (∀ j, w2 999 j = w 999 j) ∧ Inv w2)) := by
    intro x hx
    refine ⟨x, rfl, fun _ => rfl, ?_⟩
    rw [g6_0]
    simp only [g6_29, e13, e14]
    by_cases h1 : a = 0
    · rw [if_pos h1] at hx
      rw [if_f (fun q => q h1)]
      exact ⟨by rw [hx], e99, Inv_res hI h0⟩
    · rw [if_neg h1] at hx
      rw [if_t h1]
      by_cases h2 : a = 1
      · rw [if_pos h2] at hx
        rw [if_f (fun q => q h2)]
        exact ⟨by rw [hx], e99, Inv_res hI h0⟩
      · rw [if_neg h2] at hx
        rw [if_t h2]
        exact ⟨by rw [hx], e99, Inv_res hI h0⟩
  rw [g5_0]
  refine ⟨fun h => key _ ?_, fun h => key _ ?_, fun h => key _ ?_⟩
  · rw [if_pos h]; exact hf.1
  · rw [if_neg (by omega), if_pos h]; exact hf.2
  · rw [if_neg h.1, if_neg h.2]
end Ops1
