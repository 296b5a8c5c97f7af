/-! nobody has painted yet -/
section CLEAR
variable {m : Nat} {x : Int32}
theorem unp_l : ∀ (c i fu : Nat) (h : am_F), i + c = 6 → c < fu → ∃ h', Md_finish_l2 m x fu (nI i) h = some h' ∧ (∀ j, i ≤ j → j < 6 → h' (m + 25) j = -1) ∧ (∀ j, j < i → h' (m + 25) j = h (m + 25) j) ∧ ∀ x, x ≠ m + 25 → h' x = h x := by
  intro c
  induction c with
  | zero =>
    intro i fu h hi hf
    obtain ⟨fu, rfl⟩ : ∃ q, fu = q + 1 := ⟨fu - 1, by omega⟩
    unfold Md_finish_l2
    rw [if_pos (show (6 : Int32) ≤ nI i from nI_le (show 6 ≤ i by omega) (by omega))]
    exact ⟨h, rfl, fun j _ _ => by omega, fun _ _ => rfl, fun _ _ => rfl⟩
  | succ c ih =>
    intro i fu h hi hf
    obtain ⟨fu, rfl⟩ : ∃ q, fu = q + 1 := ⟨fu - 1, by omega⟩
    obtain ⟨h', a1, a2, a3, a4⟩ := ih (i + 1) fu (am_up h (m + 25) i (-1)) (by omega) (by omega)
    refine ⟨h', ?_, ?_, ?_, ?_⟩
    · unfold Md_finish_l2
      rw [if_neg (show ¬ (6 : Int32) ≤ nI i from nI_ge (show i < 6 by omega) (by decide)), z_ix (show i < 6 by omega) (by decide), Option.bind_some, nI_1]
      exact a1
    · intro j h1 h2
      by_cases cj : j = i
      · subst cj
        rw [a3 j (by omega), z_ups, upz_s]
      · exact a2 j (by omega) h2
    · intro j hj
      rw [a3 j (by omega), z_ups, upz_n (by omega)]
    · intro x hx
      rw [a4 x hx, z_upr hx]
end CLEAR
