/-! waiting for another bench -/
section WAIT
variable {l : List (Nat × Nat)} {r : am_R} {hc hm : am_F} {m k p b t s a q c i nb : Nat} {f g : Nat → Int32} {x x3 x4 y : Int32}
theorem oth_eq (V : pkV (hm (m + 12))) (hz : ∀ y, y < 6 → hm (m + 25) y = -1 ∨ zN (hm (m + 25) y) 10000) (ht : t < 10000) (hn : hm (m + 12) 3 = nI nb) (h2 : 2 ≤ nb) (h6 : nb ≤ 6) (hb : b < 6) : ∃ v, Md_isOtherDry m (nI b) (nI t) hm = some (nI v) ∧ (v = 0 ∨ v = 1) ∧ (v = 1 ↔ ∃ y, y < nb ∧ y ≠ b ∧ oDry hm m t y) := by
  obtain ⟨v, k1, k2, k3⟩ := oth_l V hz ht hn h2 h6 hb nb 0 g_fu (by omega) (by unfold g_fu; omega)
  refine ⟨v, k1, k2, k3.trans ⟨?_, ?_⟩⟩
  · rintro ⟨y, _, h⟩
    exact ⟨y, h⟩
  · rintro ⟨y, h⟩
    exact ⟨y, Nat.zero_le _, h⟩
theorem wait_l (V : pkV (hm (m + 12))) (hz : ∀ y, y < 6 → hm (m + 25) y = -1 ∨ zN (hm (m + 25) y) 10000) (hn : hm (m + 12) 3 = nI nb) (h2 : 2 ≤ nb) (h6 : nb ≤ 6) (hb : b < 6) : ∀ (c s fu : Nat), s + c = 401 → c < fu → ∃ e, Md_finish_l48 m x3 x4 (nI b) hm fu (nI s) = some (nI e) ∧ s ≤ e ∧ e ≤ 401 ∧ (e < 401 → ∃ y, y < nb ∧ y ≠ b ∧ oDry hm m e y) ∧ ∀ t, s ≤ t → t < e → ¬ ∃ y, y < nb ∧ y ≠ b ∧ oDry hm m t y := by
  intro c
  induction c with
  | zero =>
    intro s fu hs hf
    obtain ⟨fu, rfl⟩ : ∃ q, fu = q + 1 := ⟨fu - 1, by omega⟩
    refine ⟨s, ?_, Nat.le_refl _, by omega, fun e => by omega, fun t h1 h2 => by omega⟩
    unfold Md_finish_l48
    rw [if_pos (show (400 : Int32) < nI s from nI_lt (show 400 < s by omega) (by omega))]
  | succ c ih =>
    intro s fu hs hf
    obtain ⟨fu, rfl⟩ : ∃ q, fu = q + 1 := ⟨fu - 1, by omega⟩
    obtain ⟨v, k1, k2, k3⟩ := oth_eq (t := s) V hz (by omega) hn h2 h6 hb
    unfold Md_finish_l48
    rw [if_neg (show ¬ (400 : Int32) < nI s from nI_nlt (show s ≤ 400 by omega) (by decide)), k1, Option.bind_some, nI_1]
    rcases k2 with rfl | rfl
    · rw [if_pos (show nI 0 = 0 from rfl)]
      obtain ⟨e, a1, a2, a3, a4, a5⟩ := ih (s + 1) fu (by omega) (by omega)
      refine ⟨e, a1, by omega, a3, a4, fun t h1 h2 => ?_⟩
      by_cases ct : t = s
      · subst ct
        exact fun hy => absurd (k3.2 hy) (by decide)
      · exact a5 t (by omega) h2
    · rw [if_neg (show ¬ nI 1 = 0 by decide)]
      exact ⟨s, rfl, Nat.le_refl _, by omega, fun _ => k3.1 rfl, fun t h1 h2 => by omega⟩
theorem wait_at (V : pkV (hm (m + 12))) (hz : ∀ y, y < 6 → hm (m + 25) y = -1 ∨ zN (hm (m + 25) y) 10000) (hn : hm (m + 12) 3 = nI nb) (h2 : 2 ≤ nb) (h6 : nb ≤ 6) (hb : b < 6) (hs : s < 10000) (hu : ∃ y, y < nb ∧ y ≠ b ∧ hm (m + 25) y = -1) : Md_finish_l48 m x3 x4 (nI b) hm g_fu (nI s) = some (nI s) := by
  obtain ⟨y, y1, y2, y3⟩ := hu
  by_cases c : s ≤ 400
  · obtain ⟨e, a1, a2, a3, a4, a5⟩ := wait_l (x3 := x3) (x4 := x4) V hz hn h2 h6 hb (401 - s) s g_fu (by omega) (by unfold g_fu; omega)
    by_cases ce : e = s
    · subst ce
      exact a1
    · exact absurd ⟨y, y1, y2, .inl y3⟩ (a5 s (Nat.le_refl _) (by omega))
  · rw [show g_fu = 99999 + 1 from rfl]
    unfold Md_finish_l48
    rw [if_pos (show (400 : Int32) < nI s from nI_lt (show 400 < s by omega) (by omega))]
end WAIT
