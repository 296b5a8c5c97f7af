/-! is another bench dry -/
def oDry (hm : am_F) (m t y : Nat) : Prop := hm (m + 25) y = -1 ∨ (¬ nI t < hm (m + 25) y ∧ wetX (hm (m + 12)) (hm (m + 25) y) t = 0)
section OTHER
variable {l : List (Nat × Nat)} {r : am_R} {hc hm : am_F} {m k p b t s a q c i nb : Nat} {f g : Nat → Int32} {x y : Int32}
theorem oth_l (V : pkV (hm (m + 12))) (hz : ∀ y, y < 6 → hm (m + 25) y = -1 ∨ zN (hm (m + 25) y) 10000) (ht : t < 10000) (hn : hm (m + 12) 3 = nI nb) (h2 : 2 ≤ nb) (h6 : nb ≤ 6) (hb : b < 6) : ∀ (c i fu : Nat), i + c = nb → c < fu → ∃ v, Md_isOtherDry_l2 m (nI b) (nI t) hm fu (nI i) = some (nI v) ∧ (v = 0 ∨ v = 1) ∧ (v = 1 ↔ ∃ y, i ≤ y ∧ y < nb ∧ y ≠ b ∧ oDry hm m t y) := by
  intro c
  induction c with
  | zero =>
    intro i fu hi hf
    obtain ⟨fu, rfl⟩ : ∃ q, fu = q + 1 := ⟨fu - 1, by omega⟩
    refine ⟨0, ?_, .inl rfl, ⟨fun e => by omega, fun ⟨y, h1, h2, _⟩ => by omega⟩⟩
    unfold Md_isOtherDry_l2
    rw [hn, if_pos (nI_le (by omega) (by omega)), if_neg (show ¬ nI nb = 1 from fun e => by have := (nI_eq (show nb < 2 ^ 31 by omega) (by decide)).1 (show nI nb = nI 1 from e); omega)]
    rfl
  | succ c ih =>
    intro i fu hi hf
    obtain ⟨fu, rfl⟩ : ∃ q, fu = q + 1 := ⟨fu - 1, by omega⟩
    obtain ⟨v, k1, k2, k3⟩ := ih (i + 1) fu (by omega) (by omega)
    have no : (i = b ∨ ¬ oDry hm m t i) → (v = 1 ↔ ∃ y, i ≤ y ∧ y < nb ∧ y ≠ b ∧ oDry hm m t y) := by
      intro hno
      rw [k3]
      constructor
      · rintro ⟨y, h1, h2, h3, h4⟩
        exact ⟨y, by omega, h2, h3, h4⟩
      · rintro ⟨y, h1, h2, h3, h4⟩
        refine ⟨y, ?_, h2, h3, h4⟩
        by_cases cy : y = i
        · subst cy
          rcases hno with e | e
          · exact absurd e h3
          · exact absurd h4 e
        · omega
    have yes : i ≠ b → oDry hm m t i → (1 = 1 ↔ ∃ y, i ≤ y ∧ y < nb ∧ y ≠ b ∧ oDry hm m t y) := fun h1 h2 => ⟨fun _ => ⟨i, Nat.le_refl _, by omega, h1, h2⟩, fun _ => rfl⟩
    unfold Md_isOtherDry_l2
    rw [hn, if_neg (nI_ge (by omega) (by omega)), nI_1]
    by_cases cb : i = b
    · rw [if_pos (by rw [cb])]
      exact ⟨v, k1, k2, no (.inl cb)⟩
    · rw [if_neg (fun e => cb ((nI_eq (by omega) (by omega)).1 e)), z_ix (show i < 6 by omega) (by decide)]
      simp only [Option.bind_some]
      by_cases c1 : hm (m + 25) i = -1
      · rw [if_pos c1]
        exact ⟨1, rfl, .inr rfl, yes cb (.inl c1)⟩
      · rw [if_neg c1]
        by_cases c2 : nI t < hm (m + 25) i
        · rw [if_pos c2]
          exact ⟨v, k1, k2, no (.inr (fun e => by rcases e with e | e; exact c1 e; exact e.1 c2))⟩
        · rw [if_neg c2, Md_wetness_at V ht (hz i (by omega)), Option.bind_some]
          have hw : wetX (hm (m + 12)) (hm (m + 25) i) t < 2 ^ 31 := by
            have := (zN_V (pv_fresh V).1 (by decide)).2
            unfold wetX
            split
            · omega
            · split <;> omega
          by_cases c3 : wetX (hm (m + 12)) (hm (m + 25) i) t = 0
          · rw [if_pos ((z_eq0 hw).2 c3)]
            exact ⟨1, rfl, .inr rfl, yes cb (.inr ⟨c2, c3⟩)⟩
          · rw [if_neg (fun e => c3 ((z_eq0 hw).1 e))]
            exact ⟨v, k1, k2, no (.inr (fun e => by rcases e with e | e; exact c1 e; exact c3 e.2))⟩
end OTHER
