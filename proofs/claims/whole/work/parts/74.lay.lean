/-! a line is laid out of its number -/
theorem bit_or : ∀ u, u < 64 → ∀ d, d < 6 → (nI u ||| ((1 : Int32) <<< (nI d &&& 31))) = nI (u ||| 1 <<< d) ∧ (u ||| 1 <<< d) < 64 := by decide +kernel
theorem bit_all : ∀ n, n < 7 → ((1 : Int32) <<< (nI n &&& 31)) - 1 = nI (2 ^ n - 1) ∧ 2 ^ n - 1 < 64 := by decide +kernel
theorem bitA_lt : ∀ c x u, u < 64 → bitA c x u < 64 := by
  intro c
  induction c with
  | zero => intro x u hu; exact hu
  | succ c ih => intro x u hu; exact ih _ _ (bit_or u hu _ (Nat.mod_lt _ (by decide))).2
section LAY
variable {m nb : Nat} {hm : am_F}
theorem z_dec (y : Int32) : y + Int32.ofInt (-1) = y - 1 := by
  rw [show Int32.ofInt (-1) = -1 by decide]
  exact (Int32.sub_eq_add_neg ..).symm
theorem lay_l : ∀ (c x u fu : Nat) (h : am_F), c ≤ 6 → x < 2 ^ 31 → u < 64 → c < fu → ∃ h', Md_layLine_l14 m fu (nI x) (nI u) (nI c - 1) h = some (nI (bitA c x u), h') ∧ (∀ i, i < c → h' (m + 24) i = nI (x / 6 ^ (c - 1 - i) % 6)) ∧ (∀ i, c ≤ i → h' (m + 24) i = h (m + 24) i) ∧ ∀ y, y ≠ m + 24 → h' y = h y := by
  intro c
  induction c with
  | zero =>
    intro x u fu h hc hx hu hf
    obtain ⟨fu, rfl⟩ : ∃ q, fu = q + 1 := ⟨fu - 1, by omega⟩
    unfold Md_layLine_l14
    rw [if_pos (show nI 0 - 1 < 0 by decide)]
    exact ⟨h, rfl, fun i hi => absurd hi (Nat.not_lt_zero _), fun _ _ => rfl, fun _ _ => rfl⟩
  | succ c ih =>
    intro x u fu h hc hx hu hf
    obtain ⟨fu, rfl⟩ : ∃ q, fu = q + 1 := ⟨fu - 1, by omega⟩
    have hd : x % 6 < 6 := Nat.mod_lt _ (by decide)
    obtain ⟨b1, b2⟩ := bit_or u hu _ hd
    obtain ⟨h', a1, a2, a3, a4⟩ := ih (x / 6) (u ||| 1 <<< (x % 6)) fu (am_up h (m + 24) c (nI (x % 6))) (by omega) (by omega) b2 (by omega)
    refine ⟨h', ?_, ?_, ?_, ?_⟩
    · unfold Md_layLine_l14
      rw [nI_pred, if_neg (nI_pos (show c < 2 ^ 31 by omega)), z_ix (show c < 6 by omega) (by decide), Option.bind_some, Option.bind_some, show (6 : Int32) = nI 6 from rfl, pk_rem hx (by decide) (by decide), pk_div hx (by decide) (by decide), z_dec, z_ups, upz_s, b1]
      exact a1
    · intro i hi
      by_cases ci : i = c
      · subst ci
        rw [a3 i (Nat.le_refl _), z_ups, upz_s, show i + 1 - 1 - i = 0 by omega, Nat.pow_zero, Nat.div_one]
      · rw [a2 i (by omega), Nat.div_div_eq_div_mul, show c + 1 - 1 - i = (c - 1 - i) + 1 by omega, Nat.pow_succ, Nat.mul_comm 6]
    · intro i hi
      rw [a3 i (by omega), z_ups, upz_n (by omega)]
    · intro y hy
      rw [a4 y hy, z_upr hy]
theorem lay_at {x : Nat} (hn : hm (m + 12) 3 = nI nb) (h6 : nb ≤ 6) (hx : x < 2 ^ 31) : ∃ h', Md_layLine m (nI x) hm = some (if vdB nb x = true then 1 else 0, h') ∧ (∀ i, i < nb → h' (m + 24) i = nI (dgN nb x i)) ∧ ∀ y, y ≠ m + 24 → h' y = hm y := by
  obtain ⟨h', a1, a2, a3, a4⟩ := lay_l (m := m) nb x 0 g_fu hm h6 hx (by decide) (by unfold g_fu; omega)
  refine ⟨h', ?_, a2, a4⟩
  unfold Md_layLine
  have b := bit_all nb (by omega)
  have c := bitA_lt nb x 0 (by decide)
  have a1' : Md_layLine_l14 m g_fu (nI x) 0 (nI nb - 1) hm = some (nI (bitA nb x 0), h') := a1
  rw [hn, a1', Option.bind_some]
  simp only []
  rw [a4 _ (by omega), hn, b.1]
  unfold vdB
  by_cases e : bitA nb x 0 = 2 ^ nb - 1
  · rw [e, if_pos rfl, if_pos (Nat.beq_refl _)]
  · rw [if_neg (fun q => e ((nI_eq (by omega) (by omega)).1 q)), if_neg (fun q => e (Nat.eq_of_beq_eq_true q))]
end LAY
