/-! days, least terms -/
def gcdF : Nat → Nat → Nat → Nat
  | 0, a, _ => a
  | n + 1, a, b => if b = 0 then a else gcdF n b (a % b)
theorem gcdF_eq : ∀ n a b, b < 2 ^ n → gcdF (2 * n + 1) a b = Nat.gcd a b := by
  intro n
  induction n with
  | zero =>
    intro a b h
    have : b = 0 := by omega
    subst this
    show (if 0 = 0 then a else _) = _
    rw [if_pos rfl, Nat.gcd_zero_right]
  | succ n ih =>
    intro a b h
    show (if b = 0 then a else gcdF (2 * n + 2) b (a % b)) = _
    by_cases c : b = 0
    · rw [if_pos c, c, Nat.gcd_zero_right]
    · rw [if_neg c]
      show (if a % b = 0 then b else gcdF (2 * n + 1) (a % b) (b % (a % b))) = _
      by_cases c2 : a % b = 0
      · rw [if_pos c2, Nat.gcd_comm, Nat.gcd_rec, c2, Nat.gcd_zero_left]
      · rw [if_neg c2, ih]
        · rw [Nat.gcd_comm a b, Nat.gcd_rec b a, Nat.gcd_rec (a % b) b, Nat.gcd_comm]
        · have h1 : a % b < b := Nat.mod_lt _ (by omega)
          have h2 : b % (a % b) < a % b := Nat.mod_lt _ (by omega)
          have h3 : b % (a % b) + (a % b) ≤ b := by
            have := Nat.div_add_mod b (a % b)
            have h4 : 1 ≤ b / (a % b) := Nat.div_pos (by omega) (by omega)
            have h5 : (a % b) * 1 ≤ (a % b) * (b / (a % b)) := Nat.mul_le_mul_left _ h4
            omega
          rw [Nat.pow_succ] at h
          omega
theorem gcdF_more : ∀ n k a b, gcdF n a b = Nat.gcd a b → (∃ m, n = 2 * m + 1 ∧ b < 2 ^ m) → gcdF (n + k) a b = Nat.gcd a b := by
  rintro n k a b - ⟨m, rfl, hb⟩
  have : ∀ j a b, b < 2 ^ m → gcdF (2 * m + 1 + j) a b = Nat.gcd a b := by
    clear hb
    induction m with
    | zero =>
      intro j a b h
      have : b = 0 := by omega
      subst this
      rw [show 2 * 0 + 1 + j = j + 1 by omega]
      show (if 0 = 0 then a else _) = _
      rw [if_pos rfl, Nat.gcd_zero_right]
    | succ n ih =>
      intro j a b h
      rw [show 2 * (n + 1) + 1 + j = (2 * n + 1 + j) + 1 + 1 by omega]
      show (if b = 0 then a else (if a % b = 0 then b else gcdF (2 * n + 1 + j) (a % b) (b % (a % b)))) = _
      by_cases c : b = 0
      · rw [if_pos c, c, Nat.gcd_zero_right]
      · rw [if_neg c]
        by_cases c2 : a % b = 0
        · rw [if_pos c2, Nat.gcd_comm, Nat.gcd_rec, c2, Nat.gcd_zero_left]
        · rw [if_neg c2, ih]
          · rw [Nat.gcd_comm a b, Nat.gcd_rec b a, Nat.gcd_rec (a % b) b, Nat.gcd_comm]
          · have h1 : a % b < b := Nat.mod_lt _ (by omega)
            have h2 : b % (a % b) < a % b := Nat.mod_lt _ (by omega)
            have h3 : b % (a % b) + (a % b) ≤ b := by
              have := Nat.div_add_mod b (a % b)
              have h4 : 1 ≤ b / (a % b) := Nat.div_pos (by omega) (by omega)
              have h5 : (a % b) * 1 ≤ (a % b) * (b / (a % b)) := Nat.mul_le_mul_left _ h4
              omega
            rw [Nat.pow_succ] at h
            omega
  exact this k a b hb
theorem gcdF_64 (a b : Nat) (h : b < 2 ^ 20) : gcdF 64 a b = Nat.gcd a b := gcdF_more 41 23 a b (gcdF_eq 20 a b h) ⟨20, rfl, h⟩
section LT
variable {a b n : Nat} {x0 x1 x2 : Int32}
theorem leastC_l : ∀ (c i fu a b : Nat), i + c = 64 → c < fu → a < 2 ^ 30 → b < 2 ^ 30 → Wp_inLeastTerms_l14 x0 x1 x2 fu (nI a) (nI b) (nI i) = some (nI (gcdF c a b)) := by
  intro c
  induction c with
  | zero =>
    intro i fu a b hi hfu ha hb
    obtain ⟨fu, rfl⟩ : ∃ q, fu = q + 1 := ⟨fu - 1, by omega⟩
    unfold Wp_inLeastTerms_l14
    rw [show (64 : Int32) = nI 64 from rfl, if_pos (nI_le (by omega) (by omega))]
    rfl
  | succ c ih =>
    intro i fu a b hi hfu ha hb
    obtain ⟨fu, rfl⟩ : ∃ q, fu = q + 1 := ⟨fu - 1, by omega⟩
    unfold Wp_inLeastTerms_l14 gcdF
    rw [show (64 : Int32) = nI 64 from rfl, if_neg (nI_ge (by omega) (by omega))]
    by_cases cb : b = 0
    · rw [if_pos ((z_eq0 (by omega)).2 cb), if_pos cb]
    · have hr : g_rm (nI a) (nI b) = some (nI (a % b)) := by
        unfold g_rm
        rw [if_neg (fun e => cb ((z_eq0 (by omega)).1 e)), pk_rem (by omega) (by omega) (by omega)]
      have : a % b < b := Nat.mod_lt _ (by omega)
      rw [if_neg (fun e => cb ((z_eq0 (by omega)).1 e)), if_neg cb, hr, Option.bind_some, nI_1]
      exact ih (i + 1) fu b (a % b) (by omega) (by omega) hb (by omega)
theorem leastC (ha : a < 2 ^ 20) (hb : b < 2 ^ 20) (hb0 : 0 < b) : Wp_inLeastTerms (nI a) (nI b) x2 = some (nI ((if x2 = 0 then a else b) / Nat.gcd a b)) := by
  have hg : 0 < Nat.gcd a b := Nat.gcd_pos_of_pos_right a hb0
  have hgb : Nat.gcd a b ≤ b := Nat.gcd_le_right a hb0
  unfold Wp_inLeastTerms
  rw [if_pos (nI_pos' (by omega)), if_pos (nI_pos' (by omega)), show (0 : Int32) = nI 0 from rfl, leastC_l 64 0 g_fu a b (by omega) (by unfold g_fu; omega) (by omega) (by omega), Option.bind_some, gcdF_64 a b hb]
  have hq : (if x2 = nI 0 then some (nI a) else some (nI b) : Option Int32) = some (nI (if x2 = nI 0 then a else b)) := by
    split <;> rfl
  rw [hq, Option.bind_some, if_neg (fun e => by have := (nI_eq (show Nat.gcd a b < 2 ^ 31 by omega) (by decide)).1 e; omega)]
  unfold g_dv
  rw [if_neg (fun e => by have := (z_eq0 (show Nat.gcd a b < 2 ^ 31 by omega)).1 e; omega), pk_div (by split <;> omega) hg (by omega)]
  rfl
end LT
