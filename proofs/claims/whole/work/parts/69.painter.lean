/-! the painter's hours: how long a bench takes, when it is dry -/
def dA (g : Nat → Int32) (p : Nat) : Nat := if 401 ≤ p then 401 else dryF g p (401 - p) p
def hrN (g : Nat → Int32) (b : Nat) : Nat := (nV (g (55 + 4 * b)) + 2) / 3
section PAINTER
variable {l : List (Nat × Nat)} {r : am_R} {h h' hc hm : am_F} {m k p b t s a q c i : Nat} {f g g' : Nat → Int32} {x y u v : Int32}
theorem third_at {A : Nat} (hA : A < 10) : (nI A + 2) / 3 = nI ((A + 2) / 3) := by
  match A, hA with
  | 0, _ => decide
  | 1, _ => decide
  | 2, _ => decide
  | 3, _ => decide
  | 4, _ => decide
  | 5, _ => decide
  | 6, _ => decide
  | 7, _ => decide
  | 8, _ => decide
  | 9, _ => decide
theorem hrN_le (V : pkV g) (hb : b < nV (g 3)) : 1 ≤ hrN g b ∧ hrN g b ≤ 3 := by
  have h1 := pv_slats V b hb
  have h2 := zN_V h1.1 (by decide)
  unfold hrN
  omega
theorem hours_at (K : pkI l hc p g) (V : pkV g) (hb : b < nV (g 3)) : Pa_hoursFor p (nI b) hc = some (nI (hrN g b)) := by
  have h3 := zN_V (pv_nb V) (by decide)
  have h1 := pv_slats V b hb
  have h2 := zN_V h1.1 (by decide)
  unfold Pa_hoursFor hrN
  rw [Pk_hasBench_at K V hb, if_neg (show ¬ (1 : Int32) = 0 by decide), z_ix (show b < 6 by omega) (by decide), Option.bind_some, K.2.2.2.1 b hb, ← third_at h2.2, ← h2.1]
theorem rate_at (K : pkI l hc p g) (V : pkV g) (ht : t < 2 ^ 30) : Pk_rateAt p (nI t) hc = some (nI (rateN g t)) := by
  have e : (if (47 : Int32) < nI t then (47 : Int32) else nI t) = nI (min t 47) := by
    by_cases c : 47 < t
    · rw [if_pos (show (47 : Int32) < nI t from nI_lt c (by omega)), Nat.min_eq_right (by omega)]
      rfl
    · rw [if_neg (show ¬ (47 : Int32) < nI t from nI_nlt (show t ≤ 47 by omega) (by decide)), Nat.min_eq_left (by omega)]
  have hm : min t 47 < 48 := by omega
  unfold Pk_rateAt rateN
  rw [if_pos (show (0 : Int32) ≤ nI t from nI_le (show 0 ≤ t by omega) (by omega)), e, z_ix hm (by decide), Option.bind_some, K.2.1 _ hm, ← (zN_V (pv_rate V _ hm) (by decide)).1]
theorem dryA_l (K : pkI l hc a g) (V : pkV g) : ∀ m s fu, s + m = 401 → p ≤ s → m < fu → Pa_dryAt_l7 a hc fu (nI (nV (g 0)) - nI (sumR g p (s - p))) (nI s) = some (nI (dryF g p m s)) := by
  have F := zN_V (pv_fresh V).1 (by decide)
  intro m
  induction m with
  | zero =>
    intro s fu hs hps hfu
    obtain ⟨fu, rfl⟩ : ∃ q, fu = q + 1 := ⟨fu - 1, by omega⟩
    have : s = 401 := by omega
    subst this
    unfold Pa_dryAt_l7 dryF
    rw [if_pos (show (401 : Int32) ≤ nI 401 by decide)]
    rfl
  | succ m ih =>
    intro s fu hs hps hfu
    obtain ⟨fu, rfl⟩ : ∃ q, fu = q + 1 := ⟨fu - 1, by omega⟩
    have b1 := sumR_le V p (s - p)
    have hS : sumR g p (s + 1 - p) = sumR g p (s - p) + rateN g s := by
      rw [show s + 1 - p = (s - p) + 1 by omega]
      show _ + rateN _ (p + (s - p)) = _
      rw [show p + (s - p) = s by omega]
    unfold Pa_dryAt_l7 dryF
    rw [if_neg (show ¬ (401 : Int32) ≤ nI s from nI_ge (show s < 401 by omega) (by decide))]
    by_cases c : nV (g 0) ≤ sumR g p (s - p)
    · rw [if_neg (Int32.not_lt.2 ((z_subT (by omega) (by omega)).2 c)), if_pos c]
    · rw [if_pos (Int32.not_le.1 (fun e => c ((z_subT (by omega) (by omega)).1 e))), if_neg c, rate_at K V (by omega), Option.bind_some, z_sub3, nI_add, ← hS, nI_1]
      exact ih (s + 1) fu (by omega) (by omega) (by omega)
theorem dryA_at (K : pkI l hc a g) (V : pkV g) (hp : p < 10000) : Pa_dryAt a (nI p) hc = some (nI (dA g p)) := by
  have F := zN_V (pv_fresh V).1 (by decide)
  unfold Pa_dryAt dA
  by_cases c : 401 ≤ p
  · rw [if_pos c, show g_fu = 99999 + 1 from rfl]
    unfold Pa_dryAt_l7
    rw [if_pos (show (401 : Int32) ≤ nI p from nI_le c (by omega))]
    rfl
  · rw [if_neg c]
    have h1 := dryA_l (p := p) K V (401 - p) p g_fu (by omega) (Nat.le_refl _) (by unfold g_fu; omega)
    rw [Nat.sub_self, show nI (nV (g 0)) - nI (sumR g p 0) = g 0 by
      rw [show sumR g p 0 = 0 from rfl, pk_sub (Nat.zero_le _), Nat.sub_zero]; exact F.1.symm] at h1
    rw [K.1.1]
    exact h1
theorem dryF_spec (g : Nat → Int32) (p : Nat) : ∀ m s, s ≤ dryF g p m s ∧ dryF g p m s ≤ s + m ∧ (dryF g p m s < s + m → nV (g 0) ≤ sumR g p (dryF g p m s - p)) ∧ ∀ t, s ≤ t → t < dryF g p m s → sumR g p (t - p) < nV (g 0) := by
  intro m
  induction m with
  | zero => intro s; exact ⟨Nat.le_refl _, Nat.le_refl _, fun e => absurd e (Nat.lt_irrefl _), fun t h1 h2 => absurd h2 (Nat.not_lt.2 h1)⟩
  | succ m ih =>
    intro s
    unfold dryF
    by_cases c : nV (g 0) ≤ sumR g p (s - p)
    · rw [if_pos c]
      exact ⟨Nat.le_refl _, by omega, fun _ => c, fun t h1 h2 => by omega⟩
    · rw [if_neg c]
      obtain ⟨i1, i2, i3, i4⟩ := ih (s + 1)
      refine ⟨by omega, by omega, fun e => i3 (by omega), fun t h1 h2 => ?_⟩
      by_cases ct : t = s
      · subst ct; omega
      · exact i4 t (by omega) h2
theorem dA_le : dA g p ≤ 401 := by
  unfold dA
  split
  · exact Nat.le_refl _
  · have := (dryF_spec g p (401 - p) p).2.1
    omega
theorem dA_mono (hpq : p ≤ q) : dA g p ≤ dA g q := by
  by_cases cq : 401 ≤ q
  · have : dA g q = 401 := by unfold dA; rw [if_pos cq]
    rw [this]
    exact dA_le
  · unfold dA
    rw [if_neg cq, if_neg (show ¬ 401 ≤ p by omega)]
    obtain ⟨a1, a2, a3, a4⟩ := dryF_spec g p (401 - p) p
    obtain ⟨b1, b2, b3, b4⟩ := dryF_spec g q (401 - q) q
    generalize dryF g p (401 - p) p = d at *
    generalize dryF g q (401 - q) q = e at *
    by_cases c : d ≤ e
    · exact c
    · exfalso
      have h1 := a4 e (by omega) (by omega)
      have h2 := b3 (by omega)
      have h3 := sumR_add g p (q - p) (e - q)
      rw [show q - p + (e - q) = e - p by omega, show p + (q - p) = q by omega] at h3
      omega
end PAINTER
