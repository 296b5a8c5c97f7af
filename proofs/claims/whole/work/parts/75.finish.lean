/-! when a line is done -/
/-- the hour at which all is dry, by the first and the last of a line -/
def finN (g : Nat → Int32) (s n a z : Nat) : Nat := if n = 1 then dA g (s + hrN g 0) else dA g (max (s + sumF (hrN g) n - hrN g z) (dA g (s + hrN g a)) + hrN g z)
section FINISH
variable {m nb s x i : Nat} {hm : am_F} {g : Nat → Int32}
theorem dries400 (V : pkV (hm (m + 12))) {p : Nat} (hp : p < 10000) : Md_dries m (nI p) 400 hm = some (nI (dA (hm (m + 12)) p)) := by
  by_cases c : p ≤ 400
  · rw [show (400 : Int32) = nI 400 from rfl, Md_dries_go V (by decide) (by omega)]
    unfold dA
    rw [if_neg (by omega)]
  · unfold Md_dries
    rw [if_neg (z_nem (by omega)), show g_fu = 99999 + 1 from rfl]
    unfold Md_dries_l17
    have e : (if hm (m + 12) 0 ≤ 0 then some (nI p) else if (400 : Int32) < nI p then some (nI p) else (Md_rateOf m (nI p) hm).bind fun q4 => Md_dries_l17 m 400 hm 99999 (hm (m + 12) 0 - q4) (nI p + 1)) = some (nI p) := by
      rw [if_pos (show (400 : Int32) < nI p from nI_lt (show 400 < p by omega) (by omega))]
      split <;> rfl
    rw [e, Option.bind_some, show (400 : Int32) + 1 = nI 401 from rfl, z_lesser (by omega) (by decide), Nat.min_eq_right (by omega)]
    unfold dA
    rw [if_pos (by omega)]
theorem dA_ge {p : Nat} (hp : p ≤ 401) : p ≤ dA g p := by
  unfold dA
  split
  · omega
  · exact (dryF_spec g p (401 - p) p).1
theorem dA_dry {p t : Nat} (hp : p ≤ 400) (hd : dA g p ≤ 400) (ht : dA g p ≤ t) : nV (g 0) ≤ sumR g p (t - p) := by
  unfold dA at hd ht
  rw [if_neg (by omega)] at hd ht
  obtain ⟨a1, a2, a3, a4⟩ := dryF_spec g p (401 - p) p
  have h1 := a3 (by omega)
  have h3 := sumR_add g p (dryF g p (401 - p) p - p) (t - dryF g p (401 - p) p)
  rw [show dryF g p (401 - p) p - p + (t - dryF g p (401 - p) p) = t - p by omega] at h3
  omega
theorem dA_wet {p t : Nat} (hp : p ≤ t) (ht : t ≤ 400) (hd : nV (g 0) ≤ sumR g p (t - p)) : dA g p ≤ t := by
  unfold dA
  rw [if_neg (by omega)]
  obtain ⟨a1, a2, a3, a4⟩ := dryF_spec g p (401 - p) p
  by_cases c : dryF g p (401 - p) p ≤ t
  · exact c
  · have := a4 t hp (by omega)
    omega
theorem sumF_le {f : Nat → Nat} {n B : Nat} (h : ∀ i, i < n → f i ≤ B) : sumF f n ≤ n * B := by
  induction n with
  | zero => exact Nat.zero_le _
  | succ n ih =>
    have h1 := ih (fun i hi => h i (by omega))
    have h2 := h n (by omega)
    show sumF f n + f n ≤ _
    rw [Nat.add_mul]
    omega
theorem sumF_mono {f : Nat → Nat} {a b : Nat} (h : a ≤ b) : sumF f a ≤ sumF f b := by
  induction b with
  | zero => rw [show a = 0 by omega]; exact Nat.le_refl _
  | succ b ih =>
    by_cases c : a = b + 1
    · rw [c]; exact Nat.le_refl _
    · have := ih (by omega)
      show _ ≤ sumF f b + f b
      omega
/-- what stands when i benches of line x are painted -/
def finI (hm : am_F) (m : Nat) (g : Nat → Int32) (s n x i : Nat) : Prop := (∀ j, j < i → hm (m + 25) (dgN n x j) = nI (s + sumF (fun k => hrN g (dgN n x k)) (j + 1))) ∧ ∀ y, y < 6 → (∀ j, j < i → dgN n x j ≠ y) → hm (m + 25) y = -1
/-- one bench more -/
theorem fin_up {t p : Nat} (G : goodB nb x = true) (hi : i < nb) (h6 : nb ≤ 6) (I : finI hm m g s nb x i) (hp : p = s + sumF (fun k => hrN g (dgN nb x k)) (i + 1)) : finI (am_up hm (m + 25) (dgN nb x i) (nI p)) m g s nb x (i + 1) := by
  constructor
  · intro j hj
    rw [z_ups]
    by_cases c : j = i
    · subst c
      rw [upz_s, hp]
    · rw [upz_n (ln_inj G (by omega) hi c), I.1 j (by omega)]
  · intro y hy hn
    rw [z_ups, upz_n (fun e => hn i (by omega) e.symm)]
    exact I.2 y hy (fun j hj => hn j (by omega))
theorem fin_z (hs : s < 48) (G : goodB nb x = true) (h6 : nb ≤ 6) (hg : ∀ b, b < nb → hrN g b ≤ 3) (hi : i ≤ nb) (I : finI hm m g s nb x i) : ∀ y, y < 6 → hm (m + 25) y = -1 ∨ zN (hm (m + 25) y) 10000 := by
  intro y hy
  by_cases c : ∃ j, j < i ∧ dgN nb x j = y
  · obtain ⟨j, hj, rfl⟩ := c
    right
    rw [I.1 j hj]
    refine ⟨_, ?_, rfl⟩
    have := sumF_le (f := fun k => hrN g (dgN nb x k)) (n := j + 1) (B := 3) (fun k hk => hg _ (ln_lt G (by omega)))
    omega
  · exact .inl (I.2 y hy (fun j hj e => c ⟨j, hj, e⟩))
theorem hrs_at (V : pkV g) (hn : g 3 = nI nb) (h6 : nb ≤ 6) {b : Nat} (hb : b < nb) : (g_ix ((55 : Int32) + ((4 : Int32) * nI b)) 195) = some (55 + 4 * b) ∧ (g (55 + 4 * b) + 2) / 3 = nI (hrN g b) ∧ 1 ≤ hrN g b ∧ hrN g b ≤ 3 := by
  have hV : nV (g 3) = nb := by
    have := zN_V (pv_nb V) (by decide)
    rw [hn] at this ⊢
    exact ((nI_eq (by omega) (by omega)).1 this.1).symm
  have h1 := pv_slats V b (by omega)
  have h2 := zN_V h1.1 (by decide)
  refine ⟨?_, ?_, hrN_le V (by omega)⟩
  · rw [show (55 : Int32) = nI 55 from rfl, show (4 : Int32) = nI 4 from rfl, pk_mul, nI_add, z_ix (by omega) (by decide)]
  · unfold hrN
    rw [← third_at h2.2, ← h2.1]
end FINISH
