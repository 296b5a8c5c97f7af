/-! a line is gone through -/
section FINISH2
variable {m nb s x i : Nat} {hm : am_F} {g : Nat → Int32}
theorem fin_tot (G : goodB nb x = true) (h2 : 2 ≤ nb) : finN g s nb (dgN nb x 0) (dgN nb x (nb - 1)) = dA g (max (s + sumF (fun k => hrN g (dgN nb x k)) (nb - 1)) (dA g (s + sumF (fun k => hrN g (dgN nb x k)) 1)) + hrN g (dgN nb x (nb - 1))) := by
  unfold finN
  have e1 : sumF (fun k => hrN g (dgN nb x k)) 1 = hrN g (dgN nb x 0) := Nat.zero_add _
  have e2 : sumF (hrN g) nb = sumF (fun k => hrN g (dgN nb x k)) (nb - 1) + hrN g (dgN nb x (nb - 1)) := by
    rw [← ln_sum G (hrN g)]
    have : nb = (nb - 1) + 1 := by omega
    have e3 : sumF (fun k => hrN g (dgN nb x k)) ((nb - 1) + 1) = sumF (fun k => hrN g (dgN nb x k)) (nb - 1) + hrN g (dgN nb x (nb - 1)) := rfl
    rw [← this] at e3
    exact e3
  rw [if_neg (by omega), e1, e2, show s + (sumF (fun k => hrN g (dgN nb x k)) (nb - 1) + hrN g (dgN nb x (nb - 1))) - hrN g (dgN nb x (nb - 1)) = s + sumF (fun k => hrN g (dgN nb x k)) (nb - 1) by omega]
theorem fin_end {fu : Nat} {t M : Int32} (eg : hm (m + 12) = g) (hn : g 3 = nI nb) (hi : nb ≤ i) (h6 : i ≤ 6) : Md_finish_l28 m (fu + 1) t M (nI i) hm = some (M, hm) := by
  unfold Md_finish_l28
  rw [eg, hn, if_pos (nI_le hi (by omega))]
theorem fin_step {fu t M e : Nat} (V : pkV g) (eg : hm (m + 12) = g) (hn : g 3 = nI nb) (h6 : nb ≤ 6) (hi : i < nb) (hb : dgN nb x i < nb) (D : hm (m + 24) i = nI (dgN nb x i)) (he : e < 5000) (hM : M < 5000) (w : Md_finish_l48 m (nI M) (nI i) (nI (dgN nb x i)) hm g_fu (nI t) = some (nI e)) :
    Md_finish_l28 m (fu + 1) (nI t) (nI M) (nI i) hm = if max M (dA g (e + hrN g (dgN nb x i))) ≤ 400 then Md_finish_l28 m fu (nI (e + hrN g (dgN nb x i))) (nI (max M (dA g (e + hrN g (dgN nb x i))))) (nI (i + 1)) (am_up hm (m + 25) (dgN nb x i) (nI (e + hrN g (dgN nb x i)))) else some (-1, am_up hm (m + 25) (dgN nb x i) (nI (e + hrN g (dgN nb x i)))) := by
  obtain ⟨k1, k2, k3, k4⟩ := hrs_at V hn h6 hb
  have hu : (am_up hm (m + 25) (dgN nb x i) (nI (e + hrN g (dgN nb x i)))) (m + 12) = g := by rw [z_upr (by omega), eg]
  have hd := dries400 (hm := am_up hm (m + 25) (dgN nb x i) (nI (e + hrN g (dgN nb x i)))) (m := m) (p := e + hrN g (dgN nb x i)) (by rw [hu]; exact V) (by omega)
  rw [hu] at hd
  have hdl : dA g (e + hrN g (dgN nb x i)) ≤ 401 := dA_le
  conv => lhs; unfold Md_finish_l28
  rw [eg, hn, if_neg (nI_ge hi (by omega)), z_ix (show i < 6 by omega) (by decide), Option.bind_some, D, w, Option.bind_some, k1, Option.bind_some, z_ix (show dgN nb x i < 6 by omega) (by decide), Option.bind_some, k2, nI_add, hd, Option.bind_some, z_greater (by omega) (by omega), nI_1]
  by_cases c : max M (dA g (e + hrN g (dgN nb x i))) ≤ 400
  · rw [if_pos c, if_pos (show nI (max M (dA g (e + hrN g (dgN nb x i)))) ≤ (400 : Int32) from nI_le c (by decide))]
  · rw [if_neg c, if_neg (show ¬ nI (max M (dA g (e + hrN g (dgN nb x i)))) ≤ (400 : Int32) from nI_ge (show 400 < max M (dA g (e + hrN g (dgN nb x i))) by omega) (by omega))]
theorem fin_wait {t M : Nat} (V : pkV g) (eg : hm (m + 12) = g) (hn : g 3 = nI nb) (h2 : 2 ≤ nb) (h6 : nb ≤ 6) (G : goodB nb x = true) (hs : s < 48) (hi : i + 1 = nb) (hg : ∀ b, b < nb → hrN g b ≤ 3) (I : finI hm m g s nb x i) (ht : t = s + sumF (fun k => hrN g (dgN nb x k)) i) (hM : dA g t ≤ 400) : Md_finish_l48 m (nI M) (nI i) (nI (dgN nb x i)) hm g_fu (nI t) = some (nI (max t (dA g (s + sumF (fun k => hrN g (dgN nb x k)) 1)))) := by
  have hz := fin_z hs G h6 hg (show i ≤ nb by omega) I
  have hS : sumF (fun k => hrN g (dgN nb x k)) i ≤ 18 := Nat.le_trans (sumF_le (B := 3) (fun k hk => hg _ (ln_lt G (by omega)))) (by omega)
  have hS1 : sumF (fun k => hrN g (dgN nb x k)) 1 ≤ sumF (fun k => hrN g (dgN nb x k)) i := sumF_mono (by omega)
  obtain ⟨e, a1, a2, a3, a4, a5⟩ := wait_l (x3 := nI M) (x4 := nI i) (b := dgN nb x i) (hm := hm) (m := m) (nb := nb) (by rw [eg]; exact V) hz (by rw [eg]; exact hn) h2 h6 (by have := ln_lt G (show i < nb by omega); omega) (401 - t) t g_fu (by omega) (by unfold g_fu; omega)
  have D0 : dA g (s + sumF (fun k => hrN g (dgN nb x k)) 1) ≤ 400 := Nat.le_trans (dA_mono (by omega)) hM
  have P0 : s + sumF (fun k => hrN g (dgN nb x k)) 1 ≤ dA g (s + sumF (fun k => hrN g (dgN nb x k)) 1) := dA_ge (by omega)
  have n0 : dgN nb x 0 ≠ dgN nb x i := ln_inj G (by omega) (by omega) (by omega)
  have dry0 : ∃ y, y < nb ∧ y ≠ dgN nb x i ∧ oDry hm m (max t (dA g (s + sumF (fun k => hrN g (dgN nb x k)) 1))) y := by
    refine ⟨dgN nb x 0, ln_lt G (by omega), n0, .inr ?_⟩
    rw [I.1 0 (by omega), eg]
    have hd := dA_dry (g := g) (p := s + sumF (fun k => hrN g (dgN nb x k)) (0 + 1)) (t := max t (dA g (s + sumF (fun k => hrN g (dgN nb x k)) 1))) (by simp only [Nat.zero_add]; omega) (by simp only [Nat.zero_add]; exact D0) (by simp only [Nat.zero_add]; omega)
    simp only [Nat.zero_add] at hd ⊢
    refine ⟨nI_nlt (by omega) (by omega), ?_⟩
    unfold wetX
    rw [if_neg (z_nem (by omega)), nV_nI (by omega), if_neg (by omega)]
    omega
  have e1 : e ≤ max t (dA g (s + sumF (fun k => hrN g (dgN nb x k)) 1)) := by
    by_cases c : e ≤ max t (dA g (s + sumF (fun k => hrN g (dgN nb x k)) 1))
    · exact c
    · exact absurd dry0 (a5 _ (by omega) (by omega))
  obtain ⟨y, y1, y2, y3⟩ := a4 (by omega)
  obtain ⟨j, j1, rfl⟩ := ln_sur G y1
  have j2 : j < i := by
    have : j ≠ i := fun q => y2 (by rw [q])
    omega
  have hSj : sumF (fun k => hrN g (dgN nb x k)) (j + 1) ≤ sumF (fun k => hrN g (dgN nb x k)) i := sumF_mono (by omega)
  have hSk : sumF (fun k => hrN g (dgN nb x k)) 1 ≤ sumF (fun k => hrN g (dgN nb x k)) (j + 1) := sumF_mono (by omega)
  unfold oDry at y3
  rw [I.1 j j2, eg] at y3
  rcases y3 with y3 | ⟨y3, y4⟩
  · exact absurd y3 (z_nem (by omega))
  · have hle : s + sumF (fun k => hrN g (dgN nb x k)) (j + 1) ≤ e := by
      by_cases c : s + sumF (fun k => hrN g (dgN nb x k)) (j + 1) ≤ e
      · exact c
      · exact absurd (nI_lt (by omega) (by omega)) y3
    unfold wetX at y4
    rw [if_neg (z_nem (by omega)), nV_nI (by omega), if_neg (by omega)] at y4
    have hd := dA_wet (g := g) hle (by omega) (by omega)
    have hd2 := dA_mono (g := g) (show s + sumF (fun k => hrN g (dgN nb x k)) 1 ≤ s + sumF (fun k => hrN g (dgN nb x k)) (j + 1) by omega)
    rw [a1, show e = max t (dA g (s + sumF (fun k => hrN g (dgN nb x k)) 1)) by omega]
theorem fnl_l (V : pkV g) (hn : g 3 = nI nb) (h2 : 2 ≤ nb) (h6 : nb ≤ 6) (G : goodB nb x = true) (hs : s < 48) (hg : ∀ b, b < nb → hrN g b ≤ 3) : ∀ (c i fu M : Nat) (hm : am_F), i + c + 1 = nb → c + 1 < fu → hm (m + 12) = g → (∀ j, j < nb → hm (m + 24) j = nI (dgN nb x j)) → finI hm m g s nb x i → (i = 0 ∧ M = s ∨ 0 < i ∧ M = dA g (s + sumF (fun k => hrN g (dgN nb x k)) i)) → M ≤ 400 → ∃ h', Md_finish_l28 m fu (nI (s + sumF (fun k => hrN g (dgN nb x k)) i)) (nI M) (nI i) hm = some (if finN g s nb (dgN nb x 0) (dgN nb x (nb - 1)) ≤ 400 then nI (finN g s nb (dgN nb x 0) (dgN nb x (nb - 1))) else -1, h') ∧ ∀ y, y ≠ m + 25 → h' y = hm y := by
  intro c
  induction c with
  | zero =>
    intro i fu M hm hi hf eg D I hM hM4
    obtain ⟨fu, rfl⟩ : ∃ q, fu = q + 1 + 1 := ⟨fu - 2, by omega⟩
    have hM2 : M = dA g (s + sumF (fun k => hrN g (dgN nb x k)) i) := by
      rcases hM with hM | hM
      · omega
      · exact hM.2
    have hS : sumF (fun k => hrN g (dgN nb x k)) i ≤ 18 := Nat.le_trans (sumF_le (B := 3) (fun k hk => hg _ (ln_lt G (by omega)))) (by omega)
    have w := fin_wait (M := M) V eg hn h2 h6 G hs (show i + 1 = nb by omega) hg I rfl (by omega)
    have hi' : nb - 1 = i := by omega
    have hD : dA g (s + sumF (fun k => hrN g (dgN nb x k)) 1) ≤ 401 := dA_le
    have hb3 := hg _ (ln_lt G (show i < nb by omega))
    rw [fin_step (fu := fu + 1) V eg hn h6 (show i < nb by omega) (ln_lt G (by omega)) (D i (by omega)) (by omega) (by omega) w, fin_tot G h2, hi']
    have hmx : M ≤ dA g (max (s + sumF (fun k => hrN g (dgN nb x k)) i) (dA g (s + sumF (fun k => hrN g (dgN nb x k)) 1)) + hrN g (dgN nb x i)) := by
      rw [hM2]
      exact dA_mono (by omega)
    rw [Nat.max_eq_right hmx]
    by_cases cF : dA g (max (s + sumF (fun k => hrN g (dgN nb x k)) i) (dA g (s + sumF (fun k => hrN g (dgN nb x k)) 1)) + hrN g (dgN nb x i)) ≤ 400
    · rw [if_pos cF, if_pos cF]
      exact ⟨_, fin_end (g := g) (nb := nb) (by rw [z_upr (by omega), eg]) hn (by omega) (by omega), fun y hy => z_upr hy⟩
    · rw [if_neg cF, if_neg cF]
      exact ⟨_, rfl, fun y hy => z_upr hy⟩
  | succ c ih =>
    intro i fu M hm hi hf eg D I hM hM4
    obtain ⟨fu, rfl⟩ : ∃ q, fu = q + 1 := ⟨fu - 1, by omega⟩
    have hS : sumF (fun k => hrN g (dgN nb x k)) i ≤ 18 := Nat.le_trans (sumF_le (B := 3) (fun k hk => hg _ (ln_lt G (by omega)))) (by omega)
    have hb3 := hg _ (ln_lt G (show i < nb by omega))
    have hz := fin_z hs G h6 hg (show i ≤ nb by omega) I
    have w : Md_finish_l48 m (nI M) (nI i) (nI (dgN nb x i)) hm g_fu (nI (s + sumF (fun k => hrN g (dgN nb x k)) i)) = some (nI (s + sumF (fun k => hrN g (dgN nb x k)) i)) := by
      apply wait_at (by rw [eg]; exact V) hz (by rw [eg]; exact hn) h2 h6 (by have := ln_lt G (show i < nb by omega); omega) (by omega)
      refine ⟨dgN nb x (nb - 1), ln_lt G (by omega), ln_inj G (by omega) (by omega) (by omega), I.2 _ (by have := ln_lt G (show nb - 1 < nb by omega); omega) (fun j hj => ln_inj G (by omega) (by omega) (by omega))⟩
    have eS : s + sumF (fun k => hrN g (dgN nb x k)) i + hrN g (dgN nb x i) = s + sumF (fun k => hrN g (dgN nb x k)) (i + 1) := by
      show _ = s + (sumF (fun k => hrN g (dgN nb x k)) i + hrN g (dgN nb x i))
      omega
    rw [fin_step (fu := fu) V eg hn h6 (show i < nb by omega) (ln_lt G (by omega)) (D i (by omega)) (by omega) (by omega) w, eS]
    have hmx : M ≤ dA g (s + sumF (fun k => hrN g (dgN nb x k)) (i + 1)) := by
      rcases hM with hM | hM
      · have := dA_ge (g := g) (p := s + sumF (fun k => hrN g (dgN nb x k)) (i + 1)) (by omega)
        omega
      · rw [hM.2]
        exact dA_mono (by omega)
    rw [Nat.max_eq_right hmx]
    by_cases cF : dA g (s + sumF (fun k => hrN g (dgN nb x k)) (i + 1)) ≤ 400
    · rw [if_pos cF]
      obtain ⟨h', b1, b2⟩ := ih (i + 1) fu (dA g (s + sumF (fun k => hrN g (dgN nb x k)) (i + 1))) (am_up hm (m + 25) (dgN nb x i) (nI (s + sumF (fun k => hrN g (dgN nb x k)) (i + 1)))) (by omega) (by omega) (by rw [z_upr (by omega), eg]) (fun j hj => by rw [z_upr (by omega), D j hj]) (fin_up (t := 0) G (by omega) h6 I rfl) (.inr ⟨by omega, rfl⟩) cF
      exact ⟨h', b1, fun y hy => by rw [b2 y hy, z_upr hy]⟩
    · rw [if_neg cF, if_neg (show ¬ finN g s nb (dgN nb x 0) (dgN nb x (nb - 1)) ≤ 400 by
        rw [fin_tot G h2]
        have h3 := sumF_mono (f := fun k => hrN g (dgN nb x k)) (show i + 1 ≤ nb - 1 by omega)
        have h4 := dA_mono (g := g) (show s + sumF (fun k => hrN g (dgN nb x k)) (i + 1) ≤ max (s + sumF (fun k => hrN g (dgN nb x k)) (nb - 1)) (dA g (s + sumF (fun k => hrN g (dgN nb x k)) 1)) + hrN g (dgN nb x (nb - 1)) by omega)
        omega)]
      exact ⟨_, rfl, fun y hy => z_upr hy⟩
end FINISH2
