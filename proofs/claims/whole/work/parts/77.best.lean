/-! the best of the lines -/
section BEST
variable {m nb s x i : Nat} {hm : am_F} {g : Nat → Int32}
theorem fin_one (V : pkV g) (eg : hm (m + 12) = g) (hn : g 3 = nI 1) (hs : s < 48) (D : hm (m + 24) 0 = nI 0) : ∃ h', Md_finish_l28 m g_fu (nI s) (nI s) 0 hm = some (if dA g (s + hrN g 0) ≤ 400 then nI (dA g (s + hrN g 0)) else -1, h') ∧ ∀ y, y ≠ m + 25 → h' y = hm y := by
  have hx : dgN 1 0 0 = 0 := by decide
  obtain ⟨k1, k2, k3, k4⟩ := hrs_at V hn (by decide) (show 0 < 1 by decide)
  have w : Md_finish_l48 m (nI s) (nI 0) (nI (dgN 1 0 0)) hm g_fu (nI s) = some (nI s) := by
    rw [hx, show g_fu = 99999 + 1 from rfl]
    unfold Md_finish_l48
    rw [if_neg (show ¬ (400 : Int32) < nI s from nI_nlt (show s ≤ 400 by omega) (by decide))]
    have : Md_isOtherDry m (nI 0) (nI s) hm = some 1 := by
      unfold Md_isOtherDry
      rw [show g_fu = 99998 + 1 + 1 from rfl]
      unfold Md_isOtherDry_l2
      rw [eg, hn, if_neg (show ¬ nI 1 ≤ 0 by decide), if_pos (show (0 : Int32) = nI 0 from rfl)]
      unfold Md_isOtherDry_l2
      rw [eg, hn, if_pos (show nI 1 ≤ 0 + 1 by decide), if_pos (show nI 1 = 1 from rfl)]
    rw [this, Option.bind_some, if_neg (show ¬ (1 : Int32) = 0 by decide)]
  have st := fin_step (fu := 99999) (x := 0) (i := 0) (nb := 1) (M := s) V eg hn (by decide) (by decide) (by decide) (by rw [hx]; exact D) (by omega) (by omega) w
  rw [hx] at st
  have hd : dA g (s + hrN g 0) ≤ 401 := dA_le
  have hge := dA_ge (g := g) (p := s + hrN g 0) (by omega)
  rw [Nat.max_eq_right (by omega)] at st
  rw [show g_fu = 99999 + 1 from rfl, show (0 : Int32) = nI 0 from rfl, st]
  by_cases cF : dA g (s + hrN g 0) ≤ 400
  · rw [if_pos cF, if_pos cF]
    exact ⟨_, fin_end (g := g) (nb := 1) (fu := 99998) (by rw [z_upr (by omega), eg]) hn (by omega) (by omega), fun y hy => z_upr hy⟩
  · rw [if_neg cF, if_neg cF]
    exact ⟨_, rfl, fun y hy => z_upr hy⟩
theorem finish_at (V : pkV g) (eg : hm (m + 12) = g) (hn : g 3 = nI nb) (h1 : 1 ≤ nb) (h6 : nb ≤ 6) (G : goodB nb x = true) (hs : s < 48) (D : ∀ j, j < nb → hm (m + 24) j = nI (dgN nb x j)) : ∃ h', Md_finish m (nI s) hm = some (if finN g s nb (dgN nb x 0) (dgN nb x (nb - 1)) ≤ 400 then nI (finN g s nb (dgN nb x 0) (dgN nb x (nb - 1))) else -1, h') ∧ ∀ y, y ≠ m + 25 → h' y = hm y := by
  obtain ⟨h2, a1, a2, a3, a4⟩ := unp_l (m := m) (x := nI s) 6 0 g_fu hm (by omega) (by unfold g_fu; omega)
  unfold Md_finish
  have a1' : Md_finish_l2 m (nI s) g_fu 0 hm = some h2 := a1
  rw [a1', Option.bind_some]
  have hg : ∀ b, b < nb → hrN g b ≤ 3 := fun b hb => (hrs_at V hn h6 hb).2.2.2
  by_cases c : nb = 1
  · subst c
    have hz : dgN 1 x 0 = 0 := by have := ln_lt G (show 0 < 1 by decide); omega
    obtain ⟨h', b1, b2⟩ := fin_one (m := m) (hm := h2) V (by rw [a4 _ (by omega), eg]) hn hs (by rw [a4 _ (by omega), D 0 (by decide), hz])
    refine ⟨h', ?_, fun y hy => by rw [b2 y hy, a4 y hy]⟩
    rw [b1]
    unfold finN
    rw [if_pos rfl]
  · obtain ⟨h', b1, b2⟩ := fnl_l (m := m) V hn (by omega) h6 G hs hg (nb - 1) 0 g_fu s h2 (by omega) (by unfold g_fu; omega) (by rw [a4 _ (by omega), eg]) (fun j hj => by rw [a4 _ (by omega), D j hj]) ⟨fun j hj => absurd hj (Nat.not_lt_zero _), fun y hy _ => a2 y (Nat.zero_le _) hy⟩ (.inl ⟨rfl, rfl⟩) (by omega)
    exact ⟨h', b1, fun y hy => by rw [b2 y hy, a4 y hy]⟩
/-- what a line is worth -/
def lnF (g : Nat → Int32) (s n x : Nat) : Nat := finN g s n (dgN n x 0) (dgN n x (n - 1))
def lnOk (g : Nat → Int32) (s n x : Nat) : Prop := vdB n x = true ∧ lnF g s n x ≤ 400
/-- the best of the lines below X -/
def bstI (g : Nat → Int32) (s n X : Nat) (x5 x6 : Int32) : Prop := (x5 = -1 ∧ x6 = 1000000 ∧ ∀ x, x < X → ¬ lnOk g s n x) ∨ ∃ w, w < X ∧ x5 = nI w ∧ x6 = nI (lnF g s n w) ∧ lnOk g s n w ∧ (∀ x, x < X → lnOk g s n x → lnF g s n w ≤ lnF g s n x) ∧ ∀ x, x < w → lnOk g s n x → lnF g s n w < lnF g s n x
theorem bst_keep {X : Nat} {x5 x6 : Int32} (I : bstI g s nb X x5 x6) (hk : ¬ lnOk g s nb X ∨ ∃ v, x6 = nI v ∧ v ≤ 400 ∧ v ≤ lnF g s nb X) : bstI g s nb (X + 1) x5 x6 := by
  rcases I with ⟨e1, e2, e3⟩ | ⟨w, w1, w2, w3, w4, w5, w6⟩
  · left
    refine ⟨e1, e2, fun x hx => ?_⟩
    by_cases c : x = X
    · subst c
      rcases hk with hk | ⟨v, hv, hv4, _⟩
      · exact hk
      · rw [e2] at hv
        have := (nI_eq (show 1000000 < 2 ^ 31 by decide) (by omega)).1 (show nI 1000000 = nI v from hv)
        omega
    · exact e3 x (by omega)
  · right
    refine ⟨w, by omega, w2, w3, w4, fun x hx hok => ?_, w6⟩
    by_cases c : x = X
    · subst c
      rcases hk with hk | ⟨v, hv, hv4, hv2⟩
      · exact absurd hok hk
      · have := w4.2
        rw [w3] at hv
        have := (nI_eq (by omega) (by omega)).1 hv
        omega
    · exact w5 x (by omega) hok
theorem bst_take {X : Nat} {x5 x6 : Int32} (I : bstI g s nb X x5 x6) (hok : lnOk g s nb X) (hl : nI (lnF g s nb X) < x6) : bstI g s nb (X + 1) (nI X) (nI (lnF g s nb X)) := by
  have h4 := hok.2
  have lt : ∀ x, x < X → lnOk g s nb x → lnF g s nb X < lnF g s nb x := by
    rcases I with ⟨e1, e2, e3⟩ | ⟨w, w1, w2, w3, w4, w5, w6⟩
    · intro x hx ho
      exact absurd ho (e3 x hx)
    · intro x hx ho
      have := w4.2
      rw [w3] at hl
      have h2 := (nI_ltI (by omega) (by omega)).1 hl
      have h3 := w5 x hx ho
      omega
  right
  refine ⟨X, by omega, rfl, rfl, hok, fun x hx ho => ?_, lt⟩
  by_cases c : x = X
  · rw [c]; exact Nat.le_refl _
  · exact Nat.le_of_lt (lt x (by omega) ho)
end BEST
