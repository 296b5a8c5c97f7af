/-! feed, end, text, again -/
section COPYR
variable {l : List (Nat × Nat)} {r r2 : am_R}
theorem copyRow_r {x0 : Nat} {x1 x2 x3 : Int32} : ∀ (fu : Nat) (x4 : Int32) (h : am_F), Md_copyRow_l3 l r2 x0 x1 x2 x3 fu x4 h = Md_copyRow_l3 l r x0 x1 x2 x3 fu x4 h := by
  intro fu
  induction fu with
  | zero => intro x4 h; rfl
  | succ fu ih =>
    intro x4 h
    unfold Md_copyRow_l3
    simp only [ih]
theorem copyAll2_r {x0 : Nat} {x1 x2 : Int32} : ∀ (fu : Nat) (x3 : Int32) (h : am_F), Md_copyAll_l2 l r2 x0 x1 x2 fu x3 h = Md_copyAll_l2 l r x0 x1 x2 fu x3 h := by
  intro fu
  induction fu with
  | zero => intro x3 h; rfl
  | succ fu ih =>
    intro x3 h
    unfold Md_copyAll_l2
    simp only [ih]
theorem copyAll_r {a : Nat} {x1 x2 : Int32} {h : am_F} : Md_copyAll l r2 a x1 x2 h = Md_copyAll l r a x1 x2 h := by
  unfold Md_copyAll Md_copyRow
  simp only [copyRow_r (r := r) (r2 := r2), copyAll2_r (r := r) (r2 := r2)]
end COPYR
section CALLS2
variable {X : Nat × (Nat → Int32)} {l : List (Nat × Nat)} {r : am_R} {h h1 h2 hc hm : am_F} {j : am_J} {x1 x2 x3 x4 x5 x6 : Int32} {K : Nat}
theorem wR_fd (H : wR l r h h K) (a3 : tdF h1 1 h2 105 0) (f : ∀ x, x ≠ 1 → x ≠ 2 → h1 x = h x) (L : fdL h h1 h1 h2 105) : wR l r h2 h2 K := by
  obtain ⟨K1, K2, T, ⟨n, B⟩, F, TH, Hd, SH, I, D, ll⟩ := id H
  have H1 : wR l r h h1 K := wR_cg H (fun _ _ => rfl) (fun x g1 g2 => f x (by omega) (by omega))
  obtain ⟨_, _, _, ⟨n1, B1⟩, _, _, _, _, _, _, _⟩ := id H1
  have H2 : wR l r h1 h2 K := wR_mk H1 ⟨n1, tdB_fr B1 (fun x g1 g2 => f x (by omega) (by omega)) (fun x g1 g2 => L.2.1 x (by omega) (by omega) (by omega))⟩ a3 (tdH_fr TH (fun x g1 g2 => f x (by omega) (by omega))) (hd_fr Hd (fun x g1 g2 => f x (by omega) (by omega))) (scH_fr SH (fun x g1 g2 => f x (by omega) (by omega))) (fun x g => f x (by omega) (by omega)) (fun k _ => plE_fd L (by omega)) (L.2.1 _ (by omega) (by omega) (by omega))
  exact wR_cg H2 (fun x g => L.2.1 x (by omega) (by omega) (by omega)) (fun _ _ _ => rfl)
theorem s_feed (H : wR l r h h 3) : stp X 111 161 [.int x1, .int x2, .int x3, .int x4, .int x5] l r h j := by
  obtain ⟨K1, K2, T, ⟨n, B⟩, F, TH, Hd, SH, I, D, ll⟩ := id H
  obtain ⟨v, h1, g1, a1, a2, a3, a4⟩ := q_feed (x1 := x1) (x2 := x2) (x3 := x3) (x4 := x4) (x5 := x5) F
  obtain ⟨v2, h1b, h2, b1, b2, b3, b4⟩ := q_feed (x1 := x1) (x2 := x2) (x3 := x3) (x4 := x4) (x5 := x5) (hc := h) (hm := h1) (tdF_pl F (plE_id (fun x g1 g2 => a4.1 x (by omega) (by omega))) rfl rfl)
  rw [a1] at b1
  cases b1
  exact ⟨v, l, r, h1, h2, j, j, Wp_feed_s K1 a1, Md_feed_s K2 b2, wR_fd H b3 a4.1 b4, by omega, by omega⟩
theorem s_end (H : wR l r h h 3) : stp X 112 163 [.int x1] l r h j := by
  obtain ⟨K1, K2, T, ⟨n, B⟩, F, TH, Hd, SH, I, D, ll⟩ := id H
  obtain ⟨v, h1, g1, a1, a2, a3, a4⟩ := q_end (x1 := x1) F
  obtain ⟨v2, h1b, h2, b1, b2, b3, b4⟩ := q_end (x1 := x1) (hc := h) (hm := h1) (tdF_pl F (plE_id (fun x g1 g2 => a4.1 x (by omega) (by omega))) rfl rfl)
  rw [a1] at b1
  cases b1
  exact ⟨v, l, r, h1, h2, j, j, Wp_end_s K1 a1, Md_end_s K2 b2, wR_fd H b3 a4.1 b4, by omega, by omega⟩
theorem s_text (H : wR l r h h 3) : stp X 113 191 [.int x1, .int x2] l r h j := by
  obtain ⟨K1, K2, T, ⟨n, B⟩, F, TH, Hd, SH, I, D, ll⟩ := id H
  have g2 : g_ln l 2 = 600 := g_lnE (Tl_k0 (Wp_k0 K1))
  obtain ⟨v, h1, g1, j1, r', a1, _, a3, _, _, _, _, f, _⟩ := q_text (x1 := x1) (x2 := x2) (r2 := r) (j := j) T B F TH Hd (st_rdL K1) g2 (st_mdL K2)
  have H1 : wR l r h h1 3 := wR_cg H (fun _ _ => rfl) (fun x g1 g2 => f x (by omega))
  obtain ⟨_, _, _, ⟨n1, B1⟩, F1, _, _, _, _, _, _⟩ := id H1
  obtain ⟨v2, h1b, h2, j2, r2, b1, b2, _, b4, b5, b6, b7, _, b9⟩ := q_text (x1 := x1) (x2 := x2) (r2 := r') (j := j) T B1 F1 TH Hd (st_rdL K1) g2 (st_mdL K2)
  rw [a1] at b1
  cases b1
  have H2 : wR l r h1 h2 3 := wR_mk H1 b4 b5 b6 b7 (scH_fr SH (fun x g1 g2 => f x (by omega))) (fun x g => f x (by omega)) (fun k _ => plE_im b9 (by omega)) (b9.1 _ (by omega))
  have H3 : wR l r h2 h2 3 := wR_cg H2 (fun x g => b9.1 x (by omega)) (fun _ _ _ => rfl)
  have kp : g_kp l r r' ∧ ∀ x, x ≠ 45 → x ≠ 100 → r' x = r x := by
    rcases a3 with rfl | rfl
    · exact ⟨g_kp_id, fun _ _ _ => rfl⟩
    · exact ⟨g_kp_tape (Wp_k2 K1) (g_lnk (Tl_k0 (Wp_k0 K1))), fun x h1 _ => z_upr h1⟩
  exact ⟨v, l, r', h1, h2, j, j2, Wp_text_s K1 a1, Md_text_s (g_kp_Md kp.1 K2) b2, wR_r H3 kp.1 kp.2, by omega, by omega⟩
theorem wR_0 (H : wR l r hc hm K) : wR l r hc (am_up hm 105 0 0) K := by
  obtain ⟨K1, K2, T, ⟨n, B⟩, F, TH, Hd, SH, I, D, ll⟩ := id H
  exact wR_q H (fun _ _ => rfl) SH (fun x g1 g2 => z_upr (by omega)) (z_upr (by omega))
theorem q_again (H : wR l r hc hm 3) : ∃ v hc' hm', Wp_again l r 0 x1 hc = some (v, hc') ∧ (∀ r2, Md_again l r2 105 x1 hm = some (v, hm')) ∧ wR l r hc' hm' 3 ∧ (∀ x, 105 ≤ x → x < 133 → hc' x = hc x) ∧ ∀ x, x < 105 ∨ 133 ≤ x → hm' x = hm x := by
  have H0 := wR_0 H
  have o0 : ∀ x, x ≠ 105 → am_up hm 105 0 0 x = hm x := fun x hx => z_upr hx
  unfold Wp_again
  rcases pk_ix x1 (n := 3) (by decide) with c | c | ⟨k, hk, rfl⟩
  · rw [if_pos c]
    refine ⟨0, hc, am_up hm 105 0 0, rfl, fun r2 => ?_, H0, fun _ _ _ => rfl, fun x hx => o0 x (by omega)⟩
    unfold Md_again
    rw [Md_in_no (.inl c), if_pos rfl]
  · rw [if_neg (fun h => z_negle h (show 3 < 2 ^ 31 by decide) c), if_neg (show ¬ x1 < 3 from Int32.not_lt.2 c)]
    refine ⟨0, hc, am_up hm 105 0 0, rfl, fun r2 => ?_, H0, fun _ _ _ => rfl, fun x hx => o0 x (by omega)⟩
    unfold Md_again
    rw [Md_in_no (.inr (Int32.lt_of_lt_of_le (show (2 : Int32) < nI 3 by decide) c)), if_pos rfl]
  · have hin : Md_in (nI k) 0 2 = 1 := Md_in_yes (show 0 ≤ k from Nat.zero_le _) (show k ≤ 2 by omega) (by decide)
    rw [if_neg (nI_pos (by omega)), if_pos (show nI k < 3 from nI_lt hk (by decide)), z_ix hk (by decide), Option.bind_some]
    obtain ⟨K1, K2, T, ⟨n0, B0⟩, F0, TH0, Hd0, SH0, I, D, ll⟩ := id H0
    rcases I k hk (by omega) with ⟨i1, i2⟩ | ⟨b, n, i1, i2, i3, i4, i5, i6, i7, i8⟩
    · have i1' : r (0 + 44) k = none := i1
      rw [i1']
      refine ⟨0, hc, am_up hm 105 0 0, rfl, fun r2 => ?_, H0, fun _ _ _ => rfl, fun x hx => o0 x (by omega)⟩
      unfold Md_again
      rw [hin, if_neg (show ¬ (1 : Int32) = 0 by decide), z_ix hk (by decide), Option.bind_some, if_pos i2]
    · have i1' : r (0 + 44) k = some b := i1
      rw [i1']
      simp only [g_on]
      obtain ⟨hc', c1, c2, c3, c4, c5⟩ := copy_at (r := r) (d := 1) (.inr (by omega)) i5 T i6 i7 TH0
      have c1' : Tl_copyFrom l r (0 + 1) b hc = some hc' := c1
      rw [c1', Option.bind_some]
      have hcp : ∃ hm', (∀ r2, Md_copyAll l r2 105 (nI (k + 1)) (nI 0) (am_up hm 105 0 0) = some hm') ∧ plE (am_up hm 105 0 0) hm' 105 (k + 1) 0 ∧ (∀ k, k ≠ 0 → plE (am_up hm 105 0 0) hm' 105 k k) ∧ ∀ x, x < 105 + 1 ∨ 105 + 10 ≤ x → hm' x = am_up hm 105 0 0 x := by
        obtain ⟨hm', d1, d2, d3, d4⟩ := copyAll_at (l := l) (r := r) (hm := am_up hm 105 0 0) (st_mdL K2) (st_mdL2 K2) (show k + 1 ≠ 0 by omega) (show k + 1 < 4 by omega) (show 0 < 4 by decide)
        refine ⟨hm', fun r2 => ?_, d2, d3, d4⟩
        rw [← d1]
        exact copyAll_r
      obtain ⟨hm', d1, d2, d3, d4⟩ := hcp
      refine ⟨1, hc', hm', rfl, fun r2 => ?_, ?_, fun x g1 g2 => c5 x (by omega), fun x hx => by rw [d4 x (by omega), o0 x (by omega)]⟩
      · unfold Md_again
        rw [hin, if_neg (show ¬ (1 : Int32) = 0 by decide), z_ix hk (by decide), Option.bind_some, if_neg i2, nI_1, show Md_copyAll l r2 105 (nI (k + 1)) 0 (am_up hm 105 0 0) = some hm' from d1 r2, Option.bind_some]
      · exact wR_mk H0 ⟨n, tdB_pl c2 d2 (fun _ _ _ => rfl)⟩ (tdF_pl c3 d2 rfl rfl) c4 (hd_fr Hd0 (fun x g1 g2 => c5 x (by omega))) (scH_fr SH0 (fun x g1 g2 => c5 x (by omega))) (fun x g => c5 x (by omega)) (fun k _ => d3 (k + 1) (by omega)) (d4 _ (by omega))
theorem s_again (H : wR l r h h 3) : stp X 139 270 [.int x1] l r h j := by
  obtain ⟨K1, K2, _⟩ := id H
  obtain ⟨v, h1, g1, a1, _, _, a4, _⟩ := q_again (x1 := x1) H
  obtain ⟨v2, h1b, h2, b1, b2, b3, b4, b5⟩ := q_again (x1 := x1) (wR_cg H (fun _ _ => rfl) a4)
  rw [a1] at b1
  cases b1
  exact ⟨v, l, r, h1, h2, j, j, Wp_again_s K1 a1, Md_again_s K2 (b2 r), wR_cg b3 b5 (fun _ _ _ => rfl), by omega, by omega⟩
end CALLS2
