/-! summers by a seed: the question -/
section DRAWN
variable {l : List (Nat × Nat)} {r : am_R} {h h' hc hm : am_F} {d m k p b t s w lim a q c i nb nc : Nat} {n : Nat → Nat} {f g g' : Nat → Int32} {x x1 x2 x3 x4 y u v sd : Int32}
theorem dsum_big (hg : zN u 7) (hx : nI 30 ≤ x) : Dy_sum l r d x u hc = some (-1) := by
  obtain ⟨k, hk, rfl⟩ := hg
  have n0 : ∀ c, c < 30 → ¬ x = nI c := fun c h => z_bigne hx h (by decide)
  have e : (if (6 : Int32) < nI k then (6 : Int32) else nI k) = nI k := if_neg (nI_nlt (show k ≤ 6 by omega) (by decide))
  unfold Dy_sum
  rw [if_neg (show ¬ x = 0 from n0 0 (by decide)), if_neg (show ¬ x = 1 from n0 1 (by decide)), if_neg (show ¬ x = 2 from n0 2 (by decide)), if_neg (show ¬ x = 3 from n0 3 (by decide)), if_neg (show ¬ x = 4 from n0 4 (by decide)), if_neg (show ¬ x = 5 from n0 5 (by decide)), if_neg (show ¬ x = 6 from n0 6 (by decide)), if_neg (show ¬ x = 7 from n0 7 (by decide)), if_neg (show ¬ x < 10 from z_biglt hx (show 10 ≤ 30 by decide) (by decide)), e, if_pos (show (10 : Int32) + nI k ≤ x from by rw [show (10 : Int32) = nI 10 from rfl, nI_add]; exact z_bigle hx (by omega) (by decide)), if_neg (show ¬ x < 20 from z_biglt hx (show 20 ≤ 30 by decide) (by decide)), if_pos (show (20 : Int32) + nI k ≤ x from by rw [show (20 : Int32) = nI 20 from rfl, nI_add]; exact z_bigle hx (by omega) (by decide))]
theorem drawn_eq (L : wL l m) (SH : scH l hc) (H : pkI l hc p g) (V : pkV g) (hp : p + 12 < 66) (eg : hm (m + 12) = g) (h3 : 0 < nV (g 3)) (hn : nc ≤ 14) : ∃ hc' hm1 hm' N g', Tr_draw l r 76 p x2 (nI nc) hc = some hc' ∧ Md_drawn_l50 l r m (nI nc) x4 g_fu 0 (am_up (am_up hm m 48 x2) (m + 12) 6 (nI nc)) = some hm1 ∧ Md_harmOf m hm1 = some (nI N, hm') ∧ dyR l hc' 77 hm' m g' 47 18 18 (fun k => k < nc) ∧ nV (g' 6) = nc ∧ g' 3 = g 3 ∧ pkV g' ∧ hm' (m + 12) = g' ∧ hc' p = hc p ∧ frS hc hc' ∧ scH l hc' ∧ scM hm hm' m := by
  have v3 := zN_V (pv_nb V) (by decide)
  obtain ⟨q1, c1, K1, S1, f1⟩ := cp87 (r := r) (q := 0) L SH H V hp
  have R1 : rwI l q1 98 6 14 (nV (g 6)) (fun i => g (111 + i)) := K1.2.2.2.2.2.2.2
  obtain ⟨t0, t1, t2, t3, t4, t5, t6, t7⟩ := R1
  generalize hz : am_up (am_up hm m 48 x2) (m + 12) 6 (nI nc) = z0
  have z12 : z0 (m + 12) = upz g 6 (nI nc) := by rw [← hz, z_ups, z_upr (by omega), eg]
  have zS : scM hm z0 m := by rw [← hz]; exact scM_tr (scM_up (.inl rfl)) (scM_up (.inr (by omega)))
  generalize hy : am_up (am_up q1 98 3 0) 76 4 x2 = y0
  have y98 : y0 98 = upz (q1 98) 3 0 := by rw [← hy, z_upr (by decide), z_ups]
  have yx : ∀ x, x ≠ 76 → x ≠ 98 → y0 x = q1 x := by intro x h1 h2; rw [← hy, z_upr h1, z_upr h2]
  have R0 : rwI l y0 98 6 14 0 (fun j => z0 (m + 12) (111 + j)) := by
    refine ⟨?_, ?_, ?_, by omega, t4, t5, t6, fun i hi => by omega⟩
    · rw [y98, upz_n (by decide)]; exact t0
    · rw [y98, upz_n (by decide)]; exact t1
    · rw [y98, upz_s]; rfl
  obtain ⟨hc1, hm1, a1, a2, a3, a4, a5, a6, a7⟩ := drawn_l (l := l) (r := r) (m := m) (x4 := x4) (nb := nV (g 3)) (nc := nc) h3 (by omega) hn nc 0 g_fu g_fu y0 z0 (by omega) (by unfold g_fu; omega) (by unfold g_fu; omega) R0 (by rw [← hy, ← hz, z_ups, upz_s, z_upr (by omega), z_ups, upz_s]) (by rw [yx 87 (by decide) (by decide), K1.1.2.2.2]; exact v3.1) (by rw [z12, upz_n (by decide)]; exact v3.1) (fun k hk => by omega)
  generalize hg' : hm1 (m + 12) = g' at *
  have e6 : g' 6 = nI nc := by rw [a5 6 (by decide), z12, upz_s]
  have en : nV (g' 6) = nc := by rw [e6, nV_nI (by omega)]
  have eo : ∀ i, i < 111 → i ≠ 6 → g' i = g i := by intro i h1 h2; rw [a5 i h1, z12, upz_n h2]
  have V' : pkV g' := pkV_com V eo ⟨nc, by omega, e6⟩ (by rw [en]; exact a4)
  have K' : pkI l hc1 87 g' := pkI_com K1 V eo (fun x h1 h2 => by rw [a6 x (by omega) (by omega) (by omega), yx x (by omega) (by omega)]) (by rw [en]; exact a3)
  have S' : scH l hc1 := ⟨rwH_fr S1.1 (by rw [a6 67 (by decide) (by decide) (by decide), yx 67 (by decide) (by decide)]), rwH_fr S1.2.1 (by rw [a6 78 (by decide) (by decide) (by decide), yx 78 (by decide) (by decide)]), pkH_of K'⟩
  obtain ⟨hc', hm', N, b1, b2, b3, b4, b5, b6, b7⟩ := harm_eq (r := r) L S' K' V' hg'
  have fx : frS hc hc' := by
    intro x hx
    rw [b5 x (by omega), a6 x (by omega) (by omega) (by omega), yx x (by omega) (by omega), f1 x (by omega)]
  refine ⟨hc', hm1, hm', N, g', ?_, a2, b3, by rw [en] at b4; exact b4, en, eo 3 (by decide) (by decide), V', by rw [b6.2 _ (by omega)]; exact hg', fx p (by omega), fx, b7, scM_tr (scM_tr zS ?_) (scM_fr b6)⟩
  · unfold Tr_draw
    simp only [Nat.reduceAdd]
    rw [c1, Option.bind_some, hy, show Tr_draw_l27 l r 76 (nI nc) g_fu 0 y0 = some hc1 from a1, Option.bind_some, b1]
    rfl
  · intro x hx
    exact a7 x (by omega) (by omega)
theorem q_drawn (W : tdW r 1) (B : tdB l hc 1 hm m 0 n) (L : wL l m) (SH : scH l hc) : ∃ v hc' hm', Wp_drawn l r 0 x1 x2 x3 x4 hc = some (v, hc') ∧ Md_drawn l r m x1 x2 x3 x4 hm = some (v, hm') ∧ frS hc hc' ∧ scH l hc' ∧ scM hm hm' m := by
  have S0 : scM hm (am_up hm m 0 0) m := scM_up (.inl rfl)
  unfold Wp_drawn Md_drawn
  simp only [Nat.zero_add, Nat.reduceAdd]
  have hx3 : (x3 < 1 ∨ (¬ x3 < 1 ∧ ¬ x3 ≤ 14)) ∨ ∃ nc, 1 ≤ nc ∧ nc ≤ 14 ∧ x3 = nI nc := by
    rcases pk_ix x3 (n := 15) (by decide) with c | c | ⟨k, hk, rfl⟩
    · exact .inl (.inl (z_neglt c (n := 1) (by decide)))
    · exact .inl (.inr ⟨z_biglt c (show 1 ≤ 15 by decide) (by decide), Int32.not_le.2 (z_biggt c (show 14 < 15 by decide) (by decide))⟩)
    · by_cases c0 : k = 0
      · subst c0; exact .inl (.inl (by decide))
      · exact .inr ⟨k, by omega, by omega, rfl⟩
  rcases hx3 with hx | ⟨nc, n1, n2, rfl⟩
  · rw [show Md_in x3 1 14 = 0 from Md_in_no (by rcases hx with h | h; exact .inl h; exact .inr (Int32.not_le.1 h.2)), if_pos rfl]
    refine ⟨-1, hc, _, ?_, rfl, frS_id, SH, S0⟩
    rcases pk_case W B x1 with ⟨q, g, h', hq, e1, -, -, e2, eg, H, V, C, S⟩ | ⟨e1, e2⟩
    · rw [e1, Option.bind_some]
      simp only [g_on]
      rcases hx with h | h
      · rw [if_pos h]; split <;> rfl
      · rw [if_neg h.1, if_neg h.2]; split <;> rfl
    · rw [e1]; rfl
  · rw [show Md_in (nI nc) 1 14 = 1 from Md_in_yes (a := 1) n1 (show nc ≤ 14 from n2) (by decide), if_neg (show ¬ (1 : Int32) = 0 by decide)]
    rcases pk_case W B x1 with ⟨q, g, h', hq, e1, -, -, e2, eg, H, V, C, S⟩ | ⟨e1, e2⟩
    · rw [e1, e2]
      have hp : (1 + 5 + 19 * q) + 12 < 66 := by omega
      generalize 1 + 5 + 19 * q = p at *
      simp only [Option.bind_some, g_on, if_neg (show ¬ (1 : Int32) = 0 by decide)]
      have v3 := zN_V (pv_nb V) (by decide)
      have em3 : h' (m + 12) 3 = nI (nV (g 3)) := by rw [eg]; exact v3.1
      have ec3 : hc p 3 = nI (nV (g 3)) := by rw [H.1.2.2.2]; exact v3.1
      rw [em3, ec3]
      by_cases c0 : nV (g 3) = 0
      · rw [c0, if_pos (show nI 0 < 1 by decide), if_pos (show nI 0 = 0 from rfl)]
        exact ⟨-1, hc, h', rfl, rfl, frS_id, SH, S⟩
      · rw [if_neg (show ¬ nI (nV (g 3)) < 1 from nI_nlt (show 1 ≤ nV (g 3) by omega) (by omega)), if_neg (show ¬ nI (nV (g 3)) = 0 from fun e => c0 ((z_eq0 (by omega)).1 e)), if_neg (show ¬ nI nc < 1 from nI_nlt n1 (by omega)), if_pos (show nI nc ≤ 14 from nI_le n2 (by decide))]
        obtain ⟨hc', hm1, hm', N, g', a1, a2, a3, R, a5, a6, V', eg', a7, Sf, SH', Sm⟩ := drawn_eq (r := r) (x2 := x2) (x4 := x4) L SH H V hp eg (by omega) n2
        obtain ⟨v, s1, s2⟩ := dsum_eq (x := x4) (r := r) R eg' V' L.2.1 L.2.2.2.1 L.2.2.2.2
        have e73 : hc' p 3 = g' 3 := by rw [a7, a6, H.1.2.2.2]
        have Sn := scM_tr S Sm
        rw [a1, a2, Option.bind_some, Option.bind_some, a3, Option.bind_some, e73]
        simp only
        have no : x4 < 30 → ∃ v hc'' hm'', (if x4 < 30 then (Dy_sum l r 77 x4 (g' 3) hc').bind fun q8 => some (q8, hc') else (Rw_get l r 78 (x4 - 30) 0 hc').bind fun q9 => some (q9, hc')) = some (v, hc'') ∧ (if Md_in x4 30 (29 + nI nc) = 0 then (Md_ofDay l r m x4 hm').bind fun q23 => some (q23, hm') else (g_ix (x4 - 30) 14).bind fun k24 => some (hm' (m + 13) k24, hm')) = some (v, hm'') ∧ frS hc hc'' ∧ scH l hc'' ∧ scM hm hm'' m := by
          intro c
          rw [if_pos c, s1, if_pos (Md_in_no (.inl c)), s2]
          exact ⟨v, hc', hm', rfl, rfl, Sf, SH', Sn⟩
        rcases z_cases x4 with c | ⟨k, hk, rfl⟩
        · exact no (z_neglt c (n := 30) (by decide))
        · by_cases c1 : k < 30
          · exact no (nI_lt c1 (by decide))
          · have e30 : nI k - 30 = nI (k - 30) := by rw [show (30 : Int32) = nI 30 from rfl, pk_sub (by omega)]
            have e29 : (29 : Int32) + nI nc = nI (29 + nc) := by rw [show (29 : Int32) = nI 29 from rfl, nI_add]
            rw [if_neg (show ¬ nI k < 30 from nI_nlt (show 30 ≤ k by omega) hk), e30, e29]
            by_cases c2 : k < 30 + nc
            · have eR := Rw_get_at (r := r) (c := 0) R.2.2.2.1 (show k - 30 < nV (g' 6) by omega) (by decide)
              have ev := (R.2.2.2.2 (k - 30) (by omega) (by omega)).1 0 (by decide)
              rw [ev] at eR
              rw [show Rw_get l r 78 (nI (k - 30)) 0 hc' = _ from eR, show Md_in (nI k) 30 (nI (29 + nc)) = 1 from Md_in_yes (a := 30) (by omega) (by omega) (by omega), if_neg (show ¬ (1 : Int32) = 0 by decide), z_ix (show k - 30 < 14 by omega) (by decide)]
              exact ⟨_, hc', hm', rfl, rfl, Sf, SH', Sn⟩
            · have eR := Rw_get_no (r := r) (x1 := nI (k - 30)) (x2 := 0) R.2.2.2.1 (.inr (.inl (nI_le (by omega) (by omega))))
              rw [show Rw_get l r 78 (nI (k - 30)) 0 hc' = some (-1) from eR, if_pos (Md_in_no (.inr (nI_lt (by omega) hk))), s2]
              have : v = -1 := by
                have := dsum_big (l := l) (r := r) (d := 77) (hc := hc') (x := nI k) (pv_nb V') (nI_le (by omega) hk)
                rw [s1] at this
                exact Option.some.inj this
              subst this
              exact ⟨_, hc', hm', rfl, rfl, Sf, SH', Sn⟩
    · rw [e1, e2]
      exact ⟨-1, hc, _, rfl, rfl, frS_id, SH, S0⟩
end DRAWN
