/-! the question order -/
section ORDER2
variable {l : List (Nat × Nat)} {r : am_R} {m nb s x i p : Nat} {hm hc : am_F} {g : Nat → Int32} {n : Nat → Nat} {x1 x2 x3 : Int32}
theorem choose_at (V : pkV g) (hn : nV (g 3) = nb) (h1 : 1 ≤ nb) (h6 : nb ≤ 6) (hp : p + 12 < 66) (hs : s < 48) (K : pkI l hc p g) {v5 v6 : Int32} (I : bstI g s nb (6 ^ nb) v5 v6) : ∃ hc', Pa_choose 104 p (nI s) hc = some hc' ∧ ordR hc' nb v5 v6 ∧ ∀ y, y ≠ 104 → hc' y = hc y := by
  have hz := hrN_le V (show 0 < nV (g 3) by omega)
  unfold Pa_choose
  generalize eh : am_up (am_up (am_up hc 104 0 401) 104 1 0) 104 2 0 = h0
  have fr : ∀ y, y ≠ 104 → h0 y = hc y := fun y hy => by rw [← eh, z_upr hy, z_upr hy, z_upr hy]
  have K0 : pkI l h0 p g := pkI_fr K (fun x _ _ => fr x (by omega))
  have e3 : h0 p 3 = nI nb := by rw [K0.1.2.2.2, (zN_V (pv_nb V) (by decide)).1, hn]
  have f0 : h0 104 0 = 401 := by rw [← eh]; simp only [z_ups]; rw [upz_n (by decide), upz_n (by decide), upz_s]
  have f1 : h0 104 1 = 0 := by rw [← eh]; simp only [z_ups]; rw [upz_n (by decide), upz_s]
  have f2 : h0 104 2 = 0 := by rw [← eh]; simp only [z_ups]; rw [upz_s]
  rw [e3]
  by_cases c : nb = 1
  · subst c
    have hh := hours_at K0 V (b := 0) (by omega)
    rw [if_pos (show nI 1 = 1 from rfl), show (0 : Int32) = nI 0 from rfl, hh, Option.bind_some, nI_add, dryA_at K0 V (by omega), Option.bind_some]
    refine ⟨_, rfl, ord_one I ?_ ?_ ?_, fun y hy => by rw [z_upr hy, fr y hy]⟩
    · rw [z_ups, upz_s]
    · rw [z_ups, upz_n (by decide), f1]; rfl
    · rw [z_ups, upz_n (by decide), f2]; rfl
  · rw [if_neg (show ¬ nI nb = 1 from fun e => c ((nI_eq (by omega) (by decide)).1 (show nI nb = nI 1 from e)))]
    have t := tot_l (x0 := 104) (x2 := nI s) V hn h6 K0 nb 0 g_fu (by omega) (by unfold g_fu; omega)
    have t' : Pa_choose_l46 104 p (nI s) h0 g_fu 0 0 = some (nI (sumF (hrN g) nb)) := t
    rw [t', Option.bind_some]
    obtain ⟨h', k1, k2, k3⟩ := first_l (l := l) V hn (by omega) h6 hp hs nb 0 g_fu h0 (by omega) (by unfold g_fu; omega) K0 (.inl ⟨f0, fun a z q1 q2 q3 q4 => by unfold visP at q4; omega⟩)
    have k1' : Pa_choose_l73 104 p (nI s) (nI (sumF (hrN g) nb)) g_fu 0 h0 = some h' := k1
    rw [k1', Option.bind_some]
    exact ⟨h', rfl, ord_core (by omega) h6 I k2, fun y hy => by rw [k3 y hy, fr y hy]⟩
theorem t48_at (V : pkV g) (eg : hm (m + 12) = g) (hn : nV (g 3) = nb) (h1 : 1 ≤ nb) (h6 : nb ≤ 6) (hs : s < 48) (hp : p + 12 < 66) (K : pkI l hc p g) (hx : x3 = -1 ∨ ∃ i, i < nb ∧ x3 = nI i) : ∃ v hc' hm', Pa_choose 104 p (nI s) hc = some hc' ∧ (if hc' 104 0 ≤ 400 then (if x3 = -1 then some (hc' 104 0, hc') else (Pa_benchAt 104 x3 (hc' p 3) hc').bind fun q10 => some (q10, hc')) else some (-1, hc')) = some (v, hc') ∧ Md_order_t48 m (nI s) x3 hm = some (v, hm') ∧ (∀ y, y ≠ 104 → hc' y = hc y) ∧ ∀ y, y ≠ m + 24 → y ≠ m + 25 → hm' y = hm y := by
  have hn3 : g 3 = nI nb := by rw [(zN_V (pv_nb V) (by decide)).1, hn]
  have hpw : 6 ^ nb ≤ 46656 := Nat.pow_le_pow_right (n := 6) (by decide) h6
  have pw := pow_l (x2 := nI s) (x3 := x3) (hm := hm) (m := m) (nb := nb) (by rw [eg]; exact hn3) h6 nb 0 1 g_fu (by omega) (by unfold g_fu; omega)
  rw [Nat.one_mul] at pw
  have pw' : Md_order_l54 m (nI s) x3 hm g_fu 1 0 = some (nI (6 ^ nb)) := pw
  obtain ⟨v5, v6, h', k1, k2, k3⟩ := ord_l (m := m) (x3 := x3) V hn3 h1 h6 hs rfl hpw (6 ^ nb) 0 g_fu (-1) 1000000 hm (by omega) (by unfold g_fu; omega) eg (.inl ⟨rfl, rfl, fun x hx => absurd hx (Nat.not_lt_zero _)⟩)
  have k1' : Md_order_l89 m (nI s) x3 (nI (6 ^ nb)) g_fu (-1) 1000000 0 hm = some (v5, v6, h') := k1
  obtain ⟨hc', c1, c2, c3⟩ := choose_at V hn h1 h6 hp hs K k2
  have e3 : hc' p 3 = nI nb := by rw [c3 _ (by omega), K.1.2.2.2, hn3]
  unfold Md_order_t48
  rw [pw', Option.bind_some, k1', Option.bind_some]
  simp only []
  rcases c2 with ⟨d1, d2⟩ | ⟨a, z, B, d1, d2, d3, d4, d5, d6, d7, d8, d9⟩
  · refine ⟨-1, hc', h', c1, by rw [if_neg d2], by rw [if_pos d1, if_pos d1], c3, k3⟩
  · obtain ⟨⟨f1, f2, f3, f4⟩, f5⟩ := rep_facts (n := nb) (by omega) d1 d2 d3
    have n5 : ¬ v5 = -1 := by rw [d9]; exact z_nem (by omega)
    have l4 : hc' 104 0 ≤ 400 := by rw [d4]; exact nI_le (show B ≤ 400 from d6) (by decide)
    rw [if_neg n5]
    by_cases cx : x3 = -1
    · rw [if_pos cx, if_neg n5]
      exact ⟨v6, hc', h', c1, by rw [if_pos l4, if_pos cx, d4, d5], rfl, c3, k3⟩
    · obtain ⟨i, hi, rfl⟩ : ∃ i, i < nb ∧ x3 = nI i := hx.elim (fun e => absurd e cx) id
      obtain ⟨h2, a1, a2, a3⟩ := lay_at (hm := h') (m := m) (nb := nb) (x := repN nb a z) (by rw [k3 _ (by omega) (by omega), eg]; exact hn3) h6 (by omega)
      rw [if_neg cx, d9, a1, Option.bind_some, z_ix (show i < 6 by omega) (by decide), Option.bind_some]
      simp only []
      exact ⟨_, hc', h2, c1, by rw [if_pos l4, if_neg cx, e3, bench_at d7 d8, f5 i hi, Option.bind_some], by rw [a2 i hi], c3, fun y y1 y2 => by rw [a3 y y1, k3 y y1 y2]⟩
theorem q_order (W : tdW r 1) (B : tdB l hc 1 hm m 0 n) (L : wL l m) (SH : scH l hc) : ∃ v hc' hm', Wp_order l r 0 x1 x2 x3 hc = some (v, hc') ∧ Md_order m x1 x2 x3 hm = some (v, hm') ∧ frS hc hc' ∧ scH l hc' ∧ scM hm hm' m := by
  unfold Wp_order Md_order
  simp only [Nat.zero_add]
  have S0 : scM hm (am_up hm m 0 0) m := scM_up (.inl rfl)
  rcases pk_ix x2 (n := 48) (by decide) with c | c | ⟨s, hs, rfl⟩
  · have e1 : Md_in x2 0 47 = 0 := Md_in_no (.inl c)
    have e2 : Wp_isHour x2 = 0 := by unfold Wp_isHour; rw [if_pos c]
    rw [e1, if_pos rfl, e2]
    refine ⟨-2, hc, _, ?_, rfl, frS_id, SH, S0⟩
    rcases pk_case W B x1 with ⟨q, g, h', hq, p1, _⟩ | ⟨p1, _⟩
    · rw [p1]
      simp only [Option.bind_some, g_on, if_pos]
      split <;> rfl
    · rw [p1]
      rfl
  · have e1 : Md_in x2 0 47 = 0 := Md_in_no (.inr (z_biggt c (show 47 < 48 by decide) (by decide)))
    have e2 : Wp_isHour x2 = 0 := by
      unfold Wp_isHour
      rw [if_neg (show ¬ x2 < 0 from z_biglt c (k := 0) (by decide) (by decide))]
      first
        | rw [if_neg (show ¬ x2 < 48 from z_biglt c (k := 48) (by decide) (by decide))]
        | rw [if_neg (show ¬ x2 ≤ 47 from Int32.not_le.2 (z_biggt c (show 47 < 48 by decide) (by decide)))]
        | rw [if_pos (show (48 : Int32) ≤ x2 from c)]
        | rw [if_pos (show (47 : Int32) < x2 from z_biggt c (show 47 < 48 by decide) (by decide))]
    rw [e1, if_pos rfl, e2]
    refine ⟨-2, hc, _, ?_, rfl, frS_id, SH, S0⟩
    rcases pk_case W B x1 with ⟨q, g, h', hq, p1, _⟩ | ⟨p1, _⟩
    · rw [p1]
      simp only [Option.bind_some, g_on, if_pos]
      split <;> rfl
    · rw [p1]
      rfl
  · have e1 : Md_in (nI s) 0 47 = 1 := Md_in_yes (show 0 ≤ s by omega) (show s ≤ 47 by omega) (by decide)
    have e2 : Wp_isHour (nI s) = 1 := by
      unfold Wp_isHour
      rw [if_neg (nI_pos (show s < 2 ^ 31 by omega))]
      first
        | rw [if_pos (show nI s < 48 from nI_lt hs (by decide))]
        | rw [if_pos (show nI s ≤ 47 from nI_le (show s ≤ 47 by omega) (by decide))]
        | rw [if_neg (show ¬ (48 : Int32) ≤ nI s from nI_ge hs (by decide))]
        | rw [if_neg (show ¬ (47 : Int32) < nI s from nI_nlt (show s ≤ 47 by omega) (by decide))]
    rw [e1, e2, if_neg (show ¬ (1 : Int32) = 0 by decide)]
    rcases pk_case W B x1 with ⟨q, g, h', hq, p1, -, -, p2, eg, K, V, C, S⟩ | ⟨p1, p2⟩
    · rw [p1, p2]
      have hp : (1 + 5 + 19 * q) + 12 < 66 := by omega
      generalize 1 + 5 + 19 * q = p at *
      have h3 := zN_V (pv_nb V) (by decide)
      simp only [Option.bind_some, g_on, if_neg (show ¬ (1 : Int32) = 0 by decide), K.1.2.2.2, eg]
      generalize hnb : nV (g 3) = nb at *
      rw [h3.1]
      by_cases c0 : nb = 0
      · subst c0
        rw [if_pos (show nI 0 < 1 by decide), if_pos (show nI 0 = 0 from rfl)]
        exact ⟨-2, hc, h', rfl, rfl, frS_id, SH, S⟩
      · rw [if_neg (show ¬ nI nb < 1 from nI_nlt (show 1 ≤ nb by omega) (by omega)), if_neg (show ¬ nI nb = 0 from fun e => c0 ((z_eq0 (by omega)).1 e))]
        have Vh : pkV (h' (m + 12)) := by rw [eg]; exact V
        have go : (x3 = -1 ∨ ∃ i, i < nb ∧ x3 = nI i) → ∃ v hc' hm', ((Pa_choose 104 p (nI s) hc).bind fun q7 => if q7 104 0 ≤ 400 then (if x3 = -1 then some (q7 104 0, q7) else (Pa_benchAt 104 x3 (q7 p 3) q7).bind fun q10 => some (q10, q7)) else some (-1, q7)) = some (v, hc') ∧ Md_order_t48 m (nI s) x3 h' = some (v, hm') ∧ frS hc hc' ∧ scH l hc' ∧ scM hm hm' m := by
          intro hx
          obtain ⟨v, hc', hm', k1, k2, k3, k4, k5⟩ := t48_at V eg hnb (by omega) (by omega) hs hp K hx
          rw [k1]
          exact ⟨v, hc', hm', k2, k3, fun y hy => k4 y (by omega), scH_F SH (fun y hy => k4 y (by omega)), fun y hy => by rw [k5 y (by omega) (by omega), S y hy]⟩
        by_cases cx : x3 = -1
        · obtain ⟨v, hc', hm', k1, k2, k3⟩ := go (.inl cx)
          rw [if_pos cx, if_neg (show ¬ x3 < -1 by rw [cx]; decide), if_pos (show x3 < nI nb by rw [cx]; exact of_eq_true (z_m1lt (by omega)))]
          exact ⟨v, hc', hm', k1, k2, k3⟩
        · rw [if_neg cx]
          have e3 : h' (m + 12) 3 = nI nb := by rw [eg, h3.1]
          have n2 : nV (h' (m + 12) 3) = nb := by rw [e3, nV_nI (by omega)]
          rcases pk_ix x3 (n := nb) (by omega) with c | c | ⟨i, hi, rfl⟩
          · have cm : x3 < -1 := by
              rw [Int32.lt_iff_toInt_lt] at c ⊢
              have e0 : (0 : Int32).toInt = 0 := rfl
              have em := z_m1
              have : x3.toInt ≠ -1 := fun q => cx (Int32.toInt_inj.1 (q.trans z_m1.symm))
              omega
            have eb : Md_isBench m x3 h' = some 0 := by
              unfold Md_isBench
              rw [e3, Md_in_above (by omega) (.inl c)]
              rfl
            rw [if_pos cm, eb, Option.bind_some, if_pos rfl]
            exact ⟨-2, hc, h', rfl, rfl, frS_id, SH, S⟩
          · have eb : Md_isBench m x3 h' = some 0 := by
              unfold Md_isBench
              rw [e3, Md_in_above (by omega) (.inr c)]
              rfl
            rw [if_neg (show ¬ x3 < -1 from fun q => z_biglt c (k := 0) (by omega) (by omega) (Int32.lt_trans q (by decide))), if_neg (Int32.not_lt.2 c), eb, Option.bind_some, if_pos rfl]
            exact ⟨-2, hc, h', rfl, rfl, frS_id, SH, S⟩
          · have eb : Md_isBench m (nI i) h' = some 1 := by
              unfold Md_isBench
              rw [e3, Md_in_below (by omega) hi]
              rfl
            obtain ⟨v, hc', hm', k1, k2, k3⟩ := go (.inr ⟨i, hi, rfl⟩)
            rw [if_neg (show ¬ nI i < -1 from of_eq_false (z_ltm1 (by omega))), if_pos (nI_lt hi (by omega)), eb, Option.bind_some, if_neg (show ¬ (1 : Int32) = 0 by decide)]
            exact ⟨v, hc', hm', k1, k2, k3⟩
    · rw [p1, p2]
      exact ⟨-2, hc, _, rfl, rfl, frS_id, SH, S0⟩
end ORDER2
