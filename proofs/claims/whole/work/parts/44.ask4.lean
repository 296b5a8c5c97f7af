/-! what was done, what a day came to -/
def rwH (l : List (Nat × Nat)) (h : am_F) (a w lim : Nat) : Prop := ∃ n, rwI l h a w lim n (h (a + 1))
def pkH (l : List (Nat × Nat)) (h : am_F) (p : Nat) : Prop := rwH l h (p + 7) 3 8 ∧ rwH l h (p + 9) 2 4 ∧ rwH l h (p + 11) 6 14
theorem rwH_of {l : List (Nat × Nat)} {h : am_F} {a w lim n : Nat} {f : Nat → Int32} (H : rwI l h a w lim n f) : rwH l h a w lim := ⟨n, rwI_self H⟩
theorem rwH_fr {l : List (Nat × Nat)} {h h' : am_F} {a w lim : Nat} (H : rwH l h a w lim) (e : h' a = h a) : rwH l h' a w lim := by
  obtain ⟨n, H⟩ := H
  exact ⟨n, rwI_hd H e⟩
theorem pkH_of {l : List (Nat × Nat)} {h : am_F} {p : Nat} {g : Nat → Int32} (H : pkI l h p g) : pkH l h p := ⟨rwH_of H.2.2.2.2.2.1, rwH_of H.2.2.2.2.2.2.1, rwH_of H.2.2.2.2.2.2.2⟩
theorem pkH_fr {l : List (Nat × Nat)} {h h' : am_F} {p : Nat} (H : pkH l h p) (e1 : h' (p + 7) = h (p + 7)) (e2 : h' (p + 9) = h (p + 9)) (e3 : h' (p + 11) = h (p + 11)) : pkH l h' p := ⟨rwH_fr H.1 e1, rwH_fr H.2.1 e2, rwH_fr H.2.2 e3⟩
/-- rows of the class's drafts, as they must always stand -/
def scH (l : List (Nat × Nat)) (h : am_F) : Prop := rwH l h 67 6 14 ∧ rwH l h 78 6 14 ∧ pkH l h 87
def frS (hc hc' : am_F) : Prop := ∀ x, x < 66 ∨ 105 ≤ x → hc' x = hc x
def wL (l : List (Nat × Nat)) (m : Nat) : Prop := dyL l 66 ∧ dyL l 77 ∧ g_ln l 101 = 3 ∧ g_ln l (m + 22) = 6 ∧ g_ln l (m + 23) = 6
theorem frS_id {h : am_F} : frS h h := fun _ _ => rfl
section ASK
variable {l : List (Nat × Nat)} {r : am_R} {hc hm : am_F} {d m k p b t s w lim : Nat} {n : Nat → Nat} {f g : Nat → Int32} {x x1 x2 x3 x4 y : Int32}
theorem dayF (D : dyL l d) (Dn : rwH l hc (d + 1) 6 14) (H : pkI l hc p g) (V : pkV g) (eg : hm (m + 12) = g) (ap : p + 12 < d ∨ d + 10 ≤ p) : ∃ h0 hc' hm', Dy_forget d hc = some h0 ∧ Dy_goThrough l r d p h0 = some hc' ∧ Md_harmOf m hm = some (hc' d 0, hm') ∧ dyR l hc' d hm' m g 47 18 18 (fun k => k < nV (g 6)) ∧ (∀ x, x < d ∨ d + 10 ≤ x → hc' x = hc x) ∧ frM hm hm' m := by
  obtain ⟨n, Dn⟩ := Dn
  have hx : ∀ x, x ≠ d → (am_up (am_up hc d 1 0) d 2 0) x = hc x := fun x hx => by simp (disch := omega) only [z_upr]
  obtain ⟨hc', hm', e1, e2, R, f1, f2⟩ := day_eq (r := r) (m := m) (cF := 0) (hc := am_up (am_up hc d 1 0) d 2 0) (hm := am_up (am_up hm m 39 0) m 40 0) D (rwI_hd Dn (hx _ (by omega))) (pkI_fr H (fun x _ _ => hx x (by omega))) V (by simp (disch := omega) only [z_upr]; exact eg) ap (by simp (disch := omega) only [z_ups, upz_s, upz_n]) (by simp (disch := omega) only [z_ups, upz_s, upz_n]) ⟨0, 0, by simp (disch := omega) only [z_ups, upz_s, upz_n]; rfl, by simp (disch := omega) only [z_ups, upz_s, upz_n]; rfl, by omega, by omega⟩ (by omega)
  refine ⟨_, hc', hm', rfl, e1, ?_, R, ?_, ?_⟩
  · unfold Md_harmOf
    rw [e2, Option.bind_some, R.1.1]
  · intro x hxx
    rw [f1 x hxx, hx x (by omega)]
  · refine frM_tr ⟨?_, ?_⟩ f2
    · intro y hy
      simp (disch := omega) only [z_ups, upz_n]
    · intro x hxx
      simp (disch := omega) only [z_upr]
theorem comer_yes (V : pkV (hm (m + 12))) (hb : k < nV (hm (m + 12) 6)) : Md_isComer m (nI k) hm = some 1 := by
  have h3 := zN_V (pv_nc V) (by decide)
  unfold Md_isComer
  rw [h3.1, Md_in_below (by omega) hb]
  rfl
theorem comer_no (V : pkV (hm (m + 12))) (hx : x < 0 ∨ hm (m + 12) 6 ≤ x) : Md_isComer m x hm = some 0 := by
  have h3 := zN_V (pv_nc V) (by decide)
  unfold Md_isComer
  rw [h3.1] at hx ⊢
  rw [Md_in_above (by omega) hx]
  rfl
theorem q_did (W : tdW r 1) (B : tdB l hc 1 hm m 0 n) (L : wL l m) (SH : scH l hc) : ∃ v hc' hm', Wp_did l r 0 x1 x2 x3 hc = some (v, hc') ∧ Md_did m x1 x2 x3 hm = some (v, hm') ∧ frS hc hc' ∧ scH l hc' ∧ scM hm hm' m := by
  unfold Wp_did Md_did
  simp only [Nat.zero_add]
  rcases pk_case W B x1 with ⟨q, g, h', hq, e1, -, -, e2, eg, H, V, C, S⟩ | ⟨e1, e2⟩
  · rw [e1, e2]
    have hp : (1 + 5 + 19 * q) + 12 < 66 := by omega
    generalize 1 + 5 + 19 * q = p at *
    have Vh : pkV (h' (m + 12)) := by rw [eg]; exact V
    have h6 := zN_V (pv_nc V) (by decide)
    obtain ⟨h0, hc', hm', a1, a2, a3, R, a4, a5⟩ := dayF (r := r) (m := m) L.1 SH.1 H V eg (.inl hp)
    have Sf : frS hc hc' := fun x hx => a4 x (by omega)
    have SH' : scH l hc' := ⟨rwH_of R.2.2.2.1, rwH_fr SH.2.1 (a4 _ (by omega)), pkH_fr SH.2.2 (a4 _ (by omega)) (a4 _ (by omega)) (a4 _ (by omega))⟩
    simp only [Option.bind_some, g_on, a1, a2, a3, if_neg (show ¬ (1 : Int32) = 0 by decide)]
    rcases Rw_cases (nV (g 6)) 6 (by omega) (by omega) x2 x3 with ⟨k, c, hk, hc6, rfl, rfl⟩ | hx
    · have ek := comer_yes Vh (k := k) (by rw [eg]; exact hk)
      have ev := (R.2.2.2.2 k (by omega) hk).1 c hc6
      have eR := Rw_get_at (r := r) R.2.2.2.1 hk hc6
      rw [ev] at eR
      simp only [eR, ek, Option.bind_some, if_neg (show ¬ (1 : Int32) = 0 by decide)]
      refine ⟨_, hc', hm', rfl, ?_, Sf, SH', scM_tr S (scM_fr a5)⟩
      have zk : g_ix (nI k) 14 = some k := z_ix (by omega) (by decide)
      simp only [zk, Option.bind_some]
      match c, hc6 with
      | 0, _ => rw [if_pos (by decide)]
      | 1, _ => rw [if_neg (by decide), if_pos (by decide)]
      | 2, _ => rw [if_neg (by decide), if_neg (by decide), if_pos (by decide)]
      | 3, _ => rw [if_neg (by decide), if_neg (by decide), if_neg (by decide), if_pos (by decide)]
      | 4, _ => rw [if_neg (by decide), if_neg (by decide), if_neg (by decide), if_neg (by decide), if_pos (by decide)]
      | 5, _ => rw [if_neg (by decide), if_neg (by decide), if_neg (by decide), if_neg (by decide), if_neg (by decide), if_pos (by decide)]
    · have eR := Rw_get_no (r := r) R.2.2.2.1 hx
      simp only [eR, Option.bind_some]
      have done : ∀ v : Int32, v = -1 → ∃ v' hc'' hm'', some (-1, hc') = some (v', hc'') ∧ some (v, hm') = some (v', hm'') ∧ frS hc hc'' ∧ scH l hc'' ∧ scM hm hm'' m := by
        rintro v rfl
        exact ⟨-1, hc', hm', rfl, rfl, Sf, SH', scM_tr S (scM_fr a5)⟩
      rcases pk_ix x2 (n := nV (g 6)) (by omega) with c | c | ⟨k, hk, rfl⟩
      · rw [comer_no Vh (.inl c)]
        exact ⟨-1, hc', h', rfl, rfl, Sf, SH', S⟩
      · rw [comer_no Vh (.inr (by rw [eg, h6.1]; exact c))]
        exact ⟨-1, hc', h', rfl, rfl, Sf, SH', S⟩
      · have hx3 : x3 < 0 ∨ nI 6 ≤ x3 := by
          rcases hx with hx | hx | hx | hx
          · exact absurd hx (nI_pos (by omega))
          · exact absurd hx (nI_ge hk (by omega))
          · exact .inl hx
          · exact .inr hx
        have n3 : ∀ c, c < 6 → ¬ x3 = nI c := by
          intro c hc6
          rcases hx3 with h | h
          · exact z_negne h (by omega)
          · exact z_bigne h hc6 (by decide)
        have ek := comer_yes Vh (k := k) (by rw [eg]; exact hk)
        simp only [ek, Option.bind_some, if_neg (show ¬ (1 : Int32) = 0 by decide)]
        rw [if_neg (show ¬ x3 = 0 from n3 0 (by decide)), if_neg (show ¬ x3 = 1 from n3 1 (by decide)), if_neg (show ¬ x3 = 2 from n3 2 (by decide)), if_neg (show ¬ x3 = 3 from n3 3 (by decide)), if_neg (show ¬ x3 = 4 from n3 4 (by decide)), if_neg (show ¬ x3 = 5 from n3 5 (by decide))]
        exact done _ rfl
  · rw [e1, e2]
    exact ⟨-1, hc, _, rfl, rfl, frS_id, SH, scM_up (.inl rfl)⟩
theorem sum_eq {a c : Nat} (hl : g_ln l a = 6) (hl2 : g_ln l c = 6) {h1 h2 : am_F} (e : ∀ y, y < 6 → h1 a y = h2 c y) : ∃ w, Dy_sumOf l r a h1 = some w ∧ Md_sum l r c h2 = some w := by
  have key : ∀ (n i f1 f2 : Nat) (v : Int32), i + n = 6 → n < f1 → n < f2 → ∃ w, Dy_sumOf_l4 l r a h1 f1 v (nI i) = some w ∧ Md_sum_l4 l r c h2 f2 v (nI i) = some w := by
    intro n
    induction n with
    | zero =>
      intro i f1 f2 v hi hf1 hf2
      obtain ⟨f1, rfl⟩ : ∃ q, f1 = q + 1 := ⟨f1 - 1, by omega⟩
      obtain ⟨f2, rfl⟩ : ∃ q, f2 = q + 1 := ⟨f2 - 1, by omega⟩
      unfold Dy_sumOf_l4 Md_sum_l4
      rw [hl, show Int32.ofNat 6 = nI 6 from rfl]
      simp (disch := omega) only [↓z_neg, z_lits, nI_eq, nI_ltI, nI_leI, nI_add, pk_mul, pk_sub, z_ix, if_pos, if_neg, if_true, if_false, Option.bind_some, m_eq, m_qe, m_lt, m_tl, m_le, m_el, Md_in_N, z_lesser, z_greater]
      exact ⟨v, rfl, rfl⟩
    | succ n ih =>
      intro i f1 f2 v hi hf1 hf2
      obtain ⟨f1, rfl⟩ : ∃ q, f1 = q + 1 := ⟨f1 - 1, by omega⟩
      obtain ⟨f2, rfl⟩ : ∃ q, f2 = q + 1 := ⟨f2 - 1, by omega⟩
      unfold Dy_sumOf_l4 Md_sum_l4
      rw [hl, hl2, show Int32.ofNat 6 = nI 6 from rfl]
      simp (disch := omega) only [↓z_neg, z_lits, nI_eq, nI_ltI, nI_leI, nI_add, pk_mul, pk_sub, z_ix, if_pos, if_neg, if_true, if_false, Option.bind_some, m_eq, m_qe, m_lt, m_tl, m_le, m_el, Md_in_N, z_lesser, z_greater]
      rw [e i (by omega)]
      exact ih (i + 1) f1 f2 _ (by omega) (by omega) (by omega)
  obtain ⟨w, k1, k2⟩ := key 6 0 g_fu g_fu 0 (by omega) (by unfold g_fu; omega) (by unfold g_fu; omega)
  refine ⟨w, ?_, ?_⟩
  · unfold Dy_sumOf
    rw [show Dy_sumOf_l4 l r a h1 g_fu 0 0 = some w from k1]
    rfl
  · unfold Md_sum
    rw [show Md_sum_l4 l r c h2 g_fu 0 0 = some w from k2]
    rfl
theorem dsum_eq {cur cF cH : Nat} {P : Nat → Prop} (R : dyR l hc d hm m g cur cF cH P) (eg : hm (m + 12) = g) (V : pkV g) (D : dyL l d) (l1 : g_ln l (m + 22) = 6) (l2 : g_ln l (m + 23) = 6) : ∃ v, Dy_sum l r d x (g 3) hc = some v ∧ Md_ofDay l r m x hm = some v := by
  have h3 := zN_V (pv_nb V) (by decide)
  obtain ⟨w1, s1, s2⟩ := sum_eq (r := r) D.1 l1 (fun y hy => (R.2.2.1 y hy).1)
  obtain ⟨w2, s3, s4⟩ := sum_eq (r := r) D.2.1 l2 (fun y hy => (R.2.2.1 y hy).2.1)
  obtain ⟨⟨q0, q4, q5, q6, q1, q2⟩, -, q7, -⟩ := R
  unfold Dy_sum Md_ofDay
  rw [eg, h3.1]
  generalize nV (g 3) = nb at *
  rcases pk_ix x (n := 26) (by decide) with c | c | ⟨j, hj, rfl⟩
  · simp (disch := omega) only [↓z_neg, z_lits, nI_eq, nI_ltI, nI_leI, nI_add, pk_mul, pk_sub, z_ix, if_pos, if_neg, if_true, if_false, Option.bind_some, m_eq, m_qe, m_lt, m_tl, m_le, m_el, Md_in_N, z_lesser, z_greater, z_ngE c, z_ngQ c, z_ngL c, z_ngR c, z_ngS c, Md_in_neg c]
    exact ⟨_, rfl, rfl⟩
  · simp (disch := omega) only [↓z_neg, z_lits, nI_eq, nI_ltI, nI_leI, nI_add, pk_mul, pk_sub, z_ix, if_pos, if_neg, if_true, if_false, Option.bind_some, m_eq, m_qe, m_lt, m_tl, m_le, m_el, Md_in_N, z_lesser, z_greater, z_bgE c, z_bgQ c, z_bgL c, z_bgR c, z_bgS c, Md_in_big c]
    exact ⟨_, rfl, rfl⟩
  · by_cases c1 : j ≤ 7
    · have i1 : Md_in (nI j) 10 (9 + nI nb) = 0 := Md_in_no (.inl (nI_lt (show j < 10 by omega) (by decide)))
      have i2 : Md_in (nI j) 20 (19 + nI nb) = 0 := Md_in_no (.inl (nI_lt (show j < 20 by omega) (by decide)))
      rw [i1, i2, if_pos rfl, if_pos rfl]
      match j, c1 with
      | 0, _ => exact ⟨_, rfl, by rw [if_pos (by decide), q0]⟩
      | 1, _ => exact ⟨_, rfl, by rw [if_neg (by decide), if_pos (by decide), q4]⟩
      | 2, _ => exact ⟨w1, by rw [if_neg (by decide), if_neg (by decide), if_pos (by decide), s1]; rfl, by rw [if_neg (by decide), if_neg (by decide), if_pos (by decide), s2]; rfl⟩
      | 3, _ => exact ⟨w2, by rw [if_neg (by decide), if_neg (by decide), if_neg (by decide), if_pos (by decide), s3]; rfl, by rw [if_neg (by decide), if_neg (by decide), if_neg (by decide), if_pos (by decide), s4]; rfl⟩
      | 4, _ => exact ⟨_, rfl, by rw [if_neg (by decide), if_neg (by decide), if_neg (by decide), if_neg (by decide), if_pos (by decide), q5]⟩
      | 5, _ => exact ⟨_, rfl, by rw [if_neg (by decide), if_neg (by decide), if_neg (by decide), if_neg (by decide), if_neg (by decide), if_pos (by decide), q6]⟩
      | 6, _ => exact ⟨_, rfl, by rw [if_neg (by decide), if_neg (by decide), if_neg (by decide), if_neg (by decide), if_neg (by decide), if_neg (by decide), if_pos (by decide), q1]⟩
      | 7, _ => exact ⟨_, rfl, by rw [if_neg (by decide), if_neg (by decide), if_neg (by decide), if_neg (by decide), if_neg (by decide), if_neg (by decide), if_neg (by decide), if_pos (by decide), q2]⟩
    · by_cases c2 : 10 ≤ j ∧ j < 10 + nb
      · simp (disch := omega) only [↓z_neg, z_lits, nI_eq, nI_ltI, nI_leI, nI_add, pk_mul, pk_sub, z_ix, if_pos, if_neg, if_true, if_false, Option.bind_some, m_eq, m_qe, m_lt, m_tl, m_le, m_el, Md_in_N, z_lesser, z_greater]
        exact ⟨_, rfl, by rw [(q7 _ (by omega)).1]⟩
      · by_cases c3 : 20 ≤ j ∧ j < 20 + nb
        · by_cases c4 : j < 10
          · omega
          · simp (disch := omega) only [↓z_neg, z_lits, nI_eq, nI_ltI, nI_leI, nI_add, pk_mul, pk_sub, z_ix, if_pos, if_neg, if_true, if_false, Option.bind_some, m_eq, m_qe, m_lt, m_tl, m_le, m_el, Md_in_N, z_lesser, z_greater]
            exact ⟨_, rfl, by rw [(q7 _ (by omega)).2.1]⟩
        · by_cases c4 : j < 10
          · simp (disch := omega) only [↓z_neg, z_lits, nI_eq, nI_ltI, nI_leI, nI_add, pk_mul, pk_sub, z_ix, if_pos, if_neg, if_true, if_false, Option.bind_some, m_eq, m_qe, m_lt, m_tl, m_le, m_el, Md_in_N, z_lesser, z_greater]
            exact ⟨_, rfl, rfl⟩
          · by_cases c5 : j < 20
            · simp (disch := omega) only [↓z_neg, z_lits, nI_eq, nI_ltI, nI_leI, nI_add, pk_mul, pk_sub, z_ix, if_pos, if_neg, if_true, if_false, Option.bind_some, m_eq, m_qe, m_lt, m_tl, m_le, m_el, Md_in_N, z_lesser, z_greater]
              exact ⟨_, rfl, rfl⟩
            · simp (disch := omega) only [↓z_neg, z_lits, nI_eq, nI_ltI, nI_leI, nI_add, pk_mul, pk_sub, z_ix, if_pos, if_neg, if_true, if_false, Option.bind_some, m_eq, m_qe, m_lt, m_tl, m_le, m_el, Md_in_N, z_lesser, z_greater]
              exact ⟨_, rfl, rfl⟩
theorem q_day (W : tdW r 1) (B : tdB l hc 1 hm m 0 n) (L : wL l m) (SH : scH l hc) : ∃ v hc' hm', Wp_day l r 0 x1 x2 hc = some (v, hc') ∧ Md_day l r m x1 x2 hm = some (v, hm') ∧ frS hc hc' ∧ scH l hc' ∧ scM hm hm' m := by
  unfold Wp_day Md_day
  simp only [Nat.zero_add]
  rcases pk_case W B x1 with ⟨q, g, h', hq, e1, -, -, e2, eg, H, V, C, S⟩ | ⟨e1, e2⟩
  · rw [e1, e2]
    have hp : (1 + 5 + 19 * q) + 12 < 66 := by omega
    generalize 1 + 5 + 19 * q = p at *
    obtain ⟨h0, hc', hm', a1, a2, a3, R, a4, a5⟩ := dayF (r := r) (m := m) L.1 SH.1 H V eg (.inl hp)
    have Sf : frS hc hc' := fun x hx => a4 x (by omega)
    have SH' : scH l hc' := ⟨rwH_of R.2.2.2.1, rwH_fr SH.2.1 (a4 _ (by omega)), pkH_fr SH.2.2 (a4 _ (by omega)) (a4 _ (by omega)) (a4 _ (by omega))⟩
    obtain ⟨v, b1, b2⟩ := dsum_eq (r := r) (x := x2) R (by rw [a5.2 _ (by omega)]; exact eg) V L.1 L.2.2.2.1 L.2.2.2.2
    have ep : hc' p 3 = g 3 := by rw [a4 p (by omega)]; exact H.1.2.2.2
    simp only [Option.bind_some, g_on, a1, a2, a3, if_neg (show ¬ (1 : Int32) = 0 by decide), ep, b1, b2]
    exact ⟨v, hc', hm', rfl, rfl, Sf, SH', scM_tr S (scM_fr a5)⟩
  · rw [e1, e2]
    exact ⟨-1, hc, _, rfl, rfl, frS_id, SH, scM_up (.inl rfl)⟩
end ASK
