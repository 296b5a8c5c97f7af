/-! image -/
abbrev iT : List (Nat × Nat) := [(11, 600), (10, 4), (13, 2), (14, 8), (3, 13), (10, 48), (10, 48), (10, 6), (10, 6), (10, 6), (10, 6), (5, 4), (10, 24), (5, 4), (10, 8), (5, 4), (10, 84), (5, 4), (10, 30), (5, 4), (10, 32), (5, 4), (10, 18), (3, 13), (10, 48), (10, 48), (10, 6), (10, 6), (10, 6), (10, 6), (5, 4), (10, 24), (5, 4), (10, 8), (5, 4), (10, 84), (5, 4), (10, 30), (5, 4), (10, 32), (5, 4), (10, 18)]
section IMAGE
variable {X : Nat × (Nat → Int32)} {l : List (Nat × Nat)} {r : am_R} {h h1 hc hm hm1 hm2 : am_F} {j : am_J} {x1 : Int32} {b k k' m : Nat}
theorem plE_tr (E : plE hm hm1 m k k') (e : ∀ x, m + 1 ≤ x → x < m + 10 → hm2 x = hm1 x) : plE hm hm2 m k k' := by
  unfold plE
  rw [e (m + 1) (by omega) (by omega), e (m + 2) (by omega) (by omega), e (m + 3) (by omega) (by omega), e (m + 4) (by omega) (by omega), e (m + 5) (by omega) (by omega), e (m + 6) (by omega) (by omega), e (m + 7) (by omega) (by omega), e (m + 8) (by omega) (by omega), e (m + 9) (by omega) (by omega)]
  exact E
theorem im_copy (H : wR l r hc hm k) (hk : k < 3) (i1 : r 44 k = some b) (i3 : 133 ≤ b) (i4 : b + 43 ≤ l.length) (i5 : tdW r b) (i8 : tdH l hc b) : ∃ hc', Tl_copyFrom l r b 1 hc = some hc' ∧ (∀ x, 105 ≤ x → x < 133 → hc' x = hc x) ∧ ∀ hm2, (∀ x, 105 ≤ x → x < 133 → hm2 x = hm x) → ∃ hm', Md_image l r 105 (nI k) hm2 = some (1, hm') ∧ wR l r hc' hm' 3 ∧ ∀ x, x < 105 ∨ 133 ≤ x → hm' x = hm2 x := by
  obtain ⟨K1, K2, T, ⟨n, B⟩, F, TH, Hd, SH, I, D, ll⟩ := id H
  obtain ⟨hc', c1, c2, c3, c4, c5⟩ := copy_at (r := r) (d := b) (.inl (by omega)) T i5 B F i8
  refine ⟨hc', c1, fun x g1 g2 => c5 x (by omega), fun hm2 e2 => ?_⟩
  have H0 := wR_0 (wR_cg (hc' := hc) (hm' := hm2) H (fun _ _ => rfl) e2)
  generalize eM : am_up hm2 105 0 0 = hm0 at H0
  have o0 : ∀ x, x ≠ 105 → hm0 x = hm2 x := fun x hx => by rw [← eM]; exact z_upr hx
  obtain ⟨_, _, _, ⟨n0, B0⟩, F0, _, _, _, I0, _, _⟩ := id H0
  obtain ⟨hm3, d1, d2, d3, d4⟩ := copyAll_at (l := l) (r := r) (hm := hm0) (st_mdL K2) (st_mdL2 K2) (show 0 ≠ k + 1 by omega) (show 0 < 4 by decide) (show k + 1 < 4 by omega)
  have o4 : ∀ x, x ≠ 132 → am_up hm3 132 k (vp_nar .boolean 1) x = hm3 x := fun x hx => z_upr hx
  have E : ∀ k', k' ≠ k + 1 → plE hm0 (am_up hm3 132 k (vp_nar .boolean 1)) 105 k' k' := fun k' hk' => plE_tr (d3 k' hk') (fun x g1 g2 => o4 x (by omega))
  have E1 : plE hm0 (am_up hm3 132 k (vp_nar .boolean 1)) 105 0 (k + 1) := plE_tr d2 (fun x g1 g2 => o4 x (by omega))
  have m0 : ∀ x, 106 ≤ x → x < 133 → hm0 x = hm x := fun x g1 g2 => by rw [o0 x (by omega), e2 x (by omega) g2]
  refine ⟨am_up hm3 132 k (vp_nar .boolean 1), ?_, ?_, fun x hx => by rw [o4 x (by omega), d4 x (by omega), o0 x (by omega)]⟩
  · unfold Md_image
    rw [show Md_in (nI k) 0 2 = 1 from Md_in_yes (show 0 ≤ k from Nat.zero_le _) (show k ≤ 2 by omega) (by decide), if_neg (show ¬ (1 : Int32) = 0 by decide), eM, nI_1, show Md_copyAll l r 105 0 (nI (k + 1)) hm0 = some hm3 from d1, Option.bind_some, z_ix hk (by decide), Option.bind_some]
  · refine ⟨K1, K2, T, ⟨n0, tdB_pl B0 (E 0 (by omega)) (fun x g1 g2 => c5 x (by omega))⟩, tdF_pl F0 (E 0 (by omega)) (c5 _ (by omega)) (c5 _ (by omega)), tdH_fr TH (fun x g1 g2 => c5 x (by omega)), hd_fr Hd (fun x g1 g2 => c5 x (by omega)), scH_fr SH (fun x g1 g2 => c5 x (by omega)), fun k' hk' _ => ?_, D, ll⟩
    by_cases ck : k' = k
    · subst ck
      refine .inr ⟨b, n, i1, ?_, i3, i4, i5, tdB_pl (tdB_fr c2 (fun _ _ _ => rfl) (fun x g1 g2 => m0 x (by omega) (by omega))) E1 (fun _ _ _ => rfl), tdF_pl (tdF_pl c3 (plE_id (fun x g1 g2 => m0 x (by omega) (by omega))) rfl rfl) E1 rfl rfl, c4⟩
      rw [z_ups, upz_s]
      decide
    · have e132 : am_up hm3 132 k (vp_nar .boolean 1) 132 k' = hm0 132 k' := by rw [z_ups, upz_n ck, d4 _ (by omega)]
      rcases I0 k' hk' ck with ⟨i1', i2'⟩ | ⟨b', n', i1', i2', i3', i4', i5', i6', i7', i8'⟩
      · exact .inl ⟨i1', by rw [e132]; exact i2'⟩
      · have dd := D k' k b' b hk' hk ck i1' i1
        exact .inr ⟨b', n', i1', by rw [e132]; exact i2', i3', i4', i5', tdB_pl i6' (E _ (by omega)) (fun x g1 g2 => c5 x (by omega)), tdF_pl i7' (E _ (by omega)) (c5 _ (by omega)) (c5 _ (by omega)), tdH_fr i8' (fun x g1 g2 => c5 x (by omega))⟩
theorem wR_w (H : wR l r hc hm 3) : wR l r hc hm k := by
  obtain ⟨K1, K2, T, B, F, TH, Hd, SH, I, D, ll⟩ := H
  exact ⟨K1, K2, T, B, F, TH, Hd, SH, fun k' hk' _ => I k' hk' (by omega), D, ll⟩
theorem lt_of_some {x : Nat} {q : Nat × Nat} (e : l[x]? = some q) : x < l.length := by
  rcases Nat.lt_or_ge x l.length with c | c
  · exact c
  · rw [List.getElem?_eq_none c] at e
    cases e
theorem im_new {r1 : am_R} (H : wR l r hc hm 3) (hk : k < 3) (i1 : r 44 k = none) (f : ∀ x, x < l.length ∨ l.length + 43 ≤ x → r1 x = am_nw r l.length none x ∧ h1 x = am_nw hc l.length 0 x) (tk : Tl_K (l ++ [(6, 7)] ++ iT) r1 l.length) (tw : tdW r1 l.length) (th : tdH (l ++ [(6, 7)] ++ iT) h1 l.length) : wR (l ++ [(6, 7)] ++ iT) (am_up r1 44 k (some l.length)) h1 hm k ∧ Tl_K (l ++ [(6, 7)] ++ iT) (am_up r1 44 k (some l.length)) l.length ∧ tdW (am_up r1 44 k (some l.length)) l.length ∧ (am_up r1 44 k (some l.length)) 44 k = some l.length ∧ (l ++ [(6, 7)] ++ iT).length = l.length + 43 := by
  obtain ⟨K1, K2, T, ⟨n, B⟩, F, TH, Hd, SH, I, D, ll⟩ := id H
  have hlen : (l ++ [(6, 7)] ++ iT).length = l.length + 43 := by
    rw [List.length_append, List.length_append]
    rfl
  have gl : ∀ i, i < l.length → g_ln (l ++ [(6, 7)] ++ iT) i = g_ln l i := fun i hi => by
    rw [List.append_assoc]
    exact gln_a hi
  have er1 : ∀ x, x < l.length → r1 x = r x := fun x hx => by rw [(f x (.inl hx)).1, nw_o (by omega)]
  have eh : ∀ x, x < l.length → h1 x = hc x := fun x hx => by rw [(f x (.inl hx)).2, nw_o (by omega)]
  have er : ∀ x, x < l.length → x ≠ 44 → am_up r1 44 k (some l.length) x = r x := fun x h1 h2 => by rw [z_upr h2, er1 x h1]
  have e44 : am_up r1 44 k (some l.length) 44 = upo (r 44) k (some l.length) := by rw [z_upo, er1 44 (by omega)]
  have k44 : l[44]? = some (15, 3) := Wp_k1 K1
  have km : kmE l (l ++ [(6, 7)] ++ iT) r (am_up r1 44 k (some l.length)) := by
    refine ⟨fun x q e => lkL (lkL e), fun x q e hq => er x (lt_of_some e) ?_⟩
    rintro rfl
    rw [k44] at e
    cases e
    exact hq rfl
  have km2 : kmE (l ++ [(6, 7)] ++ iT) (l ++ [(6, 7)] ++ iT) r1 (am_up r1 44 k (some l.length)) := by
    refine ⟨fun x q e => e, fun x q e hq => z_upr ?_⟩
    rintro rfl
    rw [lkL (lkL k44)] at e
    cases e
    exact hq rfl
  have tk2 := km_Tl km2 tk
  have tw2 : tdW (am_up r1 44 k (some l.length)) l.length := by
    refine ⟨fun q hq => ?_, fun q hq => ?_⟩
    · rw [z_upr (by omega)]; exact tw.1 q hq
    · rw [z_upr (by omega)]; exact tw.2 q hq
  have tr : ∀ b, b + 43 ≤ l.length → b + 3 ≠ 44 → b + 4 ≠ 44 → tdW r b → tdW (am_up r1 44 k (some l.length)) b := by
    intro b hb h3 h4 t
    refine ⟨fun q hq => ?_, fun q hq => ?_⟩
    · rw [er _ (by omega) h3]; exact t.1 q hq
    · rw [er _ (by omega) h4]; exact t.2 q hq
  refine ⟨⟨km_Wp km ?_ K1, km_Md km K2, tr 1 (by omega) (by decide) (by decide) T, ⟨n, tdB_l (tdB_fr B (fun x g1 g2 => eh x (by omega)) (fun _ _ _ => rfl)) (fun i g1 g2 => gl i (by omega))⟩, tdF_pl F (plE_id (fun _ _ _ => rfl)) (eh _ (by omega)) (eh _ (by omega)), tdH_l (tdH_fr TH (fun x g1 g2 => eh x (by omega))) (fun i g1 g2 => gl i (by omega)), hdR_l (hd_fr Hd (fun x g1 g2 => eh x (by omega))) (fun i g1 g2 => gl i (by omega)), scH_l (scH_fr SH (fun x g1 g2 => eh x (by omega))) (fun i g1 g2 => gl i (by omega)), fun k' hk' hkk => ?_, ?_, by omega⟩, tk2, tw2, ?_, hlen⟩
  · intro i p e
    have e' : upo (r 44) k (some l.length) i = some p := by rw [← e44]; exact e
    rcases upo_c e' with e' | e'
    · cases e'; exact tk2
    · exact km_Tl km (Wp_e1 K1 i p e')
  · have e5 : am_up r1 44 k (some l.length) 44 k' = r 44 k' := by
      rw [e44]
      exact if_neg hkk
    rcases I k' hk' (by omega) with ⟨i1', i2'⟩ | ⟨b', n', i1', i2', i3', i4', i5', i6', i7', i8'⟩
    · exact .inl ⟨by rw [e5]; exact i1', i2'⟩
    · exact .inr ⟨b', n', by rw [e5]; exact i1', i2', i3', by omega, tr b' i4' (by omega) (by omega) i5', tdB_l (tdB_fr i6' (fun x g1 g2 => eh x (by omega)) (fun _ _ _ => rfl)) (fun i g1 g2 => gl i (by omega)), tdF_pl i7' (plE_id (fun _ _ _ => rfl)) (eh _ (by omega)) (eh _ (by omega)), tdH_l (tdH_fr i8' (fun x g1 g2 => eh x (by omega))) (fun i g1 g2 => gl i (by omega))⟩
  · have old : ∀ k' b', k' < 3 → r 44 k' = some b' → b' + 43 ≤ l.length := by
      intro k' b' hk' e
      rcases I k' hk' (by omega) with ⟨i1', i2'⟩ | ⟨b2, n', i1', i2', i3', i4', _⟩
      · rw [i1'] at e; cases e
      · rw [i1'] at e; cases e; exact i4'
    intro p p' b b' hp hp' hpp e1 e2
    rw [e44] at e1 e2
    by_cases c1 : p = k
    · have c2 : ¬ p' = k := fun c => hpp (by omega)
      have e1' : some l.length = some b := by rw [← e1]; exact (if_pos c1).symm
      have e2' : r 44 p' = some b' := by rw [← e2]; exact (if_neg c2).symm
      cases e1'
      exact .inr (old p' b' hp' e2')
    · have e1' : r 44 p = some b := by rw [← e1]; exact (if_neg c1).symm
      by_cases c2 : p' = k
      · have e2' : some l.length = some b' := by rw [← e2]; exact (if_pos c2).symm
        cases e2'
        exact .inl (old p b hp e1')
      · have e2' : r 44 p' = some b' := by rw [← e2]; exact (if_neg c2).symm
        exact D p p' b b' hp hp' hpp e1' e2'
  · rw [e44]
    exact if_pos rfl
end IMAGE
