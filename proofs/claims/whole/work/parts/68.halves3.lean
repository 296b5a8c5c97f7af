/-! halves: the question -/
section HALVES
variable {l : List (Nat × Nat)} {r : am_R} {h h' hc hm hc0 hm0 : am_F} {d m k p b t s lim a q c i nb nc z j N T : Nat} {n : Nat → Nat} {f g g' : Nat → Int32} {x x1 x2 x3 x4 x5 x6 y u v sd : Int32}
theorem all_l (K : pkI l hc p g) (V : pkV g) (R : rwI l hc z 3 6 s f) (eg : hm (m + 12) = g) (e47 : hm m 47 = nI q) (hq : q < 8) (e9 : hm (m + 9) (19 * q) = nI s) (ef : f = fun i => hm (m + 9) (19 * q + 1 + i)) : ∀ (c i f1 f2 : Nat), i + c = s → c < f1 → c < f2 → (Wp_allThere_l2 l r p z hc f1 (nI i) = some 0 ∧ Md_halves_l26 m x3 x4 hm f2 (nI i) = some (-1, hm)) ∨ (Wp_allThere_l2 l r p z hc f1 (nI i) = some 1 ∧ ∃ f', Md_halves_l26 m x3 x4 hm f2 (nI i) = Md_halves_l26 m x3 x4 hm (f' + 1) (nI s)) := by
  have hs := R.2.2.2.1
  have ep := pln_at e47 hq e9
  have Vh : pkV (hm (m + 12)) := by rw [eg]; exact V
  intro c
  induction c with
  | zero =>
    intro i f1 f2 hi hf1 hf2
    obtain ⟨f1, rfl⟩ : ∃ q, f1 = q + 1 := ⟨f1 - 1, by omega⟩
    obtain ⟨f2, rfl⟩ : ∃ q, f2 = q + 1 := ⟨f2 - 1, by omega⟩
    have : i = s := by omega
    subst this
    refine .inr ⟨?_, f2, rfl⟩
    unfold Wp_allThere_l2
    rw [R.2.2.1, if_pos (nI_le (by omega) (by omega))]
  | succ c ih =>
    intro i f1 f2 hi hf1 hf2
    obtain ⟨f1, rfl⟩ : ∃ q, f1 = q + 1 := ⟨f1 - 1, by omega⟩
    obtain ⟨f2, rfl⟩ : ∃ q, f2 = q + 1 := ⟨f2 - 1, by omega⟩
    have e0 : Rw_get l r z (nI i) 0 hc = some (f (3 * i)) := Rw_get_at (c := 0) R (by omega) (by decide)
    have m0 : Md_planOf m (nI i) 0 hm = some (f (3 * i)) := plof_at (k := 0) e47 hq (by omega) (by decide) ef
    have uC : Wp_allThere_l2 l r p z hc (f1 + 1) (nI i) = if Pk_hasBench p (f (3 * i)) hc = 0 then some 0 else Wp_allThere_l2 l r p z hc f1 (nI (i + 1)) := by
      conv => lhs; unfold Wp_allThere_l2
      rw [R.2.2.1, if_neg (nI_ge (by omega) (by omega)), e0, Option.bind_some, nI_1]
    have uM : Md_halves_l26 m x3 x4 hm (f2 + 1) (nI i) = (Md_isBench m (f (3 * i)) hm).bind fun q19 => if q19 = 0 then some (-1, hm) else Md_halves_l26 m x3 x4 hm f2 (nI (i + 1)) := by
      conv => lhs; unfold Md_halves_l26
      rw [ep, Option.bind_some, if_neg (nI_ge (by omega) (by omega)), m0, Option.bind_some, nI_1]
    rw [uC, uM]
    rcases bench_cases V (f (3 * i)) with ⟨b, hb, e⟩ | hx
    · rw [e, Pk_hasBench_at K V hb, bench_yes Vh (by rw [eg]; exact hb), Option.bind_some, if_neg (show ¬ (1 : Int32) = 0 by decide), if_neg (show ¬ (1 : Int32) = 0 by decide)]
      exact ih (i + 1) f1 f2 (by omega) (by omega) (by omega)
    · rw [Pk_hasBench_no K hx, bench_no Vh (by rw [eg]; exact hx), Option.bind_some, if_pos rfl, if_pos rfl]
      exact .inl ⟨rfl, rfl⟩
theorem alw_eq (K : pkI l hc p g) (V : pkV g) (R : rwI l hc z 3 6 s f) (P : plV f s) (eg : hm (m + 12) = g) (e47 : hm m 47 = nI q) (hq : q < 8) (hs : s ≤ 6) (e9 : hm (m + 9) (19 * q) = nI s) (ef : f = fun i => hm (m + 9) (19 * q + 1 + i)) : ∃ a', (a' = 0 ∨ a' = 1) ∧ Wp_oneAlwaysDry l r p z hc = some (nI a') ∧ Md_isAlways m hm = some (nI a') := by
  have h3 := zN_V (pv_nb V) (by decide)
  have st : ∀ t, t < 48 → ∃ a', (a' = 0 ∨ a' = 1) ∧ Wp_oneAlwaysDry_l13 l r p z (nI t) hc g_fu 0 0 = some (nI a') ∧ Md_isAlways_l12 m (nI t) hm g_fu 0 0 = some (nI a') := by
    intro t ht
    obtain ⟨a', k1, k2, k3, _⟩ := bens_l (l := l) (r := r) (z := z) (p := p) (hc := hc) (hm := hm) (m := m) (y := nI t) (nb := nV (g 3)) (vf := fun b => vlN g f (g (56 + 4 * b)) t (lastP f (nI b) s 0 (-1))) (fun b => vlN_2) (by rw [K.1.2.2.2]; exact h3.1) (by rw [eg]; exact h3.1) (by omega) (fun b hb => one_at K V R P ht hb) (fun b hb => hasD_eq V eg e47 hq hs e9 ef P ht hb) (nV (g 3)) 0 g_fu g_fu 0 (by omega) (by unfold g_fu; omega) (by unfold g_fu; omega) (.inl rfl)
    exact ⟨a', k1, k2, k3⟩
  have hC : ∃ af : Nat → Nat, ∀ t, t < 48 → (af t = 0 ∨ af t = 1) ∧ Wp_oneAlwaysDry_l13 l r p z (nI t) hc g_fu 0 0 = some (nI (af t)) ∧ Md_isAlways_l12 m (nI t) hm g_fu 0 0 = some (nI (af t)) := by
    refine ⟨fun t => if ht : t < 48 then Classical.choose (st t ht) else 0, fun t ht => ?_⟩
    simp only [dif_pos ht]
    exact Classical.choose_spec (st t ht)
  obtain ⟨af, ha⟩ := hC
  exact alw_l (fun t ht => (ha t ht).2.1) (fun t ht => (ha t ht).2.2) (fun t ht => (ha t ht).1) 48 0 g_fu g_fu (by omega) (by unfold g_fu; omega) (by unfold g_fu; omega)
theorem q_halves (W : tdW r 1) (B : tdB l hc 1 hm m 0 n) : ∃ v hm', Wp_halves l r 0 x1 x2 x3 x4 hc = some v ∧ Md_halves m x1 x2 x3 x4 hm = some (v, hm') ∧ scM hm hm' m := by
  obtain ⟨h2, e1, e2⟩ := B.1 3 (by decide)
  unfold Wp_halves Md_halves Md_hasPlan
  simp only [Nat.zero_add]
  have S : scM hm (am_up (am_up hm m 0 0) m 47 x2) m := scM_tr (scM_up (.inl rfl)) (scM_up (.inl rfl))
  rcases rows_case W B (show 1 ≤ 3 by decide) (by decide) x2 with ⟨q1, hq1, hq2, rfl, e3⟩ | ⟨hx, e3⟩
  · obtain ⟨s, hs, es, R, P⟩ := B.2.2.2.2 q1 hq1
    have e3' : Tl_rowsAt l r 1 3 (nI q1) hc = some (some (1 + 22 + 19 * q1)) := e3
    have e4 := hasS_yes (m := m) (s := 3) hq1 h2 e2 (by decide) 47
    have e4' : Md_is m 3 (nI q1) (am_up (am_up hm m 0 0) m 47 (nI q1)) = some 1 := e4
    rw [e3', e4']
    generalize hh : am_up (am_up hm m 0 0) m 47 (nI q1) = h1 at *
    have h1x : ∀ x, x ≠ m → h1 x = hm x := by intro x hx; rw [← hh]; simp (disch := omega) only [z_upr]
    have h47 : h1 m 47 = nI q1 := by rw [← hh, z_ups, upz_s]
    have h0 : am_up h1 m 0 0 = h1 := up_self (by rw [← hh, z_ups, upz_n (by decide), z_ups, upz_s])
    have B1 : tdB l hc 1 h1 m 0 n := tdB_m B (fun x a b => h1x x (by omega))
    simp only [Option.bind_some, show g_bz 1 = some 1 from rfl, if_neg (show ¬ (1 : Int32) = 0 by decide)]
    rcases pk_case W B1 x1 with ⟨q, g, h', hq, p1, rfl, hqn, p2, eg, K, V, C, S2⟩ | ⟨p1, p2⟩
    · rw [h0] at p2
      obtain ⟨h'', u1, _, u3⟩ := hand_yes (hm := h1) (m := m) (B1.1 0 (by decide)).2.2 (B1.1 0 (by decide)).1 hqn
      rw [p2] at u1
      have : h' = h'' := (Prod.mk.inj (Option.some.inj u1)).2
      subst this
      generalize 1 + 5 + 19 * q = p at *
      generalize 1 + 22 + 19 * q1 = z at *
      rw [p1, p2]
      simp only [Option.bind_some, g_on, if_neg (show ¬ (1 : Int32) = 0 by decide)]
      have S3 := scM_tr S S2
      have e7 : h' (m + 9) = hm (m + 9) := by rw [u3 _ (by omega), h1x _ (by omega)]
      have e47 : h' m 47 = nI q1 := by rw [u3 _ (by omega)]; exact h47
      have es' : h' (m + 9) (19 * q1) = nI s := by rw [e7, ← es]; congr 1; omega
      have ef' : plG hm m 0 q1 = fun i => h' (m + 9) (19 * q1 + 1 + i) := by
        rw [e7]
        unfold plG
        funext i
        congr 1
        omega
      generalize plG hm m 0 q1 = f at *
      have hq8 : q1 < 8 := by omega
      rcases all_l (r := r) (x3 := x3) (x4 := x4) K V R eg e47 hq8 es' ef' s 0 g_fu g_fu (by omega) (by unfold g_fu; omega) (by unfold g_fu; omega) with ⟨a1, a2⟩ | ⟨a1, f', a2⟩
      · rw [show Wp_allThere l r p z hc = some 0 from a1, Option.bind_some, if_pos rfl, show Md_halves_l26 m x3 x4 h' g_fu 0 = some (-1, h') from a2]
        exact ⟨-1, h', rfl, rfl, S3⟩
      · rw [show Wp_allThere l r p z hc = some 1 from a1, Option.bind_some, if_neg (show ¬ (1 : Int32) = 0 by decide), show Md_halves_l26 m x3 x4 h' g_fu 0 = _ from a2]
        have ep := pln_at e47 hq8 es'
        unfold Md_halves_l26
        rw [ep, Option.bind_some, if_pos (nI_le (Nat.le_refl _) (by omega)), Option.bind_some, R.2.2.1]
        by_cases c1 : x3 = -1
        · rw [if_pos c1, if_pos c1]
          by_cases c2 : x4 = 0
          · rw [if_pos c2, if_pos c2]
            obtain ⟨a', k1, k2, k3⟩ := alw_eq (r := r) K V R P eg e47 hq8 hs es' ef'
            rw [k2, k3, Option.bind_some, Option.bind_some]
            rcases k1 with rfl | rfl
            · rw [if_pos (show nI 0 = 0 from rfl)]
              exact ⟨0, h', rfl, rfl, S3⟩
            · rw [if_neg (show ¬ nI 1 = 0 by decide)]
              exact ⟨1, h', rfl, rfl, S3⟩
          · rw [if_neg c2, if_neg c2]
            exact ⟨-1, h', rfl, rfl, S3⟩
        · rw [if_neg c1, if_neg c1]
          rcases pk_ix x3 (n := s) (by omega) with c | c | ⟨k, hk, rfl⟩
          · rw [if_pos c, Md_in_above (by omega) (.inl c), if_pos rfl]
            exact ⟨-1, h', rfl, rfl, S3⟩
          · rw [if_neg (show ¬ x3 < 0 from z_biglt c (k := 0) (by omega) (by omega)), if_pos c, Md_in_above (by omega) (.inr c), if_pos rfl]
            exact ⟨-1, h', rfl, rfl, S3⟩
          · rw [if_neg (nI_pos (show k < 2 ^ 31 by omega)), if_neg (nI_ge hk (by omega)), Md_in_below (by omega) hk, if_neg (show ¬ (1 : Int32) = 0 by decide)]
            rcases pk_ix x4 (n := 2) (by decide) with c | c | ⟨o, ho, rfl⟩
            · rw [if_pos c, show Md_in x4 0 1 = 0 from Md_in_no (.inl c), if_pos rfl]
              exact ⟨-1, h', rfl, rfl, S3⟩
            · rw [if_neg (show ¬ x4 < 0 from z_biglt c (k := 0) (by decide) (by decide)), if_neg (show ¬ x4 ≤ 1 from Int32.not_le.2 (z_biggt c (show 1 < 2 by decide) (by decide))), show Md_in x4 0 1 = 0 from Md_in_no (.inr (z_biggt c (show 1 < 2 by decide) (by decide))), if_pos rfl]
              exact ⟨-1, h', rfl, rfl, S3⟩
            · have o2 : o = 0 ∨ o = 1 := by omega
              rw [if_neg (nI_pos (show o < 2 ^ 31 by omega)), if_pos (show nI o ≤ 1 from nI_le (show o ≤ 1 by omega) (by decide)), show Md_in (nI o) 0 1 = 1 from Md_in_yes (show 0 ≤ o by omega) (show o ≤ 1 by omega) (by decide), if_neg (show ¬ (1 : Int32) = 0 by decide)]
              have i1 : (if nI o = 0 then some (1 : Int32) else some 2 : Option Int32) = some (nI (o + 1)) := by
                rcases o2 with rfl | rfl <;> rfl
              have i2 : (if nI o = 1 then some (1 : Int32) else some 0 : Option Int32) = some (nI o) := by
                rcases o2 with rfl | rfl <;> rfl
              rw [i1, i2, Option.bind_some, Option.bind_some]
              obtain ⟨w, b1, b2⟩ := hrs_l (r := r) K V R P eg e47 hq8 hs es' ef' hk o2 48 0 g_fu g_fu 0 (by omega) (by unfold g_fu; omega) (by unfold g_fu; omega)
              unfold Md_dryHours
              rw [show Wp_halves_l109 l r (nI k) p z (nI (o + 1)) hc g_fu 0 0 = some w from b1, show Md_dryHours_l5 m (nI k) (nI o) h' g_fu 0 0 = some w from b2]
              exact ⟨w, h', rfl, rfl, S3⟩
    · rw [h0] at p2
      rw [p1, p2]
      exact ⟨-1, h1, rfl, rfl, S⟩
  · have e3' : Tl_rowsAt l r 1 3 x2 hc = some none := e3
    have e4 := hasS_no (m := m) (s := 3) hx h2 e2 (by decide) 47 x2
    have e4' : Md_is m 3 x2 (am_up (am_up hm m 0 0) m 47 x2) = some 0 := e4
    rw [e3', e4']
    refine ⟨-1, _, ?_, rfl, S⟩
    rcases pk_case W B x1 with ⟨q, g, h', hq, p1, _⟩ | ⟨p1, _⟩
    · rw [p1]; rfl
    · rw [p1]; rfl
end HALVES
