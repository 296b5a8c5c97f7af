/-! halves: benches and hours -/
section HALVES
variable {l : List (Nat × Nat)} {r : am_R} {h h' hc hm hc0 hm0 : am_F} {d m k p b t s lim a q c i nb nc z j N T : Nat} {n : Nat → Nat} {f g g' : Nat → Int32} {x x1 x2 x3 x4 x5 x6 y u v sd : Int32}
theorem hasD_eq (V : pkV g) (eg : hm (m + 12) = g) (e47 : hm m 47 = nI q) (hq : q < 8) (hs : s ≤ 6) (e9 : hm (m + 9) (19 * q) = nI s) (ef : f = fun i => hm (m + 9) (19 * q + 1 + i)) (P : plV f s) (ht : t < 48) (hb : b < nV (g 3)) : Md_hasDry m (nI b) (nI t) hm = some (nI (vlN g f (g (56 + 4 * b)) t (lastP f (nI b) s 0 (-1)))) := by
  subst eg
  have h3 := zN_V (pv_nb V) (by decide)
  have ep := Md_painted_at (a := m) (h := hm) (b := b) (by omega)
  have ed := isDry_at (m := m) (hm := hm) V (pv_bench V b (by omega)).1 ht
  have el := hasD_l (x := hm (m + 12) (56 + 4 * b)) (y := nI b) V e47 hq hs e9 ef P ht s 0 g_fu (-1) (by omega) (by unfold g_fu; omega)
  unfold Md_hasDry
  rw [ep, Option.bind_some, ed, Option.bind_some]
  have e1 : vlN (hm (m + 12)) f (hm (m + 12) (56 + 4 * b)) t (-1) = dN (hm (m + 12)) (hm (m + 12) (56 + 4 * b)) t := by unfold vlN; rw [if_pos rfl]
  rw [e1] at el
  rw [show Md_hasDry_l14 m (nI b) (nI t) hm g_fu (nI (dN (hm (m + 12)) (hm (m + 12) (56 + 4 * b)) t)) 0 = _ from el, Option.bind_some]
  rcases vlN_2 (g := hm (m + 12)) (f := f) (x := hm (m + 12) (56 + 4 * b)) (t := t) (v := lastP f (nI b) s 0 (-1)) with e | e
  · rw [e]; rfl
  · rw [e]; rfl
theorem one_at (K : pkI l hc p g) (V : pkV g) (R : rwI l hc z 3 6 s f) (P : plV f s) (ht : t < 48) (hb : b < nV (g 3)) : ((Wp_lastToldOf l r z (nI b) hc).bind fun q4 => (if q4 = (-1 : Int32) then (Pk_stageOf p (nI b) (nI t) hc).bind fun q7 => if q7 = 0 then some (1 : Int32) else some (0 : Int32) else (Wp_dryHalves l r p z q4 (nI t) hc).bind fun q9 => if q9 ≤ 0 then some (0 : Int32) else some (1 : Int32) : Option Int32)) = some (nI (vlN g f (g (56 + 4 * b)) t (lastP f (nI b) s 0 (-1)))) := by
  have hs := R.2.2.2.1
  have el : Wp_lastToldOf l r z (nI b) hc = some (lastP f (nI b) s 0 (-1)) := by
    unfold Wp_lastToldOf
    rw [show Wp_lastToldOf_l4 l r z (nI b) hc g_fu (-1) 0 = _ from lastPC R s 0 g_fu (-1) (by omega) (by unfold g_fu; omega)]
    rfl
  rw [el, Option.bind_some]
  rcases lastP_z (f := f) (y := nI b) (s := s) s 0 (-1) (by omega) (.inl rfl) with e | ⟨k, hk, e⟩
  · rw [e, if_pos rfl, Pk_stageOf_at K V hb ht, Option.bind_some]
    have h3 := zN_V (pv_nb V) (by decide)
    obtain ⟨w, a1, a2⟩ := st_dry K V (pv_bench V b (by omega)).1 ht
    rw [Pk_stage_at K V (pv_bench V b (by omega)).1 ht] at a1
    rw [← Option.some.inj a1] at a2
    rw [a2]
    unfold vlN
    rw [if_pos rfl]
  · rw [e, if_neg (z_nem (by omega)), halv_at K V R P hk ht, Option.bind_some]
    unfold vlN
    rw [if_neg (z_nem (by omega)), nV_nI (by omega)]
    have h1 := dN_2 (g := g) (x := f (3 * k + 1)) (t := t)
    have h2 := dN_2 (g := g) (x := f (3 * k + 2)) (t := t)
    by_cases c : dN g (f (3 * k + 1)) t + dN g (f (3 * k + 2)) t = 0
    · rw [if_pos ((z_le0 (by omega)).2 c), if_pos c]; rfl
    · rw [if_neg (fun e => c ((z_le0 (by omega)).1 e)), if_neg c]; rfl
theorem bens_l {vf : Nat → Nat} (h2 : ∀ b, vf b = 0 ∨ vf b = 1) (e3 : hc p 3 = nI nb) (em : hm (m + 12) 3 = nI nb) (hnb : nb ≤ 6) (hC : ∀ b, b < nb → ((Wp_lastToldOf l r z (nI b) hc).bind fun q4 => (if q4 = (-1 : Int32) then (Pk_stageOf p (nI b) y hc).bind fun q7 => if q7 = 0 then some (1 : Int32) else some (0 : Int32) else (Wp_dryHalves l r p z q4 y hc).bind fun q9 => if q9 ≤ 0 then some (0 : Int32) else some (1 : Int32) : Option Int32)) = some (nI (vf b))) (hM : ∀ b, b < nb → Md_hasDry m (nI b) y hm = some (nI (vf b))) : ∀ (c i f1 f2 a : Nat), i + c = nb → c < f1 → c < f2 → (a = 0 ∨ a = 1) → ∃ a', (a' = 0 ∨ a' = 1) ∧ Wp_oneAlwaysDry_l13 l r p z y hc f1 (nI a) (nI i) = some (nI a') ∧ Md_isAlways_l12 m y hm f2 (nI a) (nI i) = some (nI a') ∧ (a = 1 → a' = 1) := by
  intro c
  induction c with
  | zero =>
    intro i f1 f2 a hi hf1 hf2 ha
    obtain ⟨f1, rfl⟩ : ∃ q, f1 = q + 1 := ⟨f1 - 1, by omega⟩
    obtain ⟨f2, rfl⟩ : ∃ q, f2 = q + 1 := ⟨f2 - 1, by omega⟩
    unfold Wp_oneAlwaysDry_l13 Md_isAlways_l12
    rw [e3, em, if_pos (nI_le (by omega) (by omega)), if_pos (nI_le (by omega) (by omega))]
    exact ⟨a, ha, rfl, rfl, fun e => e⟩
  | succ c ih =>
    intro i f1 f2 a hi hf1 hf2 ha
    obtain ⟨f1, rfl⟩ : ∃ q, f1 = q + 1 := ⟨f1 - 1, by omega⟩
    obtain ⟨f2, rfl⟩ : ∃ q, f2 = q + 1 := ⟨f2 - 1, by omega⟩
    unfold Wp_oneAlwaysDry_l13 Md_isAlways_l12
    rw [e3, em, if_neg (nI_ge (by omega) (by omega)), if_neg (nI_ge (by omega) (by omega))]
    rcases ha with rfl | rfl
    · rw [if_pos (show nI 0 = 0 from rfl), if_pos (show nI 0 = 0 from rfl), hM i (by omega), Option.bind_some]
      have hc1 := hC i (by omega)
      rw [← Option.bind_assoc, hc1, Option.bind_some]
      obtain ⟨a', k1, k2, k3, _⟩ := ih (i + 1) f1 f2 (vf i) (by omega) (by omega) (by omega) (h2 i)
      refine ⟨a', k1, ?_, ?_, fun e => by omega⟩
      · rw [nI_1]; exact k2
      · have : (if nI (vf i) = 0 then some (0 : Int32) else some 1 : Option Int32) = some (nI (vf i)) := by
          rcases h2 i with e | e
          · rw [e]; rfl
          · rw [e]; rfl
        rw [this, Option.bind_some, nI_1]
        exact k3
    · rw [if_neg (show ¬ nI 1 = 0 by decide), if_neg (show ¬ nI 1 = 0 by decide), Option.bind_some, nI_1]
      obtain ⟨a', k1, _, k3, k4⟩ := ih (i + 1) (c + 1) f2 1 (by omega) (by omega) (by omega) (.inr rfl)
      have := k4 rfl
      subst this
      exact ⟨1, .inr rfl, rfl, k3, fun _ => rfl⟩
theorem alw_l {af : Nat → Nat} (hC : ∀ t, t < 48 → Wp_oneAlwaysDry_l13 l r p z (nI t) hc g_fu 0 0 = some (nI (af t))) (hM : ∀ t, t < 48 → Md_isAlways_l12 m (nI t) hm g_fu 0 0 = some (nI (af t))) (h2 : ∀ t, t < 48 → af t = 0 ∨ af t = 1) : ∀ (c i f1 f2 : Nat), i + c = 48 → c < f1 → c < f2 → ∃ a', (a' = 0 ∨ a' = 1) ∧ Wp_oneAlwaysDry_l2 l r p z hc f1 (nI i) = some (nI a') ∧ Md_isAlways_l2 m hm f2 (nI i) = some (nI a') := by
  intro c
  induction c with
  | zero =>
    intro i f1 f2 hi hf1 hf2
    obtain ⟨f1, rfl⟩ : ∃ q, f1 = q + 1 := ⟨f1 - 1, by omega⟩
    obtain ⟨f2, rfl⟩ : ∃ q, f2 = q + 1 := ⟨f2 - 1, by omega⟩
    unfold Wp_oneAlwaysDry_l2 Md_isAlways_l2
    rw [if_pos (show (48 : Int32) ≤ nI i from nI_le (show 48 ≤ i by omega) (by omega)), if_pos (show (48 : Int32) ≤ nI i from nI_le (show 48 ≤ i by omega) (by omega))]
    exact ⟨1, .inr rfl, rfl, rfl⟩
  | succ c ih =>
    intro i f1 f2 hi hf1 hf2
    obtain ⟨f1, rfl⟩ : ∃ q, f1 = q + 1 := ⟨f1 - 1, by omega⟩
    obtain ⟨f2, rfl⟩ : ∃ q, f2 = q + 1 := ⟨f2 - 1, by omega⟩
    unfold Wp_oneAlwaysDry_l2 Md_isAlways_l2
    rw [if_neg (show ¬ (48 : Int32) ≤ nI i from nI_ge (show i < 48 by omega) (by decide)), if_neg (show ¬ (48 : Int32) ≤ nI i from nI_ge (show i < 48 by omega) (by decide)), hC i (by omega), hM i (by omega)]
    simp only [Option.bind_some, nI_1]
    rcases h2 i (by omega) with e | e
    · rw [e, if_pos (show nI 0 = 0 from rfl), if_pos (show nI 0 = 0 from rfl)]
      exact ⟨0, .inl rfl, rfl, rfl⟩
    · rw [e, if_neg (show ¬ nI 1 = 0 by decide), if_neg (show ¬ nI 1 = 0 by decide)]
      exact ih (i + 1) f1 f2 (by omega) (by omega) (by omega)
theorem hrs_l (K : pkI l hc p g) (V : pkV g) (R : rwI l hc z 3 6 s f) (P : plV f s) (eg : hm (m + 12) = g) (e47 : hm m 47 = nI q) (hq : q < 8) (hs : s ≤ 6) (e9 : hm (m + 9) (19 * q) = nI s) (ef : f = fun i => hm (m + 9) (19 * q + 1 + i)) (hk : k < s) {o : Nat} (ho : o = 0 ∨ o = 1) : ∀ (c i f1 f2 : Nat) (v : Int32), i + c = 48 → c < f1 → c < f2 → ∃ w, Wp_halves_l109 l r (nI k) p z (nI (o + 1)) hc f1 v (nI i) = some w ∧ Md_dryHours_l5 m (nI k) (nI o) hm f2 v (nI i) = some w := by
  obtain ⟨_, p1, p2⟩ := P k hk
  have e1 : Md_planOf m (nI k) 1 hm = some (f (3 * k + 1)) := plof_at (k := 1) e47 hq (by omega) (by decide) ef
  have e2 : Md_planOf m (nI k) 2 hm = some (f (3 * k + 2)) := plof_at (k := 2) e47 hq (by omega) (by decide) ef
  have Vh : pkV (hm (m + 12)) := by rw [eg]; exact V
  intro c
  induction c with
  | zero =>
    intro i f1 f2 v hi hf1 hf2
    obtain ⟨f1, rfl⟩ : ∃ q, f1 = q + 1 := ⟨f1 - 1, by omega⟩
    obtain ⟨f2, rfl⟩ : ∃ q, f2 = q + 1 := ⟨f2 - 1, by omega⟩
    unfold Wp_halves_l109 Md_dryHours_l5
    rw [if_pos (show (48 : Int32) ≤ nI i from nI_le (show 48 ≤ i by omega) (by omega)), if_pos (show (48 : Int32) ≤ nI i from nI_le (show 48 ≤ i by omega) (by omega))]
    exact ⟨v, rfl, rfl⟩
  | succ c ih =>
    intro i f1 f2 v hi hf1 hf2
    obtain ⟨f1, rfl⟩ : ∃ q, f1 = q + 1 := ⟨f1 - 1, by omega⟩
    obtain ⟨f2, rfl⟩ : ∃ q, f2 = q + 1 := ⟨f2 - 1, by omega⟩
    have d1 := isDry_at (t := i) Vh (.inr p1) (by omega)
    have d2 := isDry_at (t := i) Vh (.inr p2) (by omega)
    rw [eg] at d1 d2
    unfold Wp_halves_l109 Md_dryHours_l5
    rw [if_neg (show ¬ (48 : Int32) ≤ nI i from nI_ge (show i < 48 by omega) (by decide)), if_neg (show ¬ (48 : Int32) ≤ nI i from nI_ge (show i < 48 by omega) (by decide)), halv_at K V R P hk (by omega), e1, e2]
    simp only [Option.bind_some, d1, d2, nI_1]
    have go := fun v => ih (i + 1) f1 f2 v (by omega) (by omega) (by omega)
    have v0 : v + 0 = v := Int32.add_zero v
    rcases dN_2 (g := g) (x := f (3 * k + 1)) (t := i) with a1 | a1
    · rcases dN_2 (g := g) (x := f (3 * k + 2)) (t := i) with a2 | a2
      · rw [a1, a2]
        rcases ho with rfl | rfl
        · have := go (v + 0); rw [v0] at this; have t2 := go (v + 0); rw [v0] at t2; simpa (config := { decide := true }) [v0] using go v
        · simpa (config := { decide := true }) [v0] using go v
      · rw [a1, a2]
        rcases ho with rfl | rfl
        · simpa (config := { decide := true }) [v0] using go (v + 1)
        · simpa (config := { decide := true }) [v0] using go v
    · rcases dN_2 (g := g) (x := f (3 * k + 2)) (t := i) with a2 | a2
      · rw [a1, a2]
        rcases ho with rfl | rfl
        · simpa (config := { decide := true }) [v0] using go (v + 1)
        · simpa (config := { decide := true }) [v0] using go v
      · rw [a1, a2]
        rcases ho with rfl | rfl
        · simpa (config := { decide := true }) [v0] using go (v + 1)
        · simpa (config := { decide := true }) [v0] using go (v + 1)
end HALVES
