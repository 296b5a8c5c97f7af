/-! sights, alarms, plans -/
theorem mI1_lt : mI1 < 0 := by decide
theorem m12_ne : (mI1 = mI2) = False := eq_false (by decide)
section ASK
variable {l : List (Nat × Nat)} {r : am_R} {hc hm : am_F} {m k p b t s w lim : Nat} {n : Nat → Nat} {f g : Nat → Int32} {x x1 x2 x3 x4 y : Int32}
theorem rows_case (W : tdW r b) (B : tdB l hc b hm m k n) (hs : 1 ≤ s) (hs4 : s < 4) (x : Int32) : (∃ q, q < n s ∧ q < 2 ∧ x = nI q ∧ Tl_rowsAt l r b (nI s) x hc = some (some (b + 16 + 2 * s + 19 * q))) ∨ ((x < 0 ∨ nI (n s) ≤ x) ∧ Tl_rowsAt l r b (nI s) x hc = some none) := by
  obtain ⟨h2, e1, _⟩ := B.1 s hs4
  unfold Tl_rowsAt
  rcases pk_ix x (n := n s) (by omega) with c | c | ⟨q, hq, rfl⟩
  · refine .inr ⟨.inl c, ?_⟩
    simp (disch := omega) only [↓z_neg, z_lits, nI_eq, nI_ltI, nI_leI, nI_add, pk_mul, pk_sub, z_ix, if_pos, if_neg, if_true, if_false, Option.bind_some, m_eq, m_qe, m_lt, m_tl, m_le, m_el, Md_in_N, z_lesser, z_greater, z_ngE c, z_ngQ c, z_ngL c, z_ngR c, z_ngS c, Md_in_neg c]
  · refine .inr ⟨.inr c, ?_⟩
    simp (disch := omega) only [↓z_neg, z_lits, nI_eq, nI_ltI, nI_leI, nI_add, pk_mul, pk_sub, z_ix, if_pos, if_neg, if_true, if_false, Option.bind_some, m_eq, m_qe, m_lt, m_tl, m_le, m_el, Md_in_N, z_lesser, z_greater, e1, z_bgE c, z_bgQ c, z_bgL c, z_bgR c, z_bgS c, Md_in_big c]
    repeat' split
    all_goals rfl
  · refine .inl ⟨q, hq, by omega, rfl, ?_⟩
    simp (disch := omega) only [↓z_neg, z_lits, nI_eq, nI_ltI, nI_leI, nI_add, pk_mul, pk_sub, z_ix, if_pos, if_neg, if_true, if_false, Option.bind_some, m_eq, m_qe, m_lt, m_tl, m_le, m_el, Md_in_N, z_lesser, z_greater, e1]
    have := W.2 q (by omega)
    match s, hs, hs4 with
    | 1, _, _ => rw [show 1 * 2 + q = 2 + q by omega, this.1, show b + 18 + 19 * q = b + 16 + 2 * 1 + 19 * q by omega]
    | 2, _, _ => rw [show 2 * 2 + q = 4 + q by omega, this.2.1, show b + 20 + 19 * q = b + 16 + 2 * 2 + 19 * q by omega]
    | 3, _, _ => rw [show 3 * 2 + q = 6 + q by omega, this.2.2, show b + 22 + 19 * q = b + 16 + 2 * 3 + 19 * q by omega]
theorem ans_rows (H : rwI l hc p w lim s f) (x1 x2 : Int32) : (x1 = -1 ∧ x2 = 0 ∧ Wp_rowsAnswer l r (some p) x1 x2 hc = some (nI s)) ∨ (∃ k c, k < s ∧ c < w ∧ x1 = nI k ∧ x2 = nI c ∧ Wp_rowsAnswer l r (some p) x1 x2 hc = some (f (w * k + c))) ∨ ((x1 < 0 ∨ nI s ≤ x1 ∨ x2 < 0 ∨ nI w ≤ x2) ∧ ¬ (x1 = -1 ∧ x2 = 0) ∧ Wp_rowsAnswer l r (some p) x1 x2 hc = some (-2)) := by
  have h14 := H.2.2.2.2.2.2.1
  have h6 := H.2.2.2.2.2.1
  have hs := H.2.2.2.1
  unfold Wp_rowsAnswer
  simp only [g_on]
  by_cases c1 : x1 = -1
  · subst c1
    by_cases c2 : x2 = 0
    · subst c2
      exact .inl ⟨rfl, rfl, by rw [if_pos rfl, if_pos rfl, H.2.2.1]⟩
    · refine .inr (.inr ⟨.inl (by decide), fun e => c2 e.2, ?_⟩)
      rw [if_pos rfl, if_neg c2, Rw_has_no H (.inl (by decide)), if_pos rfl]
  · rcases Rw_cases s w (by omega) (by omega) x1 x2 with ⟨k, c, hk, hc', rfl, rfl⟩ | hx
    · refine .inr (.inl ⟨k, c, hk, hc', rfl, rfl, ?_⟩)
      rw [if_neg c1, Rw_has_at H hk hc', if_neg (by decide), Rw_get_at H hk hc']
      rfl
    · refine .inr (.inr ⟨hx, fun e => c1 e.1, ?_⟩)
      rw [if_neg c1, Rw_has_no H hx, if_pos rfl]
theorem hasS_yes {q N s : Nat} (hq : q < N) (hN : N ≤ 2) (e : hm (m + 5) s = nI N) (hs : s < 16) (f : Nat) : (Md_is m (nI s) (nI q) (am_up (am_up hm m 0 0) m f (nI q))) = some 1 := Md_is_yes hs (by simp (disch := omega) only [z_upr]; exact e) (by omega) hq
theorem hasS_no {N s : Nat} (hx : x < 0 ∨ nI N ≤ x) (hN : N ≤ 2) (e : hm (m + 5) s = nI N) (hs : s < 16) (f : Nat) (v : Int32) : (Md_is m (nI s) x (am_up (am_up hm m 0 0) m f v)) = some 0 := Md_is_no hs (by simp (disch := omega) only [z_upr]; exact e) (by omega) hx
theorem in_rows {s w : Nat} (hs : s < 100) (hw : w < 100) (hx : x1 < 0 ∨ nI s ≤ x1 ∨ x2 < 0 ∨ nI w ≤ x2) {α : Type} (A : α) (B : α) : (if Md_in x1 0 (nI s - 1) = 0 then A else if Md_in x2 0 (nI w - 1) = 0 then A else B) = A := by
  rcases hx with h | h | h | h
  · rw [Md_in_above (by omega) (.inl h), if_pos rfl]
  · rw [Md_in_above (by omega) (.inr h), if_pos rfl]
  · split
    · rfl
    · rw [Md_in_above (by omega) (.inl h), if_pos rfl]
  · split
    · rfl
    · rw [Md_in_above (by omega) (.inr h), if_pos rfl]
theorem q_sight (W : tdW r 1) (B : tdB l hc 1 hm m 0 n) : ∃ v hm', Wp_sight l r 0 x1 x2 x3 hc = some v ∧ Md_sight m x1 x2 x3 hm = some (v, hm') ∧ scM hm hm' m := by
  obtain ⟨h2, e1, e2⟩ := B.1 1 (by decide)
  unfold Wp_sight Md_sight Md_hasSight
  simp only [Nat.zero_add]
  have S : scM hm (am_up (am_up hm m 0 0) m 43 x1) m := scM_tr (scM_up (.inl rfl)) (scM_up (.inl rfl))
  rcases rows_case W B (show 1 ≤ 1 by decide) (by decide) x1 with ⟨q, hq, hq2, rfl, e3⟩ | ⟨hx, e3⟩
  · obtain ⟨s, hs, es, H, V⟩ := B.2.2.1 q hq
    have e3' : Tl_rowsAt l r 1 1 (nI q) hc = some (some (1 + 18 + 19 * q)) := e3
    have e4 := hasS_yes (m := m) (s := 1) hq h2 e2 (by decide) 43
    have e4' : Md_is m 1 (nI q) (am_up (am_up hm m 0 0) m 43 (nI q)) = some 1 := e4
    rw [e3', e4']
    generalize hh : am_up (am_up hm m 0 0) m 43 (nI q) = h1 at *
    have h43 : h1 m 43 = nI q := by rw [← hh, z_ups, upz_s]
    have h7 : h1 (m + 7) = hm (m + 7) := by rw [← hh]; simp (disch := omega) only [z_upr]
    have ep : Md_prints m h1 = some (nI s) := by
      unfold Md_prints
      rw [h43, show (31 : Int32) = nI 31 from rfl, pk_mul, z_ix (by omega) (by decide), Option.bind_some, h7, ← es, show 31 * (2 * 0 + q) = 31 * q by omega]
    simp only [Option.bind_some, ep, show g_bz 1 = some 1 from rfl]
    rcases ans_rows (r := r) H x2 x3 with ⟨rfl, rfl, e5⟩ | ⟨k, c, hk, hc', rfl, rfl, e5⟩ | ⟨hx, hn, e5⟩
    · rw [e5]
      exact ⟨_, h1, rfl, rfl, S⟩
    · have eo : Md_printOf m (nI k) (nI c) h1 = some (siG hm m 0 q (3 * k + c)) := by
        unfold Md_printOf siG
        rw [h43, h7]
        simp (disch := omega) only [↓z_neg, z_lits, nI_eq, nI_ltI, nI_leI, nI_add, pk_mul, pk_sub, z_ix, if_pos, if_neg, if_true, if_false, Option.bind_some, m_eq, m_qe, m_lt, m_tl, m_le, m_el, Md_in_N, z_lesser, z_greater]
        congr 2
        omega
      rw [e5, if_neg (show ¬ (1 : Int32) = 0 by decide), if_neg (z_nem (by omega)), Md_in_below (by omega) hk, if_neg (by decide), show Md_in (nI c) 0 2 = 1 from Md_in_yes (show 0 ≤ c by omega) (show c ≤ 2 by omega) (by decide), if_neg (by decide), eo]
      exact ⟨_, h1, rfl, rfl, S⟩
    · rw [e5]
      refine ⟨-2, h1, rfl, ?_, S⟩
      rw [if_neg (show ¬ (1 : Int32) = 0 by decide)]
      by_cases c1 : x2 = -1
      · rw [if_pos c1, if_neg (fun e => hn ⟨c1, e⟩)]
      · rw [if_neg c1]
        exact in_rows (s := s) (w := 3) (by omega) (by decide) hx _ _
  · have e3' : Tl_rowsAt l r 1 1 x1 hc = some none := e3
    have e4 := hasS_no (m := m) (s := 1) hx h2 e2 (by decide) 43 x1
    have e4' : Md_is m 1 x1 (am_up (am_up hm m 0 0) m 43 x1) = some 0 := e4
    rw [e3', e4']
    exact ⟨-2, _, rfl, rfl, S⟩
theorem q_plan (W : tdW r 1) (B : tdB l hc 1 hm m 0 n) : ∃ v hm', Wp_plan l r 0 x1 x2 x3 hc = some v ∧ Md_plan m x1 x2 x3 hm = some (v, hm') ∧ scM hm hm' m := by
  obtain ⟨h2, e1, e2⟩ := B.1 3 (by decide)
  unfold Wp_plan Md_plan Md_hasPlan
  simp only [Nat.zero_add]
  have S : scM hm (am_up (am_up hm m 0 0) m 47 x1) m := scM_tr (scM_up (.inl rfl)) (scM_up (.inl rfl))
  rcases rows_case W B (show 1 ≤ 3 by decide) (by decide) x1 with ⟨q, hq, hq2, rfl, e3⟩ | ⟨hx, e3⟩
  · obtain ⟨s, hs, es, H, V⟩ := B.2.2.2.2 q hq
    have e3' : Tl_rowsAt l r 1 3 (nI q) hc = some (some (1 + 22 + 19 * q)) := e3
    have e4 := hasS_yes (m := m) (s := 3) hq h2 e2 (by decide) 47
    have e4' : Md_is m 3 (nI q) (am_up (am_up hm m 0 0) m 47 (nI q)) = some 1 := e4
    rw [e3', e4']
    generalize hh : am_up (am_up hm m 0 0) m 47 (nI q) = h1 at *
    have h43 : h1 m 47 = nI q := by rw [← hh, z_ups, upz_s]
    have h7 : h1 (m + 9) = hm (m + 9) := by rw [← hh]; simp (disch := omega) only [z_upr]
    have ep : Md_planMany m h1 = some (nI s) := by
      unfold Md_planMany
      rw [h43, show (19 : Int32) = nI 19 from rfl, pk_mul, z_ix (by omega) (by decide), Option.bind_some, h7, ← es, show 19 * (2 * 0 + q) = 19 * q by omega]
    simp only [Option.bind_some, ep, show g_bz 1 = some 1 from rfl]
    rcases ans_rows (r := r) H x2 x3 with ⟨rfl, rfl, e5⟩ | ⟨k, c, hk, hc', rfl, rfl, e5⟩ | ⟨hx, hn, e5⟩
    · rw [e5]
      exact ⟨_, h1, rfl, rfl, S⟩
    · have eo : Md_planOf m (nI k) (nI c) h1 = some (plG hm m 0 q (3 * k + c)) := by
        unfold Md_planOf plG
        rw [h43, h7]
        simp (disch := omega) only [↓z_neg, z_lits, nI_eq, nI_ltI, nI_leI, nI_add, pk_mul, pk_sub, z_ix, if_pos, if_neg, if_true, if_false, Option.bind_some, m_eq, m_qe, m_lt, m_tl, m_le, m_el, Md_in_N, z_lesser, z_greater]
        congr 2
        omega
      rw [e5, if_neg (show ¬ (1 : Int32) = 0 by decide), if_neg (z_nem (by omega)), Md_in_below (by omega) hk, if_neg (by decide), show Md_in (nI c) 0 2 = 1 from Md_in_yes (show 0 ≤ c by omega) (show c ≤ 2 by omega) (by decide), if_neg (by decide), eo]
      exact ⟨_, h1, rfl, rfl, S⟩
    · rw [e5]
      refine ⟨-2, h1, rfl, ?_, S⟩
      rw [if_neg (show ¬ (1 : Int32) = 0 by decide)]
      by_cases c1 : x2 = -1
      · rw [if_pos c1, if_neg (fun e => hn ⟨c1, e⟩)]
      · rw [if_neg c1]
        exact in_rows (s := s) (w := 3) (by omega) (by decide) hx _ _
  · have e3' : Tl_rowsAt l r 1 3 x1 hc = some none := e3
    have e4 := hasS_no (m := m) (s := 3) hx h2 e2 (by decide) 47 x1
    have e4' : Md_is m 3 x1 (am_up (am_up hm m 0 0) m 47 x1) = some 0 := e4
    rw [e3', e4']
    exact ⟨-2, _, rfl, rfl, S⟩
theorem less_eq (u v : Int32) : (if v < u then v else u) = Md_lesser u v := by
  unfold Md_lesser
  by_cases c1 : v < u
  · rw [if_pos c1, if_pos (Int32.le_of_lt c1)]
  · rw [if_neg c1]
    by_cases c2 : v ≤ u
    · rw [if_pos c2]
      exact Int32.le_antisymm (Int32.not_lt.1 c1) c2
    · rw [if_neg c2]
def fallZ (f : Nat → Int32) (k : Nat) : Int32 := Md_lesser (f (4 * k) * f (4 * k + 2)) (f (4 * k + 1) * f (4 * k + 3)) - f (4 * k) * Md_lesser (f (4 * k + 2)) (f (4 * k + 3))
theorem mend_eq {h1 : am_F} (H : rwI l hc p 4 8 s f) (em : Md_alarmMany m h1 = some (nI s)) (eo : ∀ k c, k < s → c < 4 → Md_alarmOf m (nI k) (nI c) h1 = some (f (4 * k + c))) : ∀ (c k f1 f2 : Nat) (x1 x2 x3 : Int32), k + c = s → c < f1 → c < f2 → (x1 = -1 ∨ ∃ j, j < s ∧ x1 = nI j ∧ x2 = fallZ f j ∧ x3 = f (4 * j + 1)) → ∃ w, Wp_alarmToMend_l9 l r p hc f1 x1 x2 x3 (nI k) = some w ∧ Md_mend_l4 m h1 f2 x1 (nI k) = some w := by
  have hs := H.2.2.2.1
  have fc : ∀ k, k < s → Wp_fallTimesOf l r p (nI k) hc = some (fallZ f k) := by
    intro k hk
    have a0 := Rw_get_at (r := r) (c := 0) H hk (by decide)
    have a1 := Rw_get_at (r := r) (c := 1) H hk (by decide)
    have a2 := Rw_get_at (r := r) (c := 2) H hk (by decide)
    have a3 := Rw_get_at (r := r) (c := 3) H hk (by decide)
    unfold Wp_fallTimesOf Wp_costTimesOf Wp_costUnheeded Wp_costHeeded fallZ
    simp only [z_lits]
    simp only [a0, a1, a2, a3, Option.bind_some, less_eq]
    rfl
  have fm : ∀ k, k < s → Md_falls m (nI k) h1 = some (fallZ f k) := by
    intro k hk
    have a0 := eo k 0 hk (by decide)
    have a1 := eo k 1 hk (by decide)
    have a2 := eo k 2 hk (by decide)
    have a3 := eo k 3 hk (by decide)
    unfold Md_falls Md_costOf fallZ
    simp only [z_lits]
    simp only [a0, a1, a2, a3, Option.bind_some]
    rfl
  intro c
  induction c with
  | zero =>
    intro k f1 f2 x1 x2 x3 hk hf1 hf2 hx
    obtain ⟨f1, rfl⟩ : ∃ q, f1 = q + 1 := ⟨f1 - 1, by omega⟩
    obtain ⟨f2, rfl⟩ : ∃ q, f2 = q + 1 := ⟨f2 - 1, by omega⟩
    unfold Wp_alarmToMend_l9 Md_mend_l4
    rw [H.2.2.1, em, Option.bind_some, if_pos (nI_le (by omega) (by omega)), if_pos (nI_le (by omega) (by omega))]
    exact ⟨x1, rfl, rfl⟩
  | succ c ih =>
    intro k f1 f2 x1 x2 x3 hk hf1 hf2 hx
    obtain ⟨f1, rfl⟩ : ∃ q, f1 = q + 1 := ⟨f1 - 1, by omega⟩
    obtain ⟨f2, rfl⟩ : ∃ q, f2 = q + 1 := ⟨f2 - 1, by omega⟩
    have hk1 : k < s := by omega
    have a1 : Rw_get l r p (nI k) 1 hc = some (f (4 * k + 1)) := Rw_get_at (r := r) (c := 1) H hk1 (by decide)
    have b1 : Md_alarmOf m (nI k) 1 h1 = some (f (4 * k + 1)) := eo k 1 hk1 (by decide)
    unfold Wp_alarmToMend_l9 Md_mend_l4
    rw [H.2.2.1, em, Option.bind_some, if_neg (nI_ge hk1 (by omega)), if_neg (nI_ge hk1 (by omega)), fc k hk1, Option.bind_some, a1, Option.bind_some, nI_1]
    rcases hx with rfl | ⟨j, hj, rfl, rfl, rfl⟩
    · rw [if_pos rfl, if_pos rfl, Option.bind_some, Option.bind_some]
      exact ih (k + 1) f1 f2 _ _ _ (by omega) (by omega) (by omega) (.inr ⟨k, hk1, rfl, rfl, rfl⟩)
    · have c1 : Md_alarmOf m (nI j) 1 h1 = some (f (4 * j + 1)) := eo j 1 hj (by decide)
      simp only [if_neg (z_nem (show j < 2 ^ 31 by omega)), fm k hk1, fm j hj, b1, c1, Option.bind_some]
      by_cases d : fallZ f k * f (4 * j + 1) ≤ fallZ f j * f (4 * k + 1)
      · simp only [if_pos d, Option.bind_some]
        exact ih (k + 1) f1 f2 _ _ _ (by omega) (by omega) (by omega) (.inr ⟨j, hj, rfl, rfl, rfl⟩)
      · simp only [if_neg d, Option.bind_some]
        exact ih (k + 1) f1 f2 _ _ _ (by omega) (by omega) (by omega) (.inr ⟨k, hk1, rfl, rfl, rfl⟩)
theorem q_alarm (W : tdW r 1) (B : tdB l hc 1 hm m 0 n) : ∃ v hm', Wp_alarm l r 0 x1 x2 x3 hc = some v ∧ Md_alarm m x1 x2 x3 hm = some (v, hm') ∧ scM hm hm' m := by
  obtain ⟨h2, e1, e2⟩ := B.1 2 (by decide)
  unfold Wp_alarm Md_alarm
  simp only [Nat.zero_add]
  have S : scM hm (am_up (am_up hm m 0 0) m 46 x1) m := scM_tr (scM_up (.inl rfl)) (scM_up (.inl rfl))
  rcases rows_case W B (show 1 ≤ 2 by decide) (by decide) x1 with ⟨q, hq, hq2, rfl, e3⟩ | ⟨hx, e3⟩
  · obtain ⟨s, hs, es, H, V⟩ := B.2.2.2.1 q hq
    have e3' : Tl_rowsAt l r 1 2 (nI q) hc = some (some (1 + 20 + 19 * q)) := e3
    have e4 := hasS_yes (m := m) (s := 2) hq h2 e2 (by decide) 46
    have e4' : Md_is m 2 (nI q) (am_up (am_up hm m 0 0) m 46 (nI q)) = some 1 := e4
    rw [e3', e4']
    generalize hh : am_up (am_up hm m 0 0) m 46 (nI q) = h1 at *
    generalize 1 + 20 + 19 * q = p at *
    have h43 : h1 m 46 = nI q := by rw [← hh, z_ups, upz_s]
    have h7 : h1 (m + 8) = hm (m + 8) := by rw [← hh]; simp (disch := omega) only [z_upr]
    have em : Md_alarmMany m h1 = some (nI s) := by
      unfold Md_alarmMany
      rw [h43, show (33 : Int32) = nI 33 from rfl, pk_mul, z_ix (by omega) (by decide), Option.bind_some, h7, ← es, show 33 * (2 * 0 + q) = 33 * q by omega]
    have eo : ∀ k c, k < s → c < 4 → Md_alarmOf m (nI k) (nI c) h1 = some (alG hm m 0 q (4 * k + c)) := by
      intro k c hk hc'
      unfold Md_alarmOf alG
      rw [h43, h7]
      simp (disch := omega) only [↓z_neg, z_lits, nI_eq, nI_ltI, nI_leI, nI_add, pk_mul, pk_sub, z_ix, if_pos, if_neg, if_true, if_false, Option.bind_some, m_eq, m_qe, m_lt, m_tl, m_le, m_el, Md_in_N, z_lesser, z_greater]
      congr 2
      omega
    have hN : ¬ (-1 : Int32) = 0 := by decide
    simp only [Option.bind_some, em, g_on, if_neg (show ¬ (1 : Int32) = 0 by decide)]
    by_cases c1 : x2 = -1
    · simp only [if_pos c1]
      by_cases c3 : x3 = 1
      · have c30 : ¬ x3 = 0 := by rw [c3]; decide
        obtain ⟨w, w1, w2⟩ := mend_eq (r := r) H em eo s 0 g_fu g_fu (-1) 0 1 (by omega) (by unfold g_fu; omega) (by unfold g_fu; omega) (.inl rfl)
        have w1' : Wp_alarmToMend l r p hc = some w := by unfold Wp_alarmToMend; rw [show Wp_alarmToMend_l9 l r p hc g_fu (-1) 0 1 0 = some w from w1]; rfl
        have w2' : Md_mend m h1 = some w := by unfold Md_mend; rw [show Md_mend_l4 m h1 g_fu (-1) 0 = some w from w2]; rfl
        simp only [if_pos c3, if_neg c30, w1', w2', Option.bind_some]
        exact ⟨_, h1, rfl, rfl, S⟩
      · simp only [if_neg c3, if_pos (show x2 < 0 by rw [c1]; decide)]
        rcases ans_rows (r := r) H x2 x3 with ⟨_, c0, e5⟩ | ⟨k, c, hk, hc', e6, _, e5⟩ | ⟨hx, hn, e5⟩
        · simp only [e5, if_pos c0, Option.bind_some]
          exact ⟨_, h1, rfl, rfl, S⟩
        · exact absurd (e6.symm.trans c1) (z_nem (by omega))
        · simp only [e5, if_neg (fun e => hn ⟨c1, e⟩), Option.bind_some]
          exact ⟨_, h1, rfl, rfl, S⟩
    · simp only [if_neg c1, H.2.2.1]
      rcases pk_ix x2 (n := s) (by omega) with d | d | ⟨k, hk, rfl⟩
      · rcases ans_rows (r := r) H x2 x3 with ⟨e6, _, e5⟩ | ⟨k, c, hk, hc', e6, _, e5⟩ | ⟨hx, hn, e5⟩
        · exact absurd e6 c1
        · exact absurd e6 (z_negne d (by omega))
        · simp only [if_pos d, e5, Md_in_above (show s < 2 ^ 30 by omega) (.inl d), Option.bind_some]
          exact ⟨_, h1, rfl, rfl, S⟩
      · rcases ans_rows (r := r) H x2 x3 with ⟨e6, _, e5⟩ | ⟨k, c, hk, hc', e6, _, e5⟩ | ⟨hx, hn, e5⟩
        · exact absurd e6 c1
        · exact absurd e6 (z_bigne d hk (by omega))
        · simp only [if_pos d, e5, Md_in_above (show s < 2 ^ 30 by omega) (.inr d), Option.bind_some]
          refine ⟨_, h1, ?_, rfl, S⟩
          split <;> rfl
      · have a0 := Rw_get_at (r := r) (c := 0) H hk (by decide)
        have a1 := Rw_get_at (r := r) (c := 1) H hk (by decide)
        have a2 := Rw_get_at (r := r) (c := 2) H hk (by decide)
        have a3 := Rw_get_at (r := r) (c := 3) H hk (by decide)
        have b0 := eo k 0 hk (by decide)
        have b1 := eo k 1 hk (by decide)
        have b2 := eo k 2 hk (by decide)
        have b3 := eo k 3 hk (by decide)
        simp only [if_neg (nI_pos (show k < 2 ^ 31 by omega)), if_neg (nI_ge hk (show s < 2 ^ 31 by omega)), Md_in_below (show s < 2 ^ 30 by omega) hk, if_neg (show ¬ (1 : Int32) = 0 by decide)]
        by_cases d4 : x3 = 4
        · subst d4
          unfold Wp_costUnheeded Wp_costHeeded
          simp only [z_lits]
          simp only [a0, a1, a2, a3, b0, b1, b2, b3, Option.bind_some, if_true, if_pos (nI_le (Nat.le_refl 4) (show 4 < 2 ^ 31 by decide))]
          by_cases dd : alG hm m 0 q (4 * k + 0) * alG hm m 0 q (4 * k + 2) < alG hm m 0 q (4 * k + 1) * alG hm m 0 q (4 * k + 3)
          · simp only [if_pos dd]
            exact ⟨_, h1, rfl, rfl, S⟩
          · simp only [if_neg dd]
            exact ⟨_, h1, rfl, rfl, S⟩
        · simp only [if_neg d4]
          rcases pk_ix x3 (n := 4) (by decide) with d | d | ⟨j, hj, rfl⟩
          · rcases ans_rows (r := r) H (nI k) x3 with ⟨e6, _, e5⟩ | ⟨k', c, hk', hc', e6, e7, e5⟩ | ⟨hx, hn, e5⟩
            · exact absurd e6 c1
            · exact absurd e7 (z_negne d (by omega))
            · simp only [e5, Option.bind_some]
              simp (disch := omega) only [↓z_neg, z_lits, nI_eq, nI_ltI, nI_leI, nI_add, pk_mul, pk_sub, z_ix, if_pos, if_neg, if_true, if_false, Option.bind_some, m_eq, m_qe, m_lt, m_tl, m_le, m_el, Md_in_N, z_lesser, z_greater, z_ngE d, z_ngQ d, z_ngL d, z_ngR d, z_ngS d, Md_in_neg d]
              exact ⟨_, h1, rfl, rfl, S⟩
          · have d' : (4 : Int32) ≤ x3 := d
            have din : Md_in x3 0 3 = 0 := Md_in_no (.inr (z_biggt d (show 3 < 4 by decide) (by decide)))
            simp only [if_pos d', din, if_true]
            by_cases d5 : x3 = 5
            · simp only [if_pos d5]
              unfold Wp_costTimesOf Wp_costUnheeded Wp_costHeeded Md_costOf
              simp only [z_lits]
              simp only [a0, a1, a2, a3, b0, b1, b2, b3, Option.bind_some, less_eq]
              exact ⟨_, h1, rfl, rfl, S⟩
            · simp only [if_neg d5]
              exact ⟨_, h1, rfl, rfl, S⟩
          · have ej := eo k j hk hj
            rcases ans_rows (r := r) H (nI k) (nI j) with ⟨e6, _, e5⟩ | ⟨k', c, hk', hc', e6, e7, e5⟩ | ⟨hx, hn, e5⟩
            · exact absurd e6 c1
            · have ek : k = k' := (nI_eq (by omega) (by omega)).1 e6
              have ec : j = c := (nI_eq (by omega) (by omega)).1 e7
              subst ek; subst ec
              have nd : ¬ (4 : Int32) ≤ nI j := nI_ge hj (by decide)
              have din : Md_in (nI j) 0 3 = 1 := Md_in_yes (show 0 ≤ j by omega) (show j ≤ 3 by omega) (by decide)
              simp only [if_neg nd, din, e5, ej, Option.bind_some]
              exact ⟨_, h1, rfl, rfl, S⟩
            · exfalso
              rcases hx with hx | hx | hx | hx
              · exact nI_pos (by omega) hx
              · exact nI_ge hk (by omega) hx
              · exact nI_pos (by omega) hx
              · exact nI_ge hj (by omega) hx
  · have e3' : Tl_rowsAt l r 1 2 x1 hc = some none := e3
    have e4 := hasS_no (m := m) (s := 2) hx h2 e2 (by decide) 46 x1
    have e4' : Md_is m 2 x1 (am_up (am_up hm m 0 0) m 46 x1) = some 0 := e4
    rw [e3', e4']
    exact ⟨-2, _, rfl, rfl, S⟩
end ASK
