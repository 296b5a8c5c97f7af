/-! card, count, fault -/
section ASK
variable {l : List (Nat × Nat)} {r : am_R} {hc hm : am_F} {m k p b t : Nat} {n : Nat → Nat} {g : Nat → Int32} {x x1 x2 x3 x4 y : Int32}
theorem late_eq (H : pkI l hc p g) (V : pkV g) (eg : hm (m + 12) = g) (hb : b < nV (g 3)) : ∀ (c k f1 f2 : Nat) (v : Int32), k + c = nV (g 6) → c < f1 → c < f2 → ∃ w, Pk_late_l4 l r p (nI b) hc f1 v (nI k) = some w ∧ Md_late_l4 m (nI b) hm f2 v (nI k) = some w := by
  have h3 := zN_V (pv_nb V) (by decide)
  have h6 := zN_V (pv_nc V) (by decide)
  have hs := H.2.2.2.2.2.2.2.2.2.1
  have hg6 : hm (m + 12) 6 = nI (nV (g 6)) := by rw [eg]; exact h6.1
  have Vh : pkV (hm (m + 12)) := by rw [eg]; exact V
  have hb6 : b < 6 := by omega
  have ep := Md_painted_at (a := m) (h := hm) hb6
  rw [eg] at ep
  intro c
  induction c with
  | zero =>
    intro k f1 f2 v hk hf1 hf2
    obtain ⟨f1, rfl⟩ : ∃ q, f1 = q + 1 := ⟨f1 - 1, by omega⟩
    obtain ⟨f2, rfl⟩ : ∃ q, f2 = q + 1 := ⟨f2 - 1, by omega⟩
    unfold Pk_late_l4 Md_late_l4
    rw [hs, hg6, if_pos (nI_le (by omega) (by omega)), if_pos (nI_le (by omega) (by omega))]
    exact ⟨v, rfl, rfl⟩
  | succ c ih =>
    intro k f1 f2 v hk hf1 hf2
    obtain ⟨f1, rfl⟩ : ∃ q, f1 = q + 1 := ⟨f1 - 1, by omega⟩
    obtain ⟨f2, rfl⟩ : ∃ q, f2 = q + 1 := ⟨f2 - 1, by omega⟩
    have hk6 : k < nV (g 6) := by omega
    obtain ⟨_, ⟨tk, htk, et⟩, ⟨bk, hbk, ebk⟩, _⟩ := pv_comer V k hk6
    have a1 := com_at (r := r) (c := 1) H hk6 (by decide)
    have a2 := com_at (r := r) (c := 2) H hk6 (by decide)
    have b1 := Md_comer_at (a := m) (h := hm) (k := k) (p := 1) (by omega) (by decide)
    have b2 := Md_comer_at (a := m) (h := hm) (k := k) (p := 2) (by omega) (by decide)
    rw [et] at a1
    rw [ebk] at a2
    rw [eg, et] at b1
    rw [eg, ebk] at b2
    have es := Md_stage_at (t := tk) Vh (by omega) (zP_big (pv_bench V b hb6).1)
    rw [eg] at es
    have ec := Pk_stageOf_at H V hb htk
    have hst : stX g (g (56 + 4 * b)) tk < 3 := stN_lt _ _
    unfold Pk_late_l4 Md_late_l4
    rw [hs, hg6]
    by_cases cb : bk = b
    · subst cb
      by_cases cs : stX g (g (56 + 4 * bk)) tk = 0
      · simp (disch := omega) only [↓z_neg, z_lits, nI_eq, nI_ltI, nI_leI, nI_add, pk_mul, pk_sub, z_ix, if_pos, if_neg, if_true, if_false, Option.bind_some, m_eq, m_qe, m_lt, m_tl, m_le, m_el, Md_in_N, z_lesser, z_greater, a1, a2, b1, b2, ep, es, ec, cs]
        obtain ⟨w, e1, e2⟩ := ih (k + 1) f1 f2 v (by omega) (by omega) (by omega)
        exact ⟨w, e1, by rw [show v + nI 0 = v from Int32.add_zero v]; exact e2⟩
      · simp (disch := omega) only [↓z_neg, z_lits, nI_eq, nI_ltI, nI_leI, nI_add, pk_mul, pk_sub, z_ix, if_pos, if_neg, if_true, if_false, Option.bind_some, m_eq, m_qe, m_lt, m_tl, m_le, m_el, Md_in_N, z_lesser, z_greater, a1, a2, b1, b2, ep, es, ec]
        exact ih (k + 1) f1 f2 _ (by omega) (by omega) (by omega)
    · simp (disch := omega) only [↓z_neg, z_lits, nI_eq, nI_ltI, nI_leI, nI_add, pk_mul, pk_sub, z_ix, if_pos, if_neg, if_true, if_false, Option.bind_some, m_eq, m_qe, m_lt, m_tl, m_le, m_el, Md_in_N, z_lesser, z_greater, a1, a2, b1, b2, ep, es, ec]
      obtain ⟨w, e1, e2⟩ := ih (k + 1) f1 f2 v (by omega) (by omega) (by omega)
      exact ⟨w, e1, by rw [show v + nI 0 = v from Int32.add_zero v]; exact e2⟩
theorem long_eq (H : pkI l hc p g) (V : pkV g) (eg : hm (m + 12) = g) (hb : b < nV (g 3)) : ∀ (c t f1 f2 : Nat) (u v : Int32), t + c = 48 → c < f1 → c < f2 → ∃ w, Pk_longestDry_l7 p (nI b) hc f1 u v (nI t) = some w ∧ Md_longest_l7 m (nI b) hm f2 u v (nI t) = some w := by
  have h3 := zN_V (pv_nb V) (by decide)
  have Vh : pkV (hm (m + 12)) := by rw [eg]; exact V
  have hb6 : b < 6 := by omega
  have ep := Md_painted_at (a := m) (h := hm) hb6
  rw [eg] at ep
  have hg : ∀ u v : Int32, (if u < v then v else u) = Md_greater u v := by
    intro u v
    unfold Md_greater
    by_cases c1 : u < v
    · rw [if_pos c1, if_pos (Int32.le_of_lt c1)]
    · rw [if_neg c1]
      by_cases c2 : u ≤ v
      · rw [if_pos c2]
        exact Int32.le_antisymm c2 (Int32.not_lt.1 c1)
      · rw [if_neg c2]
  intro c
  induction c with
  | zero =>
    intro k f1 f2 u v hk hf1 hf2
    obtain ⟨f1, rfl⟩ : ∃ q, f1 = q + 1 := ⟨f1 - 1, by omega⟩
    obtain ⟨f2, rfl⟩ : ∃ q, f2 = q + 1 := ⟨f2 - 1, by omega⟩
    unfold Pk_longestDry_l7 Md_longest_l7
    simp (disch := omega) only [↓z_neg, z_lits, nI_eq, nI_ltI, nI_leI, nI_add, pk_mul, pk_sub, z_ix, if_pos, if_neg, if_true, if_false, Option.bind_some, m_eq, m_qe, m_lt, m_tl, m_le, m_el, Md_in_N, z_lesser, z_greater]
    exact ⟨u, rfl, rfl⟩
  | succ c ih =>
    intro k f1 f2 u v hk hf1 hf2
    obtain ⟨f1, rfl⟩ : ∃ q, f1 = q + 1 := ⟨f1 - 1, by omega⟩
    obtain ⟨f2, rfl⟩ : ∃ q, f2 = q + 1 := ⟨f2 - 1, by omega⟩
    have es := Md_stage_at (t := k) Vh (by omega) (zP_big (pv_bench V b hb6).1)
    rw [eg] at es
    have ec := Pk_stageOf_at (t := k) H V hb (by omega)
    have hst : stX g (g (56 + 4 * b)) k < 3 := stN_lt _ _
    unfold Pk_longestDry_l7 Md_longest_l7
    by_cases cs : stX g (g (56 + 4 * b)) k = 0
    · simp (disch := omega) only [↓z_neg, z_lits, nI_eq, nI_ltI, nI_leI, nI_add, pk_mul, pk_sub, z_ix, if_pos, if_neg, if_true, if_false, Option.bind_some, m_eq, m_qe, m_lt, m_tl, m_le, m_el, Md_in_N, z_lesser, z_greater, ep, es, ec, cs]
      rw [hg]
      exact ih (k + 1) f1 f2 _ _ (by omega) (by omega) (by omega)
    · simp (disch := omega) only [↓z_neg, z_lits, nI_eq, nI_ltI, nI_leI, nI_add, pk_mul, pk_sub, z_ix, if_pos, if_neg, if_true, if_false, Option.bind_some, m_eq, m_qe, m_lt, m_tl, m_le, m_el, Md_in_N, z_lesser, z_greater, ep, es, ec]
      rw [hg]
      exact ih (k + 1) f1 f2 _ _ (by omega) (by omega) (by omega)
theorem q_card (W : tdW r 1) (B : tdB l hc 1 hm m 0 n) : ∃ v hm', Wp_card l r 0 x1 x2 x3 hc = some v ∧ Md_card m x1 x2 x3 hm = some (v, hm') ∧ scM hm hm' m := by
  unfold Wp_card Md_card
  simp only [Nat.zero_add]
  rcases pk_case W B x1 with ⟨q, g, h', hq, e1, -, -, e2, eg, H, V, C, S⟩ | ⟨e1, e2⟩
  · rw [e1, e2]
    generalize 1 + 5 + 19 * q = p at *
    have Vh : pkV (h' (m + 12)) := by rw [eg]; exact V
    have h3 := zN_V (pv_nb V) (by decide)
    rcases bench_cases V x2 with ⟨b, hb, rfl⟩ | hx
    · have hb6 : b < 6 := by omega
      have hz := (pv_bench V b hb6).1
      have h6 := zN_V (pv_nc V) (by decide)
      have ed := Md_dries_at Vh hz
      have ep := Md_painted_at (a := m) (h := h') hb6
      rw [eg] at ed ep
      obtain ⟨w1, l1, l2⟩ := late_eq (r := r) (m := m) H V eg hb (nV (g 6)) 0 g_fu g_fu 0 (by omega) (by unfold g_fu; omega) (by unfold g_fu; omega)
      obtain ⟨w2, l3, l4⟩ := long_eq (m := m) H V eg hb 48 0 g_fu g_fu 0 0 (by omega) (by unfold g_fu; omega) (by unfold g_fu; omega)
      have L1 : Pk_late l r p (nI b) hc = some w1 := by unfold Pk_late; rw [show (0 : Int32) = nI 0 from rfl] at l1 ⊢; rw [l1]; rfl
      have L2 : Md_late m (nI b) h' = some w1 := by unfold Md_late; rw [show (0 : Int32) = nI 0 from rfl] at l2 ⊢; rw [l2]; rfl
      have L3 : Pk_longestDry p (nI b) hc = some w2 := by unfold Pk_longestDry; rw [show (0 : Int32) = nI 0 from rfl] at l3 ⊢; rw [l3]; rfl
      have L4 : Md_longest m (nI b) h' = some w2 := by unfold Md_longest; rw [show (0 : Int32) = nI 0 from rfl] at l4 ⊢; rw [l4]; rfl
      simp only [Option.bind_some, g_on, bench_yes Vh (show b < nV (h' (m + 12) 3) by rw [eg]; exact hb), Pk_hasBench_at H V hb, z_ix hb6 (show 6 < 2 ^ 31 by decide), (H.2.2.2.2.1 b hb6).1, Pk_dries_at H V hz, ed, ep, L1, L2, L3, L4]
      rw [if_neg (show ¬ (1 : Int32) = 0 by decide)]
      by_cases d0 : x3 = 0
      · simp only [if_pos d0]
        exact ⟨_, h', rfl, rfl, S⟩
      · simp only [if_neg d0]
        by_cases d1 : x3 = 1
        · simp only [if_pos d1]
          exact ⟨_, h', rfl, rfl, S⟩
        · simp only [if_neg d1]
          by_cases d2 : x3 = 2
          · simp only [if_pos d2]
            exact ⟨_, h', rfl, rfl, S⟩
          · simp only [if_neg d2]
            exact ⟨_, h', rfl, rfl, S⟩
    · simp only [Option.bind_some, g_on, bench_no Vh (show x2 < 0 ∨ h' (m + 12) 3 ≤ x2 by rw [eg]; exact hx), Pk_hasBench_no H hx]
      exact ⟨_, h', rfl, rfl, S⟩
  · rw [e1, e2]
    exact ⟨-1, _, rfl, rfl, scM_up (.inl rfl)⟩
theorem q_count (B : tdB l hc 1 hm m 0 n) : ∃ v hm', Wp_count 0 x1 hc = some v ∧ Md_count m x1 hm = some (v, hm') ∧ scM hm hm' m := by
  unfold Wp_count Md_count Tl_howMany
  simp only [Nat.zero_add]
  rcases pk_ix x1 (n := 4) (by decide) with c | c | ⟨j, hj, rfl⟩
  · rw [if_pos c]
    simp (disch := omega) only [↓z_neg, z_lits, nI_eq, nI_ltI, nI_leI, nI_add, pk_mul, pk_sub, z_ix, if_pos, if_neg, if_true, if_false, Option.bind_some, m_eq, m_qe, m_lt, m_tl, m_le, m_el, Md_in_N, z_lesser, z_greater, z_ngE c, z_ngQ c, z_ngL c, z_ngR c, z_ngS c, Md_in_neg c]
    exact ⟨_, _, rfl, rfl, scM_up (.inl rfl)⟩
  · by_cases c0 : x1 < 0
    · rw [if_pos c0]
      simp (disch := omega) only [↓z_neg, z_lits, nI_eq, nI_ltI, nI_leI, nI_add, pk_mul, pk_sub, z_ix, if_pos, if_neg, if_true, if_false, Option.bind_some, m_eq, m_qe, m_lt, m_tl, m_le, m_el, Md_in_N, z_lesser, z_greater, z_bgE c, z_bgQ c, z_bgL c, z_bgR c, z_bgS c, Md_in_big c]
      exact ⟨_, _, rfl, rfl, scM_up (.inl rfl)⟩
    · rw [if_neg c0]
      simp (disch := omega) only [↓z_neg, z_lits, nI_eq, nI_ltI, nI_leI, nI_add, pk_mul, pk_sub, z_ix, if_pos, if_neg, if_true, if_false, Option.bind_some, m_eq, m_qe, m_lt, m_tl, m_le, m_el, Md_in_N, z_lesser, z_greater, z_bgE c, z_bgQ c, z_bgL c, z_bgR c, z_bgS c, Md_in_big c]
      exact ⟨_, _, rfl, rfl, scM_up (.inl rfl)⟩
  · obtain ⟨_, e1, e2⟩ := B.1 j hj
    rw [show 4 * 0 + j = j by omega] at e2
    simp (disch := omega) only [↓z_neg, z_lits, nI_eq, nI_ltI, nI_leI, nI_add, pk_mul, pk_sub, z_ix, if_pos, if_neg, if_true, if_false, Option.bind_some, m_eq, m_qe, m_lt, m_tl, m_le, m_el, Md_in_N, z_lesser, z_greater]
    refine ⟨_, _, rfl, ?_, scM_up (i := m) (k := 0) (v := nI 0) (.inl rfl)⟩
    rw [z_upr (by omega), e1, e2]
theorem q_fault (e2 : hc 1 2 = hm (m + 3) 0) (e3 : hc 1 3 = hm (m + 4) 0) : ∃ hm', Md_fault m x1 hm = some (Wp_fault 0 x1 hc, hm') ∧ scM hm hm' m := by
  unfold Wp_fault Md_fault
  simp only [Nat.zero_add]
  by_cases c0 : x1 = 0
  · simp only [if_pos c0]
    exact ⟨am_up hm m 0 0, by rw [z_upr (by omega), e2], scM_up (.inl rfl)⟩
  · simp only [if_neg c0]
    by_cases c1 : x1 = 1
    · simp only [if_pos c1]
      exact ⟨am_up hm m 0 0, by rw [z_upr (by omega), e3], scM_up (.inl rfl)⟩
    · simp only [if_neg c1]
      exact ⟨am_up hm m 0 0, rfl, scM_up (.inl rfl)⟩
end ASK
