/-! questions that need no day -/
def mI1 : Int32 := -1
def mI2 : Int32 := -2
def mIL : Int32 := -1000000
theorem z_neg : (-1 : Int32) = mI1 ∧ (-2 : Int32) = mI2 ∧ (-1000000 : Int32) = mIL := ⟨rfl, rfl, rfl⟩
theorem m_eq {n : Nat} (h : n < 2 ^ 31) : (nI n = mI1) = False := z_neI h
theorem m_qe {n : Nat} (h : n < 2 ^ 31) : (mI1 = nI n) = False := z_neJ h
theorem m_lt {n : Nat} (h : n < 2 ^ 31) : (nI n < mI1) = False := z_ltm1 h
theorem m_tl {n : Nat} (h : n < 2 ^ 31) : (mI1 < nI n) = True := z_m1lt h
theorem m_le {n : Nat} (h : n < 2 ^ 31) : (nI n ≤ mI1) = False := z_lem1 h
theorem m_el {n : Nat} (h : n < 2 ^ 31) : (mI1 ≤ nI n) = True := z_m1le h
section NUM
variable {x : Int32} {n N k a b : Nat}
theorem z_ngE (c : x < 0) (h : n < 2 ^ 31) : (x = nI n) = False := eq_false (z_negne c h)
theorem z_ngQ (c : x < 0) (h : n < 2 ^ 31) : (nI n = x) = False := eq_false (fun e => z_negne c h e.symm)
theorem z_ngL (c : x < 0) (h : n < 2 ^ 31) : (x < nI n) = True := eq_true (z_neglt c h)
theorem z_ngR (c : x < 0) (h : n < 2 ^ 31) : (nI n ≤ x) = False := eq_false (z_negle c h)
theorem z_ngS (c : x < 0) (h : n < 2 ^ 31) : (x ≤ nI n) = True := eq_true (Int32.le_of_lt (z_neglt c h))
theorem z_bgE (c : nI N ≤ x) (h : k < N) (hN : N < 2 ^ 31) : (x = nI k) = False := eq_false (by rintro rfl; exact nI_ge h hN c)
theorem z_bgQ (c : nI N ≤ x) (h : k < N) (hN : N < 2 ^ 31) : (nI k = x) = False := eq_false (by rintro rfl; exact nI_ge h hN c)
theorem z_bgL (c : nI N ≤ x) (h : k ≤ N) (hN : N < 2 ^ 31) : (x < nI k) = False := eq_false (fun e => nI_nlt h hN (Int32.lt_of_le_of_lt c e))
theorem z_bgR (c : nI N ≤ x) (h : k ≤ N) (hN : N < 2 ^ 31) : (nI k ≤ x) = True := eq_true (Int32.le_trans (nI_le h hN) c)
theorem z_bgS (c : nI N ≤ x) (h : k < N) (hN : N < 2 ^ 31) : (nI k < x) = True := eq_true (Int32.lt_of_lt_of_le (nI_lt h hN) c)
theorem Md_in_N (ha : a < 2 ^ 31) (hb : b < 2 ^ 31) (hn : n < 2 ^ 31) : Md_in (nI n) (nI a) (nI b) = if n < a then nI 0 else if b < n then nI 0 else nI 1 := by
  unfold Md_in
  simp only [nI_ltI hn ha, nI_ltI hb hn]
  rfl
theorem Md_in_neg (c : x < 0) (ha : a < 2 ^ 31) {y : Int32} : Md_in x (nI a) y = nI 0 := by
  unfold Md_in
  rw [if_pos (z_neglt c ha)]
  rfl
theorem Md_in_big (c : nI N ≤ x) (h : k < N) (hN : N < 2 ^ 31) {y : Int32} : Md_in x y (nI k) = nI 0 := by
  unfold Md_in
  by_cases e : x < y
  · rw [if_pos e]; rfl
  · rw [if_neg e, if_pos (Int32.lt_of_lt_of_le (nI_lt h hN) c)]; rfl
theorem z_bigne (h : nI N ≤ x) (hc : k < N) (hN : N < 2 ^ 31) : ¬ x = nI k := by
  rintro rfl
  exact nI_ge hc hN h
theorem z_biglt (h : nI N ≤ x) (hc : k ≤ N) (hN : N < 2 ^ 31) : ¬ x < nI k := by
  intro e
  have h1 := Int32.lt_of_le_of_lt h e
  exact nI_nlt hc hN h1
theorem z_bigle (h : nI N ≤ x) (hc : k ≤ N) (hN : N < 2 ^ 31) : nI k ≤ x := Int32.le_trans (nI_le hc hN) h
theorem z_biggt (h : nI N ≤ x) (hc : k < N) (hN : N < 2 ^ 31) : nI k < x := Int32.lt_of_lt_of_le (nI_lt hc hN) h
end NUM
section ASK
variable {l : List (Nat × Nat)} {r : am_R} {hc hm : am_F} {m k p b t : Nat} {n : Nat → Nat} {g : Nat → Int32} {x x1 x2 x3 x4 y : Int32}
theorem bench_yes (V : pkV (hm (m + 12))) (hb : b < nV (hm (m + 12) 3)) : Md_isBench m (nI b) hm = some 1 := by
  have h3 := zN_V (pv_nb V) (by decide)
  unfold Md_isBench
  rw [h3.1, Md_in_below (by omega) hb]
  rfl
theorem bench_no (V : pkV (hm (m + 12))) (hx : x < 0 ∨ hm (m + 12) 3 ≤ x) : Md_isBench m x hm = some 0 := by
  have h3 := zN_V (pv_nb V) (by decide)
  unfold Md_isBench
  rw [h3.1] at hx ⊢
  rw [Md_in_above (by omega) hx]
  rfl
theorem q_park (W : tdW r 1) (B : tdB l hc 1 hm m 0 n) : ∃ v hm', Wp_park l r 0 x1 x2 hc = some v ∧ Md_park m x1 x2 hm = some (v, hm') ∧ scM hm hm' m := by
  unfold Wp_park Md_park
  simp only [Nat.zero_add]
  rcases pk_case W B x1 with ⟨q, g, h', hq, e1, -, -, e2, eg, H, V, C, S⟩ | ⟨e1, e2⟩
  · rw [e1, e2]
    generalize 1 + 5 + 19 * q = p at *
    have h4 := (zN_V (pv_nm V) (by decide)).1
    have h5 := (zN_V (pv_np V) (by decide)).1
    have h6 := (zN_V (pv_nc V) (by decide)).1
    rcases pk_ix x2 (n := 58) (by decide) with c | c | ⟨j, hj, rfl⟩
    · simp (disch := omega) only [↓z_neg, z_lits, nI_eq, nI_ltI, nI_leI, nI_add, pk_mul, pk_sub, z_ix, if_pos, if_neg, if_true, if_false, Option.bind_some, m_eq, m_qe, m_lt, m_tl, m_le, m_el, Md_in_N, z_lesser, z_greater, g_on, eg, z_ngE c, z_ngQ c, z_ngL c, z_ngR c, z_ngS c, Md_in_neg c]
      exact ⟨_, h', rfl, rfl, S⟩
    · simp (disch := omega) only [↓z_neg, z_lits, nI_eq, nI_ltI, nI_leI, nI_add, pk_mul, pk_sub, z_ix, if_pos, if_neg, if_true, if_false, Option.bind_some, m_eq, m_qe, m_lt, m_tl, m_le, m_el, Md_in_N, z_lesser, z_greater, g_on, eg, z_bgE c, z_bgQ c, z_bgL c, z_bgR c, z_bgS c, Md_in_big c]
      exact ⟨_, h', rfl, rfl, S⟩
    · by_cases c1 : j ≤ 6
      · refine ⟨g j, h', ?_, ?_, S⟩
        · simp only [Option.bind_some, g_on]
          match j, c1 with
          | 0, _ => rw [if_pos (by decide), H.1.1]
          | 1, _ => rw [if_neg (by decide), if_pos (by decide), H.1.2.1]
          | 2, _ => rw [if_neg (by decide), if_neg (by decide), if_pos (by decide), H.1.2.2.1]
          | 3, _ => rw [if_neg (by decide), if_neg (by decide), if_neg (by decide), if_pos (by decide), H.1.2.2.2]
          | 4, _ => rw [if_neg (by decide), if_neg (by decide), if_neg (by decide), if_neg (by decide), if_pos (by decide), H.2.2.2.2.2.1.2.2.1, ← h4]
          | 5, _ => rw [if_neg (by decide), if_neg (by decide), if_neg (by decide), if_neg (by decide), if_neg (by decide), if_pos (by decide), H.2.2.2.2.2.2.1.2.2.1, ← h5]
          | 6, _ => rw [if_neg (by decide), if_neg (by decide), if_neg (by decide), if_neg (by decide), if_neg (by decide), if_neg (by decide), if_pos (by decide), H.2.2.2.2.2.2.2.2.2.1, ← h6]
        · simp (disch := omega) only [↓z_neg, z_lits, nI_eq, nI_ltI, nI_leI, nI_add, pk_mul, pk_sub, z_ix, if_pos, if_neg, if_true, if_false, Option.bind_some, m_eq, m_qe, m_lt, m_tl, m_le, m_el, Md_in_N, z_lesser, z_greater, eg]
      · by_cases c2 : j < 10
        · simp (disch := omega) only [↓z_neg, z_lits, nI_eq, nI_ltI, nI_leI, nI_add, pk_mul, pk_sub, z_ix, if_pos, if_neg, if_true, if_false, Option.bind_some, m_eq, m_qe, m_lt, m_tl, m_le, m_el, Md_in_N, z_lesser, z_greater, g_on, eg]
          exact ⟨_, h', rfl, rfl, S⟩
        · simp (disch := omega) only [↓z_neg, z_lits, nI_eq, nI_ltI, nI_leI, nI_add, pk_mul, pk_sub, z_ix, if_pos, if_neg, if_true, if_false, Option.bind_some, m_eq, m_qe, m_lt, m_tl, m_le, m_el, Md_in_N, z_lesser, z_greater, g_on, eg]
          exact ⟨_, h', rfl, by rw [H.2.1 _ (by omega), show 7 + j - 10 = 7 + (j - 10) by omega], S⟩
  · rw [e1, e2]
    exact ⟨-1, _, rfl, rfl, scM_up (.inl rfl)⟩
theorem q_bench (W : tdW r 1) (B : tdB l hc 1 hm m 0 n) : ∃ v hm', Wp_bench l r 0 x1 x2 x3 hc = some v ∧ Md_bench m x1 x2 x3 hm = some (v, hm') ∧ scM hm hm' m := by
  unfold Wp_bench Md_bench
  simp only [Nat.zero_add]
  rcases pk_case W B x1 with ⟨q, g, h', hq, e1, -, -, e2, eg, H, V, C, S⟩ | ⟨e1, e2⟩
  · rw [e1, e2]
    generalize 1 + 5 + 19 * q = p at *
    have Vh : pkV (h' (m + 12)) := by rw [eg]; exact V
    have h3 := zN_V (pv_nb V) (by decide)
    rcases bench_cases V x2 with ⟨b, hb, rfl⟩ | hx
    · obtain ⟨f4, f5, -⟩ := H.2.2.2.2.1 b (by omega)
      have f3 := H.2.2.2.1 b hb
      have f6 := C b (by omega)
      simp only [Option.bind_some, g_on, bench_yes Vh (show b < nV (h' (m + 12) 3) by rw [eg]; exact hb), Pk_hasBench_at H V hb]
      rcases pk_ix x3 (n := 4) (by decide) with c | c | ⟨j, hj, rfl⟩
      · simp (disch := omega) only [↓z_neg, z_lits, nI_eq, nI_ltI, nI_leI, nI_add, pk_mul, pk_sub, z_ix, if_pos, if_neg, if_true, if_false, Option.bind_some, m_eq, m_qe, m_lt, m_tl, m_le, m_el, Md_in_N, z_lesser, z_greater, eg, z_ngE c, z_ngQ c, z_ngL c, z_ngR c, z_ngS c, Md_in_neg c]
        exact ⟨_, h', rfl, rfl, S⟩
      · simp (disch := omega) only [↓z_neg, z_lits, nI_eq, nI_ltI, nI_leI, nI_add, pk_mul, pk_sub, z_ix, if_pos, if_neg, if_true, if_false, Option.bind_some, m_eq, m_qe, m_lt, m_tl, m_le, m_el, Md_in_N, z_lesser, z_greater, eg, z_bgE c, z_bgQ c, z_bgL c, z_bgR c, z_bgS c, Md_in_big c]
        exact ⟨_, h', rfl, rfl, S⟩
      · refine ⟨g (55 + 4 * b + j), h', ?_, ?_, S⟩
        · match j, hj with
          | 0, _ => simp (disch := omega) only [↓z_neg, z_lits, nI_eq, nI_ltI, nI_leI, nI_add, pk_mul, pk_sub, z_ix, if_pos, if_neg, if_true, if_false, Option.bind_some, m_eq, m_qe, m_lt, m_tl, m_le, m_el, Md_in_N, z_lesser, z_greater, f3]; rfl
          | 1, _ => simp (disch := omega) only [↓z_neg, z_lits, nI_eq, nI_ltI, nI_leI, nI_add, pk_mul, pk_sub, z_ix, if_pos, if_neg, if_true, if_false, Option.bind_some, m_eq, m_qe, m_lt, m_tl, m_le, m_el, Md_in_N, z_lesser, z_greater, f4]; rw [show 55 + 4 * b + 1 = 56 + 4 * b by omega]
          | 2, _ => simp (disch := omega) only [↓z_neg, z_lits, nI_eq, nI_ltI, nI_leI, nI_add, pk_mul, pk_sub, z_ix, if_pos, if_neg, if_true, if_false, Option.bind_some, m_eq, m_qe, m_lt, m_tl, m_le, m_el, Md_in_N, z_lesser, z_greater, f5]; rw [show 55 + 4 * b + 2 = 57 + 4 * b by omega]
          | 3, _ => simp (disch := omega) only [↓z_neg, z_lits, nI_eq, nI_ltI, nI_leI, nI_add, pk_mul, pk_sub, z_ix, if_pos, if_neg, if_true, if_false, Option.bind_some, m_eq, m_qe, m_lt, m_tl, m_le, m_el, Md_in_N, z_lesser, z_greater, f6]; rw [show 55 + 4 * b + 3 = 58 + 4 * b by omega]
        · simp (disch := omega) only [↓z_neg, z_lits, nI_eq, nI_ltI, nI_leI, nI_add, pk_mul, pk_sub, z_ix, if_pos, if_neg, if_true, if_false, Option.bind_some, m_eq, m_qe, m_lt, m_tl, m_le, m_el, Md_in_N, z_lesser, z_greater, eg]
    · simp only [Option.bind_some, g_on, bench_no Vh (show x2 < 0 ∨ h' (m + 12) 3 ≤ x2 by rw [eg]; exact hx), Pk_hasBench_no H hx]
      exact ⟨_, h', rfl, rfl, S⟩
  · rw [e1, e2]
    exact ⟨-2, _, rfl, rfl, scM_up (.inl rfl)⟩
theorem told_rows {a w lim s off : Nat} (H : rwI l hc a w lim s (fun i => g (off + i))) (hw : 1 ≤ w) (ho : off + w * lim ≤ 195) (e : hm (m + 12) = g) : ∃ v, Rw_get l r a x1 x2 hc = some v ∧ (if Md_in x1 0 (nI s - 1) = 0 then some ((-1 : Int32), hm) else if Md_in x2 0 (nI w - 1) = 0 then some (-1, hm) else (g_ix (nI off + nI w * x1 + x2) 195).bind fun k => some (hm (m + 12) k, hm)) = some (v, hm) := by
  have hs := H.2.2.2.1
  have hb := z_mulb H.2.2.2.2.2.1 H.2.2.2.2.2.2.1
  have h14 := H.2.2.2.2.2.2.1
  have h6 := H.2.2.2.2.2.1
  rcases Rw_cases s w (by omega) (by omega) x1 x2 with ⟨k, c, hk, hc', rfl, rfl⟩ | hx
  · have hi := z_mulle hk hc' hs
    rw [Md_in_below (by omega) hk, Md_in_below (by omega) hc', if_neg (by decide), if_neg (by decide), pk_mul, nI_add, nI_add, z_ix (by omega) (by decide), Option.bind_some, e]
    exact ⟨_, Rw_get_at H hk hc', by rw [show off + w * k + c = off + (w * k + c) by omega]⟩
  · refine ⟨-1, Rw_get_no H hx, ?_⟩
    rcases hx with h | h | h | h
    · rw [Md_in_above (by omega) (.inl h), if_pos rfl]
    · rw [Md_in_above (by omega) (.inr h), if_pos rfl]
    · split
      · rfl
      · rw [Md_in_above (by omega) (.inl h), if_pos rfl]
    · split
      · rfl
      · rw [Md_in_above (by omega) (.inr h), if_pos rfl]
theorem q_told (W : tdW r 1) (B : tdB l hc 1 hm m 0 n) : ∃ v hm', Wp_told l r 0 x1 x2 x3 x4 hc = some v ∧ Md_told m x1 x2 x3 x4 hm = some (v, hm') ∧ scM hm hm' m := by
  unfold Wp_told Md_told
  simp only [Nat.zero_add]
  rcases pk_case W B x1 with ⟨q, g, h', hq, e1, -, -, e2, eg, H, V, C, S⟩ | ⟨e1, e2⟩
  · rw [e1, e2]
    generalize 1 + 5 + 19 * q = p at *
    have h4 := zN_V (pv_nm V) (by decide)
    have h5 := zN_V (pv_np V) (by decide)
    have h6 := zN_V (pv_nc V) (by decide)
    simp only [Option.bind_some, g_on]
    rw [if_neg (show ¬ (1 : Int32) = 0 by decide)]
    rcases pk_ix x2 (n := 3) (by decide) with c | c | ⟨j, hj, rfl⟩
    · simp (disch := omega) only [↓z_neg, z_lits, nI_eq, nI_ltI, nI_leI, nI_add, pk_mul, pk_sub, z_ix, if_pos, if_neg, if_true, if_false, Option.bind_some, m_eq, m_qe, m_lt, m_tl, m_le, m_el, Md_in_N, z_lesser, z_greater, z_ngE c, z_ngQ c, z_ngL c, z_ngR c, z_ngS c, Md_in_neg c]
      exact ⟨_, h', rfl, rfl, S⟩
    · simp (disch := omega) only [↓z_neg, z_lits, nI_eq, nI_ltI, nI_leI, nI_add, pk_mul, pk_sub, z_ix, if_pos, if_neg, if_true, if_false, Option.bind_some, m_eq, m_qe, m_lt, m_tl, m_le, m_el, Md_in_N, z_lesser, z_greater, z_bgE c, z_bgQ c, z_bgL c, z_bgR c, z_bgS c, Md_in_big c]
      exact ⟨_, h', rfl, rfl, S⟩
    · have e4 : Md_in (nI j) 0 2 = 1 := Md_in_yes (show 0 ≤ j by omega) (show j ≤ 2 by omega) (by decide)
      rw [e4, if_neg (show ¬ (1 : Int32) = 0 by decide), show (4 : Int32) + nI j = nI (4 + j) from nI_add 4 j, z_ix (by omega) (by decide), Option.bind_some, eg]
      match j, hj with
      | 0, _ =>
        obtain ⟨v, a1, a2⟩ := told_rows (r := r) (x1 := x3) (x2 := x4) H.2.2.2.2.2.1 (by decide) (by decide) eg
        rw [eg] at a2
        refine ⟨v, h', ?_, ?_, S⟩
        · rw [if_pos (show nI 0 = 0 from rfl), a1]; rfl
        · rw [h4.1]; exact a2
      | 1, _ =>
        obtain ⟨v, a1, a2⟩ := told_rows (r := r) (x1 := x3) (x2 := x4) H.2.2.2.2.2.2.1 (by decide) (by decide) eg
        rw [eg] at a2
        refine ⟨v, h', ?_, ?_, S⟩
        · rw [if_neg (show ¬ nI 1 = 0 by decide), if_pos (show nI 1 = 1 from rfl), a1]; rfl
        · rw [h5.1]; exact a2
      | 2, _ =>
        obtain ⟨v, a1, a2⟩ := told_rows (r := r) (x1 := x3) (x2 := x4) H.2.2.2.2.2.2.2 (by decide) (by decide) eg
        rw [eg] at a2
        refine ⟨v, h', ?_, ?_, S⟩
        · rw [if_neg (show ¬ nI 2 = 0 by decide), if_neg (show ¬ nI 2 = 1 by decide), if_pos (show nI 2 = 2 from rfl), a1]; rfl
        · rw [h6.1]; exact a2
  · rw [e1, e2]
    exact ⟨-1, _, rfl, rfl, scM_up (.inl rfl)⟩
theorem hour_cases (x : Int32) : (∃ t, t < 48 ∧ x = nI t ∧ Wp_isHour x = 1 ∧ Md_in x 0 47 = 1) ∨ (Wp_isHour x = 0 ∧ Md_in x 0 47 = 0) := by
  unfold Wp_isHour
  rcases pk_ix x (n := 48) (by decide) with c | c | ⟨j, hj, rfl⟩
  · exact .inr ⟨by rw [if_pos c], Md_in_no (.inl c)⟩
  · refine .inr ⟨?_, Md_in_no (.inr (z_biggt c (show 47 < 48 by decide) (by decide)))⟩
    by_cases c2 : x < 0
    · rw [if_pos c2]
    · rw [if_neg c2]; exact if_pos c
  · exact .inl ⟨j, hj, rfl, by rw [if_neg (nI_pos (by omega)), show (48 : Int32) = nI 48 from rfl, if_neg (nI_ge hj (by decide))], Md_in_yes (show 0 ≤ j by omega) (show j ≤ 47 by omega) (by decide)⟩
theorem q_wet (W : tdW r 1) (B : tdB l hc 1 hm m 0 n) : ∃ v hm', Wp_wet l r 0 x1 x2 x3 x4 hc = some v ∧ Md_wet m x1 x2 x3 x4 hm = some (v, hm') ∧ scM hm hm' m := by
  unfold Wp_wet Md_wet
  simp only [Nat.zero_add]
  rcases pk_case W B x1 with ⟨q, g, h', hq, e1, -, -, e2, eg, H, V, C, S⟩ | ⟨e1, e2⟩
  · rw [e1, e2]
    generalize 1 + 5 + 19 * q = p at *
    have Vh : pkV (h' (m + 12)) := by rw [eg]; exact V
    have h3 := zN_V (pv_nb V) (by decide)
    simp only [Option.bind_some, g_on]
    rw [if_neg (show ¬ (1 : Int32) = 0 by decide)]
    rcases bench_cases V x2 with ⟨b, hb, rfl⟩ | hx
    · have hb6 : b < 6 := by omega
      have hz := (pv_bench V b hb6).1
      rw [bench_yes Vh (by rw [eg]; exact hb), Option.bind_some, Pk_hasBench_at H V hb, if_neg (show ¬ (1 : Int32) = 0 by decide), if_neg (show ¬ (1 : Int32) = 0 by decide)]
      rcases hour_cases x3 with ⟨t, ht, rfl, c1, c2⟩ | ⟨c1, c2⟩
      · have ew := Md_wetness_at (t := t) Vh (by omega) (zP_big hz)
        have es := Md_stage_at (t := t) Vh (by omega) (zP_big hz)
        have ed := Md_dries_at Vh hz
        have ep := Md_painted_at (a := m) (h := h') hb6
        rw [eg] at ew es ed ep
        rw [c1, c2, if_neg (show ¬ (1 : Int32) = 0 by decide), if_neg (show ¬ (1 : Int32) = 0 by decide)]
        simp only [z_ix hb6 (show 6 < 2 ^ 31 by decide), Option.bind_some, (H.2.2.2.2.1 b hb6).1, Pk_wetness_at H V hz ht, Pk_stageOf_at H V hb ht, Pk_dries_at H V hz, ew, es, ed, ep]
        by_cases d0 : x4 = 0
        · simp only [if_pos d0]
          exact ⟨_, h', rfl, rfl, S⟩
        · simp only [if_neg d0]
          by_cases d1 : x4 = 1
          · simp only [if_pos d1]
            exact ⟨_, h', rfl, rfl, S⟩
          · simp only [if_neg d1]
            by_cases d2 : x4 = 2
            · simp only [if_pos d2]
              exact ⟨_, h', rfl, rfl, S⟩
            · simp only [if_neg d2]
              exact ⟨_, h', rfl, rfl, S⟩
      · rw [c1, c2]
        exact ⟨-1, h', rfl, rfl, S⟩
    · rw [bench_no Vh (by rw [eg]; exact hx), Pk_hasBench_no H hx]
      exact ⟨_, h', rfl, rfl, S⟩
  · rw [e1, e2]
    exact ⟨-1, _, rfl, rfl, scM_up (.inl rfl)⟩
end ASK
