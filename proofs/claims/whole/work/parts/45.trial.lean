/-! days that are otherwise in one thing -/
section TRIAL
variable {l : List (Nat × Nat)} {r : am_R} {h hc hm : am_F} {d m k p b t s w lim a : Nat} {n : Nat → Nat} {f g : Nat → Int32} {x x1 x2 x3 x4 y u v : Int32}
theorem cp_n {b d k x : Nat} (hx : x ≠ d) : g_cp h b d k x = h x := by
  funext y
  unfold g_cp am_row
  rw [if_neg hx]
theorem cp_s {b d k : Nat} : g_cp h b d k d = fun y => if y < k then h b y else h d y := by
  funext y
  unfold g_cp am_row va_cpy
  rw [if_pos rfl]
  by_cases c : y < k
  · rw [if_pos (by omega), if_pos c]
    congr 1
    omega
  · rw [if_neg (by omega), if_neg c]
theorem rwC_a {x n : Nat} : rwC h a x w n a = upz (h a) 3 (nI n) := by
  funext y
  unfold rwC upz
  rw [if_neg (by omega)]
  by_cases c : y = 3
  · rw [if_pos ⟨rfl, c⟩, if_pos c]
  · rw [if_neg (fun e => c e.2), if_neg c]
theorem rwC_c {x n y : Nat} (hy : y < w * n) : rwC h a x w n (a + 1) y = h (x + 1) y := by
  unfold rwC
  rw [if_pos ⟨rfl, hy⟩]
theorem rwC_n {x n z : Nat} (h1 : z ≠ a) (h2 : z ≠ a + 1) : rwC h a x w n z = h z := by
  funext y
  unfold rwC
  rw [if_neg (fun e => h2 e.1), if_neg (fun e => h1 e.1)]
theorem rwI_C {x lim2 n n2 : Nat} {f2 : Nat → Int32} (H : rwI l h a w lim n f) (H2 : rwI l h x w lim2 n2 f2) (hn : n2 ≤ lim) : rwI l (rwC h a x w n2) a w lim n2 f2 := by
  obtain ⟨h0, h1, h3, _, hl, hw, hm, _⟩ := H
  refine ⟨?_, ?_, ?_, hn, hl, hw, hm, ?_⟩
  · rw [rwC_a, upz_n (by omega)]; exact h0
  · rw [rwC_a, upz_n (by omega)]; exact h1
  · rw [rwC_a, upz_s]
  · intro i hi
    rw [rwC_c hi]
    exact H2.2.2.2.2.2.2.2 i hi
theorem Pk_copyFrom_at {z : Nat} (H : pkI l h z g) (V : pkV g) (P : pkH l h a) (ap : a + 12 < z ∨ z + 12 < a) : ∃ h', Pk_copyFrom l r a z h = some h' ∧ pkI l h' a g ∧ (∀ y, y < 6 → h' (a + 6) y = h (z + 6) y) ∧ ∀ x, x < a ∨ a + 13 ≤ x → h' x = h x := by
  have h4 := zN_V (pv_nm V) (by decide)
  have h5 := zN_V (pv_np V) (by decide)
  have h6 := zN_V (pv_nc V) (by decide)
  have h3 := zN_V (pv_nb V) (by decide)
  obtain ⟨⟨n1, P1⟩, ⟨n2, P2⟩, ⟨n3, P3⟩⟩ := P
  unfold Pk_copyFrom
  simp only [show g_cx 48 48 48 = some 48 from rfl, show g_cx 6 6 6 = some 6 from rfl, Option.bind_some]
  simp (disch := omega) only [z_upr]
  generalize hq : g_cp (g_cp (g_cp (g_cp (g_cp (g_cp (am_up (am_up (am_up (am_up h a 0 (h z 0)) a 1 (h z 1)) a 2 (h z 2)) a 3 (h z 3)) (z + 1) (a + 1) 48) (z + 2) (a + 2) 48) (z + 3) (a + 3) 6) (z + 4) (a + 4) 6) (z + 5) (a + 5) 6) (z + 6) (a + 6) 6 = q
  have qx : ∀ x, x < a ∨ a + 7 ≤ x → q x = h x := by
    intro x hx
    rw [← hq]
    simp (disch := omega) only [cp_n, z_upr]
  have qa : q a 0 = h z 0 ∧ q a 1 = h z 1 ∧ q a 2 = h z 2 ∧ q a 3 = h z 3 := by
    rw [← hq]
    simp (disch := omega) only [cp_n, z_ups, upz_s, upz_n, and_self]
  have q1 : ∀ y, y < 48 → q (a + 1) y = h (z + 1) y := by
    intro y hy
    rw [← hq]
    simp (disch := omega) only [cp_n, cp_s, z_upr, if_pos hy]
  have q2 : ∀ y, y < 48 → q (a + 2) y = h (z + 2) y := by
    intro y hy
    rw [← hq]
    simp (disch := omega) only [cp_n, cp_s, z_upr, if_pos hy]
  have q3 : ∀ y, y < 6 → q (a + 3) y = h (z + 3) y := by
    intro y hy
    rw [← hq]
    simp (disch := omega) only [cp_n, cp_s, z_upr, if_pos hy]
  have q4 : ∀ y, y < 6 → q (a + 4) y = h (z + 4) y := by
    intro y hy
    rw [← hq]
    simp (disch := omega) only [cp_n, cp_s, z_upr, if_pos hy]
  have q5 : ∀ y, y < 6 → q (a + 5) y = h (z + 5) y := by
    intro y hy
    rw [← hq]
    simp (disch := omega) only [cp_n, cp_s, z_upr, if_pos hy]
  have q6 : ∀ y, y < 6 → q (a + 6) y = h (z + 6) y := by
    intro y hy
    rw [← hq]
    simp (disch := omega) only [cp_n, cp_s, z_upr, if_pos hy]
  clear hq
  obtain ⟨g0, g1, g2, g3, g4, g5, g6, g7⟩ := H
  have A1 := rwI_fr P1 (qx (a + 7) (by omega)) (qx _ (by omega))
  have A2 := rwI_fr P2 (qx (a + 9) (by omega)) (qx _ (by omega))
  have A3 := rwI_fr P3 (qx (a + 11) (by omega)) (qx _ (by omega))
  have B1 := rwI_fr g5 (qx (z + 7) (by omega)) (qx _ (by omega))
  have B2 := rwI_fr g6 (qx (z + 9) (by omega)) (qx _ (by omega))
  have B3 := rwI_fr g7 (qx (z + 11) (by omega)) (qx _ (by omega))
  have c1 := Rw_copyFrom_at (r := r) A1 B1 (by omega) (by omega) (by omega)
  rw [c1, Option.bind_some]
  have D1 := rwI_C A1 B1 (by omega)
  generalize hu : rwC q (a + 7) (z + 7) 3 (nV (g 4)) = u1 at *
  have ux : ∀ x, x ≠ a + 7 → x ≠ a + 8 → u1 x = q x := fun x e1 e2 => by rw [← hu]; exact rwC_n e1 e2
  have A2' := rwI_fr A2 (ux (a + 9) (by omega) (by omega)) (ux _ (by omega) (by omega))
  have B2' := rwI_fr B2 (ux (z + 9) (by omega) (by omega)) (ux _ (by omega) (by omega))
  have c2 := Rw_copyFrom_at (r := r) A2' B2' (by omega) (by omega) (by omega)
  rw [c2, Option.bind_some]
  have D2 := rwI_C A2' B2' (by omega)
  generalize hv : rwC u1 (a + 9) (z + 9) 2 (nV (g 5)) = v1 at *
  have vx : ∀ x, x ≠ a + 9 → x ≠ a + 10 → v1 x = u1 x := fun x e1 e2 => by rw [← hv]; exact rwC_n e1 e2
  have A3' := rwI_fr (rwI_fr A3 (ux (a + 11) (by omega) (by omega)) (ux _ (by omega) (by omega))) (vx (a + 11) (by omega) (by omega)) (vx _ (by omega) (by omega))
  have B3' := rwI_fr (rwI_fr B3 (ux (z + 11) (by omega) (by omega)) (ux _ (by omega) (by omega))) (vx (z + 11) (by omega) (by omega)) (vx _ (by omega) (by omega))
  have c3 := Rw_copyFrom_at (r := r) A3' B3' (by omega) (by omega) (by omega)
  rw [c3, Option.bind_some]
  have D3 := rwI_C A3' B3' (by omega)
  generalize hw : rwC v1 (a + 11) (z + 11) 6 (nV (g 6)) = w1 at *
  have wx : ∀ x, x ≠ a + 11 → x ≠ a + 12 → w1 x = v1 x := fun x e1 e2 => by rw [← hw]; exact rwC_n e1 e2
  have al : ∀ x, x ≠ a + 7 → x ≠ a + 8 → x ≠ a + 9 → x ≠ a + 10 → x ≠ a + 11 → x ≠ a + 12 → w1 x = q x := fun x e1 e2 e3 e4 e5 e6 => by rw [wx x e5 e6, vx x e3 e4, ux x e1 e2]
  refine ⟨w1, rfl, ⟨?_, ?_, ?_, ?_, ?_, ?_, ?_, ?_⟩, ?_, ?_⟩
  · rw [al a (by omega) (by omega) (by omega) (by omega) (by omega) (by omega), qa.1, qa.2.1, qa.2.2.1, qa.2.2.2]
    exact g0
  · intro i hi
    rw [al (a + 1) (by omega) (by omega) (by omega) (by omega) (by omega) (by omega), q1 i hi]
    exact g1 i hi
  · intro i hi
    rw [al (a + 2) (by omega) (by omega) (by omega) (by omega) (by omega) (by omega), q2 i hi]
    exact g2 i hi
  · intro i hi
    rw [al (a + 3) (by omega) (by omega) (by omega) (by omega) (by omega) (by omega), q3 i (by omega)]
    exact g3 i hi
  · intro i hi
    rw [al (a + 4) (by omega) (by omega) (by omega) (by omega) (by omega) (by omega), al (a + 5) (by omega) (by omega) (by omega) (by omega) (by omega) (by omega), al (a + 6) (by omega) (by omega) (by omega) (by omega) (by omega) (by omega), q4 i hi, q5 i hi, q6 i hi]
    exact g4 i hi
  · exact rwI_fr (rwI_fr D1 (vx _ (by omega) (by omega)) (vx _ (by omega) (by omega))) (wx _ (by omega) (by omega)) (wx _ (by omega) (by omega))
  · exact rwI_fr D2 (wx _ (by omega) (by omega)) (wx _ (by omega) (by omega))
  · exact D3
  · intro y hy
    rw [al (a + 6) (by omega) (by omega) (by omega) (by omega) (by omega) (by omega), q6 y hy]
  · intro x hx
    rw [al x (by omega) (by omega) (by omega) (by omega) (by omega) (by omega), qx x (by omega)]
theorem harm_eq (L : wL l m) (SH : scH l hc) (H : pkI l hc 87 g) (V : pkV g) (eg : hm (m + 12) = g) : ∃ hc' hm' N, Tr_harmNow l r 76 hc = some (nI N, hc') ∧ N ≤ 324 ∧ Md_harmOf m hm = some (nI N, hm') ∧ dyR l hc' 77 hm' m g 47 18 18 (fun k => k < nV (g 6)) ∧ (∀ x, x < 77 ∨ 87 ≤ x → hc' x = hc x) ∧ frM hm hm' m ∧ scH l hc' := by
  obtain ⟨h0, hc', hm', a1, a2, a3, R, a4, a5⟩ := dayF (r := r) (m := m) L.2.1 SH.2.1 H V eg (.inr (by decide))
  obtain ⟨T, F, N, -, -, -, -, eN, hN⟩ := R.2.1
  have e0 : hc' 77 0 = nI N := by rw [R.1.1]; exact eN
  refine ⟨hc', hm', N, ?_, by omega, by rw [a3, e0], R, a4, a5, ⟨rwH_fr SH.1 (a4 _ (by omega)), rwH_of R.2.2.2.1, pkH_fr SH.2.2 (a4 _ (by omega)) (a4 _ (by omega)) (a4 _ (by omega))⟩⟩
  unfold Tr_harmNow
  simp only [Nat.reduceAdd]
  rw [a1, Option.bind_some, a2, Option.bind_some, e0]
theorem less_up (h : am_F) (u v : Int32) : ∃ h', Tr_less 76 u v h = some h' ∧ h' 76 0 = (if h 76 1 ≤ v then h 76 0 else u) ∧ h' 76 1 = Md_lesser (h 76 1) v ∧ ∀ x, x ≠ 76 → h' x = h x := by
  unfold Tr_less Tr_first Md_lesser
  by_cases c : h 76 1 ≤ v
  · rw [if_pos c, if_pos c]
    refine ⟨h, rfl, rfl, ?_, fun _ _ => rfl⟩
    by_cases c2 : v ≤ h 76 1
    · rw [if_pos c2]; exact Int32.le_antisymm c c2
    · rw [if_neg c2]
  · rw [if_neg c, if_neg c, if_pos (Int32.le_of_lt (Int32.not_le.1 c))]
    refine ⟨_, rfl, ?_, ?_, ?_⟩
    · simp (disch := omega) only [z_ups, upz_s, upz_n]
    · simp (disch := omega) only [z_ups, upz_s, upz_n]
    · intro x hx
      simp (disch := omega) only [z_upr]
theorem first_up (h : am_F) (u v : Int32) : ∃ h', Tr_first 76 u v h = some h' ∧ h' 76 0 = u ∧ h' 76 1 = v ∧ ∀ x, x ≠ 76 → h' x = h x := by
  unfold Tr_first
  refine ⟨_, rfl, ?_, ?_, ?_⟩
  · simp (disch := omega) only [z_ups, upz_s, upz_n]
  · simp (disch := omega) only [z_ups, upz_s, upz_n]
  · intro x hx
    simp (disch := omega) only [z_upr]
theorem more_up (h : am_F) (u v : Int32) : ∃ h', Tr_more 76 u v h = some h' ∧ h' 76 0 = (if v ≤ h 76 1 then h 76 0 else u) ∧ h' 76 1 = Md_greater (h 76 1) v ∧ ∀ x, x ≠ 76 → h' x = h x := by
  unfold Tr_more Tr_first Md_greater
  by_cases c : v ≤ h 76 1
  · rw [if_pos c, if_pos c]
    refine ⟨h, rfl, rfl, ?_, fun _ _ => rfl⟩
    by_cases c2 : h 76 1 ≤ v
    · rw [if_pos c2]; exact Int32.le_antisymm c2 c
    · rw [if_neg c2]
  · rw [if_neg c, if_neg c, if_pos (Int32.le_of_lt (Int32.not_le.1 c))]
    refine ⟨_, rfl, ?_, ?_, ?_⟩
    · simp (disch := omega) only [z_ups, upz_s, upz_n]
    · simp (disch := omega) only [z_ups, upz_s, upz_n]
    · intro x hx
      simp (disch := omega) only [z_upr]
/-- a row with some places laid anew: what stays -/
theorem rate_keep {g' : Nat → Int32} (e : ∀ i, i < 55 → g' i = g i) (p : Nat) : ∀ n, sumR g' p n = sumR g p n := by
  intro n
  induction n with
  | zero => rfl
  | succ n ih =>
    show sumR g' p n + rateN g' (p + n) = sumR g p n + rateN g (p + n)
    unfold rateN
    rw [ih, e _ (by omega)]
theorem pkI_card (H : pkI l h p g) (V : pkV g) (hb : b < 6) : pkI l (am_up (am_up h (p + 5) b u) (p + 6) b v) p (upz (upz g (57 + 4 * b) u) (58 + 4 * b) v) := by
  have h3 := zN_V (pv_nb V) (by decide)
  have e : ∀ i, i < 55 ∨ 79 ≤ i → (upz (upz g (57 + 4 * b) u) (58 + 4 * b) v) i = g i := fun i hi => by simp (disch := omega) only [upz_n]
  obtain ⟨g0, g1, g2, g3, g4, g5, g6, g7⟩ := H
  unfold pkI
  simp (disch := omega) only [z_upr, e]
  refine ⟨g0, ?_, ?_, ?_, ?_, ?_, ?_, ?_⟩
  · intro i hi
    rw [e _ (by omega)]
    exact g1 i hi
  · intro i hi
    rw [rate_keep (fun i hi => e i (by omega))]
    exact g2 i hi
  · intro i hi
    rw [upz_n (by omega), upz_n (by omega)]
    exact g3 i hi
  · intro i hi
    obtain ⟨k4, k5, k6⟩ := g4 i hi
    rw [upz_n (show 56 + 4 * i ≠ 58 + 4 * b by omega), upz_n (show 56 + 4 * i ≠ 57 + 4 * b by omega), upz_n (show 57 + 4 * i ≠ 58 + 4 * b by omega)]
    by_cases c : i = b
    · subst c
      simp (disch := omega) only [z_ups, z_upr, upz_s, upz_n]
      exact ⟨k4, trivial, fun _ => trivial⟩
    · simp (disch := omega) only [z_ups, z_upr, upz_s, upz_n]
      exact ⟨k4, k5, k6⟩
  · exact rwI_fr g5 (by simp (disch := omega) only [z_upr]) (by simp (disch := omega) only [z_upr])
  · exact rwI_fr g6 (by simp (disch := omega) only [z_upr]) (by simp (disch := omega) only [z_upr])
  · exact rwI_fr g7 (by simp (disch := omega) only [z_upr]) (by simp (disch := omega) only [z_upr])
theorem pkV_card (V : pkV g) (hb : b < 6) (hu : zP u) (hv : zP v) : pkV (upz (upz g (57 + 4 * b) u) (58 + 4 * b) v) := by
  have h3 := zN_V (pv_nb V) (by decide)
  have h4 := zN_V (pv_nm V) (by decide)
  have h5 := zN_V (pv_np V) (by decide)
  have h6 := zN_V (pv_nc V) (by decide)
  have e : ∀ i, i < 55 ∨ 79 ≤ i → (upz (upz g (57 + 4 * b) u) (58 + 4 * b) v) i = g i := fun i hi => by simp (disch := omega) only [upz_n]
  unfold pkV
  simp (disch := omega) only [e]
  refine ⟨pv_fresh V, pv_sticky V, pv_belief V, pv_nb V, pv_nm V, pv_np V, pv_nc V, ?_, ?_, ?_, ?_, ?_, ?_⟩
  · intro i hi
    rw [e _ (by omega)]
    exact pv_rate V i hi
  · intro i hi
    obtain ⟨k4, k5, k6⟩ := pv_bench V i hi
    rw [upz_n (show 56 + 4 * i ≠ 58 + 4 * b by omega), upz_n (show 56 + 4 * i ≠ 57 + 4 * b by omega), upz_n (show 57 + 4 * i ≠ 58 + 4 * b by omega)]
    by_cases c : i = b
    · subst c
      simp (disch := omega) only [upz_s, upz_n]
      exact ⟨k4, hu, hv⟩
    · simp (disch := omega) only [upz_s, upz_n]
      exact ⟨k4, k5, k6⟩
  · intro i hi
    rw [upz_n (by omega), upz_n (by omega)]
    exact pv_slats V i hi
  · exact pv_maybe V
  · exact pv_pigeon V
  · exact pv_comer V
end TRIAL
