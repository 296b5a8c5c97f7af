/-! one habit for all; one left out -/
section TRIAL
variable {l : List (Nat × Nat)} {r : am_R} {h h' hc hm : am_F} {d m k p b t s w lim a : Nat} {n : Nat → Nat} {f g g' : Nat → Int32} {x x1 x2 x3 x4 y u v : Int32}
theorem pkI_com (H : pkI l h p g) (V : pkV g) (e : ∀ i, i < 111 → i ≠ 6 → g' i = g i) (hx : ∀ x, p ≤ x → x ≤ p + 10 → h' x = h x) (R : rwI l h' (p + 11) 6 14 (nV (g' 6)) (fun i => g' (111 + i))) : pkI l h' p g' := by
  have h3 := zN_V (pv_nb V) (by decide)
  have h4 := zN_V (pv_nm V) (by decide)
  have h5 := zN_V (pv_np V) (by decide)
  obtain ⟨g0, g1, g2, g3, g4, g5, g6, g7⟩ := H
  unfold pkI
  rw [e 0 (by decide) (by decide), e 1 (by decide) (by decide), e 2 (by decide) (by decide), e 3 (by decide) (by decide), e 4 (by decide) (by decide), e 5 (by decide) (by decide), hx p (by omega) (by omega), hx (p + 1) (by omega) (by omega), hx (p + 2) (by omega) (by omega), hx (p + 3) (by omega) (by omega), hx (p + 4) (by omega) (by omega), hx (p + 5) (by omega) (by omega), hx (p + 6) (by omega) (by omega)]
  refine ⟨g0, ?_, ?_, ?_, ?_, ?_, ?_, R⟩
  · intro i hi
    rw [e _ (by omega) (by omega)]
    exact g1 i hi
  · intro i hi
    have : sumR g' 0 i = sumR g 0 i := by
      clear hi
      induction i with
      | zero => rfl
      | succ i ih =>
        show sumR g' 0 i + rateN g' (0 + i) = sumR g 0 i + rateN g (0 + i)
        unfold rateN
        rw [ih, e _ (by omega) (by omega)]
    rw [this]
    exact g2 i hi
  · intro i hi
    rw [e _ (by omega) (by omega)]
    exact g3 i hi
  · intro i hi
    rw [e _ (by omega) (by omega), e _ (by omega) (by omega), e _ (by omega) (by omega)]
    exact g4 i hi
  · exact rwI_congr (fun i hi => e _ (by omega) (by omega)) (rwI_fr g5 (hx _ (by omega) (by omega)) (hx _ (by omega) (by omega)))
  · exact rwI_congr (fun i hi => e _ (by omega) (by omega)) (rwI_fr g6 (hx _ (by omega) (by omega)) (hx _ (by omega) (by omega)))
theorem pkV_com (V : pkV g) (e : ∀ i, i < 111 → i ≠ 6 → g' i = g i) (h6 : zN (g' 6) 15) (hcm : ∀ k, k < nV (g' 6) → zN (g' (111 + 6 * k)) 5 ∧ zN (g' (111 + (6 * k + 1))) 48 ∧ zN (g' (111 + (6 * k + 2))) (nV (g 3)) ∧ zN (g' (111 + (6 * k + 3))) 10 ∧ zN (g' (111 + (6 * k + 4))) 10 ∧ zN (g' (111 + (6 * k + 5))) 10) : pkV g' := by
  have h3 := zN_V (pv_nb V) (by decide)
  have h4 := zN_V (pv_nm V) (by decide)
  have h5 := zN_V (pv_np V) (by decide)
  unfold pkV
  rw [e 0 (by decide) (by decide), e 1 (by decide) (by decide), e 2 (by decide) (by decide), e 3 (by decide) (by decide), e 4 (by decide) (by decide), e 5 (by decide) (by decide)]
  refine ⟨pv_fresh V, pv_sticky V, pv_belief V, pv_nb V, pv_nm V, pv_np V, h6, ?_, ?_, ?_, ?_, ?_, hcm⟩
  · intro i hi
    rw [e _ (by omega) (by omega)]
    exact pv_rate V i hi
  · intro i hi
    rw [e _ (by omega) (by omega), e _ (by omega) (by omega), e _ (by omega) (by omega)]
    exact pv_bench V i hi
  · intro i hi
    rw [e _ (by omega) (by omega)]
    exact pv_slats V i hi
  · intro i hi
    rw [e _ (by omega) (by omega), e _ (by omega) (by omega), e _ (by omega) (by omega)]
    exact pv_maybe V i hi
  · intro i hi
    rw [e _ (by omega) (by omega), e _ (by omega) (by omega)]
    exact pv_pigeon V i hi
theorem habC {nc : Nat} (hn : nc ≤ 14) : ∀ (c k fu : Nat) (h : am_F) (f : Nat → Int32), k + c = nc → c < fu → rwI l h 98 6 14 nc f → Tr_harmByHabit_l10 l r 76 v fu (nI k) h = some (fun x y => if x = 99 ∧ 6 * k ≤ y ∧ y < 6 * nc ∧ y % 6 = 0 then v else h x y) := by
  intro c
  induction c with
  | zero =>
    intro k fu h f hk hfu H
    obtain ⟨fu, rfl⟩ : ∃ q, fu = q + 1 := ⟨fu - 1, by omega⟩
    unfold Tr_harmByHabit_l10
    simp only [Nat.reduceAdd]
    rw [H.2.2.1, if_pos (nI_le (by omega) (by omega))]
    congr 1
    funext x y
    rw [if_neg (by omega)]
  | succ c ih =>
    intro k fu h f hk hfu H
    obtain ⟨fu, rfl⟩ : ∃ q, fu = q + 1 := ⟨fu - 1, by omega⟩
    unfold Tr_harmByHabit_l10
    simp only [Nat.reduceAdd]
    rw [H.2.2.1, if_neg (nI_ge (by omega) (by omega)), show (0 : Int32) = nI 0 from rfl, Rw_set_at H (show k < nc by omega) (by decide), Option.bind_some, nI_1, ih (k + 1) fu _ _ (by omega) (by omega) (rwI_hd H (z_upr (by decide)))]
    congr 1
    funext x y
    simp only [z_up, Nat.reduceAdd]
    repeat' split
    all_goals first | rfl | (exfalso; omega)
theorem habM {nc : Nat} (hn : nc ≤ 14) : ∀ (c k fu : Nat) (h : am_F), k + c = nc → c < fu → h (m + 12) 6 = nI nc → Md_harmBy_l2 m v fu (nI k) h = some (fun x y => if x = m + 12 ∧ 111 + 6 * k ≤ y ∧ y < 111 + 6 * nc ∧ (y - 111) % 6 = 0 then v else h x y) := by
  intro c
  induction c with
  | zero =>
    intro k fu h hk hfu H
    obtain ⟨fu, rfl⟩ : ∃ q, fu = q + 1 := ⟨fu - 1, by omega⟩
    unfold Md_harmBy_l2
    rw [H, if_pos (nI_le (by omega) (by omega))]
    congr 1
    funext x y
    rw [if_neg (by omega)]
  | succ c ih =>
    intro k fu h hk hfu H
    obtain ⟨fu, rfl⟩ : ∃ q, fu = q + 1 := ⟨fu - 1, by omega⟩
    unfold Md_harmBy_l2
    rw [H, if_neg (nI_ge (by omega) (by omega)), show (111 : Int32) = nI 111 from rfl, show (6 : Int32) = nI 6 from rfl, pk_mul, nI_add, z_ix (by omega) (by decide), Option.bind_some, nI_1, ih (k + 1) fu _ (by omega) (by omega) (by rw [z_up, if_neg (by omega)]; exact H)]
    congr 1
    funext x y
    simp only [z_up]
    repeat' split
    all_goals first | rfl | (exfalso; omega)
def rowH (g g' : Nat → Int32) : Prop := ∀ y, y < 195 → (y < 111 ∨ (y - 111) % 6 ≠ 0 ∨ 111 + 6 * nV (g 6) ≤ y) → g' y = g y
theorem harmBy_eq {hv : Nat} (L : wL l m) (SH : scH l hc) (H : pkI l hc p g) (V : pkV g) (hp : p + 12 < 66) (eg : rowH g (hm (m + 12))) (hv5 : hv < 5) : ∃ hc' hm' N, Tr_harmByHabit l r 76 p (nI hv) hc = some (nI N, hc') ∧ Md_harmBy m (nI hv) hm = some (nI N, hm') ∧ rowH g (hm' (m + 12)) ∧ (∀ x, x < 77 ∨ 100 ≤ x → hc' x = hc x) ∧ scH l hc' ∧ scM hm hm' m := by
  have h6 := zN_V (pv_nc V) (by decide)
  obtain ⟨q1, c1, K1, S1, f1⟩ := cp87 (r := r) (q := 0) L SH H V hp
  have R1 := K1.2.2.2.2.2.2.2
  have e1 := habC (r := r) (v := nI hv) (show nV (g 6) ≤ 14 by omega) (nV (g 6)) 0 g_fu q1 _ (by omega) (by unfold g_fu; omega) R1
  have em6 : hm (m + 12) 6 = nI (nV (g 6)) := by rw [eg 6 (by decide) (.inl (by decide))]; exact h6.1
  have e2 := habM (v := nI hv) (show nV (g 6) ≤ 14 by omega) (nV (g 6)) 0 g_fu hm (by omega) (by unfold g_fu; omega) em6
  generalize hq : (fun x y => if x = 99 ∧ 6 * 0 ≤ y ∧ y < 6 * nV (g 6) ∧ y % 6 = 0 then nI hv else q1 x y) = q2 at e1
  generalize hz : (fun x y => if x = m + 12 ∧ 111 + 6 * 0 ≤ y ∧ y < 111 + 6 * nV (g 6) ∧ (y - 111) % 6 = 0 then nI hv else hm x y) = z2 at e2
  have qx : ∀ x, x ≠ 99 → q2 x = q1 x := by
    intro x hx
    rw [← hq]
    funext y
    exact if_neg (fun e => hx e.1)
  have zx : ∀ x, x ≠ m + 12 → z2 x = hm x := by
    intro x hx
    rw [← hz]
    funext y
    exact if_neg (fun e => hx e.1)
  have zr : ∀ y, z2 (m + 12) y = if 111 ≤ y ∧ y < 111 + 6 * nV (g 6) ∧ (y - 111) % 6 = 0 then nI hv else hm (m + 12) y := by
    intro y
    rw [← hz]
    simp only [true_and]
  have zo : ∀ i, i < 111 → z2 (m + 12) i = g i := by
    intro i hi
    rw [zr, if_neg (by omega), eg i (by omega) (.inl hi)]
  have zc : ∀ i, i < 6 * nV (g 6) → z2 (m + 12) (111 + i) = if i % 6 = 0 then nI hv else g (111 + i) := by
    intro i hi
    rw [zr]
    by_cases c : i % 6 = 0
    · rw [if_pos c, if_pos (by omega)]
    · rw [if_neg c, if_neg (by omega), eg _ (by omega) (.inr (.inl (by omega)))]
  have z6 : nV (z2 (m + 12) 6) = nV (g 6) := by rw [zo 6 (by decide)]
  have R2 : rwI l q2 (87 + 11) 6 14 (nV (z2 (m + 12) 6)) (fun i => z2 (m + 12) (111 + i)) := by
    rw [z6]
    have := rwI_hd R1 (h' := q2) (qx 98 (by decide))
    obtain ⟨t0, t1, t3, t4, t5, t6, t7, _⟩ := this
    refine ⟨t0, t1, t3, t4, t5, t6, t7, fun i hi => ?_⟩
    simp only
    rw [zc i hi, ← hq]
    simp only [Nat.reduceAdd, true_and]
    by_cases c : i % 6 = 0
    · rw [if_pos c, if_pos (by omega)]
    · rw [if_neg c, if_neg (by omega)]
      exact R1.2.2.2.2.2.2.2 i hi
  have K2 : pkI l q2 87 (z2 (m + 12)) := pkI_com K1 V (fun i hi _ => zo i hi) (fun x _ _ => qx x (by omega)) R2
  have V2 : pkV (z2 (m + 12)) := by
    refine pkV_com V (fun i hi _ => zo i hi) (by rw [zo 6 (by decide)]; exact pv_nc V) ?_
    rw [z6]
    intro k hk
    obtain ⟨_, v1, v2, v3, v4, v5⟩ := pv_comer V k hk
    rw [zc (6 * k) (by omega), zc (6 * k + 1) (by omega), zc (6 * k + 2) (by omega), zc (6 * k + 3) (by omega), zc (6 * k + 4) (by omega), zc (6 * k + 5) (by omega), if_pos (by omega), if_neg (by omega), if_neg (by omega), if_neg (by omega), if_neg (by omega), if_neg (by omega)]
    exact ⟨⟨hv, hv5, rfl⟩, v1, v2, v3, v4, v5⟩
  have S2 : scH l q2 := ⟨rwH_fr S1.1 (qx _ (by decide)), rwH_fr S1.2.1 (qx _ (by decide)), pkH_of K2⟩
  obtain ⟨hc1, hm1, N, a1, a2, a3, R, a4, a5, a6⟩ := harm_eq (r := r) L S2 K2 V2 (hm := z2) rfl
  refine ⟨hc1, hm1, N, ?_, ?_, ?_, ?_, a6, ?_⟩
  · unfold Tr_harmByHabit
    simp only [Nat.reduceAdd]
    rw [c1, Option.bind_some, show Tr_harmByHabit_l10 l r 76 (nI hv) g_fu 0 q1 = some q2 from e1, Option.bind_some, a1]
    rfl
  · unfold Md_harmBy
    rw [show Md_harmBy_l2 m (nI hv) g_fu 0 hm = some z2 from e2, Option.bind_some, a3]
    rfl
  · intro y hy hyy
    rw [a5.2 _ (by omega), zr]
    rw [if_neg (by omega)]
    exact eg y hy hyy
  · intro x hx
    rw [a4 x (by omega), qx x (by omega), f1 x (by omega)]
  · refine scM_tr (fun x hx => ?_) (scM_fr a5)
    exact zx x (by omega)
theorem rule_l (L : wL l m) (V : pkV g) (hp : p + 12 < 66) : ∀ (c k f1 f2 : Nat) (hc hm : am_F), k + c = 5 → c < f1 → c < f2 → pkI l hc p g → scH l hc → rowH g (hm (m + 12)) → ∃ hc' hm' y, Tr_chooseHabit_l13 l r 76 p f1 (nI k) hc = some hc' ∧ Md_rule_l48 m f2 (hc 76 0) (hc 76 1) (nI k) hm = some (y, hm') ∧ hc' 76 0 = y ∧ frT hc hc' ∧ scH l hc' ∧ scM hm hm' m := by
  intro c
  induction c with
  | zero =>
    intro k f1 f2 hc hm hk hf1 hf2 H SH eg
    obtain ⟨f1, rfl⟩ : ∃ q, f1 = q + 1 := ⟨f1 - 1, by omega⟩
    obtain ⟨f2, rfl⟩ : ∃ q, f2 = q + 1 := ⟨f2 - 1, by omega⟩
    unfold Tr_chooseHabit_l13 Md_rule_l48
    rw [show (5 : Int32) = nI 5 from rfl, show (4 : Int32) = nI 4 from rfl, if_pos (nI_le (by omega) (by omega)), if_pos (nI_lt (by omega) (by omega))]
    exact ⟨hc, hm, _, rfl, rfl, rfl, fun _ _ => rfl, SH, scM_id⟩
  | succ c ih =>
    intro k f1 f2 hc hm hk hf1 hf2 H SH eg
    obtain ⟨f1, rfl⟩ : ∃ q, f1 = q + 1 := ⟨f1 - 1, by omega⟩
    obtain ⟨f2, rfl⟩ : ∃ q, f2 = q + 1 := ⟨f2 - 1, by omega⟩
    obtain ⟨hc1, hm1, N, a1, a3, a4, a5, a6, a7⟩ := harmBy_eq (r := r) (hv := k) L SH H V hp eg (by omega)
    obtain ⟨h2, b1, b2, b3, b4⟩ := less_up hc1 (nI k) (nI N)
    have e76 : hc1 76 = hc 76 := a5 76 (by omega)
    obtain ⟨hc', hm', y, k1, k2, k3, k4, k5, k6⟩ := ih (k + 1) f1 f2 h2 hm1 (by omega) (by omega) (by omega) (pkI_fr H (fun x _ _ => by rw [b4 x (by omega), a5 x (by omega)])) (scH_76 a6 b4) a4
    refine ⟨hc', hm', y, ?_, ?_, k3, ?_, k5, scM_tr a7 k6⟩
    · unfold Tr_chooseHabit_l13
      rw [show (5 : Int32) = nI 5 from rfl, if_neg (nI_ge (by omega) (by omega)), a1, Option.bind_some, b1, Option.bind_some, nI_1]
      exact k1
    · unfold Md_rule_l48
      rw [show (4 : Int32) = nI 4 from rfl, if_neg (nI_nlt (by omega) (by omega)), a3, Option.bind_some]
      simp only
      rw [b2, b3, e76] at k2
      rw [nI_1]
      by_cases cc : hc 76 1 ≤ nI N
      · rw [if_pos cc] at k2 ⊢
        exact k2
      · rw [if_neg cc] at k2 ⊢
        exact k2
    · intro x hx
      rw [k4 x hx, b4 x (by omega), a5 x (by omega)]
theorem q_rule (W : tdW r 1) (B : tdB l hc 1 hm m 0 n) (L : wL l m) (SH : scH l hc) : ∃ v hc' hm', Wp_rule l r 0 x1 x2 hc = some (v, hc') ∧ Md_rule m x1 x2 hm = some (v, hm') ∧ frS hc hc' ∧ scH l hc' ∧ scM hm hm' m := by
  unfold Wp_rule Md_rule
  simp only [Nat.zero_add]
  by_cases cn : x2 < -1 ∨ (5 : Int32) ≤ x2
  · have ei : Md_in x2 (-1) 4 = 0 := by
      apply Md_in_no
      rcases cn with h | h
      · exact .inl h
      · exact .inr (z_biggt (N := 5) (k := 4) h (by decide) (by decide))
    rw [ei, if_pos rfl]
    rcases pk_case W B x1 with ⟨q, g, h', hq, e1, -, -, e2, eg, H, V, C, S⟩ | ⟨e1, e2⟩
    · rw [e1, Option.bind_some]
      refine ⟨-2, hc, _, ?_, rfl, frS_id, SH, scM_up (.inl rfl)⟩
      simp only [g_on]
      rcases cn with h | h
      · rw [if_pos h]
      · by_cases h2 : x2 < -1
        · rw [if_pos h2]
        · rw [if_neg h2, if_neg (Int32.not_lt.2 h)]
    · rw [e1]
      exact ⟨-2, hc, _, rfl, rfl, frS_id, SH, scM_up (.inl rfl)⟩
  · have n1 : ¬ x2 < -1 := fun e => cn (.inl e)
    have n2 : x2 < 5 := Int32.not_le.1 (fun e => cn (.inr e))
    have ei : ¬ Md_in x2 (-1) 4 = 0 := by
      unfold Md_in
      rw [if_neg n1, if_neg]
      · decide
      · intro e
        rw [Int32.lt_iff_toInt_lt] at e n2
        have : (5 : Int32).toInt = 5 := rfl
        have : (4 : Int32).toInt = 4 := rfl
        omega
    rw [if_neg ei]
    rcases pk_case W B x1 with ⟨q, g, h', hq, e1, -, -, e2, eg, H, V, C, S⟩ | ⟨e1, e2⟩
    · rw [e1, e2]
      have hp : (1 + 5 + 19 * q) + 12 < 66 := by omega
      generalize 1 + 5 + 19 * q = p at *
      have rh : rowH g (h' (m + 12)) := fun y _ _ => by rw [eg]
      simp only [Option.bind_some, g_on, if_neg (show ¬ (1 : Int32) = 0 by decide), if_neg n1, if_pos n2]
      by_cases c1 : x2 = -1
      · simp only [if_pos c1]
        obtain ⟨hc1, hm1, N, a1, a3, a4, a5, a6, a7⟩ := harmBy_eq (r := r) (hv := 0) L SH H V hp rh (by decide)
        obtain ⟨h2, b1, b2, b3, b4⟩ := first_up hc1 0 (nI N)
        obtain ⟨hc', hm', y, k1, k2, k3, k4, k5, k6⟩ := rule_l (r := r) L V hp 4 1 g_fu g_fu h2 hm1 (by omega) (by unfold g_fu; omega) (by unfold g_fu; omega) (pkI_fr H (fun x _ _ => by rw [b4 x (by omega), a5 x (by omega)])) (scH_76 a6 b4) a4
        rw [b2, b3] at k2
        refine ⟨y, hc', hm', ?_, ?_, ?_, k5, scM_tr S (scM_tr a7 k6)⟩
        · unfold Tr_chooseHabit
          rw [show Tr_harmByHabit l r 76 p 0 hc = some (nI N, hc1) from a1, Option.bind_some, b1, Option.bind_some, show Tr_chooseHabit_l13 l r 76 p g_fu 1 h2 = some hc' from k1, Option.bind_some, Option.bind_some, k3]
        · rw [show Md_harmBy m 0 h' = some (nI N, hm1) from a3, Option.bind_some, show Md_rule_l48 m g_fu 0 (nI N) 1 hm1 = some (y, hm') from k2]
          rfl
        · intro x hx
          rw [k4 x (by omega), b4 x (by omega), a5 x (by omega)]
      · simp only [if_neg c1]
        obtain ⟨hv, hv5, rfl⟩ : ∃ hv, hv < 5 ∧ x2 = nI hv := by
          rcases pk_ix x2 (n := 5) (by decide) with c | c | ⟨k, hk, e⟩
          · exfalso
            apply c1
            have h1 : x2.toInt = (-1 : Int32).toInt := by
              rw [Int32.lt_iff_toInt_lt] at n1 c
              have : (0 : Int32).toInt = 0 := rfl
              have : (-1 : Int32).toInt = -1 := rfl
              omega
            exact Int32.toInt_inj.1 h1
          · exact absurd n2 (Int32.not_lt.2 c)
          · exact ⟨k, hk, e⟩
        obtain ⟨hc1, hm1, N, a1, a3, a4, a5, a6, a7⟩ := harmBy_eq (r := r) (hv := hv) L SH H V hp rh hv5
        rw [a1, a3]
        exact ⟨nI N, hc1, hm1, rfl, rfl, fun x hx => a5 x (by omega), a6, scM_tr S a7⟩
    · rw [e1, e2]
      exact ⟨-2, hc, _, rfl, rfl, frS_id, SH, scM_up (.inl rfl)⟩
end TRIAL
