/-! lines told into a draft -/
section TELL
variable {l : List (Nat × Nat)} {r : am_R} {hc : am_F} {a B : Nat} {g g' : Nat → Int32} {vs : Nat → Nat}
theorem tell_0 (J : pkJ l hc (a + 1) g) (W : pkW g B) (n0 : hc (a + 20) 0 = nI (vs 0)) (n1 : hc (a + 20) 1 = nI (vs 1)) (n2 : hc (a + 20) 2 = nI (vs 2)) (h1 : vs 0 ≤ vs 1) (h2 : vs 1 ≤ 47) (h3 : vs 2 ≤ 9) (hg : ∀ y, g' y = if 7 + vs 0 ≤ y ∧ y ≤ 7 + vs 1 then nI (vs 2) else g y) : ∃ hc', Rd_tell l r a (nI 0) hc = some hc' ∧ pkJ l hc' (a + 1) g' ∧ pkW g' B ∧ ∀ x, x < a + 1 ∨ a + 14 ≤ x → hc' x = hc x := by
  obtain ⟨w0, w1, w2, w3, w4, w5, w6, w7, w8, w9, w10, w11, w12⟩ := W
  have q3 := zN_V w3 (by decide)
  have q4 := zN_V w4 (by decide)
  have q5 := zN_V w5 (by decide)
  have q6 := zN_V w6 (by decide)
  have e : ∀ y, ¬ (7 + vs 0 ≤ y ∧ y ≤ 7 + vs 1) → g' y = g y := by
    intro y hy
    rw [hg]
    repeat' split
    all_goals first | rfl | (exfalso; omega)
  have hr : Rd_tell l r a (nI 0) hc = some (fun b y => if b = a + 1 + 1 ∧ vs 0 ≤ y ∧ y ≤ vs 1 then nI (vs 2) else hc b y) := by
    unfold Rd_tell
    rw [if_pos (show nI 0 = 0 from rfl)]
    unfold Pk_setRates
    rw [n0, n1, n2]
    have : (if (0 : Int32) < nI (vs 0) then nI (vs 0) else 0) = nI (vs 0) := by
      by_cases c : 0 < vs 0
      · rw [if_pos (show (0 : Int32) < nI (vs 0) from nI_lt c (by omega))]
      · rw [if_neg (show ¬ (0 : Int32) < nI (vs 0) from nI_nlt (show vs 0 ≤ 0 by omega) (by decide)), show vs 0 = 0 by omega]; rfl
    rw [this, setR_l (by omega) (vs 1 + 1 - vs 0) (vs 0) g_fu hc (by omega) (by unfold g_fu; omega)]
    rfl
  generalize eH : (fun b y => if b = a + 1 + 1 ∧ vs 0 ≤ y ∧ y ≤ vs 1 then nI (vs 2) else hc b y : am_F) = hc' at hr
  have ec : ∀ x, x ≠ a + 1 + 1 → hc' x = hc x := by
    intro x hx
    rw [← eH]
    funext y
    show (if x = a + 1 + 1 ∧ vs 0 ≤ y ∧ y ≤ vs 1 then nI (vs 2) else hc x y) = hc x y
    rw [if_neg (by omega)]
  refine ⟨hc', hr, ⟨?_, ?_, ?_, ?_, ?_, ?_, ?_⟩, ⟨?_, ?_, ?_, ?_, ?_, ?_, ?_, ?_, ?_, ?_, ?_, ?_, ?_⟩, fun x hx => ec x (by omega)⟩
  · exact ⟨by rw [ec _ (by omega), e 0 (by omega)]; exact J.1.1, by rw [ec _ (by omega), e 1 (by omega)]; exact J.1.2.1, by rw [ec _ (by omega), e 2 (by omega)]; exact J.1.2.2.1, by rw [ec _ (by omega), e 3 (by omega)]; exact J.1.2.2.2⟩
  · intro i hi
    rw [← eH, hg]
    show (if a + 1 + 1 = a + 1 + 1 ∧ vs 0 ≤ i ∧ i ≤ vs 1 then nI (vs 2) else hc (a + 1 + 1) i) = _
    by_cases c : vs 0 ≤ i ∧ i ≤ vs 1
    · rw [if_pos ⟨rfl, c⟩, if_pos (by omega)]
    · rw [if_neg (by omega), if_neg (by omega)]; exact J.2.1 i hi
  · exact fun b hb => by rw [e 3 (by omega)] at hb; rw [ec _ (by omega), e _ (by omega)]; exact J.2.2.1 b hb
  · exact fun b hb => by rw [ec (a + 1 + 4) (by omega), ec (a + 1 + 5) (by omega), ec (a + 1 + 6) (by omega), e _ (by omega), e _ (by omega), e _ (by omega)]; exact J.2.2.2.1 b hb
  · exact by rw [e 4 (by omega)]; exact rwI_congr (fun i hi => e _ (by omega)) (rw_fr J.2.2.2.2.1 (ec _ (by omega)) (ec _ (by omega)))
  · exact by rw [e 5 (by omega)]; exact rwI_congr (fun i hi => e _ (by omega)) (rw_fr J.2.2.2.2.2.1 (ec _ (by omega)) (ec _ (by omega)))
  · exact by rw [e 6 (by omega)]; exact rwI_congr (fun i hi => e _ (by omega)) (rw_fr J.2.2.2.2.2.2 (ec _ (by omega)) (ec _ (by omega)))
  · exact by rw [e 0 (by omega)]; exact w0
  · exact by rw [e 1 (by omega)]; exact w1
  · exact by rw [e 2 (by omega)]; exact w2
  · exact by rw [e 3 (by omega)]; exact w3
  · exact by rw [e 4 (by omega)]; exact w4
  · exact by rw [e 5 (by omega)]; exact w5
  · exact by rw [e 6 (by omega)]; exact w6
  · intro i hi
    rw [hg]
    by_cases c : 7 + vs 0 ≤ 7 + i ∧ 7 + i ≤ 7 + vs 1
    · rw [if_pos c]; exact zN_nI (by omega)
    · rw [if_neg c]; exact w7 i hi
  · exact fun b hb => by rw [e _ (by omega), e _ (by omega), e _ (by omega)]; exact w8 b hb
  · exact fun b hb => by rw [e 3 (by omega)] at hb; rw [e _ (by omega)]; exact w9 b hb
  · exact fun k hk => by rw [e 4 (by omega)] at hk; rw [e _ (by omega), e _ (by omega), e _ (by omega)]; exact w10 k hk
  · exact fun k hk => by rw [e 5 (by omega)] at hk; rw [e _ (by omega), e _ (by omega)]; exact w11 k hk
  · exact fun k hk => by rw [e 6 (by omega)] at hk; rw [e _ (by omega), e _ (by omega), e _ (by omega), e _ (by omega), e _ (by omega), e _ (by omega)]; exact w12 k hk
theorem tell_1 (J : pkJ l hc (a + 1) g) (W : pkW g B) (n0 : hc (a + 20) 0 = nI (vs 0)) (h1 : 1 ≤ vs 0) (h2 : vs 0 ≤ 60) (hg : ∀ y, g' y = if y = 0 then nI (vs 0) else g y) : ∃ hc', Rd_tell l r a (nI 1) hc = some hc' ∧ pkJ l hc' (a + 1) g' ∧ pkW g' B ∧ ∀ x, x < a + 1 ∨ a + 14 ≤ x → hc' x = hc x := by
  obtain ⟨w0, w1, w2, w3, w4, w5, w6, w7, w8, w9, w10, w11, w12⟩ := W
  have q3 := zN_V w3 (by decide)
  have q4 := zN_V w4 (by decide)
  have q5 := zN_V w5 (by decide)
  have q6 := zN_V w6 (by decide)
  have e : ∀ y, y ≠ 0 → g' y = g y := by
    intro y hy
    rw [hg]
    repeat' split
    all_goals first | rfl | (exfalso; omega)
  have hr : Rd_tell l r a (nI 1) hc = some (am_up hc (a + 1) 0 (nI (vs 0))) := by
    unfold Rd_tell
    rw [if_neg (show ¬ nI 1 = 0 by decide), if_pos (show nI 1 = 1 from rfl)]
    rw [n0]
  generalize eH : (am_up hc (a + 1) 0 (nI (vs 0)) : am_F) = hc' at hr
  have ec : ∀ x, x ≠ a + 1 → hc' x = hc x := by
    intro x hx
    rw [← eH]
    rw [z_upr hx]
  refine ⟨hc', hr, ⟨?_, ?_, ?_, ?_, ?_, ?_, ?_⟩, ⟨?_, ?_, ?_, ?_, ?_, ?_, ?_, ?_, ?_, ?_, ?_, ?_, ?_⟩, fun x hx => ec x (by omega)⟩
  · exact ⟨by rw [← eH, z_ups, upz_s, hg, if_pos rfl], by rw [← eH, z_ups, upz_n (by decide), e 1 (by omega)]; exact J.1.2.1, by rw [← eH, z_ups, upz_n (by decide), e 2 (by omega)]; exact J.1.2.2.1, by rw [← eH, z_ups, upz_n (by decide), e 3 (by omega)]; exact J.1.2.2.2⟩
  · exact fun i hi => by rw [ec _ (by omega), e _ (by omega)]; exact J.2.1 i hi
  · exact fun b hb => by rw [e 3 (by omega)] at hb; rw [ec _ (by omega), e _ (by omega)]; exact J.2.2.1 b hb
  · exact fun b hb => by rw [ec (a + 1 + 4) (by omega), ec (a + 1 + 5) (by omega), ec (a + 1 + 6) (by omega), e _ (by omega), e _ (by omega), e _ (by omega)]; exact J.2.2.2.1 b hb
  · exact by rw [e 4 (by omega)]; exact rwI_congr (fun i hi => e _ (by omega)) (rw_fr J.2.2.2.2.1 (ec _ (by omega)) (ec _ (by omega)))
  · exact by rw [e 5 (by omega)]; exact rwI_congr (fun i hi => e _ (by omega)) (rw_fr J.2.2.2.2.2.1 (ec _ (by omega)) (ec _ (by omega)))
  · exact by rw [e 6 (by omega)]; exact rwI_congr (fun i hi => e _ (by omega)) (rw_fr J.2.2.2.2.2.2 (ec _ (by omega)) (ec _ (by omega)))
  · exact by rw [hg, if_pos rfl]; exact ⟨zN_nI (by omega), by rw [nV_nI (by omega)]; omega⟩
  · exact by rw [e 1 (by omega)]; exact w1
  · exact by rw [e 2 (by omega)]; exact w2
  · exact by rw [e 3 (by omega)]; exact w3
  · exact by rw [e 4 (by omega)]; exact w4
  · exact by rw [e 5 (by omega)]; exact w5
  · exact by rw [e 6 (by omega)]; exact w6
  · exact fun i hi => by rw [e _ (by omega)]; exact w7 i hi
  · exact fun b hb => by rw [e _ (by omega), e _ (by omega), e _ (by omega)]; exact w8 b hb
  · exact fun b hb => by rw [e 3 (by omega)] at hb; rw [e _ (by omega)]; exact w9 b hb
  · exact fun k hk => by rw [e 4 (by omega)] at hk; rw [e _ (by omega), e _ (by omega), e _ (by omega)]; exact w10 k hk
  · exact fun k hk => by rw [e 5 (by omega)] at hk; rw [e _ (by omega), e _ (by omega)]; exact w11 k hk
  · exact fun k hk => by rw [e 6 (by omega)] at hk; rw [e _ (by omega), e _ (by omega), e _ (by omega), e _ (by omega), e _ (by omega), e _ (by omega)]; exact w12 k hk
theorem tell_2 (J : pkJ l hc (a + 1) g) (W : pkW g B) (n0 : hc (a + 20) 0 = nI (vs 0)) (h1 : 0 ≤ vs 0) (h2 : vs 0 ≤ 60) (hg : ∀ y, g' y = if y = 1 then nI (vs 0) else g y) : ∃ hc', Rd_tell l r a (nI 2) hc = some hc' ∧ pkJ l hc' (a + 1) g' ∧ pkW g' B ∧ ∀ x, x < a + 1 ∨ a + 14 ≤ x → hc' x = hc x := by
  obtain ⟨w0, w1, w2, w3, w4, w5, w6, w7, w8, w9, w10, w11, w12⟩ := W
  have q3 := zN_V w3 (by decide)
  have q4 := zN_V w4 (by decide)
  have q5 := zN_V w5 (by decide)
  have q6 := zN_V w6 (by decide)
  have e : ∀ y, y ≠ 1 → g' y = g y := by
    intro y hy
    rw [hg]
    repeat' split
    all_goals first | rfl | (exfalso; omega)
  have hr : Rd_tell l r a (nI 2) hc = some (am_up hc (a + 1) 1 (nI (vs 0))) := by
    unfold Rd_tell
    rw [if_neg (show ¬ nI 2 = 0 by decide), if_neg (show ¬ nI 2 = 1 by decide), if_pos (show nI 2 = 2 from rfl)]
    rw [n0]
  generalize eH : (am_up hc (a + 1) 1 (nI (vs 0)) : am_F) = hc' at hr
  have ec : ∀ x, x ≠ a + 1 → hc' x = hc x := by
    intro x hx
    rw [← eH]
    rw [z_upr hx]
  refine ⟨hc', hr, ⟨?_, ?_, ?_, ?_, ?_, ?_, ?_⟩, ⟨?_, ?_, ?_, ?_, ?_, ?_, ?_, ?_, ?_, ?_, ?_, ?_, ?_⟩, fun x hx => ec x (by omega)⟩
  · exact ⟨by rw [← eH, z_ups, upz_n (by decide), e 0 (by omega)]; exact J.1.1, by rw [← eH, z_ups, upz_s, hg, if_pos rfl], by rw [← eH, z_ups, upz_n (by decide), e 2 (by omega)]; exact J.1.2.2.1, by rw [← eH, z_ups, upz_n (by decide), e 3 (by omega)]; exact J.1.2.2.2⟩
  · exact fun i hi => by rw [ec _ (by omega), e _ (by omega)]; exact J.2.1 i hi
  · exact fun b hb => by rw [e 3 (by omega)] at hb; rw [ec _ (by omega), e _ (by omega)]; exact J.2.2.1 b hb
  · exact fun b hb => by rw [ec (a + 1 + 4) (by omega), ec (a + 1 + 5) (by omega), ec (a + 1 + 6) (by omega), e _ (by omega), e _ (by omega), e _ (by omega)]; exact J.2.2.2.1 b hb
  · exact by rw [e 4 (by omega)]; exact rwI_congr (fun i hi => e _ (by omega)) (rw_fr J.2.2.2.2.1 (ec _ (by omega)) (ec _ (by omega)))
  · exact by rw [e 5 (by omega)]; exact rwI_congr (fun i hi => e _ (by omega)) (rw_fr J.2.2.2.2.2.1 (ec _ (by omega)) (ec _ (by omega)))
  · exact by rw [e 6 (by omega)]; exact rwI_congr (fun i hi => e _ (by omega)) (rw_fr J.2.2.2.2.2.2 (ec _ (by omega)) (ec _ (by omega)))
  · exact by rw [e 0 (by omega)]; exact w0
  · exact by rw [hg, if_pos rfl]; exact zN_nI (by omega)
  · exact by rw [e 2 (by omega)]; exact w2
  · exact by rw [e 3 (by omega)]; exact w3
  · exact by rw [e 4 (by omega)]; exact w4
  · exact by rw [e 5 (by omega)]; exact w5
  · exact by rw [e 6 (by omega)]; exact w6
  · exact fun i hi => by rw [e _ (by omega)]; exact w7 i hi
  · exact fun b hb => by rw [e _ (by omega), e _ (by omega), e _ (by omega)]; exact w8 b hb
  · exact fun b hb => by rw [e 3 (by omega)] at hb; rw [e _ (by omega)]; exact w9 b hb
  · exact fun k hk => by rw [e 4 (by omega)] at hk; rw [e _ (by omega), e _ (by omega), e _ (by omega)]; exact w10 k hk
  · exact fun k hk => by rw [e 5 (by omega)] at hk; rw [e _ (by omega), e _ (by omega)]; exact w11 k hk
  · exact fun k hk => by rw [e 6 (by omega)] at hk; rw [e _ (by omega), e _ (by omega), e _ (by omega), e _ (by omega), e _ (by omega), e _ (by omega)]; exact w12 k hk
theorem tell_3 (J : pkJ l hc (a + 1) g) (W : pkW g B) (n0 : hc (a + 20) 0 = nI (vs 0)) (h1 : 0 ≤ vs 0) (h2 : vs 0 ≤ 100) (hg : ∀ y, g' y = if y = 2 then nI (vs 0) else g y) : ∃ hc', Rd_tell l r a (nI 3) hc = some hc' ∧ pkJ l hc' (a + 1) g' ∧ pkW g' B ∧ ∀ x, x < a + 1 ∨ a + 14 ≤ x → hc' x = hc x := by
  obtain ⟨w0, w1, w2, w3, w4, w5, w6, w7, w8, w9, w10, w11, w12⟩ := W
  have q3 := zN_V w3 (by decide)
  have q4 := zN_V w4 (by decide)
  have q5 := zN_V w5 (by decide)
  have q6 := zN_V w6 (by decide)
  have e : ∀ y, y ≠ 2 → g' y = g y := by
    intro y hy
    rw [hg]
    repeat' split
    all_goals first | rfl | (exfalso; omega)
  have hr : Rd_tell l r a (nI 3) hc = some (am_up hc (a + 1) 2 (nI (vs 0))) := by
    unfold Rd_tell
    rw [if_neg (show ¬ nI 3 = 0 by decide), if_neg (show ¬ nI 3 = 1 by decide), if_neg (show ¬ nI 3 = 2 by decide), if_pos (show nI 3 = 3 from rfl)]
    rw [n0]
  generalize eH : (am_up hc (a + 1) 2 (nI (vs 0)) : am_F) = hc' at hr
  have ec : ∀ x, x ≠ a + 1 → hc' x = hc x := by
    intro x hx
    rw [← eH]
    rw [z_upr hx]
  refine ⟨hc', hr, ⟨?_, ?_, ?_, ?_, ?_, ?_, ?_⟩, ⟨?_, ?_, ?_, ?_, ?_, ?_, ?_, ?_, ?_, ?_, ?_, ?_, ?_⟩, fun x hx => ec x (by omega)⟩
  · exact ⟨by rw [← eH, z_ups, upz_n (by decide), e 0 (by omega)]; exact J.1.1, by rw [← eH, z_ups, upz_n (by decide), e 1 (by omega)]; exact J.1.2.1, by rw [← eH, z_ups, upz_s, hg, if_pos rfl], by rw [← eH, z_ups, upz_n (by decide), e 3 (by omega)]; exact J.1.2.2.2⟩
  · exact fun i hi => by rw [ec _ (by omega), e _ (by omega)]; exact J.2.1 i hi
  · exact fun b hb => by rw [e 3 (by omega)] at hb; rw [ec _ (by omega), e _ (by omega)]; exact J.2.2.1 b hb
  · exact fun b hb => by rw [ec (a + 1 + 4) (by omega), ec (a + 1 + 5) (by omega), ec (a + 1 + 6) (by omega), e _ (by omega), e _ (by omega), e _ (by omega)]; exact J.2.2.2.1 b hb
  · exact by rw [e 4 (by omega)]; exact rwI_congr (fun i hi => e _ (by omega)) (rw_fr J.2.2.2.2.1 (ec _ (by omega)) (ec _ (by omega)))
  · exact by rw [e 5 (by omega)]; exact rwI_congr (fun i hi => e _ (by omega)) (rw_fr J.2.2.2.2.2.1 (ec _ (by omega)) (ec _ (by omega)))
  · exact by rw [e 6 (by omega)]; exact rwI_congr (fun i hi => e _ (by omega)) (rw_fr J.2.2.2.2.2.2 (ec _ (by omega)) (ec _ (by omega)))
  · exact by rw [e 0 (by omega)]; exact w0
  · exact by rw [e 1 (by omega)]; exact w1
  · exact by rw [hg, if_pos rfl]; exact zN_nI (by omega)
  · exact by rw [e 3 (by omega)]; exact w3
  · exact by rw [e 4 (by omega)]; exact w4
  · exact by rw [e 5 (by omega)]; exact w5
  · exact by rw [e 6 (by omega)]; exact w6
  · exact fun i hi => by rw [e _ (by omega)]; exact w7 i hi
  · exact fun b hb => by rw [e _ (by omega), e _ (by omega), e _ (by omega)]; exact w8 b hb
  · exact fun b hb => by rw [e 3 (by omega)] at hb; rw [e _ (by omega)]; exact w9 b hb
  · exact fun k hk => by rw [e 4 (by omega)] at hk; rw [e _ (by omega), e _ (by omega), e _ (by omega)]; exact w10 k hk
  · exact fun k hk => by rw [e 5 (by omega)] at hk; rw [e _ (by omega), e _ (by omega)]; exact w11 k hk
  · exact fun k hk => by rw [e 6 (by omega)] at hk; rw [e _ (by omega), e _ (by omega), e _ (by omega), e _ (by omega), e _ (by omega), e _ (by omega)]; exact w12 k hk
theorem tell_4 (J : pkJ l hc (a + 1) g) (W : pkW g B) (n0 : hc (a + 20) 0 = nI (vs 0)) (h1 : 1 ≤ vs 0) (h2 : vs 0 ≤ 9) (h3 : nV (g 3) < 6) (hg : ∀ y, g' y = if y = 55 + 4 * nV (g 3) then nI (vs 0) else if y = 3 then nI (nV (g 3) + 1) else g y) : ∃ hc', Rd_tell l r a (nI 4) hc = some hc' ∧ pkJ l hc' (a + 1) g' ∧ pkW g' B ∧ ∀ x, x < a + 1 ∨ a + 14 ≤ x → hc' x = hc x := by
  obtain ⟨w0, w1, w2, w3, w4, w5, w6, w7, w8, w9, w10, w11, w12⟩ := W
  have q3 := zN_V w3 (by decide)
  have q4 := zN_V w4 (by decide)
  have q5 := zN_V w5 (by decide)
  have q6 := zN_V w6 (by decide)
  have g3 : g' 3 = nI (nV (g 3) + 1) := by rw [hg, if_neg (by omega), if_pos rfl]
  have e : ∀ y, y ≠ 55 + 4 * nV (g 3) ∧ y ≠ 3 → g' y = g y := by
    intro y hy
    rw [hg]
    repeat' split
    all_goals first | rfl | (exfalso; omega)
  have hr : Rd_tell l r a (nI 4) hc = some (am_up (am_up hc (a + 1 + 3) (nV (g 3)) (nI (vs 0))) (a + 1) 3 (nI (nV (g 3) + 1))) := by
    unfold Rd_tell
    rw [if_neg (show ¬ nI 4 = 0 by decide), if_neg (show ¬ nI 4 = 1 by decide), if_neg (show ¬ nI 4 = 2 by decide), if_neg (show ¬ nI 4 = 3 by decide), if_pos (show nI 4 = 4 from rfl)]
    unfold Pk_addBench
    have e3 : hc (a + 1) 3 = nI (nV (g 3)) := by rw [J.1.2.2.2]; exact q3.1
    rw [n0, e3, if_neg (show ¬ (6 : Int32) ≤ nI (nV (g 3)) from nI_ge (show nV (g 3) < 6 by omega) (by decide)), z_ix (by omega) (by decide)]
    simp only [Option.bind_some]
    rw [z_upr (by omega), e3, nI_1]
  generalize eH : (am_up (am_up hc (a + 1 + 3) (nV (g 3)) (nI (vs 0))) (a + 1) 3 (nI (nV (g 3) + 1)) : am_F) = hc' at hr
  have ec : ∀ x, x ≠ a + 1 ∧ x ≠ a + 1 + 3 → hc' x = hc x := by
    intro x hx
    rw [← eH]
    rw [z_upr hx.1, z_upr hx.2]
  refine ⟨hc', hr, ⟨?_, ?_, ?_, ?_, ?_, ?_, ?_⟩, ⟨?_, ?_, ?_, ?_, ?_, ?_, ?_, ?_, ?_, ?_, ?_, ?_, ?_⟩, fun x hx => ec x (by omega)⟩
  · exact ⟨by rw [← eH, z_ups, upz_n (by decide), z_upr (by omega), e 0 (by omega)]; exact J.1.1, by rw [← eH, z_ups, upz_n (by decide), z_upr (by omega), e 1 (by omega)]; exact J.1.2.1, by rw [← eH, z_ups, upz_n (by decide), z_upr (by omega), e 2 (by omega)]; exact J.1.2.2.1, by rw [← eH, z_ups, upz_s, g3]⟩
  · exact fun i hi => by rw [ec _ (by omega), e _ (by omega)]; exact J.2.1 i hi
  · intro b hb
    rw [g3, nV_nI (by omega)] at hb
    rw [← eH, z_upr (by omega), z_ups]
    by_cases c : b = nV (g 3)
    · rw [c, upz_s, hg, if_pos rfl]
    · rw [upz_n c, e _ (by omega)]; exact J.2.2.1 b (by omega)
  · exact fun b hb => by rw [ec (a + 1 + 4) (by omega), ec (a + 1 + 5) (by omega), ec (a + 1 + 6) (by omega), e _ (by omega), e _ (by omega), e _ (by omega)]; exact J.2.2.2.1 b hb
  · exact by rw [e 4 (by omega)]; exact rwI_congr (fun i hi => e _ (by omega)) (rw_fr J.2.2.2.2.1 (ec _ (by omega)) (ec _ (by omega)))
  · exact by rw [e 5 (by omega)]; exact rwI_congr (fun i hi => e _ (by omega)) (rw_fr J.2.2.2.2.2.1 (ec _ (by omega)) (ec _ (by omega)))
  · exact by rw [e 6 (by omega)]; exact rwI_congr (fun i hi => e _ (by omega)) (rw_fr J.2.2.2.2.2.2 (ec _ (by omega)) (ec _ (by omega)))
  · exact by rw [e 0 (by omega)]; exact w0
  · exact by rw [e 1 (by omega)]; exact w1
  · exact by rw [e 2 (by omega)]; exact w2
  · exact by rw [g3]; exact zN_nI (by omega)
  · exact by rw [e 4 (by omega)]; exact w4
  · exact by rw [e 5 (by omega)]; exact w5
  · exact by rw [e 6 (by omega)]; exact w6
  · exact fun i hi => by rw [e _ (by omega)]; exact w7 i hi
  · exact fun b hb => by rw [e _ (by omega), e _ (by omega), e _ (by omega)]; exact w8 b hb
  · intro b hb
    rw [g3, nV_nI (by omega)] at hb
    by_cases c : b = nV (g 3)
    · rw [c, hg, if_pos rfl]; exact ⟨zN_nI (by omega), by rw [nV_nI (by omega)]; omega⟩
    · rw [e _ (by omega)]; exact w9 b (by omega)
  · exact fun k hk => by rw [e 4 (by omega)] at hk; rw [e _ (by omega), e _ (by omega), e _ (by omega)]; exact w10 k hk
  · exact fun k hk => by rw [e 5 (by omega)] at hk; rw [e _ (by omega), e _ (by omega)]; exact w11 k hk
  · exact fun k hk => by rw [e 6 (by omega)] at hk; rw [e _ (by omega), e _ (by omega), e _ (by omega), e _ (by omega), e _ (by omega), e _ (by omega)]; exact w12 k hk
theorem tell_5 (J : pkJ l hc (a + 1) g) (W : pkW g B) (n0 : hc (a + 20) 0 = nI (vs 0)) (n1 : hc (a + 20) 1 = nI (vs 1)) (h1 : vs 0 ≤ 5) (h2 : vs 1 ≤ 47) (hg : ∀ y, g' y = if y = 56 + 4 * vs 0 then nI (vs 1) else g y) : ∃ hc', Rd_tell l r a (nI 5) hc = some hc' ∧ pkJ l hc' (a + 1) g' ∧ pkW g' B ∧ ∀ x, x < a + 1 ∨ a + 14 ≤ x → hc' x = hc x := by
  obtain ⟨w0, w1, w2, w3, w4, w5, w6, w7, w8, w9, w10, w11, w12⟩ := W
  have q3 := zN_V w3 (by decide)
  have q4 := zN_V w4 (by decide)
  have q5 := zN_V w5 (by decide)
  have q6 := zN_V w6 (by decide)
  have e : ∀ y, y ≠ 56 + 4 * vs 0 → g' y = g y := by
    intro y hy
    rw [hg]
    repeat' split
    all_goals first | rfl | (exfalso; omega)
  have hr : Rd_tell l r a (nI 5) hc = some (am_up hc (a + 1 + 4) (vs 0) (nI (vs 1))) := by
    unfold Rd_tell
    rw [if_neg (show ¬ nI 5 = 0 by decide), if_neg (show ¬ nI 5 = 1 by decide), if_neg (show ¬ nI 5 = 2 by decide), if_neg (show ¬ nI 5 = 3 by decide), if_neg (show ¬ nI 5 = 4 by decide), if_pos (show nI 5 = 5 from rfl)]
    unfold Pk_setPainted
    rw [n0, n1, if_neg (nI_pos (by omega)), if_neg (show ¬ (6 : Int32) ≤ nI (vs 0) from nI_ge (show vs 0 < 6 by omega) (by decide)), z_ix (by omega) (by decide)]
    rfl
  generalize eH : (am_up hc (a + 1 + 4) (vs 0) (nI (vs 1)) : am_F) = hc' at hr
  have ec : ∀ x, x ≠ a + 1 + 4 → hc' x = hc x := by
    intro x hx
    rw [← eH]
    rw [z_upr hx]
  refine ⟨hc', hr, ⟨?_, ?_, ?_, ?_, ?_, ?_, ?_⟩, ⟨?_, ?_, ?_, ?_, ?_, ?_, ?_, ?_, ?_, ?_, ?_, ?_, ?_⟩, fun x hx => ec x (by omega)⟩
  · exact ⟨by rw [ec _ (by omega), e 0 (by omega)]; exact J.1.1, by rw [ec _ (by omega), e 1 (by omega)]; exact J.1.2.1, by rw [ec _ (by omega), e 2 (by omega)]; exact J.1.2.2.1, by rw [ec _ (by omega), e 3 (by omega)]; exact J.1.2.2.2⟩
  · exact fun i hi => by rw [ec _ (by omega), e _ (by omega)]; exact J.2.1 i hi
  · exact fun b hb => by rw [e 3 (by omega)] at hb; rw [ec _ (by omega), e _ (by omega)]; exact J.2.2.1 b hb
  · intro b hb
    rw [← eH, z_ups, z_upr (by omega), z_upr (by omega), e (57 + 4 * b) (by omega), e (58 + 4 * b) (by omega)]
    refine ⟨?_, (J.2.2.2.1 b hb).2⟩
    by_cases c : b = vs 0
    · rw [c, upz_s, hg, if_pos rfl]
    · rw [upz_n c, e _ (by omega)]; exact (J.2.2.2.1 b hb).1
  · exact by rw [e 4 (by omega)]; exact rwI_congr (fun i hi => e _ (by omega)) (rw_fr J.2.2.2.2.1 (ec _ (by omega)) (ec _ (by omega)))
  · exact by rw [e 5 (by omega)]; exact rwI_congr (fun i hi => e _ (by omega)) (rw_fr J.2.2.2.2.2.1 (ec _ (by omega)) (ec _ (by omega)))
  · exact by rw [e 6 (by omega)]; exact rwI_congr (fun i hi => e _ (by omega)) (rw_fr J.2.2.2.2.2.2 (ec _ (by omega)) (ec _ (by omega)))
  · exact by rw [e 0 (by omega)]; exact w0
  · exact by rw [e 1 (by omega)]; exact w1
  · exact by rw [e 2 (by omega)]; exact w2
  · exact by rw [e 3 (by omega)]; exact w3
  · exact by rw [e 4 (by omega)]; exact w4
  · exact by rw [e 5 (by omega)]; exact w5
  · exact by rw [e 6 (by omega)]; exact w6
  · exact fun i hi => by rw [e _ (by omega)]; exact w7 i hi
  · intro b hb
    rw [e (57 + 4 * b) (by omega), e (58 + 4 * b) (by omega)]
    refine ⟨?_, (w8 b hb).2⟩
    by_cases c : b = vs 0
    · rw [c, hg, if_pos rfl]; exact .inr (zN_nI (by omega))
    · rw [e _ (by omega)]; exact (w8 b hb).1
  · exact fun b hb => by rw [e 3 (by omega)] at hb; rw [e _ (by omega)]; exact w9 b hb
  · exact fun k hk => by rw [e 4 (by omega)] at hk; rw [e _ (by omega), e _ (by omega), e _ (by omega)]; exact w10 k hk
  · exact fun k hk => by rw [e 5 (by omega)] at hk; rw [e _ (by omega), e _ (by omega)]; exact w11 k hk
  · exact fun k hk => by rw [e 6 (by omega)] at hk; rw [e _ (by omega), e _ (by omega), e _ (by omega), e _ (by omega), e _ (by omega), e _ (by omega)]; exact w12 k hk
theorem tell_6 (J : pkJ l hc (a + 1) g) (W : pkW g B) (n0 : hc (a + 20) 0 = nI (vs 0)) (n1 : hc (a + 20) 1 = nI (vs 1)) (n2 : hc (a + 20) 2 = nI (vs 2)) (h1 : vs 0 ≤ 5) (h2 : vs 1 ≤ 47) (h3 : vs 2 ≤ 47) (hg : ∀ y, g' y = if y = 57 + 4 * vs 0 then nI (vs 1) else if y = 58 + 4 * vs 0 then nI (vs 2) else g y) : ∃ hc', Rd_tell l r a (nI 6) hc = some hc' ∧ pkJ l hc' (a + 1) g' ∧ pkW g' B ∧ ∀ x, x < a + 1 ∨ a + 14 ≤ x → hc' x = hc x := by
  obtain ⟨w0, w1, w2, w3, w4, w5, w6, w7, w8, w9, w10, w11, w12⟩ := W
  have q3 := zN_V w3 (by decide)
  have q4 := zN_V w4 (by decide)
  have q5 := zN_V w5 (by decide)
  have q6 := zN_V w6 (by decide)
  have e : ∀ y, y ≠ 57 + 4 * vs 0 ∧ y ≠ 58 + 4 * vs 0 → g' y = g y := by
    intro y hy
    rw [hg]
    repeat' split
    all_goals first | rfl | (exfalso; omega)
  have hr : Rd_tell l r a (nI 6) hc = some (am_up (am_up hc (a + 1 + 5) (vs 0) (nI (vs 1))) (a + 1 + 6) (vs 0) (nI (vs 2))) := by
    unfold Rd_tell
    rw [if_neg (show ¬ nI 6 = 0 by decide), if_neg (show ¬ nI 6 = 1 by decide), if_neg (show ¬ nI 6 = 2 by decide), if_neg (show ¬ nI 6 = 3 by decide), if_neg (show ¬ nI 6 = 4 by decide), if_neg (show ¬ nI 6 = 5 by decide), if_pos (show nI 6 = 6 from rfl)]
    unfold Pk_setCard
    rw [n0, n1, n2, if_neg (nI_pos (by omega)), if_neg (show ¬ (6 : Int32) ≤ nI (vs 0) from nI_ge (show vs 0 < 6 by omega) (by decide)), z_ix (by omega) (by decide)]
    rfl
  generalize eH : (am_up (am_up hc (a + 1 + 5) (vs 0) (nI (vs 1))) (a + 1 + 6) (vs 0) (nI (vs 2)) : am_F) = hc' at hr
  have ec : ∀ x, x ≠ a + 1 + 5 ∧ x ≠ a + 1 + 6 → hc' x = hc x := by
    intro x hx
    rw [← eH]
    rw [z_upr hx.2, z_upr hx.1]
  refine ⟨hc', hr, ⟨?_, ?_, ?_, ?_, ?_, ?_, ?_⟩, ⟨?_, ?_, ?_, ?_, ?_, ?_, ?_, ?_, ?_, ?_, ?_, ?_, ?_⟩, fun x hx => ec x (by omega)⟩
  · exact ⟨by rw [ec _ (by omega), e 0 (by omega)]; exact J.1.1, by rw [ec _ (by omega), e 1 (by omega)]; exact J.1.2.1, by rw [ec _ (by omega), e 2 (by omega)]; exact J.1.2.2.1, by rw [ec _ (by omega), e 3 (by omega)]; exact J.1.2.2.2⟩
  · exact fun i hi => by rw [ec _ (by omega), e _ (by omega)]; exact J.2.1 i hi
  · exact fun b hb => by rw [e 3 (by omega)] at hb; rw [ec _ (by omega), e _ (by omega)]; exact J.2.2.1 b hb
  · intro b hb
    rw [← eH, z_upr (show a + 1 + 4 ≠ a + 1 + 6 by omega), z_upr (show a + 1 + 4 ≠ a + 1 + 5 by omega), z_upr (show a + 1 + 5 ≠ a + 1 + 6 by omega), z_ups, z_ups, z_upr (show a + 1 + 6 ≠ a + 1 + 5 by omega), e (56 + 4 * b) (by omega)]
    refine ⟨(J.2.2.2.1 b hb).1, ?_⟩
    by_cases c : b = vs 0
    · rw [c, upz_s, upz_s, hg, if_pos rfl, hg, if_neg (by omega), if_pos rfl]; exact ⟨rfl, rfl⟩
    · rw [upz_n c, upz_n c, e (57 + 4 * b) (by omega), e (58 + 4 * b) (by omega)]; exact (J.2.2.2.1 b hb).2
  · exact by rw [e 4 (by omega)]; exact rwI_congr (fun i hi => e _ (by omega)) (rw_fr J.2.2.2.2.1 (ec _ (by omega)) (ec _ (by omega)))
  · exact by rw [e 5 (by omega)]; exact rwI_congr (fun i hi => e _ (by omega)) (rw_fr J.2.2.2.2.2.1 (ec _ (by omega)) (ec _ (by omega)))
  · exact by rw [e 6 (by omega)]; exact rwI_congr (fun i hi => e _ (by omega)) (rw_fr J.2.2.2.2.2.2 (ec _ (by omega)) (ec _ (by omega)))
  · exact by rw [e 0 (by omega)]; exact w0
  · exact by rw [e 1 (by omega)]; exact w1
  · exact by rw [e 2 (by omega)]; exact w2
  · exact by rw [e 3 (by omega)]; exact w3
  · exact by rw [e 4 (by omega)]; exact w4
  · exact by rw [e 5 (by omega)]; exact w5
  · exact by rw [e 6 (by omega)]; exact w6
  · exact fun i hi => by rw [e _ (by omega)]; exact w7 i hi
  · intro b hb
    rw [e (56 + 4 * b) (by omega)]
    refine ⟨(w8 b hb).1, ?_⟩
    by_cases c : b = vs 0
    · rw [c, hg, if_pos rfl, hg, if_neg (by omega), if_pos rfl]; exact ⟨.inr (zN_nI (by omega)), .inr (zN_nI (by omega))⟩
    · rw [e (57 + 4 * b) (by omega), e (58 + 4 * b) (by omega)]; exact (w8 b hb).2
  · exact fun b hb => by rw [e 3 (by omega)] at hb; rw [e _ (by omega)]; exact w9 b hb
  · exact fun k hk => by rw [e 4 (by omega)] at hk; rw [e _ (by omega), e _ (by omega), e _ (by omega)]; exact w10 k hk
  · exact fun k hk => by rw [e 5 (by omega)] at hk; rw [e _ (by omega), e _ (by omega)]; exact w11 k hk
  · exact fun k hk => by rw [e 6 (by omega)] at hk; rw [e _ (by omega), e _ (by omega), e _ (by omega), e _ (by omega), e _ (by omega), e _ (by omega)]; exact w12 k hk
theorem tell_7 (J : pkJ l hc (a + 1) g) (W : pkW g B)  (nn : ∀ i, i < 3 → hc (a + 20) i = nI (vs i)) (hl : g_ln l (a + 20) = 6) (h1 : vs 0 < B) (h2 : vs 1 ≤ 47) (h3 : 1 ≤ vs 2) (h4 : vs 2 ≤ 9) (hn : nV (g 4) < 8) (hg : ∀ y, g' y = if 79 + 3 * nV (g 4) ≤ y ∧ y < 79 + 3 * nV (g 4) + 3 then nI (vs (y - (79 + 3 * nV (g 4)))) else if y = 4 then nI (nV (g 4) + 1) else g y) : ∃ hc', Rd_tell l r a (nI 7) hc = some hc' ∧ pkJ l hc' (a + 1) g' ∧ pkW g' B ∧ ∀ x, x < a + 1 ∨ a + 14 ≤ x → hc' x = hc x := by
  obtain ⟨w0, w1, w2, w3, w4, w5, w6, w7, w8, w9, w10, w11, w12⟩ := W
  have q3 := zN_V w3 (by decide)
  have q4 := zN_V w4 (by decide)
  have q5 := zN_V w5 (by decide)
  have q6 := zN_V w6 (by decide)
  have gc : g' 4 = nI (nV (g 4) + 1) := by rw [hg, if_neg (by omega), if_pos rfl]
  have gn : ∀ i, i < 3 → g' (79 + (3 * nV (g 4) + i)) = nI (vs i) := fun i hi => by rw [hg, if_pos (by omega)]; congr 2; omega
  have e : ∀ y, ¬ (79 + 3 * nV (g 4) ≤ y ∧ y < 79 + 3 * nV (g 4) + 3) ∧ y ≠ 4 → g' y = g y := by
    intro y hy
    rw [hg]
    repeat' split
    all_goals first | rfl | (exfalso; omega)
  have hr : Rd_tell l r a (nI 7) hc = some (rwN hc (a + 1 + 7) 3 (nV (g 4)) (hc (a + 20))) := by
    unfold Rd_tell
    rw [if_neg (show ¬ nI 7 = 0 by decide), if_neg (show ¬ nI 7 = 1 by decide), if_neg (show ¬ nI 7 = 2 by decide), if_neg (show ¬ nI 7 = 3 by decide), if_neg (show ¬ nI 7 = 4 by decide), if_neg (show ¬ nI 7 = 5 by decide), if_neg (show ¬ nI 7 = 6 by decide), if_pos (show nI 7 = 7 from rfl)]
    rw [Rw_add_at J.2.2.2.2.1 hn hl (by omega) (by omega)]
    rfl
  generalize eH : (rwN hc (a + 1 + 7) 3 (nV (g 4)) (hc (a + 20)) : am_F) = hc' at hr
  have ec : ∀ x, x ≠ a + 1 + 7 ∧ x ≠ a + 1 + 7 + 1 → hc' x = hc x := by
    intro x hx
    rw [← eH]
    rw [rwN_o hx.1 hx.2]
  refine ⟨hc', hr, ⟨?_, ?_, ?_, ?_, ?_, ?_, ?_⟩, ⟨?_, ?_, ?_, ?_, ?_, ?_, ?_, ?_, ?_, ?_, ?_, ?_, ?_⟩, fun x hx => ec x (by omega)⟩
  · exact ⟨by rw [ec _ (by omega), e 0 (by omega)]; exact J.1.1, by rw [ec _ (by omega), e 1 (by omega)]; exact J.1.2.1, by rw [ec _ (by omega), e 2 (by omega)]; exact J.1.2.2.1, by rw [ec _ (by omega), e 3 (by omega)]; exact J.1.2.2.2⟩
  · exact fun i hi => by rw [ec _ (by omega), e _ (by omega)]; exact J.2.1 i hi
  · exact fun b hb => by rw [e 3 (by omega)] at hb; rw [ec _ (by omega), e _ (by omega)]; exact J.2.2.1 b hb
  · exact fun b hb => by rw [ec (a + 1 + 4) (by omega), ec (a + 1 + 5) (by omega), ec (a + 1 + 6) (by omega), e _ (by omega), e _ (by omega), e _ (by omega)]; exact J.2.2.2.1 b hb
  · rw [gc, nV_nI (by omega), ← eH]
    exact rw_add J.2.2.2.2.1 (by omega) (fun i hi => by rw [nn i (by omega)]; exact (gn i hi).symm) (fun i hi => e _ (by omega))
  · exact by rw [e 5 (by omega)]; exact rwI_congr (fun i hi => e _ (by omega)) (rw_fr J.2.2.2.2.2.1 (ec _ (by omega)) (ec _ (by omega)))
  · exact by rw [e 6 (by omega)]; exact rwI_congr (fun i hi => e _ (by omega)) (rw_fr J.2.2.2.2.2.2 (ec _ (by omega)) (ec _ (by omega)))
  · exact by rw [e 0 (by omega)]; exact w0
  · exact by rw [e 1 (by omega)]; exact w1
  · exact by rw [e 2 (by omega)]; exact w2
  · exact by rw [e 3 (by omega)]; exact w3
  · exact by rw [gc]; exact zN_nI (by omega)
  · exact by rw [e 5 (by omega)]; exact w5
  · exact by rw [e 6 (by omega)]; exact w6
  · exact fun i hi => by rw [e _ (by omega)]; exact w7 i hi
  · exact fun b hb => by rw [e _ (by omega), e _ (by omega), e _ (by omega)]; exact w8 b hb
  · exact fun b hb => by rw [e 3 (by omega)] at hb; rw [e _ (by omega)]; exact w9 b hb
  · intro k hk
    rw [gc, nV_nI (by omega)] at hk
    by_cases c : k = nV (g 4)
    · rw [c, show 79 + 3 * nV (g 4) = 79 + (3 * nV (g 4) + 0) by omega, gn 0 (by omega), gn 1 (by omega), gn 2 (by omega)]; exact ⟨zN_nI (by omega), zN_nI (by omega), zN_nI (by omega), by rw [nV_nI (by omega)]; omega⟩
    · rw [e _ (by omega), e _ (by omega), e _ (by omega)]; exact w10 k (by omega)
  · exact fun k hk => by rw [e 5 (by omega)] at hk; rw [e _ (by omega), e _ (by omega)]; exact w11 k hk
  · exact fun k hk => by rw [e 6 (by omega)] at hk; rw [e _ (by omega), e _ (by omega), e _ (by omega), e _ (by omega), e _ (by omega), e _ (by omega)]; exact w12 k hk
theorem tell_8 (J : pkJ l hc (a + 1) g) (W : pkW g B)  (nn : ∀ i, i < 2 → hc (a + 20) i = nI (vs i)) (hl : g_ln l (a + 20) = 6) (h1 : vs 0 < B) (h2 : vs 1 ≤ 47) (hn : nV (g 5) < 4) (hg : ∀ y, g' y = if 103 + 2 * nV (g 5) ≤ y ∧ y < 103 + 2 * nV (g 5) + 2 then nI (vs (y - (103 + 2 * nV (g 5)))) else if y = 5 then nI (nV (g 5) + 1) else g y) : ∃ hc', Rd_tell l r a (nI 8) hc = some hc' ∧ pkJ l hc' (a + 1) g' ∧ pkW g' B ∧ ∀ x, x < a + 1 ∨ a + 14 ≤ x → hc' x = hc x := by
  obtain ⟨w0, w1, w2, w3, w4, w5, w6, w7, w8, w9, w10, w11, w12⟩ := W
  have q3 := zN_V w3 (by decide)
  have q4 := zN_V w4 (by decide)
  have q5 := zN_V w5 (by decide)
  have q6 := zN_V w6 (by decide)
  have gc : g' 5 = nI (nV (g 5) + 1) := by rw [hg, if_neg (by omega), if_pos rfl]
  have gn : ∀ i, i < 2 → g' (103 + (2 * nV (g 5) + i)) = nI (vs i) := fun i hi => by rw [hg, if_pos (by omega)]; congr 2; omega
  have e : ∀ y, ¬ (103 + 2 * nV (g 5) ≤ y ∧ y < 103 + 2 * nV (g 5) + 2) ∧ y ≠ 5 → g' y = g y := by
    intro y hy
    rw [hg]
    repeat' split
    all_goals first | rfl | (exfalso; omega)
  have hr : Rd_tell l r a (nI 8) hc = some (rwN hc (a + 1 + 9) 2 (nV (g 5)) (hc (a + 20))) := by
    unfold Rd_tell
    rw [if_neg (show ¬ nI 8 = 0 by decide), if_neg (show ¬ nI 8 = 1 by decide), if_neg (show ¬ nI 8 = 2 by decide), if_neg (show ¬ nI 8 = 3 by decide), if_neg (show ¬ nI 8 = 4 by decide), if_neg (show ¬ nI 8 = 5 by decide), if_neg (show ¬ nI 8 = 6 by decide), if_neg (show ¬ nI 8 = 7 by decide), if_pos (show nI 8 = 8 from rfl)]
    rw [Rw_add_at J.2.2.2.2.2.1 hn hl (by omega) (by omega)]
    rfl
  generalize eH : (rwN hc (a + 1 + 9) 2 (nV (g 5)) (hc (a + 20)) : am_F) = hc' at hr
  have ec : ∀ x, x ≠ a + 1 + 9 ∧ x ≠ a + 1 + 9 + 1 → hc' x = hc x := by
    intro x hx
    rw [← eH]
    rw [rwN_o hx.1 hx.2]
  refine ⟨hc', hr, ⟨?_, ?_, ?_, ?_, ?_, ?_, ?_⟩, ⟨?_, ?_, ?_, ?_, ?_, ?_, ?_, ?_, ?_, ?_, ?_, ?_, ?_⟩, fun x hx => ec x (by omega)⟩
  · exact ⟨by rw [ec _ (by omega), e 0 (by omega)]; exact J.1.1, by rw [ec _ (by omega), e 1 (by omega)]; exact J.1.2.1, by rw [ec _ (by omega), e 2 (by omega)]; exact J.1.2.2.1, by rw [ec _ (by omega), e 3 (by omega)]; exact J.1.2.2.2⟩
  · exact fun i hi => by rw [ec _ (by omega), e _ (by omega)]; exact J.2.1 i hi
  · exact fun b hb => by rw [e 3 (by omega)] at hb; rw [ec _ (by omega), e _ (by omega)]; exact J.2.2.1 b hb
  · exact fun b hb => by rw [ec (a + 1 + 4) (by omega), ec (a + 1 + 5) (by omega), ec (a + 1 + 6) (by omega), e _ (by omega), e _ (by omega), e _ (by omega)]; exact J.2.2.2.1 b hb
  · exact by rw [e 4 (by omega)]; exact rwI_congr (fun i hi => e _ (by omega)) (rw_fr J.2.2.2.2.1 (ec _ (by omega)) (ec _ (by omega)))
  · rw [gc, nV_nI (by omega), ← eH]
    exact rw_add J.2.2.2.2.2.1 (by omega) (fun i hi => by rw [nn i (by omega)]; exact (gn i hi).symm) (fun i hi => e _ (by omega))
  · exact by rw [e 6 (by omega)]; exact rwI_congr (fun i hi => e _ (by omega)) (rw_fr J.2.2.2.2.2.2 (ec _ (by omega)) (ec _ (by omega)))
  · exact by rw [e 0 (by omega)]; exact w0
  · exact by rw [e 1 (by omega)]; exact w1
  · exact by rw [e 2 (by omega)]; exact w2
  · exact by rw [e 3 (by omega)]; exact w3
  · exact by rw [e 4 (by omega)]; exact w4
  · exact by rw [gc]; exact zN_nI (by omega)
  · exact by rw [e 6 (by omega)]; exact w6
  · exact fun i hi => by rw [e _ (by omega)]; exact w7 i hi
  · exact fun b hb => by rw [e _ (by omega), e _ (by omega), e _ (by omega)]; exact w8 b hb
  · exact fun b hb => by rw [e 3 (by omega)] at hb; rw [e _ (by omega)]; exact w9 b hb
  · exact fun k hk => by rw [e 4 (by omega)] at hk; rw [e _ (by omega), e _ (by omega), e _ (by omega)]; exact w10 k hk
  · intro k hk
    rw [gc, nV_nI (by omega)] at hk
    by_cases c : k = nV (g 5)
    · rw [c, show 103 + 2 * nV (g 5) = 103 + (2 * nV (g 5) + 0) by omega, gn 0 (by omega), gn 1 (by omega)]; exact ⟨zN_nI (by omega), zN_nI (by omega)⟩
    · rw [e _ (by omega), e _ (by omega)]; exact w11 k (by omega)
  · exact fun k hk => by rw [e 6 (by omega)] at hk; rw [e _ (by omega), e _ (by omega), e _ (by omega), e _ (by omega), e _ (by omega), e _ (by omega)]; exact w12 k hk
theorem tell_9 (J : pkJ l hc (a + 1) g) (W : pkW g B)  (nn : ∀ i, i < 6 → hc (a + 20) i = nI (vs i)) (hl : g_ln l (a + 20) = 6) (h1 : vs 0 ≤ 4) (h2 : vs 1 ≤ 47) (h3 : vs 2 < B) (h4 : vs 3 ≤ 9) (h5 : vs 4 ≤ 9) (h6 : vs 5 ≤ 9) (hn : nV (g 6) < 14) (hg : ∀ y, g' y = if 111 + 6 * nV (g 6) ≤ y ∧ y < 111 + 6 * nV (g 6) + 6 then nI (vs (y - (111 + 6 * nV (g 6)))) else if y = 6 then nI (nV (g 6) + 1) else g y) : ∃ hc', Rd_tell l r a (nI 9) hc = some hc' ∧ pkJ l hc' (a + 1) g' ∧ pkW g' B ∧ ∀ x, x < a + 1 ∨ a + 14 ≤ x → hc' x = hc x := by
  obtain ⟨w0, w1, w2, w3, w4, w5, w6, w7, w8, w9, w10, w11, w12⟩ := W
  have q3 := zN_V w3 (by decide)
  have q4 := zN_V w4 (by decide)
  have q5 := zN_V w5 (by decide)
  have q6 := zN_V w6 (by decide)
  have gc : g' 6 = nI (nV (g 6) + 1) := by rw [hg, if_neg (by omega), if_pos rfl]
  have gn : ∀ i, i < 6 → g' (111 + (6 * nV (g 6) + i)) = nI (vs i) := fun i hi => by rw [hg, if_pos (by omega)]; congr 2; omega
  have e : ∀ y, ¬ (111 + 6 * nV (g 6) ≤ y ∧ y < 111 + 6 * nV (g 6) + 6) ∧ y ≠ 6 → g' y = g y := by
    intro y hy
    rw [hg]
    repeat' split
    all_goals first | rfl | (exfalso; omega)
  have hr : Rd_tell l r a (nI 9) hc = some (rwN hc (a + 1 + 11) 6 (nV (g 6)) (hc (a + 20))) := by
    unfold Rd_tell
    rw [if_neg (show ¬ nI 9 = 0 by decide), if_neg (show ¬ nI 9 = 1 by decide), if_neg (show ¬ nI 9 = 2 by decide), if_neg (show ¬ nI 9 = 3 by decide), if_neg (show ¬ nI 9 = 4 by decide), if_neg (show ¬ nI 9 = 5 by decide), if_neg (show ¬ nI 9 = 6 by decide), if_neg (show ¬ nI 9 = 7 by decide), if_neg (show ¬ nI 9 = 8 by decide), if_pos (show nI 9 = 9 from rfl)]
    rw [Rw_add_at J.2.2.2.2.2.2 hn hl (by omega) (by omega)]
    rfl
  generalize eH : (rwN hc (a + 1 + 11) 6 (nV (g 6)) (hc (a + 20)) : am_F) = hc' at hr
  have ec : ∀ x, x ≠ a + 1 + 11 ∧ x ≠ a + 1 + 11 + 1 → hc' x = hc x := by
    intro x hx
    rw [← eH]
    rw [rwN_o hx.1 hx.2]
  refine ⟨hc', hr, ⟨?_, ?_, ?_, ?_, ?_, ?_, ?_⟩, ⟨?_, ?_, ?_, ?_, ?_, ?_, ?_, ?_, ?_, ?_, ?_, ?_, ?_⟩, fun x hx => ec x (by omega)⟩
  · exact ⟨by rw [ec _ (by omega), e 0 (by omega)]; exact J.1.1, by rw [ec _ (by omega), e 1 (by omega)]; exact J.1.2.1, by rw [ec _ (by omega), e 2 (by omega)]; exact J.1.2.2.1, by rw [ec _ (by omega), e 3 (by omega)]; exact J.1.2.2.2⟩
  · exact fun i hi => by rw [ec _ (by omega), e _ (by omega)]; exact J.2.1 i hi
  · exact fun b hb => by rw [e 3 (by omega)] at hb; rw [ec _ (by omega), e _ (by omega)]; exact J.2.2.1 b hb
  · exact fun b hb => by rw [ec (a + 1 + 4) (by omega), ec (a + 1 + 5) (by omega), ec (a + 1 + 6) (by omega), e _ (by omega), e _ (by omega), e _ (by omega)]; exact J.2.2.2.1 b hb
  · exact by rw [e 4 (by omega)]; exact rwI_congr (fun i hi => e _ (by omega)) (rw_fr J.2.2.2.2.1 (ec _ (by omega)) (ec _ (by omega)))
  · exact by rw [e 5 (by omega)]; exact rwI_congr (fun i hi => e _ (by omega)) (rw_fr J.2.2.2.2.2.1 (ec _ (by omega)) (ec _ (by omega)))
  · rw [gc, nV_nI (by omega), ← eH]
    exact rw_add J.2.2.2.2.2.2 (by omega) (fun i hi => by rw [nn i (by omega)]; exact (gn i hi).symm) (fun i hi => e _ (by omega))
  · exact by rw [e 0 (by omega)]; exact w0
  · exact by rw [e 1 (by omega)]; exact w1
  · exact by rw [e 2 (by omega)]; exact w2
  · exact by rw [e 3 (by omega)]; exact w3
  · exact by rw [e 4 (by omega)]; exact w4
  · exact by rw [e 5 (by omega)]; exact w5
  · exact by rw [gc]; exact zN_nI (by omega)
  · exact fun i hi => by rw [e _ (by omega)]; exact w7 i hi
  · exact fun b hb => by rw [e _ (by omega), e _ (by omega), e _ (by omega)]; exact w8 b hb
  · exact fun b hb => by rw [e 3 (by omega)] at hb; rw [e _ (by omega)]; exact w9 b hb
  · exact fun k hk => by rw [e 4 (by omega)] at hk; rw [e _ (by omega), e _ (by omega), e _ (by omega)]; exact w10 k hk
  · exact fun k hk => by rw [e 5 (by omega)] at hk; rw [e _ (by omega), e _ (by omega)]; exact w11 k hk
  · intro k hk
    rw [gc, nV_nI (by omega)] at hk
    by_cases c : k = nV (g 6)
    · rw [c, show 111 + 6 * nV (g 6) = 111 + (6 * nV (g 6) + 0) by omega, gn 0 (by omega), gn 1 (by omega), gn 2 (by omega), gn 3 (by omega), gn 4 (by omega), gn 5 (by omega)]; exact ⟨zN_nI (by omega), zN_nI (by omega), zN_nI (by omega), zN_nI (by omega), zN_nI (by omega), zN_nI (by omega)⟩
    · rw [e _ (by omega), e _ (by omega), e _ (by omega), e _ (by omega), e _ (by omega), e _ (by omega)]; exact w12 k (by omega)
end TELL
