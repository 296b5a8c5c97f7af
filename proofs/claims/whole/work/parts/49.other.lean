/-! spare; otherwise -/
section TRIAL
variable {l : List (Nat × Nat)} {r : am_R} {h h' hc hm : am_F} {d m k p b t s w lim a q : Nat} {n : Nat → Nat} {f g g' : Nat → Int32} {x x1 x2 x3 x4 y u v : Int32}
theorem hd_again (B : tdB l hc 1 hm m 0 n) (hq : q < n 0) (e2 : Md_hand m (nI q) (am_up hm m 0 0) = some (1, h')) : ∀ h2 : am_F, h2 (m + 5) = h' (m + 5) → h2 (m + 6) = h' (m + 6) → ∃ h3, Md_hand m (nI q) h2 = some (1, h3) ∧ rowE (h' (m + 12)) (h3 (m + 12)) ∧ ∀ x, x ≠ m + 12 → h3 x = h2 x := by
  obtain ⟨hn2, _, e0⟩ := B.1 0 (by decide)
  have e3 : (am_up hm m 0 0) (m + 5) 0 = nI (n 0) := by rw [z_upr (by omega)]; exact e0
  obtain ⟨h'', f1, f2, f3⟩ := hand_yes e3 hn2 hq
  have eh : h'' = h' := by
    rw [e2] at f1
    injection f1 with f1
    injection f1 with _ f1
    exact f1.symm
  subst eh
  intro h2 a1 a2
  have e4 : h2 (m + 5) 0 = nI (n 0) := by rw [a1, f3 _ (by omega)]; exact e3
  obtain ⟨h3, g1, g2, g3⟩ := hand_yes e4 hn2 hq
  refine ⟨h3, g1, fun i hi => ?_, g3⟩
  rw [g2 i hi, f2 i hi, a2, f3 _ (by omega)]
theorem q_spare (W : tdW r 1) (B : tdB l hc 1 hm m 0 n) (L : wL l m) (SH : scH l hc) : ∃ v hc' hm', Wp_spare l r 0 x1 x2 hc = some (v, hc') ∧ Md_spare m x1 x2 hm = some (v, hm') ∧ frS hc hc' ∧ scH l hc' ∧ scM hm hm' m := by
  unfold Wp_spare Md_spare
  simp only [Nat.zero_add]
  rcases pk_ix x2 (n := 4) (by decide) with cn | cn | ⟨j, hj, rfl⟩
  · have ei : Md_in x2 0 3 = 0 := Md_in_no (.inl cn)
    rw [ei, if_pos rfl]
    rcases pk_case W B x1 with ⟨q, g, h', hq, e1, -, -, e2, eg, H, V, C, S⟩ | ⟨e1, e2⟩
    · rw [e1, Option.bind_some]
      exact ⟨-2, hc, _, by simp only [g_on, if_pos cn], rfl, frS_id, SH, scM_up (.inl rfl)⟩
    · rw [e1]
      exact ⟨-2, hc, _, rfl, rfl, frS_id, SH, scM_up (.inl rfl)⟩
  · have ei : Md_in x2 0 3 = 0 := Md_in_no (.inr (z_biggt cn (show 3 < 4 by decide) (by decide)))
    have n3 : ¬ x2 ≤ 3 := Int32.not_le.2 (z_biggt cn (show 3 < 4 by decide) (by decide))
    rw [ei, if_pos rfl]
    rcases pk_case W B x1 with ⟨q, g, h', hq, e1, -, -, e2, eg, H, V, C, S⟩ | ⟨e1, e2⟩
    · rw [e1, Option.bind_some]
      refine ⟨-2, hc, _, ?_, rfl, frS_id, SH, scM_up (.inl rfl)⟩
      simp only [g_on]
      split
      · rfl
      · first | rfl | rw [if_neg n3]
    · rw [e1]
      exact ⟨-2, hc, _, rfl, rfl, frS_id, SH, scM_up (.inl rfl)⟩
  · have ei : Md_in (nI j) 0 3 = 1 := Md_in_yes (show 0 ≤ j by omega) (show j ≤ 3 by omega) (by decide)
    rw [ei, if_neg (show ¬ (1 : Int32) = 0 by decide)]
    rcases pk_case W B x1 with ⟨q, g, h', hq, e1, rfl, hqn, e2, eg, H, V, C, S⟩ | ⟨e1, e2⟩
    · have HD := hd_again (q := q) B hqn e2
      rw [e1, e2]
      have hp : (1 + 5 + 19 * q) + 12 < 66 := by omega
      generalize 1 + 5 + 19 * q = p at *
      have h6 := zN_V (pv_nc V) (by decide)
      have em6 : h' (m + 12) 6 = nI (nV (g 6)) := by rw [eg]; exact h6.1
      have hs := H.2.2.2.2.2.2.2.2.2.1
      simp only [Option.bind_some, g_on, if_neg (show ¬ (1 : Int32) = 0 by decide), if_neg (nI_pos (show j < 2 ^ 31 by omega)), if_pos (show nI j ≤ 3 from nI_le (show j ≤ 3 by omega) (by decide)), hs, em6]
      by_cases c0 : nV (g 6) = 0
      · rw [c0]
        exact ⟨-1, hc, h', rfl, rfl, frS_id, SH, S⟩
      · have nz : ¬ nI (nV (g 6)) = 0 := fun e => c0 ((z_eq0 (by omega)).1 e)
        simp only [if_neg nz]
        by_cases c2 : 2 ≤ j
        · have t2 : (2 : Int32) ≤ nI j := nI_le c2 (by omega)
          simp only [if_pos t2]
          obtain ⟨h0, hc1, hm1, a1, a2, a3, R, a4, a5⟩ := dayF (r := r) (m := m) L.2.1 SH.2.1 H V eg (.inl (show p + 12 < 77 by omega))
          have eg6 : hm1 (m + 12) 6 = nI (nV (g 6)) := by rw [a5.2 _ (by omega)]; exact em6
          have cc := (R.2.2.2.2 0 (by omega) (show 0 < nV (g 6) by omega)).1
          have r2 := Rw_get_at (r := r) (k := 0) (c := 2) R.2.2.2.1 (by omega) (by decide)
          have r3 := Rw_get_at (r := r) (k := 0) (c := 3) R.2.2.2.1 (by omega) (by decide)
          rw [show hc1 (77 + 2) (6 * 0 + 2) = hm1 (m + 15) 0 from cc 2 (by decide)] at r2
          rw [show hc1 (77 + 2) (6 * 0 + 3) = hm1 (m + 16) 0 from cc 3 (by decide)] at r3
          obtain ⟨h2, b1, b2, b3, b4⟩ := first_up hc1 0 (hm1 (m + 15) 0 + hm1 (m + 16) 0)
          obtain ⟨h3, j', w1, w2, w3, w4, w5, w6⟩ := worst_l (r := r) (x2 := nI j) V R eg6 (nV (g 6) - 1) 1 g_fu g_fu 0 h2 (by omega) (by omega) (by unfold g_fu; omega) (by unfold g_fu; omega) b4 (by rw [b4 _ (by omega), a4 _ (by omega)]; exact hs) hp b2 b3
          have eT : Tr_findWorst l r 76 p hc = some h3 := by
            unfold Tr_findWorst
            simp only [Nat.reduceAdd]
            rw [a1, Option.bind_some, a2, Option.bind_some, show Rw_get l r 78 0 2 hc1 = some (hm1 (m + 15) 0) from r2, Option.bind_some, show Rw_get l r 78 0 3 hc1 = some (hm1 (m + 16) 0) from r3, Option.bind_some, b1, Option.bind_some, show Tr_findWorst_l47 l r 76 p g_fu 1 h2 = some h3 from w1]
            rfl
          have Sf : frS hc h3 := fun x hx => by rw [w6 x (by omega), a4 x (by omega)]
          have SH' : scH l h3 := by
            have e : ∀ x, x ≠ 76 → h3 x = hc1 x := w6
            exact ⟨rwH_fr SH.1 (by rw [e _ (by decide), a4 _ (by omega)]), rwH_fr (rwH_of R.2.2.2.1) (e _ (by decide)), pkH_fr SH.2.2 (by rw [e _ (by decide), a4 _ (by omega)]) (by rw [e _ (by decide), a4 _ (by omega)]) (by rw [e _ (by decide), a4 _ (by omega)])⟩
          have zj : g_ix (nI j') 14 = some j' := z_ix (by omega) (by decide)
          simp only [eT, a3, Option.bind_some, show Md_spare_l124 m (nI j) hm1 g_fu 0 1 = some (nI j') from w2, zj, w4, w5, if_neg (show ¬ nI j = 0 from fun e => by have := (z_eq0 (show j < 2 ^ 31 by omega)).1 e; omega)]
          by_cases c3 : nI j = 2
          · simp only [if_pos c3]
            exact ⟨_, h3, hm1, rfl, rfl, Sf, SH', scM_tr S (scM_fr a5)⟩
          · simp only [if_neg c3]
            exact ⟨_, h3, hm1, rfl, rfl, Sf, SH', scM_tr S (scM_fr a5)⟩
        · have t2 : ¬ (2 : Int32) ≤ nI j := nI_ge (show j < 2 by omega) (by decide)
          simp only [if_neg t2]
          have eg' : rowE g (h' (m + 12)) := fun i _ => by rw [eg]
          have HD' : ∀ h2 : am_F, h2 (m + 5) = h' (m + 5) → h2 (m + 6) = h' (m + 6) → ∃ h3, Md_hand m (nI q) h2 = some (1, h3) ∧ rowE g (h3 (m + 12)) ∧ ∀ x, x ≠ m + 12 → h3 x = h2 x := by
            rw [← eg]; exact HD
          obtain ⟨q1, q2, hc1, hm1, N, d1, d2, a1, a2, a3, a4, a5, a6, a7⟩ := wo_eq (r := r) (k := 0) L SH H V hp eg' (by omega) HD'
          obtain ⟨h2, b1, b2, b3, b4⟩ := first_up hc1 (nI 0) (nI N)
          obtain ⟨hc', hm', k1, k2, k4, k5, k6⟩ := spare_l (r := r) (x2 := nI j) L V hp (nV (g 6) - 1) 1 99999 g_fu h2 hm1 (by omega) (by omega) (by omega) (by unfold g_fu; omega) (pkI_fr H (fun x _ _ => by rw [b4 x (by omega), a5 x (by omega)])) (scH_76 a6 b4) a4 (fun h2 e1 e2 => HD' h2 (by rw [e1, a7 _ (by omega)]) (by rw [e2, a7 _ (by omega)]))
          rw [b2, b3] at k2
          have eT : Tr_leaveOneOut l r 76 p hc = some hc' := by
            unfold Tr_leaveOneOut
            have : Tr_leaveOneOut_l2 l r 76 p (99999 + 1) 0 hc = some hc' := by
              unfold Tr_leaveOneOut_l2
              rw [hs, show (0 : Int32) = nI 0 from rfl, if_neg (nI_ge (show 0 < nV (g 6) by omega) (by omega))]
              simp only [Nat.reduceAdd]
              rw [d1, Option.bind_some, d2, Option.bind_some, a1, Option.bind_some]
              simp only [if_true]
              rw [b1, Option.bind_some, Option.bind_some, nI_1]
              exact k1
            rw [show g_fu = 99999 + 1 from rfl, this]
            rfl
          simp only [eT, Option.bind_some, show Md_without m (nI q) 0 h' = some (nI N, hm1) from a3, show Md_spare_l55 m (nI q) (nI j) g_fu 0 (nI N) 1 hm1 = some (hc' 76 0, hc' 76 1, hm') from k2, if_neg (show ¬ nI j = 2 from fun e => by have := (nI_eq (show j < 2 ^ 31 by omega) (by decide)).1 (show nI j = nI 2 from e); omega)]
          have Sf : frS hc hc' := fun x hx => by rw [k4 x (by omega), b4 x (by omega), a5 x (by omega)]
          by_cases c3 : nI j = 0
          · simp only [if_pos c3]
            exact ⟨_, hc', hm', rfl, rfl, Sf, k5, scM_tr S (scM_tr a7 k6)⟩
          · simp only [if_neg c3]
            exact ⟨_, hc', hm', rfl, rfl, Sf, k5, scM_tr S (scM_tr a7 k6)⟩
    · rw [e1, e2]
      exact ⟨-2, hc, _, rfl, rfl, frS_id, SH, scM_up (.inl rfl)⟩
end TRIAL
