/-! least terms of the reference; days -/
section LT
variable {a b n : Nat} {x0 x1 x2 x3 : Int32}
theorem cmp0 {b : Nat} (h : b < 2 ^ 31) : (lg_cmp (lN b) 0 = 0) ↔ b = 0 := by
  unfold lg_cmp
  by_cases c : b = 0
  · subst c
    exact ⟨fun _ => rfl, fun _ => rfl⟩
  · have h1 : lN b > (0 : Int64) := (lN_lt (a := 0) (by decide) h).2 (by omega)
    rw [if_pos h1]
    exact ⟨fun e => absurd e (by decide), fun e => absurd e c⟩
theorem commonM : ∀ (fu b a : Nat), b < fu → a < 2 ^ 31 → b < 2 ^ 31 → Md_common_l17 fu (lN a) (lN b) = some (lN (Nat.gcd a b)) := by
  intro fu
  induction fu with
  | zero => intro b a h; omega
  | succ fu ih =>
    intro b a h ha hb
    unfold Md_common_l17
    by_cases c : b = 0
    · rw [if_pos ((cmp0 hb).2 c), c, Nat.gcd_zero_right]
    · have hr : g_rmJ (lN a) (lN b) = some (lN (a % b)) := by
        unfold g_rmJ
        rw [if_neg (show ¬ lN b = 0 from fun e => c ((lN_eq hb (by decide)).1 (show lN b = lN 0 from e))), pk_lRem (by omega) (by omega) (by omega)]
      have : a % b < b := Nat.mod_lt _ (by omega)
      rw [if_neg (fun e => c ((cmp0 hb).1 e)), hr, Option.bind_some, ih (a % b) b (by omega) hb (by omega)]
      rw [Nat.gcd_comm a b, Nat.gcd_rec b a, Nat.gcd_comm]
theorem leastM (ha : a < 2 ^ 16) (hb : b < 2 ^ 16) (hb0 : 0 < b) : Md_least (lN a) (lN b) x2 = some (nI ((if x2 = 0 then a else b) / Nat.gcd a b)) := by
  have hg : 0 < Nat.gcd a b := Nat.gcd_pos_of_pos_right a hb0
  have hgb : Nat.gcd a b ≤ b := Nat.gcd_le_right a hb0
  have hc : Md_common (lN a) (lN b) = some (lN (Nat.gcd a b)) := by
    unfold Md_common
    have : (0 : Int32) ≤ lg_cmp (lN a) 0 := by
      unfold lg_cmp
      by_cases c : a = 0
      · subst c; decide
      · have h1 : lN a > (0 : Int64) := (lN_lt (a := 0) (by decide) (by omega)).2 (by omega)
        rw [if_pos h1]; decide
    rw [if_pos this, Option.bind_some, commonM g_fu b a (by unfold g_fu; omega) (by omega) (by omega)]
    rfl
  unfold Md_least
  have hq : (if x2 = 0 then some (lN a) else some (lN b) : Option Int64) = some (lN (if x2 = 0 then a else b)) := by
    split <;> rfl
  rw [hq, Option.bind_some, hc, Option.bind_some]
  unfold g_dvJ
  rw [if_neg (show ¬ lN (Nat.gcd a b) = 0 from fun e => by have := (lN_eq (show Nat.gcd a b < 2 ^ 31 by omega) (by decide)).1 (show lN (Nat.gcd a b) = lN 0 from e); omega), pk_lDiv (by split <;> omega) hg (by omega), Option.bind_some, lN_i]
theorem least_eq (ha : a < 2 ^ 16) (hb : b < 2 ^ 16) (hb0 : 0 < b) : ∃ v, Wp_inLeastTerms (nI a) (nI b) x2 = some v ∧ Md_least (nI a).toInt64 (nI b).toInt64 x2 = some v := by
  rw [nI_l (by omega), nI_l (by omega)]
  exact ⟨_, leastC (by omega) (by omega) hb0, leastM ha hb hb0⟩
end LT
section DAYS
variable {l : List (Nat × Nat)} {r : am_R} {h h' hc hm : am_F} {m k p b t s w lim a q c : Nat} {n : Nat → Nat} {f g g' : Nat → Int32} {x x1 x2 x3 x4 y u v : Int32}
theorem days_l {dn : Nat} (L : wL l m) (V : pkV g) (hp : p + 12 < 66) (hdn : dn ≤ 30) : ∀ (c d f1 f2 cF : Nat) (hc hm : am_F) (u : Int32), d + c = dn → 0 < d → c < f1 → c < f2 → cF ≤ 18 * d → rwH l hc 67 6 14 → pkI l hc p g → hm (m + 12) = g → hc 66 0 = hm m 35 → hc 66 1 = hm m 39 → hc 66 2 = hm m 40 → (∃ T F, hm m 39 = nI T ∧ hm m 40 = nI F ∧ T ≤ F ∧ F ≤ cF) → ∃ hc' hm' w, Dy_runDays_l12 l r 66 p (nI dn) f1 u (hc 66 0) (nI d) hc = some (w, hc') ∧ Md_days_l46 m (nI dn) x3 f2 (hm m 35) u (nI d) hm = some (hm' m 35, w, hm') ∧ hc' 66 0 = hm' m 35 ∧ hc' 66 1 = hm' m 39 ∧ hc' 66 2 = hm' m 40 ∧ (∃ T F, hm' m 39 = nI T ∧ hm' m 40 = nI F ∧ T ≤ F ∧ F ≤ 540) ∧ rwH l hc' 67 6 14 ∧ (∀ x, x < 66 ∨ 76 ≤ x → hc' x = hc x) ∧ scM hm hm' m := by
  intro c
  induction c with
  | zero =>
    intro d f1 f2 cF hc hm u hd hd0 hf1 hf2 hcF RH H eg e0 e1 e2 hTF
    obtain ⟨f1, rfl⟩ : ∃ q, f1 = q + 1 := ⟨f1 - 1, by omega⟩
    obtain ⟨f2, rfl⟩ : ∃ q, f2 = q + 1 := ⟨f2 - 1, by omega⟩
    unfold Dy_runDays_l12 Md_days_l46
    rw [if_pos (nI_le (by omega) (by omega)), if_pos (nI_le (by omega) (by omega))]
    obtain ⟨T, F, t1, t2, t3, t4⟩ := hTF
    exact ⟨hc, hm, u, rfl, rfl, e0, e1, e2, ⟨T, F, t1, t2, t3, by omega⟩, RH, fun _ _ => rfl, scM_id⟩
  | succ c ih =>
    intro d f1 f2 cF hc hm u hd hd0 hf1 hf2 hcF RH H eg e0 e1 e2 hTF
    obtain ⟨f1, rfl⟩ : ∃ q, f1 = q + 1 := ⟨f1 - 1, by omega⟩
    obtain ⟨f2, rfl⟩ : ∃ q, f2 = q + 1 := ⟨f2 - 1, by omega⟩
    obtain ⟨n0, RH⟩ := RH
    obtain ⟨hc1, hm1, a1, a2, R, a4, a5⟩ := day_eq (r := r) (cF := cF) L.1 RH H V eg (.inl hp) e1 e2 hTF (by omega)
    obtain ⟨T, F, N, t1, t2, t3, t4, _, _⟩ := R.2.1
    have hcd : hc1 66 0 = hm1 m 35 := R.1.1
    obtain ⟨hc', hm', w, k1, k2, k3, k4, k5, k6, k7, k8, k9⟩ := ih (d + 1) f1 f2 (cF + 18) hc1 hm1 (if hm1 m 35 = hm m 35 then u else u + 1) (by omega) (by omega) (by omega) (by omega) (by omega) (rwH_of R.2.2.2.1) (pkI_fr H (fun x _ _ => a4 x (by omega))) (by rw [a5.2 _ (by omega)]; exact eg) hcd R.1.2.2.2.2.1 R.1.2.2.2.2.2 ⟨T, F, t1, t2, t3, t4⟩
    refine ⟨hc', hm', w, ?_, ?_, k3, k4, k5, k6, k7, ?_, scM_tr (scM_fr a5) k9⟩
    · unfold Dy_runDays_l12
      rw [if_neg (nI_ge (by omega) (by omega)), a1, Option.bind_some, if_neg (fun e => by have := (z_le0 (show d < 2 ^ 31 by omega)).1 e; omega), e0, hcd]
      rw [hcd] at k1
      have : (if hm1 m 35 = hm m 35 then some u else some (u + 1) : Option Int32) = some (if hm1 m 35 = hm m 35 then u else u + 1) := by split <;> rfl
      rw [this, Option.bind_some, nI_1]
      exact k1
    · unfold Md_days_l46
      rw [if_neg (nI_ge (by omega) (by omega)), a2, Option.bind_some]
      have : (if hm1 m 35 = hm m 35 then some (0 : Int32) else some 1 : Option Int32) = some (if hm1 m 35 = hm m 35 then 0 else 1) := by split <;> rfl
      rw [this, Option.bind_some, nI_1]
      have e3 : u + (if hm1 m 35 = hm m 35 then 0 else 1) = if hm1 m 35 = hm m 35 then u else u + 1 := by
        split
        · exact Int32.add_zero u
        · rfl
      rw [e3]
      exact k2
    · intro x hx
      rw [k8 x hx, a4 x (by omega)]
theorem q_days (W : tdW r 1) (B : tdB l hc 1 hm m 0 n) (L : wL l m) (SH : scH l hc) : ∃ v hc' hm', Wp_days l r 0 x1 x2 x3 hc = some (v, hc') ∧ Md_days m x1 x2 x3 hm = some (v, hm') ∧ frS hc hc' ∧ scH l hc' ∧ scM hm hm' m := by
  have S0 : scM hm (am_up hm m 0 0) m := scM_up (.inl rfl)
  unfold Wp_days Md_days
  simp only [Nat.zero_add]
  rcases pk_ix x2 (n := 31) (by decide) with c | c | ⟨dn, hdn, rfl⟩
  · rw [show Md_in x2 1 30 = 0 from Md_in_no (.inl (z_neglt c (n := 1) (by decide))), if_pos rfl]
    refine ⟨-1, hc, _, ?_, rfl, frS_id, SH, S0⟩
    rcases pk_case W B x1 with ⟨q, g, h', hq, e1, -, -, e2, eg, H, V, C, S⟩ | ⟨e1, e2⟩
    · rw [e1, Option.bind_some]
      simp only [g_on]
      rw [if_pos (show x2 < 1 from z_neglt c (n := 1) (by decide))]
    · rw [e1]; rfl
  · rw [show Md_in x2 1 30 = 0 from Md_in_no (.inr (z_biggt c (show 30 < 31 by decide) (by decide))), if_pos rfl]
    refine ⟨-1, hc, _, ?_, rfl, frS_id, SH, S0⟩
    rcases pk_case W B x1 with ⟨q, g, h', hq, e1, -, -, e2, eg, H, V, C, S⟩ | ⟨e1, e2⟩
    · rw [e1, Option.bind_some]
      simp only [g_on]
      rw [if_neg (show ¬ x2 < 1 from z_biglt c (k := 1) (by decide) (by decide)), if_pos (show (30 : Int32) < x2 from z_biggt c (k := 30) (by decide) (by decide))]
    · rw [e1]; rfl
  · by_cases d0 : dn = 0
    · subst d0
      rw [show Md_in (nI 0) 1 30 = 0 from rfl, if_pos rfl]
      refine ⟨-1, hc, _, ?_, rfl, frS_id, SH, S0⟩
      rcases pk_case W B x1 with ⟨q, g, h', hq, e1, -, -, e2, eg, H, V, C, S⟩ | ⟨e1, e2⟩
      · rw [e1, Option.bind_some]
        simp only [g_on]
        rw [if_pos (show nI 0 < 1 by decide)]
      · rw [e1]; rfl
    · rw [show Md_in (nI dn) 1 30 = 1 from Md_in_yes (a := 1) (by omega) (show dn ≤ 30 by omega) (by decide), if_neg (show ¬ (1 : Int32) = 0 by decide)]
      rcases pk_ix x3 (n := 4) (by decide) with c | c | ⟨j, hj, rfl⟩
      · rw [show Md_in x3 0 3 = 0 from Md_in_no (.inl c), if_pos rfl]
        refine ⟨-1, hc, _, ?_, rfl, frS_id, SH, S0⟩
        rcases pk_case W B x1 with ⟨q, g, h', hq, e1, -, -, e2, eg, H, V, C, S⟩ | ⟨e1, e2⟩
        · rw [e1, Option.bind_some]
          simp only [g_on]
          rw [if_neg (show ¬ nI dn < 1 from nI_nlt (show 1 ≤ dn by omega) (by omega)), if_neg (show ¬ (30 : Int32) < nI dn from nI_nlt (show dn ≤ 30 by omega) (by decide)), if_pos c]
        · rw [e1]; rfl
      · rw [show Md_in x3 0 3 = 0 from Md_in_no (.inr (z_biggt c (show 3 < 4 by decide) (by decide))), if_pos rfl]
        refine ⟨-1, hc, _, ?_, rfl, frS_id, SH, S0⟩
        rcases pk_case W B x1 with ⟨q, g, h', hq, e1, -, -, e2, eg, H, V, C, S⟩ | ⟨e1, e2⟩
        · rw [e1, Option.bind_some]
          simp only [g_on]
          rw [if_neg (show ¬ nI dn < 1 from nI_nlt (show 1 ≤ dn by omega) (by omega)), if_neg (show ¬ (30 : Int32) < nI dn from nI_nlt (show dn ≤ 30 by omega) (by decide)), if_neg (show ¬ x3 < 0 from z_biglt c (k := 0) (by decide) (by decide)), if_neg (show ¬ x3 ≤ 3 from Int32.not_le.2 (z_biggt c (show 3 < 4 by decide) (by decide)))]
        · rw [e1]; rfl
      · rw [show Md_in (nI j) 0 3 = 1 from Md_in_yes (show 0 ≤ j by omega) (show j ≤ 3 by omega) (by decide), if_neg (show ¬ (1 : Int32) = 0 by decide)]
        rcases pk_case W B x1 with ⟨q, g, h', hq, e1, -, -, e2, eg, H, V, C, S⟩ | ⟨e1, e2⟩
        · rw [e1, e2]
          have hp : (1 + 5 + 19 * q) + 12 < 66 := by omega
          generalize 1 + 5 + 19 * q = p at *
          simp only [Option.bind_some, g_on, if_neg (show ¬ (1 : Int32) = 0 by decide)]
          obtain ⟨h0, hc1, hm1, a1, a2, a3, R, a4, a5⟩ := dayF (r := r) (m := m) L.1 SH.1 H V eg (.inl hp)
          obtain ⟨T, F, N, t1, t2, t3, t4, _, _⟩ := R.2.1
          obtain ⟨hc', hm', w, k1, k2, k3, k4, k5, ⟨T', F', s1, s2, s3, s4⟩, k7, k8, k9⟩ := days_l (r := r) (x3 := nI j) (dn := dn) L V hp (by omega) (dn - 1) 1 99999 g_fu 18 hc1 hm1 0 (by omega) (by omega) (by omega) (by unfold g_fu; omega) (by omega) (rwH_of R.2.2.2.1) (pkI_fr H (fun x _ _ => a4 x (by omega))) (by rw [a5.2 _ (by omega)]; exact eg) R.1.1 R.1.2.2.2.2.1 R.1.2.2.2.2.2 ⟨T, F, t1, t2, t3, t4⟩
          have eD : Dy_runDays l r 66 p (nI dn) hc = some (w, hc') := by
            unfold Dy_runDays
            have : Dy_runDays_l12 l r 66 p (nI dn) (99999 + 1) 0 0 0 h0 = some (w, hc') := by
              unfold Dy_runDays_l12
              rw [if_neg (show ¬ nI dn ≤ 0 from fun e => by have := (z_le0 (show dn < 2 ^ 31 by omega)).1 e; omega), a2, Option.bind_some, if_pos (by decide), Option.bind_some]
              exact k1
            rw [a1, Option.bind_some, show g_fu = 99999 + 1 from rfl, this]
            rfl
          have eM : (Md_harmOf m h').bind (fun q5 => (Md_days_l46 m (nI dn) (nI j) g_fu q5.1 0 1 q5.2)) = some (hm' m 35, w, hm') := by
            rw [a3, Option.bind_some]
            simp only
            rw [R.1.1]
            exact k2
          have Sf : frS hc hc' := fun x hx => by rw [k8 x (by omega), a4 x (by omega)]
          have SH' : scH l hc' := ⟨k7, rwH_fr SH.2.1 (by rw [k8 _ (by omega), a4 _ (by omega)]), pkH_fr SH.2.2 (by rw [k8 _ (by omega), a4 _ (by omega)]) (by rw [k8 _ (by omega), a4 _ (by omega)]) (by rw [k8 _ (by omega), a4 _ (by omega)])⟩
          have Sm : scM hm hm' m := scM_tr S (scM_tr (scM_fr a5) k9)
          rw [if_neg (show ¬ nI dn < 1 from nI_nlt (show 1 ≤ dn by omega) (by omega)), if_neg (show ¬ (30 : Int32) < nI dn from nI_nlt (show dn ≤ 30 by omega) (by decide)), if_neg (nI_pos (show j < 2 ^ 31 by omega)), if_pos (show nI j ≤ 3 from nI_le (show j ≤ 3 by omega) (by decide)), eD, Option.bind_some, a3, Option.bind_some]
          have eM' : Md_days_l46 m (nI dn) (nI j) g_fu (hc1 66 0) 0 1 hm1 = some (hm' m 35, w, hm') := by rw [R.1.1]; exact k2
          simp only
          rw [eM', Option.bind_some]
          simp only
          by_cases c2 : 2 ≤ j
          · rw [if_neg (show ¬ nI j = 0 from fun e => by have := (z_eq0 (show j < 2 ^ 31 by omega)).1 e; omega), if_neg (show ¬ nI j = 1 from fun e => by have := (nI_eq (show j < 2 ^ 31 by omega) (by decide)).1 (show nI j = nI 1 from e); omega), if_pos (show (2 : Int32) ≤ nI j from nI_le c2 (by omega)), k4, k5, s1, s2]
            by_cases cF : F' = 0
            · rw [if_pos ((z_eq0 (by omega)).2 cF), if_pos ((z_eq0 (by omega)).2 cF)]
              exact ⟨1, hc', hm', rfl, rfl, Sf, SH', Sm⟩
            · rw [if_neg (fun e => cF ((z_eq0 (by omega)).1 e)), if_neg (fun e => cF ((z_eq0 (by omega)).1 e))]
              have : (if nI j = 3 then some (1 : Int32) else some 0 : Option Int32) = some (if nI j = 3 then 1 else 0) := by split <;> rfl
              rw [this, Option.bind_some, Option.bind_some]
              obtain ⟨v, l1, l2⟩ := least_eq (x2 := if nI j = 3 then 1 else 0) (show T' < 2 ^ 16 by omega) (show F' < 2 ^ 16 by omega) (by omega)
              rw [l1, l2]
              exact ⟨v, hc', hm', rfl, rfl, Sf, SH', Sm⟩
          · rw [if_neg (show ¬ (2 : Int32) ≤ nI j from nI_ge (show j < 2 by omega) (by decide))]
            have hj01 : j = 0 ∨ j = 1 := by omega
            rcases hj01 with rfl | rfl
            · rw [if_pos (show nI 0 = 0 from rfl), if_pos (show nI 0 = 0 from rfl)]
              exact ⟨_, hc', hm', rfl, by rw [k3], Sf, SH', Sm⟩
            · rw [if_neg (show ¬ nI 1 = 0 by decide), if_pos (show nI 1 = 1 from rfl), if_neg (show ¬ nI 1 = 0 by decide)]
              exact ⟨_, hc', hm', rfl, rfl, Sf, SH', Sm⟩
        · rw [e1, e2]
          exact ⟨-1, hc, _, rfl, rfl, frS_id, SH, S0⟩
end DAYS
