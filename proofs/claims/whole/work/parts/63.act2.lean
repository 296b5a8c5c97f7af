/-! what to do at a bench: the question -/
section ACT
variable {l : List (Nat × Nat)} {r : am_R} {h h' hc hm hc0 hm0 : am_F} {d m k p b t s lim a q c i nb nc z j N : Nat} {n : Nat → Nat} {H w W fit : Nat → Nat} {f g g' : Nat → Int32} {x x1 x2 x3 x4 x5 x6 y u v sd : Int32}
theorem q_act (W : tdW r 1) (B : tdB l hc 1 hm m 0 n) (L : wL l m) (SH : scH l hc) : ∃ v hc' hm' r', Wp_act l r 0 x1 x2 x3 x4 x5 x6 hc = some (v, hc', r') ∧ Md_act m x1 x2 x3 x4 x5 x6 hm = some (v, hm') ∧ frS hc hc' ∧ scH l hc' ∧ scM hm hm' m ∧ rP r r' := by
  have S0 : scM hm (am_up hm m 0 0) m := scM_up (.inl rfl)
  unfold Wp_act Md_act
  simp only [Nat.zero_add]
  have mB : ∀ (X : Option (Int32 × am_F)), (∃ hm'', X = some (-1000000, hm'') ∧ scM hm hm'' m) → ∃ hm'', (if Md_in x6 0 5 = 0 then some (-1000000, am_up hm m 0 0) else if Md_in x4 0 47 = 0 then some (-1000000, am_up hm m 0 0) else X) = some (-1000000, hm'') ∧ scM hm hm'' m := by
    intro X hX
    split
    · exact ⟨_, rfl, S0⟩
    · split
      · exact ⟨_, rfl, S0⟩
      · exact hX
  rcases fits_case (x1 := x1) (x2 := x2) (x3 := x3) W B with ⟨hc', hm', p, g, N, H, w, s, f, q1, e0, e1, e2, ⟨q, hq, ep⟩, K, V, eg, I, eW, e45, e5, e43, hq1, hs, e7, ef, P, fx, S⟩ | ⟨e1, hm', e2, S⟩
  · rw [e0, Option.bind_some, e1, Option.bind_some, e2]
    simp only [if_neg (show ¬ (1 : Int32) = 0 by decide), g_on, Option.bind_some]
    have Sf : frS hc hc' := fun x hx => fx x (by omega) (by omega) (by omega)
    have SH' : scH l hc' := scH_F SH (fun x hx => fx x (by omega) (by omega) (by omega))
    have rp : rP r (am_up r 100 6 (some p)) := .inr ⟨q, hq, by rw [ep]⟩
    have er : (am_up r 100 6 (some p)) 100 6 = some p := by rw [z_up, if_pos ⟨rfl, rfl⟩]
    have hN := I.2.1
    have hT : fS N w ≤ 72 := by
      have := fS_le (n := N) (f := w) (M := 9) (fun t ht => (I.2.2.2 t ht).2.2.2.2)
      omega
    have h6 := zN_V (pv_nc V) (by decide)
    have Vh : pkV (hm' (m + 12)) := by rw [eg]; exact V
    have e11 : hc' (p + 11) 3 = nI (nV (g 6)) := K.2.2.2.2.2.2.2.2.2.1
    rw [I.2.2.1, e45, e11]
    have fin : ∀ (Y : Option (Int32 × am_F × am_R)) (X : Option (Int32 × am_F)), Y = some (-1000000, hc', am_up r 100 6 (some p)) → (∃ hm'', X = some (-1000000, hm'') ∧ scM hm hm'' m) → ∃ v hc'' hm'' r'', Y = some (v, hc'', r'') ∧ X = some (v, hm'') ∧ frS hc hc'' ∧ scH l hc'' ∧ scM hm hm'' m ∧ rP r r'' := by
      rintro Y X rfl ⟨hm'', rfl, S''⟩
      exact ⟨_, hc', hm'', _, rfl, rfl, Sf, SH', S'', rp⟩
    by_cases c0 : fS N w = 0
    · refine fin _ _ ?_ (mB _ ?_)
      · rw [c0, if_pos (show nI 0 < 1 by decide)]
      · rw [c0, if_pos (show nI 0 = 0 from rfl)]
        exact ⟨hm', rfl, S⟩
    · rw [if_neg (show ¬ nI (fS N w) < 1 from nI_nlt (show 1 ≤ fS N w by omega) (by omega)), if_neg (show ¬ nI (fS N w) = 0 from fun e => c0 ((z_eq0 (by omega)).1 e))]
      rcases hour_cases x4 with ⟨t, ht, rfl, t1, t2⟩ | ⟨t1, t2⟩
      · rw [t1, t2, if_neg (show ¬ (1 : Int32) = 0 by decide), if_neg (show ¬ (1 : Int32) = 0 by decide)]
        rcases pk_ix x5 (n := nV (g 6)) (by omega) with c | c | ⟨k, hk, rfl⟩
        · refine fin _ _ (by rw [if_pos c]) ?_
          rw [comer_no Vh (.inl c), Option.bind_some, if_pos rfl]
          split
          · exact ⟨_, rfl, S0⟩
          · exact ⟨_, rfl, S⟩
        · refine fin _ _ (by rw [if_neg (show ¬ x5 < 0 from z_biglt c (k := 0) (by omega) (by omega)), if_pos c]) ?_
          rw [comer_no Vh (.inr (by rw [eg, h6.1]; exact c)), Option.bind_some, if_pos rfl]
          split
          · exact ⟨_, rfl, S0⟩
          · exact ⟨_, rfl, S⟩
        · rw [if_neg (nI_pos (show k < 2 ^ 31 by omega)), if_neg (nI_ge hk (by omega)), comer_yes Vh (by rw [eg]; exact hk), Option.bind_some, if_neg (show ¬ (1 : Int32) = 0 by decide)]
          rcases pk_ix x6 (n := 6) (by decide) with c | c | ⟨o, ho, rfl⟩
          · refine fin _ _ (by rw [if_pos c]) ?_
            rw [show Md_in x6 0 5 = 0 from Md_in_no (.inl c), if_pos rfl]
            exact ⟨_, rfl, S0⟩
          · refine fin _ _ (by rw [if_neg (show ¬ x6 < 0 from z_biglt c (k := 0) (by decide) (by decide)), if_neg (show ¬ x6 ≤ 5 from Int32.not_le.2 (z_biggt c (show 5 < 6 by decide) (by decide)))]) ?_
            rw [show Md_in x6 0 5 = 0 from Md_in_no (.inr (z_biggt c (show 5 < 6 by decide) (by decide))), if_pos rfl]
            exact ⟨_, rfl, S0⟩
          · obtain ⟨hc2, a1, a2, a3⟩ := stag_eq (r := am_up r 100 6 (some p)) K V (by omega) er I ht L.2.2.1
            have K2 : pkI l hc2 p g := pkI_fr K (fun x _ _ => a3 x (by omega))
            have eT : hc2 100 0 = nI (fS N w) := by rw [a3 100 (by decide)]; exact I.2.2.1
            have hH : ∀ t, t < N → H t < 49 := fun t ht => (I.2.2.2 t ht).2.1
            have wx : ∀ a, a < 3 → ∃ X Y, X < 1000 ∧ Y < 1000 ∧ Fi_worthOf l (am_up r 100 6 (some p)) 100 (nI a) (p + 11) (nI k) hc2 = some (nI X - nI Y) ∧ Md_actWorth m (nI k) (nI t) (nI a) hm' = some (nI X - nI Y) := fun a ha => worth_eq K2 V eg hk (a2 0 (by decide)) (a2 1 (by decide)) (a2 2 (by decide)) eT (sW_sum N) hT (wof_eq V eg eW hH ht (by decide)) (wof_eq V eg eW hH ht (by decide)) (wof_eq V eg eW hH ht (by decide)) ha
            obtain ⟨X0, Y0, _, _, u0, v0⟩ := wx 0 (by decide)
            obtain ⟨X1, Y1, _, _, u1, v1⟩ := wx 1 (by decide)
            obtain ⟨X2, Y2, _, _, u2, v2⟩ := wx 2 (by decide)
            have z0 : nI X0 - nI Y0 = 0 := (Option.some.inj (v0.symm.trans (show Md_actWorth m (nI k) (nI t) (nI 0) hm' = some 0 from rfl)))
            have wz : ∃ wf : Nat → Int32, (∀ a, a < 3 → Fi_worthOf l (am_up r 100 6 (some p)) 100 (nI a) (p + 11) (nI k) hc2 = some (wf a)) ∧ (∀ a, a < 3 → Md_actWorth m (nI k) (nI t) (nI a) hm' = some (wf a)) ∧ (∀ a, a < 3 → ∃ X Y, X < 1000 ∧ Y < 1000 ∧ wf a = nI X - nI Y) ∧ wf 0 = 0 := by
              refine ⟨fun a => if a = 0 then nI X0 - nI Y0 else if a = 1 then nI X1 - nI Y1 else nI X2 - nI Y2, ?_, ?_, ?_, ?_⟩
              · intro a ha
                match a, ha with
                | 0, _ => exact u0
                | 1, _ => exact u1
                | 2, _ => exact u2
              · intro a ha
                match a, ha with
                | 0, _ => exact v0
                | 1, _ => exact v1
                | 2, _ => exact v2
              · intro a ha
                match a, ha with
                | 0, _ => exact ⟨X0, Y0, by assumption, by assumption, rfl⟩
                | 1, _ => exact ⟨X1, Y1, by assumption, by assumption, rfl⟩
                | 2, _ => exact ⟨X2, Y2, by assumption, by assumption, rfl⟩
              · exact z0
            obtain ⟨wf, y1, y2, y3, y4⟩ := wz
            obtain ⟨ba, hba, hb0, k1, k2⟩ := best_l (x6 := nI o) y1 y2 2 1 g_fu g_fu 0 (by omega) (by unfold g_fu; omega) (by unfold g_fu; omega) (by decide) (by rw [y4]; decide)
            have kb : Fi_bestAct l (am_up r 100 6 (some p)) 100 (p + 11) (nI k) hc2 = some (nI ba) := by
              unfold Fi_bestAct
              rw [show Fi_bestAct_l5 l (am_up r 100 6 (some p)) 100 (p + 11) (nI k) hc2 g_fu 0 1 = some (nI ba) from k1]
              rfl
            rw [if_neg (nI_pos (show o < 2 ^ 31 by omega)), if_pos (show nI o ≤ 5 from nI_le (show o ≤ 5 by omega) (by decide)), show Md_in (nI o) 0 5 = 1 from Md_in_yes (show 0 ≤ o by omega) (show o ≤ 5 by omega) (by decide), if_neg (show ¬ (1 : Int32) = 0 by decide), a1, Option.bind_some, show Md_act_l62 m (nI t) (nI k) (nI o) hm' g_fu 0 1 = some (nI ba) from k2, Option.bind_some, kb, eT]
            have fin2 : ∀ v : Int32, ∃ (v' : Int32) (hc'' hm'' : am_F) (r'' : am_R), some (v, hc2, am_up r 100 6 (some p)) = some (v', hc'', r'') ∧ some (v, hm') = some (v', hm'') ∧ frS hc hc'' ∧ scH l hc'' ∧ scM hm hm'' m ∧ rP r r'' := fun v => ⟨v, hc2, hm', _, rfl, rfl, fun x hx => by rw [a3 x (by omega)]; exact Sf x hx, scH_F SH' (fun x hx => a3 x (by omega)), S, rp⟩
            by_cases o3 : o < 3
            · rw [if_pos (show nI o < 3 from nI_lt o3 (by decide)), Option.bind_some]
              by_cases o0 : o = 0
              · subst o0
                rw [if_pos (show nI 0 = 0 from rfl), if_pos (show nI 0 = 0 from rfl)]
                exact fin2 _
              · rw [if_neg (show ¬ nI o = 0 from fun e => o0 ((z_eq0 (by omega)).1 e)), if_neg (show ¬ nI o = 0 from fun e => o0 ((z_eq0 (by omega)).1 e)), if_pos (show nI o ≤ 2 from nI_le (show o ≤ 2 by omega) (by decide)), y1 ba hba, y2 ba hba, Option.bind_some, Option.bind_some]
                obtain ⟨X, Y, hX, hY, eXY⟩ := y3 ba hba
                have hYX := z_sub0 (X := X) (Y := Y) (by omega) (by omega) (by rw [← eXY]; exact hb0)
                have eZ : wf ba = nI (X - Y) := by rw [eXY, pk_sub hYX]
                have : (if nI o = 2 then some (1 : Int32) else some 0 : Option Int32) = some (if nI o = 2 then 1 else 0) := by split <;> rfl
                rw [this, Option.bind_some, Option.bind_some, eZ]
                obtain ⟨v, l1, l2⟩ := least_eq (x2 := if nI o = 2 then 1 else 0) (show X - Y < 2 ^ 16 by omega) (show fS N w < 2 ^ 16 by omega) (by omega)
                rw [l1, l2]
                exact fin2 v
            · have eo : nI o - 3 = nI (o - 3) := by rw [show (3 : Int32) = nI 3 from rfl, pk_sub (by omega)]
              rw [if_neg (show ¬ nI o < 3 from nI_nlt (show 3 ≤ o by omega) (by omega)), eo, y1 (o - 3) (by omega), if_neg (show ¬ nI o = 0 from fun e => by have := (z_eq0 (show o < 2 ^ 31 by omega)).1 e; omega), if_neg (show ¬ nI o ≤ 2 from nI_ge (show 2 < o by omega) (by omega)), y2 (o - 3) (by omega)]
              exact fin2 _
      · refine fin _ _ (by rw [t1, if_pos rfl]) ?_
        rw [t2]
        split
        · exact ⟨_, rfl, S0⟩
        · rw [if_pos rfl]
          exact ⟨_, rfl, S0⟩
  · obtain ⟨hm'', y1, y2⟩ := mB ((Md_layFits m x1 x2 x3 (am_up hm m 0 0)).bind fun q3 => if q3.1 = 0 then some (-1000000, q3.2) else if (q3.2 m 45) = 0 then some (-1000000, q3.2) else (Md_isComer m x5 q3.2).bind fun q6 => if q6 = 0 then some (-1000000, q3.2) else (Md_act_l62 m x4 x5 x6 q3.2 g_fu 0 1).bind fun q14 => if x6 = 0 then some (q14, q3.2) else if x6 ≤ 2 then (Md_actWorth m x5 x4 q14 q3.2).bind fun q18 => (if x6 = 2 then some 1 else some 0 : Option Int32).bind fun q21 => (Md_least q18.toInt64 (q3.2 m 45).toInt64 q21).bind fun q22 => some (q22, q3.2) else (Md_actWorth m x5 x4 (x6 - 3) q3.2).bind fun q23 => some (q23, q3.2)) ⟨hm', by rw [e2]; rfl, S⟩
    refine ⟨-1000000, hc, hm'', r, ?_, y1, frS_id, SH, y2, .inl rfl⟩
    rcases pk_case W B x1 with ⟨q, g, h', hq, p1, _⟩ | ⟨p1, _⟩
    · rw [p1, Option.bind_some, e1]; rfl
    · rw [p1, Option.bind_some, e1]; rfl
end ACT
