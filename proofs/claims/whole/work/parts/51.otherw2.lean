/-! a comer otherwise: the question -/
section TRIAL
variable {l : List (Nat × Nat)} {r : am_R} {h h' hc hm : am_F} {d m k p b t s w lim a q c : Nat} {n : Nat → Nat} {f g g' : Nat → Int32} {x x1 x2 x3 x4 y u v : Int32}
theorem else_l {nb : Nat} {had : Int32} (L : wL l m) (hnb : nb ≤ 6) (hnb0 : 0 < nb) : ∀ (c b f1 f2 : Nat) (hc hm : am_F), b + c = nb → c < f1 → c < f2 → pkI l hc 87 (hm (m + 12)) → pkV (hm (m + 12)) → nV (hm (m + 12) 3) = nb → k < nV (hm (m + 12) 6) → scH l hc → (b = 0 ∧ hm m 49 = -1 ∧ hm m 50 = -1000000 ∨ 0 < b ∧ hm m 49 = hc 76 0 ∧ hm m 50 = hc 76 1) → ∃ hc' hm', Tr_comeElsewhere_l10 l r 76 (nI k) f1 (nI b) hc = some hc' ∧ Md_tryAll_l35 m (nI k) 0 (nI (nb - 1)) 0 (nI (111 + 6 * k + 2)) had f2 (nI b) hm = some hm' ∧ hm' m 49 = hc' 76 0 ∧ hm' m 50 = hc' 76 1 ∧ frT hc hc' ∧ scH l hc' ∧ scM hm hm' m := by
  intro c
  induction c with
  | zero =>
    intro b f1 f2 hc hm hb hf1 hf2 K V e3 hk SH hu
    obtain ⟨f1, rfl⟩ : ∃ q, f1 = q + 1 := ⟨f1 - 1, by omega⟩
    obtain ⟨f2, rfl⟩ : ∃ q, f2 = q + 1 := ⟨f2 - 1, by omega⟩
    have h3 := zN_V (pv_nb V) (by decide)
    unfold Tr_comeElsewhere_l10 Md_tryAll_l35
    simp only [Nat.reduceAdd]
    rw [K.1.2.2.2, h3.1, e3, if_pos (nI_le (by omega) (by omega)), if_pos (nI_lt (by omega) (by omega))]
    rcases hu with ⟨h0, _⟩ | ⟨_, u1, u2⟩
    · omega
    · exact ⟨hc, hm, rfl, rfl, u1, u2, fun _ _ => rfl, SH, scM_id⟩
  | succ c ih =>
    intro b f1 f2 hc hm hb hf1 hf2 K V e3 hk SH hu
    obtain ⟨f1, rfl⟩ : ∃ q, f1 = q + 1 := ⟨f1 - 1, by omega⟩
    obtain ⟨f2, rfl⟩ : ∃ q, f2 = q + 1 := ⟨f2 - 1, by omega⟩
    have h3 := zN_V (pv_nb V) (by decide)
    have h6 := zN_V (pv_nc V) (by decide)
    have K1 := pkI_cell (c := 2) (v := nI b) K V hk (by decide)
    have V1 := pkV_cell (c := 2) (v := nI b) V hk (.inr ⟨rfl, b, by omega, rfl⟩)
    rw [show 87 + 12 = 99 from rfl] at K1
    have em : (am_up hm (m + 12) (111 + (6 * k + 2)) (nI b)) (m + 12) = upz (hm (m + 12)) (111 + (6 * k + 2)) (nI b) := z_ups
    have e6 : upz (hm (m + 12)) (111 + (6 * k + 2)) (nI b) 6 = hm (m + 12) 6 := upz_n (by omega)
    have e33 : upz (hm (m + 12)) (111 + (6 * k + 2)) (nI b) 3 = hm (m + 12) 3 := upz_n (by omega)
    obtain ⟨hc1, hm1, A, C, a1, a3, hA, hC, a4, a5, a6⟩ := has_eq (r := r) (k := k) L (scH_up (i := 99) (k := 6 * k + 2) (v := nI b) SH (by decide) (by decide) (by decide) (by decide) (by decide)) K1 V1 em (by rw [e6]; exact hk)
    have es := Rw_set_at (r := r) (a := 98) (c := 2) (v := nI b) K.2.2.2.2.2.2.2 hk (by decide)
    have e76 : hc1 76 = hc 76 := by rw [a4 76 (by omega), z_upr (by decide)]
    have g1 : hm1 (m + 12) = upz (hm (m + 12)) (111 + (6 * k + 2)) (nI b) := by rw [a5.2 _ (by omega), em]
    have em49 : hm1 m 49 = hm m 49 := by rw [a5.1 49 (by omega), z_upr (by omega)]
    have em50 : hm1 m 50 = hm m 50 := by rw [a5.1 50 (by omega), z_upr (by omega)]
    have hlow := low_lt (D := 0) hA hC (by omega)
    rw [show nI A - nI C - nI 0 = nI A - nI C from Int32.sub_zero _] at hlow
    obtain ⟨h2, b1, b2, b3, b4⟩ : ∃ h2, (if nI b = 0 then (Tr_first 76 (nI b) (nI A - nI C) hc1).bind fun q7 => some q7 else (Tr_more 76 (nI b) (nI A - nI C) hc1).bind fun q8 => some q8 : Option am_F) = some h2 ∧ h2 76 0 = (if nI A - nI C ≤ hm m 50 then hm m 49 else nI b) ∧ h2 76 1 = Md_greater (hm m 50) (nI A - nI C) ∧ ∀ x, x ≠ 76 → h2 x = hc1 x := by
      rcases hu with ⟨rfl, u1, u2⟩ | ⟨hb0, u1, u2⟩
      · obtain ⟨h2, b1, b2, b3, b4⟩ := first_up hc1 (nI 0) (nI A - nI C)
        rw [if_pos (show nI 0 = 0 from rfl), b1, u1, u2]
        refine ⟨h2, rfl, by rw [b2, if_neg hlow], ?_, b4⟩
        rw [b3]
        unfold Md_greater
        rw [if_pos (Int32.le_of_lt (Int32.not_le.1 hlow))]
      · obtain ⟨h2, b1, b2, b3, b4⟩ := more_up hc1 (nI b) (nI A - nI C)
        rw [if_neg (fun e => by have := (z_eq0 (show b < 2 ^ 31 by omega)).1 e; omega), b1, u1, u2]
        exact ⟨h2, rfl, by rw [b2, e76], by rw [b3, e76], b4⟩
    have K2 : pkI l h2 87 (hm1 (m + 12)) := by
      rw [g1]
      exact pkI_fr K1 (fun x _ _ => by rw [b4 x (by omega), a4 x (by omega)])
    obtain ⟨hc', hm', k1, k2, k3, k4, k7, k8, k9⟩ := ih (b + 1) f1 f2 h2 (am_up (am_up hm1 m 49 (h2 76 0)) m 50 (h2 76 1)) (by omega) (by omega) (by omega) (by simp (disch := omega) only [z_upr]; exact K2) (by simp (disch := omega) only [z_upr]; rw [g1]; exact V1) (by simp (disch := omega) only [z_upr]; rw [g1, e33]; exact e3) (by simp (disch := omega) only [z_upr]; rw [g1, e6]; exact hk) (scH_76 a6 b4) (.inr ⟨by omega, by simp (disch := omega) only [z_ups, upz_s, upz_n], by simp (disch := omega) only [z_ups, upz_s, upz_n]⟩)
    refine ⟨hc', hm', ?_, ?_, k3, k4, ?_, k8, ?_⟩
    · unfold Tr_comeElsewhere_l10
      simp only [Nat.reduceAdd]
      rw [K.1.2.2.2, h3.1, e3, if_neg (nI_ge (by omega) (by omega)), show Rw_set l r 98 (nI k) 2 (nI b) hc = some (am_up hc 99 (6 * k + 2) (nI b)) from es, Option.bind_some, a1, Option.bind_some]
      simp only
      rw [b1, Option.bind_some, nI_1]
      exact k1
    · unfold Md_tryAll_l35
      rw [if_neg (nI_nlt (by omega) (by omega)), z_ix (by omega) (by decide), Option.bind_some, show 111 + 6 * k + 2 = 111 + (6 * k + 2) by omega, a3, Option.bind_some, if_pos rfl, Option.bind_some]
      simp only
      rw [show nI A - nI C - 0 = nI A - nI C from Int32.sub_zero _, em49, em50, nI_1]
      have : (if nI A - nI C ≤ hm m 50 then some (hm m 49) else some (nI b) : Option Int32) = some (h2 76 0) := by
        rw [b2]
        split <;> rfl
      rw [this, Option.bind_some]
      simp (disch := omega) only [z_ups, upz_n, em50]
      rw [← b3]
      rw [show 111 + 6 * k + 2 = 111 + (6 * k + 2) by omega] at k2
      exact k2
    · intro x hx
      rw [k7 x hx, b4 x (by omega), a4 x (by omega), z_upr (by omega)]
    · exact scM_tr (scM_tr (scM_tr (scM_tr (scM_up (.inr (by omega))) (scM_fr a5)) (scM_up (.inl rfl))) (scM_up (.inl rfl))) k9
theorem later_eq (L : wL l m) (SH : scH l hc) (H : pkI l hc p g) (V : pkV g) (hp : p + 12 < 66) (eg : hm (m + 12) = g) (hk : k < nV (g 6)) : ∃ hc' hm' hour bs, hour < 48 ∧ bs ≤ 48 ∧ Tr_comeLater l r 76 p (nI k) hc = some hc' ∧ Md_comer m (nI k) 1 hm = some (nI hour) ∧ Md_tryAll m (nI k) 1 (nI hour) 47 1 hm = some hm' ∧ hc' 76 0 = nI bs ∧ hm' m 49 = nI (hour + bs) ∧ hm' m 50 = hc' 76 1 ∧ frS hc hc' ∧ scH l hc' ∧ scM hm hm' m := by
  have h6 := zN_V (pv_nc V) (by decide)
  obtain ⟨_, ⟨hour, hh, eh⟩, _⟩ := pv_comer V k hk
  obtain ⟨q1, c1, K1, S1, f1⟩ := cp87 (r := r) (q := 0) L SH H V hp
  have em := Md_comer_at (a := m) (h := hm) (k := k) (p := 1) (by omega) (by decide)
  rw [eg, eh] at em
  have gi : g_ix ((111 + 6 * nI k) + 1) 195 = some (111 + (6 * k + 1)) := by
    rw [show (111 : Int32) = nI 111 from rfl, show (6 : Int32) = nI 6 from rfl, show (1 : Int32) = nI 1 from rfl, pk_mul, nI_add, nI_add, z_ix (by omega) (by decide), show 111 + 6 * k + 1 = 111 + (6 * k + 1) by omega]
  have gn : (111 : Int32) + 6 * nI k + 1 = nI (111 + 6 * k + 1) := by
    rw [show (111 : Int32) = nI 111 from rfl, show (6 : Int32) = nI 6 from rfl, show (1 : Int32) = nI 1 from rfl, pk_mul, nI_add, nI_add]
  generalize hz : am_up (am_up hm m 49 (-1)) m 50 (-1000000) = z0
  have z12 : z0 (m + 12) = g := by rw [← hz]; simp (disch := omega) only [z_upr]; exact eg
  have z49 : z0 m 49 = -1 := by rw [← hz]; simp (disch := omega) only [z_ups, upz_s, upz_n]
  have z50 : z0 m 50 = -1000000 := by rw [← hz, z_ups, upz_s]
  have zS : scM hm z0 m := by rw [← hz]; exact scM_tr (scM_up (.inl rfl)) (scM_up (.inl rfl))
  have er : (am_up z0 (m + 12) (111 + (6 * k + 1)) (nI hour)) = z0 := up_self (by rw [z12, eh])
  obtain ⟨hc1, hm1, A, C, a1, a3, hA, hC, a4, a5, a6⟩ := has_eq (r := r) (k := k) L S1 K1 V z12 hk
  obtain ⟨h2, b1, b2, b3, b4⟩ := first_up hc1 0 (nI A - nI C)
  have H2 : pkI l h2 p g := pkI_fr H (fun x _ _ => by rw [b4 x (by omega), a4 x (by omega), f1 x (by omega)])
  have gh := com_at (r := r) (c := 1) H2 hk (by decide)
  rw [eh] at gh
  have g1 : hm1 (m + 12) = g := by rw [a5.2 _ (by omega), z12]
  have m49 : hm1 m 49 = -1 := by rw [a5.1 49 (by omega)]; exact z49
  have m50 : hm1 m 50 = -1000000 := by rw [a5.1 50 (by omega)]; exact z50
  have hlow := low_lt (D := 0) hA hC (by omega)
  have hz0 : nI A - nI C - nI 0 = nI A - nI C := Int32.sub_zero _
  rw [hz0] at hlow
  generalize hy : am_up (am_up hm1 m 49 (nI hour)) m 50 (nI A - nI C) = z1
  obtain ⟨hc', hm', bs', k1, k2, k3, k4, k5, k6, k7, k8, k9⟩ := later_l (r := r) (k := k) (had := z0 (m + 12) (111 + (6 * k + 1))) L hh (48 - (hour + 1)) 1 g_fu 99999 0 h2 z1 (by omega) (by omega) (by unfold g_fu; omega) (by omega) (by rw [← hy]; simp (disch := omega) only [z_upr]; rw [g1]; exact pkI_fr K1 (fun x _ _ => by rw [b4 x (by omega), a4 x (by omega)])) (by rw [← hy]; simp (disch := omega) only [z_upr]; rw [g1]; exact V) (by rw [← hy]; simp (disch := omega) only [z_upr]; rw [g1]; exact hk) (scH_76 a6 b4) (by omega) b2 (by rw [← hy]; simp (disch := omega) only [z_ups, upz_s, upz_n]; rfl) (by rw [← hy, z_ups, upz_s, b3])
  refine ⟨hc', am_up hm' (m + 12) (111 + (6 * k + 1)) (z0 (m + 12) (111 + (6 * k + 1))), hour, bs', hh, k6, ?_, em, ?_, k3, by rw [z_upr (by omega)]; exact k4, by rw [z_upr (by omega)]; exact k5, ?_, k8, ?_⟩
  · unfold Tr_comeLater
    simp only [Nat.reduceAdd]
    rw [c1, Option.bind_some, a1, Option.bind_some]
    simp only
    rw [b1, Option.bind_some, show Rw_get l r (p + 11) (nI k) 1 h2 = some (nI hour) from gh, Option.bind_some, show Tr_comeLater_l31 l r 76 (nI k) (nI hour) g_fu 1 h2 = some hc' from k1]
    rfl
  · unfold Md_tryAll
    rw [gi, Option.bind_some, gn]
    have eh0 : hm (m + 12) (111 + (6 * k + 1)) = z0 (m + 12) (111 + (6 * k + 1)) := by rw [eg, z12]
    rw [eh0, hz]
    have : Md_tryAll_l35 m (nI k) (nI hour) 47 1 (nI (111 + 6 * k + 1)) (z0 (m + 12) (111 + (6 * k + 1))) (99999 + 1) (nI hour) z0 = some hm' := by
      unfold Md_tryAll_l35
      rw [show (47 : Int32) = nI 47 from rfl, if_neg (nI_nlt (by omega) (by omega)), z_ix (by omega) (by decide), Option.bind_some, show 111 + 6 * k + 1 = 111 + (6 * k + 1) by omega, er, a3, Option.bind_some, if_neg (show ¬ (1 : Int32) = 0 by decide), Option.bind_some, show nI hour - nI hour = nI 0 by rw [pk_sub (Nat.le_refl _), Nat.sub_self]]
      simp only
      rw [hz0, m49, m50, if_neg hlow, Option.bind_some, nI_1]
      simp (disch := omega) only [z_ups, upz_n, m50]
      rw [show Md_greater (-1000000) (nI A - nI C) = nI A - nI C by unfold Md_greater; rw [if_pos (Int32.le_of_lt (Int32.not_le.1 hlow))], hy]
      rw [show 111 + 6 * k + 1 = 111 + (6 * k + 1) by omega] at k2
      exact k2
    rw [show g_fu = 99999 + 1 from rfl, this, Option.bind_some, Option.bind_some]
  · intro x hx
    rw [k7 x (by omega), b4 x (by omega), a4 x (by omega), f1 x (by omega)]
  · refine scM_tr (scM_tr (scM_tr zS (scM_fr a5)) ?_) (scM_tr k9 (scM_up (.inr (by omega))))
    rw [← hy]
    exact scM_tr (scM_up (.inl rfl)) (scM_up (.inl rfl))
theorem else_eq (L : wL l m) (SH : scH l hc) (H : pkI l hc p g) (V : pkV g) (hp : p + 12 < 66) (eg : hm (m + 12) = g) (hk : k < nV (g 6)) : ∃ hc' hm', Tr_comeElsewhere l r 76 p (nI k) hc = some hc' ∧ Md_tryAll m (nI k) 2 0 (g 3 - 1) 0 hm = some hm' ∧ hm' m 49 = hc' 76 0 ∧ hm' m 50 = hc' 76 1 ∧ frS hc hc' ∧ scH l hc' ∧ scM hm hm' m := by
  have h6 := zN_V (pv_nc V) (by decide)
  have h3 := zN_V (pv_nb V) (by decide)
  obtain ⟨_, _, ⟨bk, hbk, ebk⟩, _⟩ := pv_comer V k hk
  obtain ⟨q1, c1, K1, S1, f1⟩ := cp87 (r := r) (q := 0) L SH H V hp
  have gi : g_ix ((111 + 6 * nI k) + 2) 195 = some (111 + (6 * k + 2)) := by
    rw [show (111 : Int32) = nI 111 from rfl, show (6 : Int32) = nI 6 from rfl, show (2 : Int32) = nI 2 from rfl, pk_mul, nI_add, nI_add, z_ix (by omega) (by decide), show 111 + 6 * k + 2 = 111 + (6 * k + 2) by omega]
  have gn : (111 : Int32) + 6 * nI k + 2 = nI (111 + 6 * k + 2) := by
    rw [show (111 : Int32) = nI 111 from rfl, show (6 : Int32) = nI 6 from rfl, show (2 : Int32) = nI 2 from rfl, pk_mul, nI_add, nI_add]
  have gb : g 3 - 1 = nI (nV (g 3) - 1) := by
    have : nI (nV (g 3)) - 1 = nI (nV (g 3) - 1) := by rw [show (1 : Int32) = nI 1 from rfl, pk_sub (by omega)]
    rw [← h3.1] at this
    exact this
  generalize hz : am_up (am_up hm m 49 (-1)) m 50 (-1000000) = z0
  have z12 : z0 (m + 12) = g := by rw [← hz]; simp (disch := omega) only [z_upr]; exact eg
  have z49 : z0 m 49 = -1 := by rw [← hz]; simp (disch := omega) only [z_ups, upz_s, upz_n]
  have z50 : z0 m 50 = -1000000 := by rw [← hz, z_ups, upz_s]
  have zS : scM hm z0 m := by rw [← hz]; exact scM_tr (scM_up (.inl rfl)) (scM_up (.inl rfl))
  obtain ⟨hc', hm', k1, k2, k3, k4, k7, k8, k9⟩ := else_l (r := r) (k := k) (had := hm (m + 12) (111 + (6 * k + 2))) L (show nV (g 3) ≤ 6 by omega) (by omega) (nV (g 3)) 0 g_fu g_fu q1 z0 (by omega) (by unfold g_fu; omega) (by unfold g_fu; omega) (by rw [z12]; exact K1) (by rw [z12]; exact V) (by rw [z12]) (by rw [z12]; exact hk) S1 (.inl ⟨rfl, z49, z50⟩)
  refine ⟨hc', am_up hm' (m + 12) (111 + (6 * k + 2)) (hm (m + 12) (111 + (6 * k + 2))), ?_, ?_, by rw [z_upr (by omega)]; exact k3, by rw [z_upr (by omega)]; exact k4, ?_, k8, ?_⟩
  · unfold Tr_comeElsewhere
    simp only [Nat.reduceAdd]
    rw [c1, Option.bind_some, show Tr_comeElsewhere_l10 l r 76 (nI k) g_fu 0 q1 = some hc' from k1]
    rfl
  · unfold Md_tryAll
    rw [gi, Option.bind_some, gn, hz, gb, show Md_tryAll_l35 m (nI k) 0 (nI (nV (g 3) - 1)) 0 (nI (111 + 6 * k + 2)) (hm (m + 12) (111 + (6 * k + 2))) g_fu 0 z0 = some hm' from k2, Option.bind_some, Option.bind_some]
  · intro x hx
    rw [k7 x (by omega), f1 x (by omega)]
  · exact scM_tr zS (scM_tr k9 (scM_up (.inr (by omega))))
theorem q_otherwise (W : tdW r 1) (B : tdB l hc 1 hm m 0 n) (L : wL l m) (SH : scH l hc) : ∃ v hc' hm', Wp_otherwise l r 0 x1 x2 x3 hc = some (v, hc') ∧ Md_otherwise m x1 x2 x3 hm = some (v, hm') ∧ frS hc hc' ∧ scH l hc' ∧ scM hm hm' m := by
  unfold Wp_otherwise Md_otherwise
  simp only [Nat.zero_add]
  rcases pk_case W B x1 with ⟨q, g, h', hq, e1, -, -, e2, eg, H, V, C, S⟩ | ⟨e1, e2⟩
  · rw [e1, e2]
    have hp : (1 + 5 + 19 * q) + 12 < 66 := by omega
    generalize 1 + 5 + 19 * q = p at *
    have Vh : pkV (h' (m + 12)) := by rw [eg]; exact V
    have h6 := zN_V (pv_nc V) (by decide)
    have hs := H.2.2.2.2.2.2.2.2.2.1
    simp only [Option.bind_some, g_on, if_neg (show ¬ (1 : Int32) = 0 by decide), hs]
    have low : ∀ A : Option (Int32 × am_F), (A = some (-1000000, am_up hm m 0 0) ∨ A = some (-1000000, h')) → ∃ v hc' hm', some ((-1000000 : Int32), hc) = some (v, hc') ∧ A = some (v, hm') ∧ frS hc hc' ∧ scH l hc' ∧ scM hm hm' m := by
      rintro A (rfl | rfl)
      · exact ⟨_, hc, _, rfl, rfl, frS_id, SH, scM_up (.inl rfl)⟩
      · exact ⟨_, hc, h', rfl, rfl, frS_id, SH, S⟩
    rcases pk_ix x2 (n := nV (g 6)) (by omega) with c | c | ⟨k, hk, rfl⟩
    · rw [if_pos c, comer_no Vh (.inl c)]
      refine low _ ?_
      split
      · exact .inl rfl
      · exact .inr rfl
    · have n0 : ¬ x2 < nI (nV (g 6)) := Int32.not_lt.2 c
      rw [if_neg n0, comer_no Vh (.inr (by rw [eg, h6.1]; exact c))]
      have : (if x2 < 0 then some ((-1000000 : Int32), hc) else some (-1000000, hc)) = some (-1000000, hc) := by split <;> rfl
      rw [this]
      refine low _ ?_
      split
      · exact .inl rfl
      · exact .inr rfl
    · have ek := comer_yes Vh (k := k) (by rw [eg]; exact hk)
      rw [if_neg (nI_pos (show k < 2 ^ 31 by omega)), if_pos (nI_lt hk (by omega)), ek]
      simp only [Option.bind_some, if_neg (show ¬ (1 : Int32) = 0 by decide)]
      rcases pk_ix x3 (n := 5) (by decide) with c | c | ⟨j, hj, rfl⟩
      · rw [show Md_in x3 0 4 = 0 from Md_in_no (.inl c), if_pos rfl, if_neg (show ¬ x3 = 0 from z_negne c (show 0 < 2 ^ 31 by decide)), if_neg (show ¬ x3 = 1 from z_negne c (show 1 < 2 ^ 31 by decide)), if_neg (show ¬ x3 = 2 from z_negne c (show 2 < 2 ^ 31 by decide)), if_neg (show ¬ x3 = 3 from z_negne c (show 3 < 2 ^ 31 by decide)), if_neg (show ¬ x3 = 4 from z_negne c (show 4 < 2 ^ 31 by decide))]
        exact low _ (.inl rfl)
      · rw [show Md_in x3 0 4 = 0 from Md_in_no (.inr (z_biggt c (show 4 < 5 by decide) (by decide))), if_pos rfl, if_neg (show ¬ x3 = 0 from z_bigne c (show 0 < 5 by decide) (by decide)), if_neg (show ¬ x3 = 1 from z_bigne c (show 1 < 5 by decide) (by decide)), if_neg (show ¬ x3 = 2 from z_bigne c (show 2 < 5 by decide) (by decide)), if_neg (show ¬ x3 = 3 from z_bigne c (show 3 < 5 by decide) (by decide)), if_neg (show ¬ x3 = 4 from z_bigne c (show 4 < 5 by decide) (by decide))]
        exact low _ (.inl rfl)
      · rw [show Md_in (nI j) 0 4 = 1 from Md_in_yes (show 0 ≤ j by omega) (show j ≤ 4 by omega) (by decide), if_neg (show ¬ (1 : Int32) = 0 by decide)]
        obtain ⟨hc', hm', hour, bs, hh, hbs, a1, a2, a3, a4, a5, a6, a7, a8, a9⟩ := later_eq (r := r) L SH H V hp eg hk
        obtain ⟨hc2, hm2, b1, b3, b4, b5, b6, b7, b8⟩ := else_eq (r := r) L SH H V hp eg hk
        have b3' : Md_tryAll m (nI k) 2 0 (h' (m + 12) 3 - 1) 0 h' = some hm2 := by rw [eg]; exact b3
        match j, hj with
        | 0, _ =>
          obtain ⟨q1, c1, K1, S1, f1⟩ := cp87 (r := r) (q := 0) L SH H V hp
          obtain ⟨hc1, hm1, A, C', d1, d3, hA, hC, d4, d5, d6⟩ := has_eq (r := r) (k := k) L S1 K1 V eg hk
          refine ⟨nI A - nI C', hc1, hm1, ?_, ?_, fun x hx => by rw [d4 x (by omega), f1 x (by omega)], d6, scM_tr S (scM_fr d5)⟩
          · rw [if_pos (show nI 0 = 0 from rfl)]
            unfold Tr_hasAsTold
            simp only [Nat.reduceAdd]
            rw [c1, Option.bind_some, d1]
            rfl
          · rw [if_pos (show nI 0 = 0 from rfl), d3]
            rfl
        | 1, _ =>
          refine ⟨nI bs, hc', hm', ?_, ?_, a7, a8, scM_tr S a9⟩
          · rw [if_neg (by decide), if_pos (by decide), a1, Option.bind_some, a4]
          · rw [if_neg (by decide), if_neg (by decide), a2, Option.bind_some, a3, Option.bind_some, if_pos (by decide), a5, pk_sub (by omega), show hour + bs - hour = bs by omega]
        | 2, _ =>
          refine ⟨hc' 76 1, hc', hm', ?_, ?_, a7, a8, scM_tr S a9⟩
          · rw [if_neg (by decide), if_neg (by decide), if_pos (by decide), a1, Option.bind_some]
          · rw [if_neg (by decide), if_neg (by decide), a2, Option.bind_some, a3, Option.bind_some, if_neg (by decide), a6]
        | 3, _ =>
          refine ⟨hc2 76 0, hc2, hm2, ?_, ?_, b6, b7, scM_tr S b8⟩
          · rw [if_neg (by decide), if_neg (by decide), if_neg (by decide), if_pos (by decide), b1, Option.bind_some]
          · rw [if_neg (by decide), if_pos (by decide), b3', Option.bind_some, if_pos (by decide), b4]
        | 4, _ =>
          refine ⟨hc2 76 1, hc2, hm2, ?_, ?_, b6, b7, scM_tr S b8⟩
          · rw [if_neg (by decide), if_neg (by decide), if_neg (by decide), if_neg (by decide), if_pos (by decide), b1, Option.bind_some]
          · rw [if_neg (by decide), if_pos (by decide), b3', Option.bind_some, if_neg (by decide), b5]
  · rw [e1, e2]
    simp only [Option.bind_some, g_on, if_true]
    have : (if Md_in x3 0 4 = 0 then some ((-1000000 : Int32), am_up hm m 0 0) else some (-1000000, am_up hm m 0 0)) = some (-1000000, am_up hm m 0 0) := by split <;> rfl
    rw [this]
    exact ⟨_, hc, _, rfl, rfl, frS_id, SH, scM_up (.inl rfl)⟩
end TRIAL
