/-! a comer otherwise: later, elsewhere -/
section TRIAL
variable {l : List (Nat × Nat)} {r : am_R} {h h' hc hm : am_F} {d m k p b t s w lim a q c : Nat} {n : Nat → Nat} {f g g' : Nat → Int32} {x x1 x2 x3 x4 y u v : Int32}
theorem pkI_cell (H : pkI l h p g) (V : pkV g) (hk : k < nV (g 6)) (hc6 : c < 6) : pkI l (am_up h (p + 12) (6 * k + c) v) p (upz g (111 + (6 * k + c)) v) := by
  have h6 := zN_V (pv_nc V) (by decide)
  have e6 : upz g (111 + (6 * k + c)) v 6 = g 6 := upz_n (by omega)
  refine pkI_com H V (fun i hi _ => upz_n (by omega)) (fun x _ _ => z_upr (by omega)) ?_
  rw [e6]
  have R := rwI_hd (h' := am_up h (p + 12) (6 * k + c) v) H.2.2.2.2.2.2.2 (z_upr (by omega))
  obtain ⟨t0, t1, t3, t4, t5, t6, t7, _⟩ := R
  refine ⟨t0, t1, t3, t4, t5, t6, t7, fun i hi => ?_⟩
  show am_up h (p + 12) (6 * k + c) v (p + 12) i = upz g (111 + (6 * k + c)) v (111 + i)
  rw [z_ups]
  by_cases ci : i = 6 * k + c
  · rw [ci, upz_s, upz_s]
  · rw [upz_n ci, upz_n (by omega)]
    exact H.2.2.2.2.2.2.2.2.2.2.2.2.2.2 i hi
theorem pkV_cell (V : pkV g) (hk : k < nV (g 6)) (hcv : (c = 1 ∧ zN v 48) ∨ (c = 2 ∧ zN v (nV (g 3)))) : pkV (upz g (111 + (6 * k + c)) v) := by
  have h6 := zN_V (pv_nc V) (by decide)
  have e6 : upz g (111 + (6 * k + c)) v 6 = g 6 := upz_n (by omega)
  refine pkV_com V (fun i hi _ => upz_n (by omega)) (by rw [e6]; exact pv_nc V) ?_
  rw [e6]
  intro j hj
  obtain ⟨v0, v1, v2, v3, v4, v5⟩ := pv_comer V j hj
  by_cases ej : j = k
  · subst ej
    rcases hcv with ⟨rfl, hv⟩ | ⟨rfl, hv⟩
    · rw [upz_n (by omega), upz_s, upz_n (by omega), upz_n (by omega), upz_n (by omega), upz_n (by omega)]
      exact ⟨v0, hv, v2, v3, v4, v5⟩
    · rw [upz_n (by omega), upz_n (by omega), upz_s, upz_n (by omega), upz_n (by omega), upz_n (by omega)]
      exact ⟨v0, v1, hv, v3, v4, v5⟩
  · have : c < 6 := by omega
    rw [upz_n (by omega), upz_n (by omega), upz_n (by omega), upz_n (by omega), upz_n (by omega), upz_n (by omega)]
    exact ⟨v0, v1, v2, v3, v4, v5⟩
theorem has_eq (L : wL l m) (SH : scH l hc) (H : pkI l hc 87 g) (V : pkV g) (eg : hm (m + 12) = g) (hk : k < nV (g 6)) : ∃ hc' hm' A C, Tr_hasNow l r 76 (nI k) hc = some (nI A - nI C, hc') ∧ Md_hasOf m (nI k) hm = some (nI A - nI C, hm') ∧ A ≤ 9 ∧ C ≤ 9 ∧ (∀ x, x < 77 ∨ 87 ≤ x → hc' x = hc x) ∧ frM hm hm' m ∧ scH l hc' := by
  have h6 := zN_V (pv_nc V) (by decide)
  obtain ⟨h0, hc', hm', a1, a2, a3, R, a4, a5⟩ := dayF (r := r) (m := m) L.2.1 SH.2.1 H V eg (.inr (by decide))
  obtain ⟨cc, ⟨A4, hA4, eA⟩, ⟨C, hC, eC⟩⟩ := R.2.2.2.2 k (by omega) hk
  obtain ⟨_, _, _, ⟨Wt, hW, eW⟩, _⟩ := pv_comer V k hk
  have H' : pkI l hc' 87 g := pkI_fr H (fun x _ _ => a4 x (by omega))
  have g3 : Rw_get l r 98 (nI k) 3 hc' = some (nI Wt) := by
    have := com_at (r := r) (c := 3) H' hk (by decide)
    rw [eW] at this
    exact this
  have r0 : Rw_get l r 78 (nI k) 0 hc' = some (nI A4) := by
    have := Rw_get_at (r := r) (c := 0) R.2.2.2.1 hk (by decide)
    rw [show hc' (77 + 2) (6 * k + 0) = nI A4 from (cc 0 (by decide)).trans eA] at this
    exact this
  have r2 : Rw_get l r 78 (nI k) 2 hc' = some (nI C) := by
    have := Rw_get_at (r := r) (c := 2) R.2.2.2.1 hk (by decide)
    rw [show hc' (77 + 2) (6 * k + 2) = nI C from (cc 2 (by decide)).trans eC] at this
    exact this
  have gm := Md_comer_at (a := m) (h := hm') (k := k) (p := 3) (by omega) (by decide)
  rw [a5.2 _ (by omega), eg, eW] at gm
  have SH' : scH l hc' := ⟨rwH_fr SH.1 (a4 _ (by omega)), rwH_of R.2.2.2.1, pkH_fr SH.2.2 (a4 _ (by omega)) (a4 _ (by omega)) (a4 _ (by omega))⟩
  have zk : g_ix (nI k) 14 = some k := z_ix (by omega) (by decide)
  refine ⟨hc', hm', if A4 < 2 then 0 else Wt, C, ?_, ?_, by split <;> omega, hC, a4, a5, SH'⟩
  · unfold Tr_hasNow Dy_has
    simp only [Nat.reduceAdd]
    rw [a1, Option.bind_some, a2, Option.bind_some, g3, Option.bind_some, r0, Option.bind_some, r2]
    by_cases c2 : A4 < 2
    · rw [if_pos c2, if_pos (show nI A4 < 2 from nI_lt c2 (by decide))]
      rfl
    · rw [if_neg c2, if_neg (show ¬ nI A4 < 2 from nI_nlt (show 2 ≤ A4 by omega) (by omega))]
      rfl
  · unfold Md_hasOf
    rw [a3, Option.bind_some]
    simp only [zk, Option.bind_some]
    rw [eA, eC]
    by_cases c2 : A4 < 2
    · rw [if_pos c2, if_pos (show nI A4 < 2 from nI_lt c2 (by decide))]
      rfl
    · rw [if_neg c2, if_neg (show ¬ nI A4 < 2 from nI_nlt (show 2 ≤ A4 by omega) (by omega)), show (3 : Int32) = nI 3 from rfl, gm]
      rfl
theorem low_lt {A C D : Nat} (hA : A ≤ 9) (hC : C ≤ 9) (hD : D ≤ 48) : ¬ nI A - nI C - nI D ≤ -1000000 := by
  rw [z_sub3, nI_add, Int32.le_iff_toInt_le, pk_sub_toInt (by omega) (by omega), show (-1000000 : Int32).toInt = -1000000 from rfl]
  omega
theorem later_l {hour : Nat} {had : Int32} (L : wL l m) (hh : hour < 48) : ∀ (c la f1 f2 bs : Nat) (hc hm : am_F), hour + la + c = 48 → 0 < la → c < f1 → c < f2 → pkI l hc 87 (hm (m + 12)) → pkV (hm (m + 12)) → k < nV (hm (m + 12) 6) → scH l hc → bs ≤ 48 → hc 76 0 = nI bs → hm m 49 = nI (hour + bs) → hm m 50 = hc 76 1 → ∃ hc' hm' bs', Tr_comeLater_l31 l r 76 (nI k) (nI hour) f1 (nI la) hc = some hc' ∧ Md_tryAll_l35 m (nI k) (nI hour) 47 1 (nI (111 + 6 * k + 1)) had f2 (nI (hour + la)) hm = some hm' ∧ hc' 76 0 = nI bs' ∧ hm' m 49 = nI (hour + bs') ∧ hm' m 50 = hc' 76 1 ∧ bs' ≤ 48 ∧ frT hc hc' ∧ scH l hc' ∧ scM hm hm' m := by
  intro c
  induction c with
  | zero =>
    intro la f1 f2 bs hc hm hla hl0 hf1 hf2 K V hk SH hbs e0 e1 e2
    obtain ⟨f1, rfl⟩ : ∃ q, f1 = q + 1 := ⟨f1 - 1, by omega⟩
    obtain ⟨f2, rfl⟩ : ∃ q, f2 = q + 1 := ⟨f2 - 1, by omega⟩
    unfold Tr_comeLater_l31 Md_tryAll_l35
    rw [nI_add, show (48 : Int32) = nI 48 from rfl, show (47 : Int32) = nI 47 from rfl, if_pos (nI_le (by omega) (by omega)), if_pos (nI_lt (by omega) (by omega))]
    exact ⟨hc, hm, bs, rfl, rfl, e0, e1, e2, hbs, fun _ _ => rfl, SH, scM_id⟩
  | succ c ih =>
    intro la f1 f2 bs hc hm hla hl0 hf1 hf2 K V hk SH hbs e0 e1 e2
    obtain ⟨f1, rfl⟩ : ∃ q, f1 = q + 1 := ⟨f1 - 1, by omega⟩
    obtain ⟨f2, rfl⟩ : ∃ q, f2 = q + 1 := ⟨f2 - 1, by omega⟩
    have h6 := zN_V (pv_nc V) (by decide)
    have K1 := pkI_cell (c := 1) (v := nI (hour + la)) K V hk (by decide)
    have V1 := pkV_cell (c := 1) (v := nI (hour + la)) V hk (.inl ⟨rfl, hour + la, by omega, rfl⟩)
    rw [show 87 + 12 = 99 from rfl] at K1
    have em : (am_up hm (m + 12) (111 + (6 * k + 1)) (nI (hour + la))) (m + 12) = upz (hm (m + 12)) (111 + (6 * k + 1)) (nI (hour + la)) := z_ups
    have e6 : upz (hm (m + 12)) (111 + (6 * k + 1)) (nI (hour + la)) 6 = hm (m + 12) 6 := upz_n (by omega)
    obtain ⟨hc1, hm1, A, C, a1, a3, hA, hC, a4, a5, a6⟩ := has_eq (r := r) (k := k) L (scH_up (i := 99) (k := 6 * k + 1) (v := nI (hour + la)) SH (by decide) (by decide) (by decide) (by decide) (by decide)) K1 V1 em (by rw [e6]; exact hk)
    have es := Rw_set_at (r := r) (a := 98) (c := 1) (v := nI (hour + la)) K.2.2.2.2.2.2.2 hk (by decide)
    obtain ⟨h2, b1, b2, b3, b4⟩ := more_up hc1 (nI la) (nI A - nI C - nI la)
    have e76 : hc1 76 = hc 76 := by rw [a4 76 (by omega), z_upr (by decide)]
    have g1 : hm1 (m + 12) = upz (hm (m + 12)) (111 + (6 * k + 1)) (nI (hour + la)) := by rw [a5.2 _ (by omega), em]
    have em49 : hm1 m 49 = nI (hour + bs) := by rw [a5.1 49 (by omega), z_upr (by omega)]; exact e1
    have em50 : hm1 m 50 = hc 76 1 := by rw [a5.1 50 (by omega), z_upr (by omega)]; exact e2
    rw [e76] at b2 b3
    rw [e0] at b2
    have K2 : pkI l h2 87 (hm1 (m + 12)) := by
      rw [g1]
      exact pkI_fr K1 (fun x _ _ => by rw [b4 x (by omega), a4 x (by omega)])
    have cl : Tr_comeLater_l31 l r 76 (nI k) (nI hour) (f1 + 1) (nI la) hc = Tr_comeLater_l31 l r 76 (nI k) (nI hour) f1 (nI (la + 1)) h2 := by
      conv => lhs; unfold Tr_comeLater_l31
      simp only [Nat.reduceAdd]
      rw [nI_add, show (48 : Int32) = nI 48 from rfl, if_neg (nI_ge (by omega) (by omega)), show Rw_set l r 98 (nI k) 1 (nI (hour + la)) hc = some (am_up hc 99 (6 * k + 1) (nI (hour + la))) from es, Option.bind_some, a1, Option.bind_some]
      simp only
      rw [b1, Option.bind_some, nI_1]
    have ml : ∀ (bs' : Nat) (y : Int32), (if nI A - nI C - nI la ≤ hc 76 1 then nI (hour + bs) else nI (hour + la)) = nI (hour + bs') → Md_greater (hc 76 1) (nI A - nI C - nI la) = y → Md_tryAll_l35 m (nI k) (nI hour) 47 1 (nI (111 + 6 * k + 1)) had (f2 + 1) (nI (hour + la)) hm = Md_tryAll_l35 m (nI k) (nI hour) 47 1 (nI (111 + 6 * k + 1)) had f2 (nI (hour + (la + 1))) (am_up (am_up hm1 m 49 (nI (hour + bs'))) m 50 y) := by
      intro bs' y hb hy
      conv => lhs; unfold Md_tryAll_l35
      rw [show (47 : Int32) = nI 47 from rfl, if_neg (nI_nlt (by omega) (by omega)), z_ix (by omega) (by decide), Option.bind_some, show 111 + 6 * k + 1 = 111 + (6 * k + 1) by omega, a3, Option.bind_some, if_neg (show ¬ (1 : Int32) = 0 by decide), Option.bind_some, show nI (hour + la) - nI hour = nI la by rw [pk_sub (by omega)]; congr 1; omega]
      simp only
      rw [em49, em50, nI_1, show hour + la + 1 = hour + (la + 1) by omega]
      have : (if nI A - nI C - nI la ≤ hc 76 1 then some (nI (hour + bs)) else some (nI (hour + la)) : Option Int32) = some (nI (hour + bs')) := by
        rw [← hb]
        split <;> rfl
      rw [this, Option.bind_some]
      simp (disch := omega) only [z_ups, upz_n, em50, hy]
    by_cases cd : nI A - nI C - nI la ≤ hc 76 1
    · rw [if_pos cd] at b2
      obtain ⟨hc', hm', bs', k1, k2, k3, k4, k5, k6, k7, k8, k9⟩ := ih (la + 1) f1 f2 bs h2 (am_up (am_up hm1 m 49 (nI (hour + bs))) m 50 (Md_greater (hc 76 1) (nI A - nI C - nI la))) (by omega) (by omega) (by omega) (by omega) (by simp (disch := omega) only [z_upr]; exact K2) (by simp (disch := omega) only [z_upr]; rw [g1]; exact V1) (by simp (disch := omega) only [z_upr]; rw [g1, e6]; exact hk) (scH_76 a6 b4) hbs b2 (by simp (disch := omega) only [z_ups, upz_s, upz_n]) (by simp (disch := omega) only [z_ups, upz_s, upz_n]; rw [b3])
      refine ⟨hc', hm', bs', by rw [cl]; exact k1, by rw [ml bs _ (by rw [if_pos cd]) rfl]; exact k2, k3, k4, k5, k6, ?_, k8, ?_⟩
      · intro x hx
        rw [k7 x hx, b4 x (by omega), a4 x (by omega), z_upr (by omega)]
      · exact scM_tr (scM_tr (scM_tr (scM_tr (scM_up (.inr (by omega))) (scM_fr a5)) (scM_up (.inl rfl))) (scM_up (.inl rfl))) k9
    · rw [if_neg cd] at b2
      obtain ⟨hc', hm', bs', k1, k2, k3, k4, k5, k6, k7, k8, k9⟩ := ih (la + 1) f1 f2 la h2 (am_up (am_up hm1 m 49 (nI (hour + la))) m 50 (Md_greater (hc 76 1) (nI A - nI C - nI la))) (by omega) (by omega) (by omega) (by omega) (by simp (disch := omega) only [z_upr]; exact K2) (by simp (disch := omega) only [z_upr]; rw [g1]; exact V1) (by simp (disch := omega) only [z_upr]; rw [g1, e6]; exact hk) (scH_76 a6 b4) (by omega) b2 (by simp (disch := omega) only [z_ups, upz_s, upz_n]) (by simp (disch := omega) only [z_ups, upz_s, upz_n]; rw [b3])
      refine ⟨hc', hm', bs', by rw [cl]; exact k1, by rw [ml la _ (by rw [if_neg cd]) rfl]; exact k2, k3, k4, k5, k6, ?_, k8, ?_⟩
      · intro x hx
        rw [k7 x hx, b4 x (by omega), a4 x (by omega), z_upr (by omega)]
      · exact scM_tr (scM_tr (scM_tr (scM_tr (scM_up (.inr (by omega))) (scM_fr a5)) (scM_up (.inl rfl))) (scM_up (.inl rfl))) k9
end TRIAL
