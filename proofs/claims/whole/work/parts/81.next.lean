/-! the next token -/
section NEXT
variable {l : List (Nat × Nat)} {r : am_R} {hc hm : am_F} {a m tp L i f : Nat} {T : Nat → Nat} {j : am_J}
theorem p10 : ∀ n, n ≤ 3 → 10 ^ n ≤ 1000 := by decide
theorem dig_v {v t n : Nat} (ht : dgB t) (hn : n < 3) (hv : v < 10 ^ min n 3) : nI v * 10 + nI t - 48 = nI (v * 10 + (t - 48)) ∧ 10 * nI v + nI t - 48 = nI (v * 10 + (t - 48)) ∧ v * 10 + (t - 48) < 10 ^ min (n + 1) 3 := by
  unfold dgB at ht
  have e : v * 10 + t - 48 = v * 10 + (t - 48) := by omega
  refine ⟨?_, ?_, ?_⟩
  · rw [show (10 : Int32) = nI 10 from rfl, show (48 : Int32) = nI 48 from rfl, pk_mul, nI_add, pk_sub (by omega), e]
  · rw [show (10 : Int32) = nI 10 from rfl, show (48 : Int32) = nI 48 from rfl, pk_mul, nI_add, pk_sub (by omega), Nat.mul_comm 10, e]
  · rw [Nat.min_eq_left (by omega)] at hv ⊢
    rw [Nat.pow_succ]
    omega
theorem digit_l : ∀ (c i fu fu' v : Nat) (hc hm : am_F), i + c = L → c < fu → c < fu' → tpR l r hc hm a m tp L T → f ≤ i → hc a 9 = nI i → hm m 10 = nI i → hc a 11 = nI f → hc a 12 = nI v → hm m 14 = nI v → v < 10 ^ min (i - f) 3 → ∃ e w hc' hm', i ≤ e ∧ e ≤ L ∧ w < 1000 ∧ (i < L → dgB (T i) → i < e) ∧ Rd_takeDigits_l0 l r a fu hc = some hc' ∧ Md_token_l163 m j fu' (nI (i - f)) hm = some (nI (e - f), hm') ∧ hc' a 9 = nI e ∧ hc' a 12 = nI w ∧ hm' m 10 = nI e ∧ hm' m 14 = nI w ∧ (∀ y, y ≠ 9 → y ≠ 12 → hc' a y = hc a y) ∧ (∀ x, x ≠ a → hc' x = hc x) ∧ (∀ y, y ≠ 10 → y ≠ 14 → hm' m y = hm m y) ∧ ∀ x, x ≠ m → hm' x = hm x := by
  intro c
  induction c with
  | zero =>
    intro i fu fu' v hc hm hi hf hf' H hfi e1 e2 e3 e4 e5 hv
    obtain ⟨fu, rfl⟩ : ∃ q, fu = q + 1 := ⟨fu - 1, by omega⟩
    obtain ⟨fu', rfl⟩ : ∃ q, fu' = q + 1 := ⟨fu' - 1, by omega⟩
    have hL := H.2.2.1
    have h3 := p10 (min (i - f) 3) (by omega)
    refine ⟨i, v, hc, hm, Nat.le_refl _, by omega, by omega, fun e => by omega, ?_, ?_, e1, e4, e2, e5, fun _ _ _ => rfl, fun _ _ => rfl, fun _ _ _ => rfl, fun _ _ => rfl⟩
    · unfold Rd_takeDigits_l0
      rw [e1, H.2.2.2.2.1, if_pos (nI_le (by omega) (by omega))]
    · unfold Md_token_l163
      rw [see_end H e2 (by omega) (by omega), Option.bind_some, show Md_in (-1) 48 57 = 0 by decide, if_pos rfl]
  | succ c ih =>
    intro i fu fu' v hc hm hi hf hf' H hfi e1 e2 e3 e4 e5 hv
    obtain ⟨fu, rfl⟩ : ∃ q, fu = q + 1 := ⟨fu - 1, by omega⟩
    obtain ⟨fu', rfl⟩ : ∃ q, fu' = q + 1 := ⟨fu' - 1, by omega⟩
    have hL := H.2.2.1
    have h3 := p10 (min (i - f) 3) (by omega)
    have ht := (H.2.2.2.2.2.2 i (by omega)).2.2
    have hb := byte_at H (show i < L by omega)
    have hs := see_at H e2 (show i < L by omega)
    by_cases c1 : dgB (T i)
    · obtain ⟨v', q1, q2, q3⟩ : ∃ v', (if (3 : Int32) ≤ nI i - nI f then some hc else (Rd_byteAt l r a (nI i) hc).bind fun q6 => some (am_up hc a 12 (nI v * 10 + q6 - 48)) : Option am_F) = some (am_up hc a 12 (nI v')) ∧ (if (3 : Int32) ≤ nI (i - f) then some (nI v) else (Md_see m hm).bind fun q17 => some (10 * nI v + q17 - 48) : Option Int32) = some (nI v') ∧ v' < 10 ^ min (i + 1 - f) 3 := by
        rw [pk_sub hfi]
        by_cases c3 : 3 ≤ i - f
        · refine ⟨v, ?_, ?_, ?_⟩
          · rw [if_pos (show (3 : Int32) ≤ nI (i - f) from nI_le c3 (by omega)), up_self e4]
          · rw [if_pos (show (3 : Int32) ≤ nI (i - f) from nI_le c3 (by omega))]
          · rw [Nat.min_eq_right (by omega)] at hv ⊢
            exact hv
        · obtain ⟨d1, d2, d3⟩ := dig_v c1 (show i - f < 3 by omega) hv
          refine ⟨v * 10 + (T i - 48), ?_, ?_, ?_⟩
          · rw [if_neg (show ¬ (3 : Int32) ≤ nI (i - f) from nI_ge (show i - f < 3 by omega) (by decide)), hb, Option.bind_some, d1]
          · rw [if_neg (show ¬ (3 : Int32) ≤ nI (i - f) from nI_ge (show i - f < 3 by omega) (by decide)), hs, Option.bind_some, d2]
          · rw [show i + 1 - f = i - f + 1 by omega]
            exact d3
      have H2 : tpR l r (am_up (am_up hc a 12 (nI v')) a 9 (nI (i + 1))) (am_up (am_up hm m 14 (nI v')) m 10 (nI (i + 1))) a m tp L T := tp_9 (tp_fr H (z_upr H.2.2.2.1) (by rw [z_ups, upz_n (by decide)]) (z_upr (by omega)) (by rw [z_ups, upz_n (by decide)]))
      obtain ⟨e, w, hc', hm', k1, k2, k3, k4, k5, k6, k7, k8, k9, k10, k11, k12, k13, k14⟩ := ih (i + 1) fu fu' v' (am_up (am_up hc a 12 (nI v')) a 9 (nI (i + 1))) (am_up (am_up hm m 14 (nI v')) m 10 (nI (i + 1))) (by omega) (by omega) (by omega) H2 (by omega) (by rw [z_ups, upz_s]) (by rw [z_ups, upz_s]) (by rw [z_ups, upz_n (by decide), z_ups, upz_n (by decide), e3]) (by rw [z_ups, upz_n (by decide), z_ups, upz_s]) (by rw [z_ups, upz_n (by decide), z_ups, upz_s]) q3
      refine ⟨e, w, hc', hm', by omega, k2, k3, fun _ _ => by omega, ?_, ?_, k7, k8, k9, k10, ?_, ?_, ?_, ?_⟩
      · unfold Rd_takeDigits_l0
        rw [e1, H.2.2.2.2.1, if_neg (nI_ge (by omega) (by omega)), hb, Option.bind_some, (isDigit_y c1).1, if_neg (by decide), e3, e4]
        rw [hb] at q1
        rw [q1, Option.bind_some, z_ups, upz_n (by decide), e1, nI_1]
        exact k5
      · unfold Md_token_l163
        rw [hs, Option.bind_some, (isDigit_y c1).2, if_neg (by decide), e5]
        rw [hs] at q2
        rw [q2, Option.bind_some, z_ups, upz_n (by decide), e2, nI_1, nI_1, show i - f + 1 = i + 1 - f by omega]
        exact k6
      · intro y h1 h2
        rw [k11 y h1 h2, z_ups, upz_n h1, z_ups, upz_n h2]
      · intro x hx
        rw [k12 x hx, z_upr hx, z_upr hx]
      · intro y h1 h2
        rw [k13 y h1 h2, z_ups, upz_n h1, z_ups, upz_n h2]
      · intro x hx
        rw [k14 x hx, z_upr hx, z_upr hx]
    · refine ⟨i, v, hc, hm, Nat.le_refl _, by omega, by omega, fun _ e => absurd e c1, ?_, ?_, e1, e4, e2, e5, fun _ _ _ => rfl, fun _ _ => rfl, fun _ _ _ => rfl, fun _ _ => rfl⟩
      · unfold Rd_takeDigits_l0
        rw [e1, H.2.2.2.2.1, if_neg (nI_ge (by omega) (by omega)), hb, Option.bind_some, (isDigit_n ht c1).1, if_pos rfl]
      · unfold Md_token_l163
        rw [hs, Option.bind_some, (isDigit_n ht c1).2, if_pos rfl]
/-- the token at hand, for both -/
def tkR (hc hm : am_F) (j : am_J) (a m L : Nat) (T : Nat → Nat) (f e : Nat) : Prop := hc a 9 = nI e ∧ hm m 10 = nI e ∧ hc a 11 = nI f ∧ hm m 12 = nI f ∧ f ≤ e ∧ e ≤ L ∧
  ((hc a 10 = 0 ∧ hm m 13 = 0 ∧ f = L) ∨
   (hc a 10 = 1 ∧ hm m 13 = 2 ∧ f < e ∧ (∀ k, f ≤ k → k < e → ltB (T k)) ∧ j m 15 = if e - f ≤ 8 then wlT T f (e - f) else 0) ∨
   (hc a 10 = 2 ∧ hm m 13 = 3 ∧ f < e ∧ ∃ v, v < 1000 ∧ hc a 12 = nI v ∧ hm m 14 = nI v) ∨
   (hc a 10 = 3 ∧ hm m 13 = 4 ∧ f < e) ∨
   (hc a 10 = 4 ∧ hm m 13 = 1 ∧ f < e))
/-- what going on to the next token leaves as it was -/
def nxF (hc hc' hm hm' : am_F) (a m : Nat) : Prop := (∀ y, y ≠ 9 → y ≠ 10 → y ≠ 11 → y ≠ 12 → hc' a y = hc a y) ∧ (∀ x, x ≠ a → hc' x = hc x) ∧ (∀ y, y ≠ 10 → y ≠ 12 → y ≠ 13 → y ≠ 14 → hm' m y = hm m y) ∧ ∀ x, x ≠ m → hm' x = hm x
theorem next_eq (H : tpR l r hc hm a m tp L T) (hi : i ≤ L) (e1 : hc a 9 = nI i) (e2 : hm m 10 = nI i) : ∃ f e hc' hm' j', Rd_next l r a hc = some hc' ∧ Md_token m hm j = some (hm', j') ∧ i ≤ f ∧ tpR l r hc' hm' a m tp L T ∧ tkR hc' hm' j' a m L T f e ∧ nxF hc hc' hm hm' a m := by
  have hL := H.2.2.1
  obtain ⟨f, f1, f2, f3, f4, f5⟩ := skip_l (j := j) (L - i) i g_fu g_fu hc hm (by omega) (by unfold g_fu; omega) (by unfold g_fu; omega) H e1 e2
  unfold Rd_next Md_token
  rw [f4, f5, Option.bind_some, Option.bind_some]
  generalize eq1 : am_up (am_up (am_up hc a 9 (nI f)) a 11 (am_up hc a 9 (nI f) a 9)) a 12 0 = h1
  generalize eq2 : am_up (am_up hm m 10 (nI f)) m 12 (am_up hm m 10 (nI f) m 10) = h2
  have a9 : h1 a 9 = nI f := by rw [← eq1, z_ups, upz_n (by decide), z_ups, upz_n (by decide), z_ups, upz_s]
  have a11 : h1 a 11 = nI f := by rw [← eq1, z_ups, upz_n (by decide), z_ups, upz_s, z_ups, upz_s]
  have a12 : h1 a 12 = nI 0 := by rw [← eq1, z_ups, upz_s]; rfl
  have m10 : h2 m 10 = nI f := by rw [← eq2, z_ups, upz_n (by decide), z_ups, upz_s]
  have m12 : h2 m 12 = nI f := by rw [← eq2, z_ups, upz_s, z_ups, upz_s]
  have F1 : ∀ y, y ≠ 9 → y ≠ 10 → y ≠ 11 → y ≠ 12 → h1 a y = hc a y := fun y y1 _ y3 y4 => by rw [← eq1, z_ups, upz_n y4, z_ups, upz_n y3, z_ups, upz_n y1]
  have F2 : ∀ x, x ≠ a → h1 x = hc x := fun x hx => by rw [← eq1, z_upr hx, z_upr hx, z_upr hx]
  have F3 : ∀ y, y ≠ 10 → y ≠ 12 → y ≠ 13 → y ≠ 14 → h2 m y = hm m y := fun y y1 y2 _ _ => by rw [← eq2, z_ups, upz_n y2, z_ups, upz_n y1]
  have F4 : ∀ x, x ≠ m → h2 x = hm x := fun x hx => by rw [← eq2, z_upr hx, z_upr hx]
  have H1 : tpR l r h1 h2 a m tp L T := tp_fr H (F2 _ H.2.2.2.1) (F1 8 (by decide) (by decide) (by decide) (by decide)) (F4 _ (by omega)) (F3 11 (by decide) (by decide) (by decide) (by decide))
  rw [a9, H1.2.2.2.2.1]
  by_cases cL : f < L
  · have ht := (H1.2.2.2.2.2.2 f cL).2.2
    have hb := byte_at H1 cL
    have hs := see_at H1 m10 cL
    rw [if_pos (nI_lt cL (by omega)), hb, hs]
    simp only [Option.bind_some]
    rw [if_pos (nI_pos' (show T f < 2 ^ 31 by omega))]
    by_cases c1 : ltB (T f)
    · rw [(isLetter_y c1).1, (isLetter_y c1).2, if_neg (by decide), if_neg (by decide)]
      have H2 : tpR l r (am_up h1 a 10 1) h2 a m tp L T := tp_fr H1 (z_upr H.2.2.2.1) (by rw [z_ups, upz_n (by decide)]) rfl rfl
      obtain ⟨e, k1, k2, k3, k4, k5, k6⟩ := word_l (f := f) (L - f) f g_fu g_fu (am_up h1 a 10 1) h2 (am_up j m 15 0) (by omega) (by unfold g_fu; omega) (by unfold g_fu; omega) H2 (Nat.le_refl _) (fun k q1 q2 => by omega) (by rw [z_ups, upz_n (by decide)]; exact a9) m10 (by rw [z_up, if_pos ⟨rfl, rfl⟩, Nat.sub_self]; rfl)
      rw [Nat.sub_self] at k6
      have k6' : Md_token_l74 m g_fu 0 h2 (am_up j m 15 0) = _ := k6
      rw [k5, k6']
      have hif : (if nI (e - f) ≤ (8 : Int32) then some ((am_up (am_up j m 15 0) m 15 (wlT T f (e - f))) m 15) else some (0 : Int64) : Option Int64) = some (if e - f ≤ 8 then wlT T f (e - f) else 0) := by
        by_cases c8 : e - f ≤ 8
        · rw [if_pos (show nI (e - f) ≤ 8 from nI_le c8 (by decide)), if_pos c8, z_up, if_pos ⟨rfl, rfl⟩]
        · rw [if_neg (show ¬ nI (e - f) ≤ 8 from nI_ge (show 8 < e - f by omega) (by omega)), if_neg c8]
      simp only [Option.bind_some, hif]
      have k4' := k4 cL c1
      refine ⟨f, e, _, _, _, rfl, rfl, f1, ?_, ⟨?_, ?_, ?_, ?_, by omega, k2, .inr (.inl ⟨?_, ?_, k4', k3, ?_⟩)⟩, ?_, ?_, ?_, ?_⟩
      · exact tp_fr H2 (z_upr H.2.2.2.1) (by rw [z_ups, upz_n (by decide)]) (by rw [z_upr (by omega), z_upr (by omega)]) (by rw [z_ups, upz_n (by decide), z_ups, upz_n (by decide)])
      · rw [z_ups, upz_s]
      · rw [z_ups, upz_n (by decide), z_ups, upz_s]
      · rw [z_ups, upz_n (by decide), z_ups, upz_n (by decide), a11]
      · rw [z_ups, upz_n (by decide), z_ups, upz_n (by decide), m12]
      · rw [z_ups, upz_n (by decide), z_ups, upz_s]
      · rw [z_ups, upz_s]
      · rw [z_up, if_pos ⟨rfl, rfl⟩]
      · intro y y1 y2 y3 y4
        rw [z_ups, upz_n y1, z_ups, upz_n y2, F1 y y1 y2 y3 y4]
      · intro x hx
        rw [z_upr hx, z_upr hx, F2 x hx]
      · intro y y1 y2 y3 y4
        rw [z_ups, upz_n y3, z_ups, upz_n y1, F3 y y1 y2 y3 y4]
      · intro x hx
        rw [z_upr hx, z_upr hx, F4 x hx]
    · rw [(isLetter_n ht c1).1, (isLetter_n ht c1).2, if_pos rfl, if_pos rfl]
      by_cases c2 : dgB (T f)
      · rw [(isDigit_y c2).1, (isDigit_y c2).2, if_neg (by decide), if_neg (by decide)]
        have H2 : tpR l r h1 (am_up h2 m 14 0) a m tp L T := tp_fr H1 rfl rfl (z_upr (by omega)) (by rw [z_ups, upz_n (by decide)])
        obtain ⟨e, w, hc', hm', k1, k2, k3, k4, k5, k6, k7, k8, k9, k10, k11, k12, k13, k14⟩ := digit_l (f := f) (j := am_up j m 15 0) (L - f) f g_fu g_fu 0 h1 (am_up h2 m 14 0) (by omega) (by unfold g_fu; omega) (by unfold g_fu; omega) H2 (Nat.le_refl _) a9 (by rw [z_ups, upz_n (by decide), m10]) a11 a12 (by rw [z_ups, upz_s]; rfl) (by rw [Nat.sub_self]; decide)
        rw [Nat.sub_self] at k6
        have k6' : Md_token_l163 m (am_up j m 15 0) g_fu 0 (am_up h2 m 14 0) = _ := k6
        have k4' := k4 cL c2
        unfold Rd_takeDigits
        rw [k5, k6']
        simp only [Option.bind_some]
        rw [k7, k11 11 (by decide) (by decide), a11, pk_sub (by omega)]
        have G1 : ∀ v, ∀ y, y ≠ 9 → y ≠ 10 → y ≠ 11 → y ≠ 12 → (am_up hc' a 10 v) a y = hc a y := fun v y y1 y2 y3 y4 => by rw [z_ups, upz_n y2, k11 y y1 y4, F1 y y1 y2 y3 y4]
        have G2 : ∀ v, ∀ x, x ≠ a → (am_up hc' a 10 v) x = hc x := fun v x hx => by rw [z_upr hx, k12 x hx, F2 x hx]
        have G3 : ∀ v, ∀ y, y ≠ 10 → y ≠ 12 → y ≠ 13 → y ≠ 14 → (am_up hm' m 13 v) m y = hm m y := fun v y y1 y2 y3 y4 => by rw [z_ups, upz_n y3, k13 y y1 y4, z_ups, upz_n y4, F3 y y1 y2 y3 y4]
        have G4 : ∀ v, ∀ x, x ≠ m → (am_up hm' m 13 v) x = hm x := fun v x hx => by rw [z_upr hx, k14 x hx, z_upr hx, F4 x hx]
        have H3 : ∀ u v, tpR l r (am_up hc' a 10 u) (am_up hm' m 13 v) a m tp L T := fun u v => tp_fr H (G2 u _ H.2.2.2.1) (G1 u 8 (by decide) (by decide) (by decide) (by decide)) (G4 v _ (by omega)) (G3 v 11 (by decide) (by decide) (by decide) (by decide))
        have q12 : ∀ v, (am_up hm' m 13 v) m 12 = nI f := fun v => by rw [z_ups, upz_n (by decide), k13 12 (by decide) (by decide), z_ups, upz_n (by decide), m12]
        have q11 : ∀ v, (am_up hc' a 10 v) a 11 = nI f := fun v => by rw [z_ups, upz_n (by decide), k11 11 (by decide) (by decide), a11]
        have q9 : ∀ v, (am_up hc' a 10 v) a 9 = nI e := fun v => by rw [z_ups, upz_n (by decide), k7]
        have q10 : ∀ v, (am_up hm' m 13 v) m 10 = nI e := fun v => by rw [z_ups, upz_n (by decide), k9]
        by_cases c3 : e - f ≤ 3
        · rw [if_pos (show nI (e - f) ≤ 3 from nI_le c3 (by decide)), if_pos (show nI (e - f) ≤ 3 from nI_le c3 (by decide))]
          simp only [Option.bind_some]
          exact ⟨f, e, _, _, _, rfl, rfl, f1, H3 _ _, ⟨q9 _, q10 _, q11 _, q12 _, by omega, k2, .inr (.inr (.inl ⟨by rw [z_ups, upz_s], by rw [z_ups, upz_s], k4', w, k3, by rw [z_ups, upz_n (by decide), k8], by rw [z_ups, upz_n (by decide), k10]⟩))⟩, G1 _, G2 _, G3 _, G4 _⟩
        · rw [if_neg (show ¬ nI (e - f) ≤ 3 from nI_ge (show 3 < e - f by omega) (by omega)), if_neg (show ¬ nI (e - f) ≤ 3 from nI_ge (show 3 < e - f by omega) (by omega))]
          simp only [Option.bind_some]
          exact ⟨f, e, _, _, _, rfl, rfl, f1, H3 _ _, ⟨q9 _, q10 _, q11 _, q12 _, by omega, k2, .inr (.inr (.inr (.inr ⟨by rw [z_ups, upz_s], by rw [z_ups, upz_s], k4'⟩)))⟩, G1 _, G2 _, G3 _, G4 _⟩
      · rw [(isDigit_n ht c2).1, (isDigit_n ht c2).2, if_pos rfl, if_pos rfl]
        have G1 : ∀ v w, ∀ y, y ≠ 9 → y ≠ 10 → y ≠ 11 → y ≠ 12 → (am_up (am_up h1 a 10 v) a 9 w) a y = hc a y := fun v w y y1 y2 y3 y4 => by rw [z_ups, upz_n y1, z_ups, upz_n y2, F1 y y1 y2 y3 y4]
        have G2 : ∀ v w, ∀ x, x ≠ a → (am_up (am_up h1 a 10 v) a 9 w) x = hc x := fun v w x hx => by rw [z_upr hx, z_upr hx, F2 x hx]
        have G3 : ∀ v w, ∀ y, y ≠ 10 → y ≠ 12 → y ≠ 13 → y ≠ 14 → (am_up (am_up h2 m 10 w) m 13 v) m y = hm m y := fun v w y y1 y2 y3 y4 => by rw [z_ups, upz_n y3, z_ups, upz_n y1, F3 y y1 y2 y3 y4]
        have G4 : ∀ v w, ∀ x, x ≠ m → (am_up (am_up h2 m 10 w) m 13 v) x = hm x := fun v w x hx => by rw [z_upr hx, z_upr hx, F4 x hx]
        have H3 : ∀ u v w z, tpR l r (am_up (am_up h1 a 10 u) a 9 v) (am_up (am_up h2 m 10 w) m 13 z) a m tp L T := fun u v w z => tp_fr H (G2 u v _ H.2.2.2.1) (G1 u v 8 (by decide) (by decide) (by decide) (by decide)) (G4 z w _ (by omega)) (G3 z w 11 (by decide) (by decide) (by decide) (by decide))
        have z9 : ∀ v, (am_up h1 a 10 v) a 9 = nI f := fun v => by rw [z_ups, upz_n (by decide), a9]
        rw [m10]
        by_cases c3 : T f = 59
        · rw [c3, if_pos (show nI 59 = 59 from rfl), if_pos (show nI 59 = 59 from rfl)]
          simp only [Option.bind_some, z9, nI_1]
          exact ⟨f, f + 1, _, _, _, rfl, rfl, f1, H3 _ _ _ _, ⟨by rw [z_ups, upz_s], by rw [z_ups, upz_n (by decide), z_ups, upz_s], by rw [z_ups, upz_n (by decide), z_ups, upz_n (by decide), a11], by rw [z_ups, upz_n (by decide), z_ups, upz_n (by decide), m12], by omega, by omega, .inr (.inr (.inr (.inl ⟨by rw [z_ups, upz_n (by decide), z_ups, upz_s], by rw [z_ups, upz_s], by omega⟩)))⟩, G1 _ _, G2 _ _, G3 _ _, G4 _ _⟩
        · have n59 : ¬ nI (T f) = 59 := fun e => c3 ((nI_eq (by omega) (by decide)).1 (show nI (T f) = nI 59 from e))
          rw [if_neg n59, if_neg n59]
          simp only [Option.bind_some, z9, nI_1]
          exact ⟨f, f + 1, _, _, _, rfl, rfl, f1, H3 _ _ _ _, ⟨by rw [z_ups, upz_s], by rw [z_ups, upz_n (by decide), z_ups, upz_s], by rw [z_ups, upz_n (by decide), z_ups, upz_n (by decide), a11], by rw [z_ups, upz_n (by decide), z_ups, upz_n (by decide), m12], by omega, by omega, .inr (.inr (.inr (.inr ⟨by rw [z_ups, upz_n (by decide), z_ups, upz_s], by rw [z_ups, upz_s], by omega⟩)))⟩, G1 _ _, G2 _ _, G3 _ _, G4 _ _⟩
  · have hfL : f = L := by omega
    rw [if_neg (nI_nlt (by omega) (by omega)), see_end H1 m10 (by omega) (by omega), Option.bind_some, if_neg (show ¬ (0 : Int32) ≤ -1 by decide)]
    refine ⟨f, f, _, _, _, rfl, rfl, f1, ?_, ⟨?_, ?_, ?_, ?_, Nat.le_refl _, f2, .inl ⟨?_, ?_, hfL⟩⟩, ?_, ?_, ?_, ?_⟩
    · exact tp_fr H1 (z_upr H.2.2.2.1) (by rw [z_ups, upz_n (by decide)]) (z_upr (by omega)) (by rw [z_ups, upz_n (by decide)])
    · rw [z_ups, upz_n (by decide), a9]
    · rw [z_ups, upz_n (by decide), m10]
    · rw [z_ups, upz_n (by decide), a11]
    · rw [z_ups, upz_n (by decide), m12]
    · rw [z_ups, upz_s]
    · rw [z_ups, upz_s]
    · intro y y1 y2 y3 y4
      rw [z_ups, upz_n y2, F1 y y1 y2 y3 y4]
    · intro x hx
      rw [z_upr hx, F2 x hx]
    · intro y y1 y2 y3 y4
      rw [z_ups, upz_n y3, F3 y y1 y2 y3 y4]
    · intro x hx
      rw [z_upr hx, F4 x hx]
end NEXT
