/-! how long a card should hang; painted anew -/
section TRIAL
variable {l : List (Nat × Nat)} {r : am_R} {h hc hm : am_F} {d m k p b t s w lim a : Nat} {n : Nat → Nat} {f g : Nat → Int32} {x x1 x2 x3 x4 y u v : Int32}
theorem up_self {i k : Nat} (e : h i k = v) : am_up h i k v = h := by
  funext x y
  rw [z_up]
  split
  · rename_i c; rw [c.1, c.2, e]
  · rfl
theorem up_up {i k : Nat} {u : Int32} : am_up (am_up h i k u) i k v = am_up h i k v := by
  funext x y
  simp only [z_up]
  split <;> rfl
theorem up_sw {i k j q : Nat} {u : Int32} (hij : i ≠ j) : am_up (am_up h i k u) j q v = am_up (am_up h j q v) i k u := by
  funext x y
  simp only [z_up]
  repeat' split
  all_goals first | rfl | (exfalso; omega)
theorem pkI_to (H : pkI l h p g) (e : g (57 + 4 * b) = -1) : pkI l (am_up h (p + 6) b u) p g := by
  obtain ⟨g0, g1, g2, g3, g4, g5, g6, g7⟩ := H
  unfold pkI
  simp (disch := omega) only [z_upr]
  refine ⟨g0, g1, g2, g3, ?_, ?_, ?_, ?_⟩
  · intro i hi
    obtain ⟨k4, k5, k6⟩ := g4 i hi
    refine ⟨k4, k5, fun ne => ?_⟩
    by_cases c : i = b
    · subst c
      exact absurd e ne
    · rw [z_ups, upz_n c]
      exact k6 ne
  · exact rwI_fr g5 (by simp (disch := omega) only [z_upr]) (by simp (disch := omega) only [z_upr])
  · exact rwI_fr g6 (by simp (disch := omega) only [z_upr]) (by simp (disch := omega) only [z_upr])
  · exact rwI_fr g7 (by simp (disch := omega) only [z_upr]) (by simp (disch := omega) only [z_upr])
theorem pkI_card0 (H : pkI l h p g) (V : pkV g) (hb : b < 6) : pkI l (am_up h (p + 5) b (-1)) p (upz (upz g (57 + 4 * b) (-1)) (58 + 4 * b) v) := by
  have K := pkI_to (b := b) (u := h (p + 6) b) (pkI_card (u := -1) (v := v) H V hb) (by rw [upz_n (by omega), upz_s])
  rw [up_up, up_self (by rw [z_upr (by omega)])] at K
  exact K
theorem pkI_paint (H : pkI l h p g) (V : pkV g) (hb : b < 6) : pkI l (am_up h (p + 4) b v) p (upz g (56 + 4 * b) v) := by
  have h3 := zN_V (pv_nb V) (by decide)
  have e : ∀ i, i < 55 ∨ 79 ≤ i → (upz g (56 + 4 * b) v) i = g i := fun i hi => by simp (disch := omega) only [upz_n]
  obtain ⟨g0, g1, g2, g3, g4, g5, g6, g7⟩ := H
  unfold pkI
  simp (disch := omega) only [z_upr, e]
  refine ⟨g0, ?_, ?_, ?_, ?_, ?_, ?_, ?_⟩
  · intro i hi
    rw [e _ (by omega)]
    exact g1 i hi
  · intro i hi
    rw [rate_keep (fun i hi => e i (by omega))]
    exact g2 i hi
  · intro i hi
    rw [upz_n (by omega)]
    exact g3 i hi
  · intro i hi
    obtain ⟨k4, k5, k6⟩ := g4 i hi
    rw [upz_n (show 57 + 4 * i ≠ 56 + 4 * b by omega), upz_n (show 58 + 4 * i ≠ 56 + 4 * b by omega)]
    by_cases c : i = b
    · subst c
      refine ⟨?_, k5, k6⟩
      rw [z_ups, upz_s, upz_s]
    · refine ⟨?_, k5, k6⟩
      rw [z_ups, upz_n c, upz_n (by omega)]
      exact k4
  · exact rwI_fr g5 (by simp (disch := omega) only [z_upr]) (by simp (disch := omega) only [z_upr])
  · exact rwI_fr g6 (by simp (disch := omega) only [z_upr]) (by simp (disch := omega) only [z_upr])
  · exact rwI_fr g7 (by simp (disch := omega) only [z_upr]) (by simp (disch := omega) only [z_upr])
theorem pkV_paint (V : pkV g) (hb : b < 6) (hv : zP v) : pkV (upz g (56 + 4 * b) v) := by
  have h3 := zN_V (pv_nb V) (by decide)
  have h4 := zN_V (pv_nm V) (by decide)
  have h5 := zN_V (pv_np V) (by decide)
  have h6 := zN_V (pv_nc V) (by decide)
  have e : ∀ i, i < 55 ∨ 79 ≤ i → (upz g (56 + 4 * b) v) i = g i := fun i hi => by simp (disch := omega) only [upz_n]
  unfold pkV
  simp (disch := omega) only [e]
  refine ⟨pv_fresh V, pv_sticky V, pv_belief V, pv_nb V, pv_nm V, pv_np V, pv_nc V, ?_, ?_, ?_, pv_maybe V, pv_pigeon V, pv_comer V⟩
  · intro i hi
    rw [e _ (by omega)]
    exact pv_rate V i hi
  · intro i hi
    obtain ⟨k4, k5, k6⟩ := pv_bench V i hi
    rw [upz_n (show 57 + 4 * i ≠ 56 + 4 * b by omega), upz_n (show 58 + 4 * i ≠ 56 + 4 * b by omega)]
    by_cases c : i = b
    · subst c
      rw [upz_s]
      exact ⟨hv, k5, k6⟩
    · rw [upz_n (by omega)]
      exact ⟨k4, k5, k6⟩
  · intro i hi
    rw [upz_n (by omega)]
    exact pv_slats V i hi
/-- drafts of the class: what a trial leaves as it is -/
def frT (hc hc' : am_F) : Prop := ∀ x, x < 76 ∨ 105 ≤ x → hc' x = hc x
theorem frT_S {hc hc' : am_F} (a : frT hc hc') : frS hc hc' := fun x hx => a x (by omega)
theorem scH_up {i k : Nat} (S : scH l h) (h1 : i ≠ 67) (h2 : i ≠ 78) (h3 : i ≠ 94) (h4 : i ≠ 96) (h5 : i ≠ 98) : scH l (am_up h i k v) := ⟨rwH_fr S.1 (z_upr (by omega)), rwH_fr S.2.1 (z_upr (by omega)), pkH_fr S.2.2 (z_upr (by omega)) (z_upr (by omega)) (z_upr (by omega))⟩
theorem scH_76 {h' : am_F} (S : scH l h) (e : ∀ x, x ≠ 76 → h' x = h x) : scH l h' := ⟨rwH_fr S.1 (e _ (by decide)), rwH_fr S.2.1 (e _ (by decide)), pkH_fr S.2.2 (e _ (by decide)) (e _ (by decide)) (e _ (by decide))⟩
theorem hang_l {f0 : Nat} (L : wL l m) (hb : b < 6) (hf : f0 < 48) : ∀ (c t f1 f2 : Nat) (hc hm : am_F) (u0 : Int32), t + c = 48 → c < f1 → c < f2 → pkI l (am_up hc 92 b u0) 87 (hm (m + 12)) → pkV (hm (m + 12)) → hc 92 b = nI f0 → scH l hc → ∃ hc' hm', Tr_hangCard_l66 l r 76 (nI b) f1 (nI t) hc = some hc' ∧ Md_hang_l76 m x3 (nI (55 + 4 * b)) (nI f0) f2 (hc 76 0) (hc 76 1) (nI t) hm = some (hc' 76 0, hc' 76 1, hm') ∧ frT hc hc' ∧ scH l hc' ∧ scM hm hm' m := by
  intro c
  induction c with
  | zero =>
    intro t f1 f2 hc hm u0 ht hf1 hf2 K V e92 SH
    obtain ⟨f1, rfl⟩ : ∃ q, f1 = q + 1 := ⟨f1 - 1, by omega⟩
    obtain ⟨f2, rfl⟩ : ∃ q, f2 = q + 1 := ⟨f2 - 1, by omega⟩
    unfold Tr_hangCard_l66 Md_hang_l76
    rw [show (48 : Int32) = nI 48 from rfl, if_pos (nI_le (by omega) (by omega)), if_pos (nI_le (by omega) (by omega))]
    exact ⟨hc, hm, rfl, rfl, fun _ _ => rfl, SH, scM_id⟩
  | succ c ih =>
    intro t f1 f2 hc hm u0 ht hf1 hf2 K V e92 SH
    obtain ⟨f1, rfl⟩ : ∃ q, f1 = q + 1 := ⟨f1 - 1, by omega⟩
    obtain ⟨f2, rfl⟩ : ∃ q, f2 = q + 1 := ⟨f2 - 1, by omega⟩
    have K1 := pkI_card (u := nI f0) (v := nI t) K V hb
    rw [show 87 + 5 = 92 from rfl, show 87 + 6 = 93 from rfl, up_up, up_self e92] at K1
    have V1 := pkV_card V hb (.inr ⟨f0, hf, rfl⟩) (.inr ⟨t, by omega, rfl⟩)
    have em : (am_up (am_up hm (m + 12) (57 + 4 * b) (nI f0)) (m + 12) (58 + 4 * b) (nI t)) (m + 12) = upz (upz (hm (m + 12)) (57 + 4 * b) (nI f0)) (58 + 4 * b) (nI t) := by
      simp only [z_ups]
    obtain ⟨hc1, hm1, N, a1, a2, a3, R, a4, a5, a6⟩ := harm_eq (r := r) L (scH_up SH (by decide) (by decide) (by decide) (by decide) (by decide)) K1 V1 em
    obtain ⟨h2, b1, b2, b3, b4⟩ := less_up hc1 (nI t) (nI N)
    have e76 : hc1 76 = hc 76 := by rw [a4 76 (by omega), z_upr (by omega)]
    have g1 : hm1 (m + 12) = upz (upz (hm (m + 12)) (57 + 4 * b) (nI f0)) (58 + 4 * b) (nI t) := by rw [a5.2 _ (by omega), em]
    have x92 : h2 92 = hc 92 := by rw [b4 _ (by decide), a4 92 (by omega), z_upr (by omega)]
    have K2 : pkI l (am_up h2 92 b (nI f0)) 87 (hm1 (m + 12)) := by
      rw [up_self (by rw [x92]; exact e92), g1]
      exact pkI_fr K1 (fun x _ _ => by rw [b4 x (by omega), a4 x (by omega)])
    obtain ⟨hc', hm', k1, k2, k3, k4, k5⟩ := ih (t + 1) f1 f2 h2 hm1 (nI f0) (by omega) (by omega) (by omega) K2 (by rw [g1]; exact V1) (by rw [x92]; exact e92) (scH_76 a6 b4)
    refine ⟨hc', hm', ?_, ?_, ?_, k4, ?_⟩
    · unfold Tr_hangCard_l66
      rw [show (48 : Int32) = nI 48 from rfl, if_neg (nI_ge (by omega) (by omega)), z_ix hb (by decide), Option.bind_some]
      simp only [Nat.reduceAdd]
      rw [a1, Option.bind_some, b1, Option.bind_some, nI_1]
      exact k1
    · unfold Md_hang_l76
      simp (disch := omega) only [↓z_neg, z_lits, nI_eq, nI_ltI, nI_leI, nI_add, pk_mul, pk_sub, z_ix, if_pos, if_neg, if_true, if_false, Option.bind_some, m_eq, m_qe, m_lt, m_tl, m_le, m_el, Md_in_N, z_lesser, z_greater]
      rw [show 55 + 4 * b + 2 = 57 + 4 * b by omega, show 55 + 4 * b + 3 = 58 + 4 * b by omega, a3]
      simp only [Option.bind_some]
      rw [b2, b3, e76] at k2
      by_cases cc : hc 76 1 ≤ nI N
      · rw [if_pos cc] at k2 ⊢
        exact k2
      · rw [if_neg cc] at k2 ⊢
        exact k2
    · intro x hx
      rw [k3 x hx, b4 x (by omega), a4 x (by omega), z_upr (by omega)]
    · exact scM_tr (scM_tr (scM_tr (scM_up (.inr (by omega))) (scM_up (.inr (by omega)))) (scM_fr a5)) k5
theorem cp87 {q : Nat} (L : wL l m) (SH : scH l hc) (H : pkI l hc p g) (V : pkV g) (hp : p + 12 < 66) : ∃ h', Pk_copyFrom l r 87 p hc = some h' ∧ pkI l h' 87 g ∧ scH l h' ∧ (∀ x, x < 87 ∨ 100 ≤ x → h' x = hc x) := by
  obtain ⟨h', a1, a2, -, a4⟩ := Pk_copyFrom_at (r := r) (a := 87) H V SH.2.2 (.inr (by omega))
  exact ⟨h', a1, a2, ⟨rwH_fr SH.1 (a4 _ (by omega)), rwH_fr SH.2.1 (a4 _ (by omega)), pkH_of a2⟩, a4⟩
theorem from_eq {p : Int32} (hz : zP p) : ∃ f0, f0 < 48 ∧ (if (0 : Int32) < p then p else 0) = nI f0 ∧ Md_greater 0 p = nI f0 := by
  rcases hz with rfl | ⟨n, hn, rfl⟩
  · exact ⟨0, by decide, rfl, rfl⟩
  · refine ⟨n, hn, ?_, ?_⟩
    · by_cases c : n = 0
      · subst c; rfl
      · rw [if_pos ((z_0lt (by omega)).2 (by omega))]
    · unfold Md_greater
      rw [if_pos (nI_pos' (by omega))]
theorem q_hang (W : tdW r 1) (B : tdB l hc 1 hm m 0 n) (L : wL l m) (SH : scH l hc) : ∃ v hc' hm', Wp_hang l r 0 x1 x2 x3 hc = some (v, hc') ∧ Md_hang m x1 x2 x3 hm = some (v, hm') ∧ frS hc hc' ∧ scH l hc' ∧ scM hm hm' m := by
  unfold Wp_hang Md_hang
  simp only [Nat.zero_add]
  rcases pk_case W B x1 with ⟨q, g, h', hq, e1, -, -, e2, eg, H, V, C, S⟩ | ⟨e1, e2⟩
  · rw [e1, e2]
    have hp : (1 + 5 + 19 * q) + 12 < 66 := by omega
    generalize 1 + 5 + 19 * q = p at *
    have Vh : pkV (h' (m + 12)) := by rw [eg]; exact V
    have h3 := zN_V (pv_nb V) (by decide)
    simp only [Option.bind_some, g_on, if_neg (show ¬ (1 : Int32) = 0 by decide)]
    rcases bench_cases V x2 with ⟨b, hb, rfl⟩ | hx
    · have hb6 : b < 6 := by omega
      have zb : g_ix (nI b) 6 = some b := z_ix hb6 (by decide)
      obtain ⟨q1, c1, K1, S1, f1⟩ := cp87 (r := r) (q := 0) L SH H V hp
      have K2 := pkI_card0 (v := -1) K1 V hb6
      have V2 := pkV_card (u := -1) (v := -1) V hb6 (.inl rfl) (.inl rfl)
      rw [show 87 + 5 = 92 from rfl] at K2
      have em : (am_up (am_up h' (m + 12) (57 + 4 * b) (-1)) (m + 12) (58 + 4 * b) (-1)) (m + 12) = upz (upz g (57 + 4 * b) (-1)) (58 + 4 * b) (-1) := by
        simp only [z_ups, eg]
      obtain ⟨hc1, hm1, N, a1, a2, a3, R, a4, a5, a6⟩ := harm_eq (r := r) L (scH_up S1 (by decide) (by decide) (by decide) (by decide) (by decide)) K2 V2 em
      obtain ⟨h5, b1, b2, b3, b4⟩ := first_up hc1 (-1) (nI N)
      have g1 : hm1 (m + 12) = upz (upz g (57 + 4 * b) (-1)) (58 + 4 * b) (-1) := by rw [a5.2 _ (by omega), em]
      obtain ⟨f0, hf0, ef1, ef2⟩ := from_eq (pv_bench V b hb6).1
      have epc : h5 91 b = g (56 + 4 * b) := by
        rw [b4 _ (by decide), a4 91 (by omega), z_upr (by decide)]
        exact (K1.2.2.2.2.1 b hb6).1
      have epm := Md_painted_at (a := m) (h := hm1) hb6
      rw [g1, upz_n (by omega), upz_n (by omega)] at epm
      have K3 : pkI l (am_up (am_up h5 92 b (nI f0)) 92 b (-1)) 87 (hm1 (m + 12)) := by
        rw [up_up, g1]
        refine pkI_fr K2 (fun x _ _ => ?_)
        by_cases cx : x = 92
        · subst cx
          rw [z_ups, z_ups, b4 _ (by decide), a4 92 (by omega), z_ups]
          funext y
          unfold upz
          split <;> rfl
        · rw [z_upr cx, b4 x (by omega), a4 x (by omega)]
      obtain ⟨hc', hm', k1, k2, k3, k4, k5⟩ := hang_l (r := r) (x3 := x3) L hb6 hf0 (48 - f0) f0 g_fu g_fu (am_up h5 92 b (nI f0)) hm1 (-1) (by omega) (by unfold g_fu; omega) (by unfold g_fu; omega) K3 (by rw [g1]; exact V2) (by rw [z_ups, upz_s]) (scH_up (scH_76 a6 b4) (by decide) (by decide) (by decide) (by decide) (by decide))
      rw [z_upr (by decide), b2, b3] at k2
      have eT : Tr_hangCard l r 76 p (nI b) hc = some hc' := by
        unfold Tr_hangCard
        simp only [Nat.reduceAdd]
        rw [c1, Option.bind_some, Pk_hasBench_at K1 V hb, if_neg (by decide), zb, Option.bind_some, a1, Option.bind_some, b1, Option.bind_some]
        simp only [Option.bind_some]
        rw [epc, ef1, k1]
        rfl
      have i2 : g_ix ((55 + 4 * nI b) + 2) 195 = some (57 + 4 * b) := by
        rw [show (55 : Int32) = nI 55 from rfl, show (4 : Int32) = nI 4 from rfl, show (2 : Int32) = nI 2 from rfl, pk_mul, nI_add, nI_add, show 55 + 4 * b + 2 = 57 + 4 * b by omega, z_ix (by omega) (by decide)]
      have i3 : g_ix ((55 + 4 * nI b) + 3) 195 = some (58 + 4 * b) := by
        rw [show (55 : Int32) = nI 55 from rfl, show (4 : Int32) = nI 4 from rfl, show (3 : Int32) = nI 3 from rfl, pk_mul, nI_add, nI_add, show 55 + 4 * b + 3 = 58 + 4 * b by omega, z_ix (by omega) (by decide)]
      have i5 : (55 : Int32) + 4 * nI b = nI (55 + 4 * b) := by
        rw [show (55 : Int32) = nI 55 from rfl, show (4 : Int32) = nI 4 from rfl, pk_mul, nI_add]
      rw [Pk_hasBench_at H V hb, if_neg (show ¬ (1 : Int32) = 0 by decide), eT, Option.bind_some, bench_yes Vh (by rw [eg]; exact hb), Option.bind_some, if_neg (show ¬ (1 : Int32) = 0 by decide), i2, Option.bind_some, i3, Option.bind_some, a3, Option.bind_some, epm, Option.bind_some, ef2, i5, k2, Option.bind_some]
      have Sf : frS hc hc' := by
        intro x hx
        rw [k3 x (by omega), z_upr (by omega), b4 x (by omega), a4 x (by omega), z_upr (by omega), f1 x (by omega)]
      have Sm : scM hm hm' m := scM_tr S (scM_tr (scM_tr (scM_tr (scM_up (.inr (by omega))) (scM_up (.inr (by omega)))) (scM_fr a5)) k5)
      by_cases c3 : x3 = 0
      · rw [if_pos c3, if_pos c3]
        exact ⟨_, hc', hm', rfl, rfl, Sf, k4, Sm⟩
      · rw [if_neg c3, if_neg c3]
        exact ⟨_, hc', hm', rfl, rfl, Sf, k4, Sm⟩
    · simp only [bench_no Vh (show x2 < 0 ∨ h' (m + 12) 3 ≤ x2 by rw [eg]; exact hx), Pk_hasBench_no H hx, Option.bind_some]
      exact ⟨_, hc, h', rfl, rfl, frS_id, SH, S⟩
  · rw [e1, e2]
    exact ⟨-2, hc, _, rfl, rfl, frS_id, SH, scM_up (.inl rfl)⟩
theorem anew_l (L : wL l m) (hb : b < 6) : ∀ (c t f1 f2 : Nat) (hc hm : am_F) (u0 v0 : Int32), t + c = 48 → c < f1 → c < f2 → pkI l hc 87 (hm (m + 12)) → pkV (hm (m + 12)) → (t = 0 ∧ u0 = -1 ∧ v0 = 1000000 ∨ 0 < t ∧ u0 = hc 76 0 ∧ v0 = hc 76 1) → scH l hc → ∃ hc' hm', Tr_paintAnew_l22 l r 76 (nI b) f1 (nI t) hc = some hc' ∧ (0 < t ∨ 0 < c → Md_anew_l35 m (nI b) x3 f2 u0 v0 (nI t) hm = some (hc' 76 0, hc' 76 1, hm')) ∧ frT hc hc' ∧ scH l hc' ∧ scM hm hm' m := by
  intro c
  induction c with
  | zero =>
    intro t f1 f2 hc hm u0 v0 ht hf1 hf2 K V hu SH
    obtain ⟨f1, rfl⟩ : ∃ q, f1 = q + 1 := ⟨f1 - 1, by omega⟩
    obtain ⟨f2, rfl⟩ : ∃ q, f2 = q + 1 := ⟨f2 - 1, by omega⟩
    unfold Tr_paintAnew_l22 Md_anew_l35
    rw [show (48 : Int32) = nI 48 from rfl, if_pos (nI_le (by omega) (by omega)), if_pos (nI_le (by omega) (by omega))]
    rcases hu with ⟨rfl, _⟩ | ⟨_, rfl, rfl⟩
    · omega
    · exact ⟨hc, hm, rfl, fun _ => rfl, fun _ _ => rfl, SH, scM_id⟩
  | succ c ih =>
    intro t f1 f2 hc hm u0 v0 ht hf1 hf2 K V hu SH
    obtain ⟨f1, rfl⟩ : ∃ q, f1 = q + 1 := ⟨f1 - 1, by omega⟩
    obtain ⟨f2, rfl⟩ : ∃ q, f2 = q + 1 := ⟨f2 - 1, by omega⟩
    have K1 := pkI_paint (v := nI t) K V hb
    rw [show 87 + 4 = 91 from rfl] at K1
    have V1 := pkV_paint (v := nI t) V hb (.inr ⟨t, by omega, rfl⟩)
    have em : (am_up hm (m + 12) (56 + 4 * b) (nI t)) (m + 12) = upz (hm (m + 12)) (56 + 4 * b) (nI t) := z_ups
    obtain ⟨hc1, hm1, N, a1, a2, a3, R, a4, a5, a6⟩ := harm_eq (r := r) L (scH_up SH (by decide) (by decide) (by decide) (by decide) (by decide)) K1 V1 em
    have e76 : hc1 76 = hc 76 := by rw [a4 76 (by omega), z_upr (by omega)]
    have g1 : hm1 (m + 12) = upz (hm (m + 12)) (56 + 4 * b) (nI t) := by rw [a5.2 _ (by omega), em]
    obtain ⟨h2, b1, b2, b3, b4⟩ : ∃ h2, (if nI t = 0 then (Tr_first 76 (nI t) (nI N) hc1).bind fun q8 => some q8 else (Tr_less 76 (nI t) (nI N) hc1).bind fun q9 => some q9 : Option am_F) = some h2 ∧ h2 76 0 = (if v0 ≤ nI N then u0 else nI t) ∧ h2 76 1 = Md_lesser v0 (nI N) ∧ ∀ x, x ≠ 76 → h2 x = hc1 x := by
      rcases hu with ⟨rfl, rfl, rfl⟩ | ⟨ht0, rfl, rfl⟩
      · obtain ⟨h2, b1, b2, b3, b4⟩ := first_up hc1 (nI 0) (nI N)
        rw [if_pos (show nI 0 = 0 from rfl), b1]
        have hN : ¬ (1000000 : Int32) ≤ nI N := nI_ge (show N < 1000000 by omega) (by decide)
        refine ⟨h2, rfl, by rw [b2, if_neg hN], ?_, b4⟩
        rw [b3]
        unfold Md_lesser
        rw [if_pos (Int32.le_of_lt (Int32.not_le.1 hN))]
      · obtain ⟨h2, b1, b2, b3, b4⟩ := less_up hc1 (nI t) (nI N)
        rw [if_neg (fun e => by have := (z_eq0 (by omega)).1 e; omega), b1]
        exact ⟨h2, rfl, by rw [b2, e76], by rw [b3, e76], b4⟩
    have K2 : pkI l h2 87 (hm1 (m + 12)) := by
      rw [g1]
      exact pkI_fr K1 (fun x _ _ => by rw [b4 x (by omega), a4 x (by omega)])
    obtain ⟨hc', hm', k1, k2, k3, k4, k5⟩ := ih (t + 1) f1 f2 h2 hm1 (h2 76 0) (h2 76 1) (by omega) (by omega) (by omega) K2 (by rw [g1]; exact V1) (.inr ⟨by omega, rfl, rfl⟩) (scH_76 a6 b4)
    refine ⟨hc', hm', ?_, ?_, ?_, k4, ?_⟩
    · unfold Tr_paintAnew_l22
      rw [show (48 : Int32) = nI 48 from rfl, if_neg (nI_ge (by omega) (by omega)), z_ix hb (by decide), Option.bind_some]
      simp only [Nat.reduceAdd]
      rw [a1, Option.bind_some]
      simp only
      rw [b1, Option.bind_some, nI_1]
      exact k1
    · intro _
      have k2 := k2 (.inl (by omega))
      have i1 : g_ix ((55 + 4 * nI b) + 1) 195 = some (56 + 4 * b) := by
        rw [show (55 : Int32) = nI 55 from rfl, show (4 : Int32) = nI 4 from rfl, show (1 : Int32) = nI 1 from rfl, pk_mul, nI_add, nI_add, show 55 + 4 * b + 1 = 56 + 4 * b by omega, z_ix (by omega) (by decide)]
      unfold Md_anew_l35
      rw [show (48 : Int32) = nI 48 from rfl, if_neg (nI_ge (by omega) (by omega)), i1, Option.bind_some, a3, Option.bind_some]
      simp only
      rw [b2, b3] at k2
      rw [nI_1]
      by_cases cc : v0 ≤ nI N
      · rw [if_pos cc] at k2 ⊢
        exact k2
      · rw [if_neg cc] at k2 ⊢
        exact k2
    · intro x hx
      rw [k3 x hx, b4 x (by omega), a4 x (by omega), z_upr (by omega)]
    · exact scM_tr (scM_tr (scM_up (.inr (by omega))) (scM_fr a5)) k5
theorem q_anew (W : tdW r 1) (B : tdB l hc 1 hm m 0 n) (L : wL l m) (SH : scH l hc) : ∃ v hc' hm', Wp_anew l r 0 x1 x2 x3 hc = some (v, hc') ∧ Md_anew m x1 x2 x3 hm = some (v, hm') ∧ frS hc hc' ∧ scH l hc' ∧ scM hm hm' m := by
  unfold Wp_anew Md_anew
  simp only [Nat.zero_add]
  rcases pk_case W B x1 with ⟨q, g, h', hq, e1, -, -, e2, eg, H, V, C, S⟩ | ⟨e1, e2⟩
  · rw [e1, e2]
    have hp : (1 + 5 + 19 * q) + 12 < 66 := by omega
    generalize 1 + 5 + 19 * q = p at *
    have Vh : pkV (h' (m + 12)) := by rw [eg]; exact V
    have h3 := zN_V (pv_nb V) (by decide)
    simp only [Option.bind_some, g_on, if_neg (show ¬ (1 : Int32) = 0 by decide)]
    rcases bench_cases V x2 with ⟨b, hb, rfl⟩ | hx
    · have hb6 : b < 6 := by omega
      obtain ⟨q1, c1, K1, S1, f1⟩ := cp87 (r := r) (q := 0) L SH H V hp
      obtain ⟨hc', hm', k1, k2, k3, k4, k5⟩ := anew_l (r := r) (x3 := x3) L hb6 48 0 g_fu g_fu q1 h' (-1) 1000000 (by omega) (by unfold g_fu; omega) (by unfold g_fu; omega) (by rw [eg]; exact K1) Vh (.inl ⟨rfl, rfl, rfl⟩) S1
      have k2 := k2 (.inr (by omega))
      have eT : Tr_paintAnew l r 76 p (nI b) hc = some hc' := by
        unfold Tr_paintAnew
        simp only [Nat.reduceAdd]
        rw [c1, Option.bind_some, Pk_hasBench_at K1 V hb, if_neg (by decide), show Tr_paintAnew_l22 l r 76 (nI b) g_fu 0 q1 = some hc' from k1]
        rfl
      rw [Pk_hasBench_at H V hb, if_neg (show ¬ (1 : Int32) = 0 by decide), eT, Option.bind_some, bench_yes Vh (by rw [eg]; exact hb), Option.bind_some, if_neg (show ¬ (1 : Int32) = 0 by decide), show Md_anew_l35 m (nI b) x3 g_fu (-1) 1000000 0 h' = some (hc' 76 0, hc' 76 1, hm') from k2, Option.bind_some]
      have Sf : frS hc hc' := by
        intro x hx
        rw [k3 x (by omega), f1 x (by omega)]
      by_cases c3 : x3 = 0
      · rw [if_pos c3, if_pos c3]
        exact ⟨_, hc', hm', rfl, rfl, Sf, k4, scM_tr S k5⟩
      · rw [if_neg c3, if_neg c3]
        exact ⟨_, hc', hm', rfl, rfl, Sf, k4, scM_tr S k5⟩
    · simp only [bench_no Vh (show x2 < 0 ∨ h' (m + 12) 3 ≤ x2 by rw [eg]; exact hx), Pk_hasBench_no H hx, Option.bind_some]
      exact ⟨_, hc, h', rfl, rfl, frS_id, SH, S⟩
  · rw [e1, e2]
    exact ⟨-2, hc, _, rfl, rfl, frS_id, SH, scM_up (.inl rfl)⟩
end TRIAL
