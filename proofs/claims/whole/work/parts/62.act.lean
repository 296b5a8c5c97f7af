/-! what to do at a bench -/
section ACT
variable {l : List (Nat × Nat)} {r : am_R} {h h' hc hm hc0 hm0 : am_F} {d m k p b t s lim a q c i nb nc z j N : Nat} {n : Nat → Nat} {H w W fit : Nat → Nat} {f g g' : Nat → Int32} {x x1 x2 x3 x4 x5 x6 y u v sd : Int32}
theorem ring1 (v w0 w1 w2 hh cc : Int32) : 0 + (v - 0) * w0 + (0 - hh) * w1 + (0 - cc) * w2 = v * w0 - (w1 * hh + w2 * cc) := by grind
theorem ring2 (v w0 w1 w2 hh cc : Int32) : 0 + (v - 0) * w0 + (v - hh) * w1 + (v - cc) * w2 = v * (w0 + w1 + w2) - (w1 * hh + w2 * cc) := by grind
theorem z_sub0 {X Y : Nat} (hX : X < 2 ^ 30) (hY : Y < 2 ^ 30) (h : 0 ≤ nI X - nI Y) : Y ≤ X := by
  by_cases c : Y ≤ X
  · exact c
  · exfalso
    have e : nI X - nI Y = 0 - nI (Y - X) := by
      have : nI Y = nI X + nI (Y - X) := by rw [nI_add]; congr 1; omega
      rw [this]
      grind
    rw [e] at h
    have hs := Int32.le_iff_toInt_le.1 h
    rw [Int32.toInt_sub] at hs
    have ht : (nI (Y - X)).toInt = (Y - X : Nat) := nI_toInt (by omega)
    rw [ht] at hs
    simp only [Int32.toInt_zero] at hs
    rw [Int.bmod_eq_of_le (by omega) (by omega)] at hs
    omega
theorem half_at {A : Nat} (hA : A < 10) : nI A / 2 = nI (A / 2) := by
  match A, hA with
  | 0, _ => decide
  | 1, _ => decide
  | 2, _ => decide
  | 3, _ => decide
  | 4, _ => decide
  | 5, _ => decide
  | 6, _ => decide
  | 7, _ => decide
  | 8, _ => decide
  | 9, _ => decide
theorem worth_eq (K : pkI l hc p g) (V : pkV g) (eg : hm (m + 12) = g) (hk : k < nV (g 6)) {s0 s1 s2 T : Nat} (e0 : hc 101 0 = nI s0) (e1 : hc 101 1 = nI s1) (e2 : hc 101 2 = nI s2) (eT : hc 100 0 = nI T) (hT : s0 + s1 + s2 = T) (h72 : T ≤ 72) (m0 : Md_weightOf m (nI t) 0 hm = some (nI s0)) (m1 : Md_weightOf m (nI t) 1 hm = some (nI s1)) (m2 : Md_weightOf m (nI t) 2 hm = some (nI s2)) (ha : a < 3) : ∃ X Y, X < 1000 ∧ Y < 1000 ∧ Fi_worthOf l r 100 (nI a) (p + 11) (nI k) hc = some (nI X - nI Y) ∧ Md_actWorth m (nI k) (nI t) (nI a) hm = some (nI X - nI Y) := by
  have h6 := zN_V (pv_nc V) (by decide)
  obtain ⟨_, _, _, ⟨A, hA, eA⟩, ⟨C, hC, eC⟩, ⟨D, hD, eD⟩⟩ := pv_comer V k hk
  have c3 : Rw_get l r (p + 11) (nI k) 3 hc = some (nI A) := by rw [← eA]; exact com_at (c := 3) K hk (by decide)
  have c4 : Rw_get l r (p + 11) (nI k) 4 hc = some (nI C) := by rw [← eC]; exact com_at (c := 4) K hk (by decide)
  have c5 : Rw_get l r (p + 11) (nI k) 5 hc = some (nI D) := by rw [← eD]; exact com_at (c := 5) K hk (by decide)
  have d3 : Md_comer m (nI k) 3 hm = some (nI A) := by rw [← eA, ← eg]; exact Md_comer_at (p := 3) (by omega) (by decide)
  have d4 : Md_comer m (nI k) 4 hm = some (nI C) := by rw [← eC, ← eg]; exact Md_comer_at (p := 4) (by omega) (by decide)
  have d5 : Md_comer m (nI k) 5 hm = some (nI D) := by rw [← eD, ← eg]; exact Md_comer_at (p := 5) (by omega) (by decide)
  have bnd : ∀ {A s : Nat}, A ≤ 9 → s ≤ 72 → A * s ≤ 648 := fun ha hs => Nat.mul_le_mul ha hs
  have b1 := bnd (show A ≤ 9 by omega) (show s0 ≤ 72 by omega)
  have b2 := bnd (show A ≤ 9 by omega) (show T ≤ 72 by omega)
  have b3 : s1 * (D / 2) + s2 * D ≤ 648 := by
    have h1 : s1 * (D / 2) ≤ s1 * 9 := Nat.mul_le_mul_left _ (by omega)
    have h2 : s2 * D ≤ s2 * 9 := Nat.mul_le_mul_left _ (by omega)
    omega
  have b4 : s1 * (C / 2) + s2 * C ≤ 648 := by
    have h1 : s1 * (C / 2) ≤ s1 * 9 := Nat.mul_le_mul_left _ (by omega)
    have h2 : s2 * C ≤ s2 * 9 := Nat.mul_le_mul_left _ (by omega)
    omega
  have cs : ∀ y : Int32, Md_costs y 0 = some 0 ∧ Md_costs y 1 = some (y / 2) ∧ Md_costs y 2 = some y := fun y => ⟨rfl, rfl, rfl⟩
  have as : ∀ y : Int32, Wp_atStage y 1 = some (y / 2) ∧ Wp_atStage y 2 = some y := fun y => ⟨rfl, rfl⟩
  match a, ha with
  | 0, _ =>
    exact ⟨0, 0, by decide, by decide, rfl, rfl⟩
  | 1, _ =>
    refine ⟨A * s0, s1 * (D / 2) + s2 * D, by omega, by omega, ?_, ?_⟩
    · unfold Fi_worthOf
      rw [if_neg (show ¬ nI 1 = 0 by decide), c3, Option.bind_some, if_pos (show nI 1 = 1 from rfl), Option.bind_some, c5, Option.bind_some, (as _).1, Option.bind_some, (as _).2, Option.bind_some, if_pos (show nI 1 = 1 from rfl), Option.bind_some]
      simp only [Nat.reduceAdd]
      rw [e0, e1, e2, half_at hD, pk_mul, pk_mul, pk_mul, nI_add]
    · unfold Md_actWorth
      rw [if_neg (show ¬ nI 1 = 0 by decide), show g_fu = 99996 + 1 + 1 + 1 + 1 from rfl]
      unfold Md_actWorth_l12
      rw [if_neg (by decide), if_neg (by decide), if_pos rfl, d3, Option.bind_some, Option.bind_some, d5, Option.bind_some, (cs _).1, Option.bind_some, Option.bind_some, m0, Option.bind_some]
      unfold Md_actWorth_l12
      rw [if_neg (by decide), if_neg (by decide), if_neg (by decide), Option.bind_some, d5, Option.bind_some, show (0 : Int32) + 1 = 1 from rfl, (cs _).2.1, Option.bind_some, Option.bind_some, m1, Option.bind_some]
      unfold Md_actWorth_l12
      rw [if_neg (by decide), if_neg (by decide), if_neg (by decide), Option.bind_some, d5, Option.bind_some, show (1 : Int32) + 1 = 2 from rfl, (cs _).2.2, Option.bind_some, Option.bind_some, m2, Option.bind_some]
      unfold Md_actWorth_l12
      rw [if_pos (by decide), Option.bind_some, ring1, half_at hD, pk_mul, pk_mul, pk_mul, nI_add]
  | 2, _ =>
    refine ⟨A * T, s1 * (C / 2) + s2 * C, by omega, by omega, ?_, ?_⟩
    · unfold Fi_worthOf
      rw [if_neg (show ¬ nI 2 = 0 by decide), c3, Option.bind_some, if_neg (show ¬ nI 2 = 1 by decide), Option.bind_some, c4, Option.bind_some, (as _).1, Option.bind_some, (as _).2, Option.bind_some, if_neg (show ¬ nI 2 = 1 by decide), Option.bind_some]
      simp only [Nat.reduceAdd]
      rw [eT, e1, e2, half_at hC, pk_mul, pk_mul, pk_mul, nI_add]
    · unfold Md_actWorth
      rw [if_neg (show ¬ nI 2 = 0 by decide), show g_fu = 99996 + 1 + 1 + 1 + 1 from rfl]
      unfold Md_actWorth_l12
      rw [if_neg (by decide), if_pos (show nI 2 = 2 from rfl), d3, Option.bind_some, d4, Option.bind_some, (cs _).1, Option.bind_some, Option.bind_some, m0, Option.bind_some]
      unfold Md_actWorth_l12
      rw [if_neg (by decide), if_pos (show nI 2 = 2 from rfl), d3, Option.bind_some, d4, Option.bind_some, show (0 : Int32) + 1 = 1 from rfl, (cs _).2.1, Option.bind_some, Option.bind_some, m1, Option.bind_some]
      unfold Md_actWorth_l12
      rw [if_neg (by decide), if_pos (show nI 2 = 2 from rfl), d3, Option.bind_some, d4, Option.bind_some, show (1 : Int32) + 1 = 2 from rfl, (cs _).2.2, Option.bind_some, Option.bind_some, m2, Option.bind_some]
      unfold Md_actWorth_l12
      rw [if_pos (by decide), Option.bind_some, ring2, half_at hC, nI_add, nI_add, hT, pk_mul, pk_mul, pk_mul, nI_add]
theorem best_l {wf : Nat → Int32} (hC : ∀ a, a < 3 → Fi_worthOf l r 100 (nI a) p (nI k) hc = some (wf a)) (hM : ∀ a, a < 3 → Md_actWorth m (nI k) (nI t) (nI a) hm = some (wf a)) : ∀ (c i f1 f2 a : Nat), i + c = 3 → c < f1 → c < f2 → a < 3 → 0 ≤ wf a → ∃ a', a' < 3 ∧ 0 ≤ wf a' ∧ Fi_bestAct_l5 l r 100 p (nI k) hc f1 (nI a) (nI i) = some (nI a') ∧ Md_act_l62 m (nI t) (nI k) x6 hm f2 (nI a) (nI i) = some (nI a') := by
  intro c
  induction c with
  | zero =>
    intro i f1 f2 a hi hf1 hf2 ha h0
    obtain ⟨f1, rfl⟩ : ∃ q, f1 = q + 1 := ⟨f1 - 1, by omega⟩
    obtain ⟨f2, rfl⟩ : ∃ q, f2 = q + 1 := ⟨f2 - 1, by omega⟩
    unfold Fi_bestAct_l5 Md_act_l62
    rw [if_pos (show (3 : Int32) ≤ nI i from nI_le (show 3 ≤ i by omega) (by omega)), if_pos (show (3 : Int32) ≤ nI i from nI_le (show 3 ≤ i by omega) (by omega))]
    exact ⟨a, ha, h0, rfl, rfl⟩
  | succ c ih =>
    intro i f1 f2 a hi hf1 hf2 ha h0
    obtain ⟨f1, rfl⟩ : ∃ q, f1 = q + 1 := ⟨f1 - 1, by omega⟩
    obtain ⟨f2, rfl⟩ : ∃ q, f2 = q + 1 := ⟨f2 - 1, by omega⟩
    unfold Fi_bestAct_l5 Md_act_l62
    rw [if_neg (show ¬ (3 : Int32) ≤ nI i from nI_ge (show i < 3 by omega) (by decide)), if_neg (show ¬ (3 : Int32) ≤ nI i from nI_ge (show i < 3 by omega) (by decide)), hC i (by omega), hC a ha, hM i (by omega), hM a ha]
    simp only [Option.bind_some]
    by_cases c1 : wf i ≤ wf a
    · rw [if_pos c1, Option.bind_some, Option.bind_some, nI_1]
      exact ih (i + 1) f1 f2 a (by omega) (by omega) (by omega) ha h0
    · rw [if_neg c1, Option.bind_some, Option.bind_some, nI_1]
      exact ih (i + 1) f1 f2 i (by omega) (by omega) (by omega) (by omega) (Int32.le_trans h0 (Int32.le_of_lt (Int32.not_le.1 c1)))
end ACT
