/-! finding the fits -/
section FITS
variable {l : List (Nat × Nat)} {r : am_R} {h h' hc hm hc0 hm0 : am_F} {d m k p b t s lim a q c i nb nc z j N : Nat} {n : Nat → Nat} {H w W fit : Nat → Nat} {f g g' : Nat → Int32} {x x1 x2 x3 x4 y u v sd : Int32}
def frF (hc hc' : am_F) : Prop := hc' 100 5 = hc 100 5 ∧ ∀ x, x ≠ 100 → x ≠ 102 → x ≠ 103 → hc' x = hc x
theorem frF_tr {h1 h2 h3 : am_F} (a : frF h1 h2) (b : frF h2 h3) : frF h1 h3 := ⟨b.1.trans a.1, fun x e1 e2 e3 => (b.2 x e1 e2 e3).trans (a.2 x e1 e2 e3)⟩
theorem clr_l : ∀ (c i fu : Nat) (h : am_F), i + c = 49 → c < fu → ∃ h', Md_findFits_l4 m y u fu (nI i) h = some h' ∧ (∀ j, i ≤ j → j < 49 → h' (m + 26) j = nI 0) ∧ (∀ j, j < i → h' (m + 26) j = h (m + 26) j) ∧ ∀ x, x ≠ m + 26 → h' x = h x := by
  intro c
  induction c with
  | zero =>
    intro i fu h hi hf
    obtain ⟨fu, rfl⟩ : ∃ q, fu = q + 1 := ⟨fu - 1, by omega⟩
    unfold Md_findFits_l4
    rw [if_pos (show (48 : Int32) < nI i from nI_lt (show 48 < i by omega) (by omega))]
    exact ⟨h, rfl, fun j _ _ => by omega, fun _ _ => rfl, fun _ _ => rfl⟩
  | succ c ih =>
    intro i fu h hi hf
    obtain ⟨fu, rfl⟩ : ∃ q, fu = q + 1 := ⟨fu - 1, by omega⟩
    obtain ⟨h', a1, a2, a3, a4⟩ := ih (i + 1) fu (am_up h (m + 26) i 0) (by omega) (by omega)
    refine ⟨h', ?_, ?_, ?_, ?_⟩
    · unfold Md_findFits_l4
      rw [if_neg (show ¬ (48 : Int32) < nI i from nI_nlt (show i ≤ 48 by omega) (by decide)), z_ix (by omega) (by decide), Option.bind_some, nI_1]
      exact a1
    · intro j h1 h2
      by_cases cj : j = i
      · subst cj
        rw [a3 j (by omega), z_ups, upz_s]
        rfl
      · exact a2 j (by omega) h2
    · intro j hj
      rw [a3 j (by omega), z_ups, upz_n (by omega)]
    · intro x hx
      rw [a4 x hx, z_upr hx]
theorem maybe_l (K : pkI l hc0 p g) (V : pkV g) (hp : p + 12 < 66) (h2 : ∀ j, fit j = 0 ∨ fit j = 1) (hfit : ∀ hc', (∀ x, x ≠ 100 → x ≠ 102 → x ≠ 103 → hc' x = hc0 x) → ∀ j, j < 49 → Fi_isFit l r 100 (oI j) z y hc' = some (nI (fit j))) : ∀ (c i f1 f2 : Nat) (hc hm : am_F) (N : Nat) (H w W : Nat → Nat) (u v : Int32), i + c = nV (g 4) → c < f1 → c < f2 → fI hc N H w → N ≤ i → frF hc0 hc → hm (m + 12) = g → (∀ j, j < 49 → hm (m + 26) j = nI (W j) ∧ W j ≤ 9 * i) → (∀ j, j < 49 → fW N H w j = if fit j = 0 then 0 else W j) → (u = 1 ∧ v = 0 ∧ N = 0 ∧ (∀ j, j < 49 → W j = 0) ∨ u = 0 ∧ v = 1) → ∃ (hc' hm' : am_F) (N' : Nat) (H' w' W' : Nat → Nat) (u' v' : Int32), Fi_find_l73 l r 100 p z y f1 u (nI i) hc = some (u', hc') ∧ Md_findFits_l25 m y f2 v (nI i) hm = some (v', hm') ∧ (u' = 1 ∧ v' = 0 ∧ N' = 0 ∧ (∀ j, j < 49 → W' j = 0) ∨ u' = 0 ∧ v' = 1) ∧ fI hc' N' H' w' ∧ (∀ j, j < 49 → hm' (m + 26) j = nI (W' j) ∧ W' j ≤ 72) ∧ (∀ j, j < 49 → fW N' H' w' j = if fit j = 0 then 0 else W' j) ∧ frF hc hc' ∧ ∀ x, x ≠ m + 26 → hm' x = hm x := by
  have h4 := zN_V (pv_nm V) (by decide)
  intro c
  induction c with
  | zero =>
    intro i f1 f2 hc hm N H w W u v hi hf1 hf2 I hN F eg eW rel fl
    obtain ⟨f1, rfl⟩ : ∃ q, f1 = q + 1 := ⟨f1 - 1, by omega⟩
    obtain ⟨f2, rfl⟩ : ∃ q, f2 = q + 1 := ⟨f2 - 1, by omega⟩
    have K' : pkI l hc p g := pkI_fr K (fun x _ _ => F.2 x (by omega) (by omega) (by omega))
    have e3 : hc (p + 7) 3 = nI (nV (g 4)) := K'.2.2.2.2.2.1.2.2.1
    unfold Fi_find_l73 Md_findFits_l25
    rw [e3, if_pos (nI_le (by omega) (by omega)), eg, h4.1, if_pos (nI_le (by omega) (by omega))]
    exact ⟨hc, hm, N, H, w, W, u, v, rfl, rfl, fl, I, fun j hj => ⟨(eW j hj).1, by have := (eW j hj).2; omega⟩, rel, ⟨rfl, fun _ _ _ _ => rfl⟩, fun _ _ => rfl⟩
  | succ c ih =>
    intro i f1 f2 hc hm N H w W u v hi hf1 hf2 I hN F eg eW rel fl
    obtain ⟨f1, rfl⟩ : ∃ q, f1 = q + 1 := ⟨f1 - 1, by omega⟩
    obtain ⟨f2, rfl⟩ : ∃ q, f2 = q + 1 := ⟨f2 - 1, by omega⟩
    have K' : pkI l hc p g := pkI_fr K (fun x _ _ => F.2 x (by omega) (by omega) (by omega))
    have R := K'.2.2.2.2.2.1
    have e3 : hc (p + 7) 3 = nI (nV (g 4)) := R.2.2.1
    have r0 : Rw_get l r (p + 7) (nI i) 0 hc = some (g (79 + (3 * i + 0))) := Rw_get_at (c := 0) R (by omega) (by decide)
    have r1 : Rw_get l r (p + 7) (nI i) 1 hc = some (g (79 + (3 * i + 1))) := Rw_get_at (c := 1) R (by omega) (by decide)
    have r2 : Rw_get l r (p + 7) (nI i) 2 hc = some (g (79 + (3 * i + 2))) := Rw_get_at (c := 2) R (by omega) (by decide)
    obtain ⟨_, ⟨t, ht, et⟩, ⟨w0, hw0, ew⟩, hw1⟩ := pv_maybe V i (by omega)
    rw [ew, nV_nI (by omega)] at hw1
    have x0 : g_ix ((79 : Int32) + 3 * nI i) 195 = some (79 + 3 * i) := by
      rw [show (79 : Int32) = nI 79 from rfl, show (3 : Int32) = nI 3 from rfl, pk_mul, nI_add, z_ix (by omega) (by decide)]
    have x1 : g_ix ((79 : Int32) + 3 * nI i + 1) 195 = some (79 + (3 * i + 1)) := by
      rw [show (79 : Int32) = nI 79 from rfl, show (3 : Int32) = nI 3 from rfl, show (1 : Int32) = nI 1 from rfl, pk_mul, nI_add, nI_add, z_ix (by omega) (by decide), show 79 + 3 * i + 1 = 79 + (3 * i + 1) by omega]
    have x2 : g_ix ((79 : Int32) + 3 * nI i + 2) 195 = some (79 + (3 * i + 2)) := by
      rw [show (79 : Int32) = nI 79 from rfl, show (3 : Int32) = nI 3 from rfl, show (2 : Int32) = nI 2 from rfl, pk_mul, nI_add, nI_add, z_ix (by omega) (by decide), show 79 + 3 * i + 2 = 79 + (3 * i + 2) by omega]
    have xt : g_ix (1 + nI t) 49 = some (t + 1) := by
      rw [show (1 : Int32) = nI 1 from rfl, nI_add, z_ix (by omega) (by decide), Nat.add_comm]
    by_cases c1 : g (79 + 3 * i) = y
    · obtain ⟨hc1, N1, H1, w1, a1, a2, a3, a4, a5, a6⟩ := weigh_eq (l := l) (r := r) (z := z) (y := y) (w0 := w0) (j := t + 1) I (by omega) (by omega) hw1 (by omega) (hfit hc F.2 (t + 1) (by omega)) (h2 _)
      have em : ∀ j, j < 49 → (am_up hm (m + 26) (t + 1) (hm (m + 26) (t + 1) + nI w0)) (m + 26) j = nI (W j + if j = t + 1 then w0 else 0) ∧ W j + (if j = t + 1 then w0 else 0) ≤ 9 * (i + 1) := by
        intro j hj
        have := (eW j hj).2
        rw [z_ups]
        by_cases cj : j = t + 1
        · subst cj
          rw [upz_s, if_pos rfl, (eW _ hj).1, nI_add]
          exact ⟨rfl, by omega⟩
        · rw [upz_n cj, if_neg cj]
          exact ⟨(eW j hj).1, by omega⟩
      obtain ⟨hc', hm', N', H', w', W', u', v', k1, k2, k3, k4, k5, k6, k7, k8⟩ := ih (i + 1) f1 f2 hc1 (am_up hm (m + 26) (t + 1) (hm (m + 26) (t + 1) + nI w0)) N1 H1 w1 (fun j => W j + if j = t + 1 then w0 else 0) 0 1 (by omega) (by omega) (by omega) a2 (by omega) (frF_tr F ⟨a5, a6⟩) (by rw [z_upr (by omega)]; exact eg) em (by
        intro j hj
        rw [a4 j, rel j hj]
        by_cases cj : j = t + 1
        · subst cj
          simp only [if_true]
          split
          · rfl
          · rfl
        · simp only [if_neg cj, Nat.add_zero]) (.inr ⟨rfl, rfl⟩)
      refine ⟨hc', hm', N', H', w', W', u', v', ?_, ?_, k3, k4, k5, k6, frF_tr ⟨a5, a6⟩ k7, ?_⟩
      · unfold Fi_find_l73
        rw [e3, if_neg (nI_ge (by omega) (by omega)), r0, Option.bind_some, if_pos (show g (79 + (3 * i + 0)) = y from c1), r1, Option.bind_some, r2, Option.bind_some, et, ew, ← oI_s, a1, Option.bind_some, Option.bind_some, nI_1]
        exact k1
      · unfold Md_findFits_l25
        rw [eg, h4.1, if_neg (nI_ge (by omega) (by omega)), x0, Option.bind_some, if_pos c1, x1, Option.bind_some, et, xt, Option.bind_some, x2, Option.bind_some, Option.bind_some, Option.bind_some, nI_1, ew]
        exact k2
      · intro x hx
        rw [k8 x hx, z_upr hx]
    · obtain ⟨hc', hm', N', H', w', W', u', v', k1, k2, k3, k4, k5, k6, k7, k8⟩ := ih (i + 1) f1 f2 hc hm N H w W u v (by omega) (by omega) (by omega) I (by omega) F eg (fun j hj => ⟨(eW j hj).1, by have := (eW j hj).2; omega⟩) rel fl
      refine ⟨hc', hm', N', H', w', W', u', v', ?_, ?_, k3, k4, k5, k6, k7, k8⟩
      · unfold Fi_find_l73
        rw [e3, if_neg (nI_ge (by omega) (by omega)), r0, Option.bind_some, if_neg (show ¬ g (79 + (3 * i + 0)) = y from c1), Option.bind_some, nI_1]
        exact k1
      · unfold Md_findFits_l25
        rw [eg, h4.1, if_neg (nI_ge (by omega) (by omega)), x0, Option.bind_some, if_neg c1, Option.bind_some, nI_1]
        exact k2
theorem fin_l (h2 : ∀ j, fit j = 0 ∨ fit j = 1) (hfit : ∀ hm', hm' m 43 = hm0 m 43 → (∀ x, x ≠ m → x ≠ m + 26 → hm' x = hm0 x) → ∀ j, j < 49 → Md_isFit m y (oI j) hm' = some (nI (fit j))) (hW : ∀ j, j < 49 → W j ≤ 72) : ∀ (c i fu : Nat) (hm : am_F), i + c = 49 → c < fu → hm m 43 = hm0 m 43 → (∀ x, x ≠ m → x ≠ m + 26 → hm x = hm0 x) → (∀ j, i ≤ j → j < 49 → hm (m + 26) j = nI (W j)) → (∀ j, j < i → hm (m + 26) j = nI (if fit j = 0 then 0 else W j)) → hm m 45 = nI (fS i (fun j => if fit j = 0 then 0 else W j)) → ∃ hm', Md_findFits_l118 m y fu (oI i) hm = some hm' ∧ (∀ j, j < 49 → hm' (m + 26) j = nI (if fit j = 0 then 0 else W j)) ∧ hm' m 45 = nI (fS 49 (fun j => if fit j = 0 then 0 else W j)) ∧ hm' m 43 = hm0 m 43 ∧ ∀ x, x ≠ m → x ≠ m + 26 → hm' x = hm0 x := by
  intro c
  induction c with
  | zero =>
    intro i fu hm hi hf e43 ex e1 e2 e3
    obtain ⟨fu, rfl⟩ : ∃ q, fu = q + 1 := ⟨fu - 1, by omega⟩
    have : i = 49 := by omega
    subst this
    unfold Md_findFits_l118
    rw [if_pos (show (48 : Int32) ≤ oI 49 by decide)]
    exact ⟨hm, rfl, e2, e3, e43, ex⟩
  | succ c ih =>
    intro i fu hm hi hf e43 ex e1 e2 e3
    obtain ⟨fu, rfl⟩ : ∃ q, fu = q + 1 := ⟨fu - 1, by omega⟩
    have hw := hW i (by omega)
    have ei := e1 i (Nat.le_refl _) (by omega)
    have eq : (if nI (W i) ≤ 0 then some (0 : Int32) else (Md_isFit m y (oI i) hm).bind fun q25 => if q25 = 0 then some (0 : Int32) else (g_ix ((1 : Int32) + oI i) 49).bind fun k27 => some (hm (m + 26) k27) : Option Int32) = some (nI (if fit i = 0 then 0 else W i)) := by
      rw [hfit hm e43 ex i (by omega), Option.bind_some, oI_ix, z_ix (by omega) (by decide), Option.bind_some, ei]
      by_cases c0 : W i = 0
      · rw [c0, if_pos (show nI 0 ≤ 0 by decide)]
        split <;> rfl
      · rw [if_neg (fun e => c0 ((z_le0 (by omega)).1 e))]
        rcases h2 i with hf0 | hf1
        · rw [hf0]; rfl
        · rw [hf1, if_neg (show ¬ nI 1 = 0 by decide), if_neg (by decide)]
    generalize hq : am_up (am_up hm (m + 26) i (nI (if fit i = 0 then 0 else W i))) m 45 (hm m 45 + nI (if fit i = 0 then 0 else W i)) = z1
    have z26 : z1 (m + 26) = upz (hm (m + 26)) i (nI (if fit i = 0 then 0 else W i)) := by rw [← hq, z_upr (by omega), z_ups]
    obtain ⟨hm', a1, a2, a3, a4, a5⟩ := ih (i + 1) fu z1 (by omega) (by omega) (by rw [← hq]; simp (disch := omega) only [z_upr, z_ups, upz_n]; exact e43) (by
        intro x h1 h2
        rw [← hq]; simp (disch := omega) only [z_upr]; exact ex x h1 h2) (by
        intro j h1 h2
        rw [z26, upz_n (by omega)]; exact e1 j (by omega) h2) (by
        intro j hj
        rw [z26]
        by_cases cj : j = i
        · subst cj; rw [upz_s]
        · rw [upz_n cj]; exact e2 j (by omega)) (by
        rw [← hq, z_ups, upz_s, e3, nI_add]
        rfl)
    refine ⟨hm', ?_, a2, a3, a4, a5⟩
    unfold Md_findFits_l118
    rw [if_neg (oI_lt (by omega)), oI_ix, z_ix (by omega) (by decide), Option.bind_some, ei]
    rw [oI_ix, z_ix (by omega) (by decide)] at eq
    rw [eq, Option.bind_some, Option.bind_some, Option.bind_some, oI_1]
    simp (disch := omega) only [z_upr, z_ups, upz_s]
    rw [show am_up (am_up hm (m + 26) i (nI (if fit i = 0 then 0 else W i))) m 45 (hm m 45 + nI (if fit i = 0 then 0 else W i)) = z1 from hq]
    exact a1
end FITS
