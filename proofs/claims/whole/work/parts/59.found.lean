/-! the fits, found -/
section FITS
variable {l : List (Nat × Nat)} {r : am_R} {h h' hc hm hc0 hm0 : am_F} {d m k p b t s lim a q c i nb nc z j N : Nat} {n : Nat → Nat} {H w W fit : Nat → Nat} {f g g' : Nat → Int32} {x x1 x2 x3 x4 y u v sd : Int32}
theorem fS_all (hH : ∀ t, t < N → H t < 49) : fS 49 (fW N H w) = fS N w := by
  have := fS_swap (fun _ => True) H w 49 N hH
  simp only [if_true] at this
  exact this
theorem find_eq (K : pkI l hc p g) (V : pkV g) (hp : p + 12 < 66) (eg : hm (m + 12) = g) (R : rwI l hc z 3 10 s f) (hz : z + 1 < 66) (P : prV f s) (e43 : hm m 43 = nI q) (hq : q < 8) (e7 : hm (m + 7) (31 * q) = nI s) (ef : f = fun i => hm (m + 7) (31 * q + 1 + i)) (hb : b < nV (g 3)) : ∃ hc' hm' N H w, Fi_find l r 100 p z (nI b) hc = some (hc', am_up r 100 6 (some p)) ∧ Md_findFits m (nI b) hm = some hm' ∧ fI hc' N H w ∧ (∀ j, j < 49 → hm' (m + 26) j = nI (fW N H w j)) ∧ hm' m 45 = nI (fS N w) ∧ hc' 100 5 = lastR f (nI b) s 0 0 ∧ hm' m 43 = nI q ∧ (∀ x, x ≠ 100 → x ≠ 102 → x ≠ 103 → hc' x = hc x) ∧ ∀ x, x ≠ m → x ≠ m + 26 → hm' x = hm x := by
  have h3 := zN_V (pv_nb V) (by decide)
  have hs := R.2.2.2.1
  generalize hr' : am_up r 100 6 (some p) = r'
  have er : r' 100 6 = some p := by rw [← hr', z_up, if_pos ⟨rfl, rfl⟩]
  generalize hh0 : am_up (am_up (am_up hc 100 0 0) 100 4 0) 100 5 0 = h0
  have h0x : ∀ x, x ≠ 100 → h0 x = hc x := by intro x hx; rw [← hh0]; simp (disch := omega) only [z_upr]
  have h05 : h0 100 5 = 0 := by rw [← hh0, z_ups, upz_s]
  have el := lastC (r := r') (p := p) (y := nI b) R (by omega) (by omega) s 0 g_fu h0 (by omega) (by unfold g_fu; omega) h0x
  rw [h05] at el
  generalize hh1 : am_up h0 100 5 (lastR f (nI b) s 0 0) = h1 at el
  have h1x : ∀ x, x ≠ 100 → h1 x = hc x := by intro x hx; rw [← hh1, z_upr hx]; exact h0x x hx
  have h15 : h1 100 5 = lastR f (nI b) s 0 0 := by rw [← hh1, z_ups, upz_s]
  have h14 : h1 100 4 = nI 0 := by rw [← hh1, ← hh0]; simp (disch := omega) only [z_ups, upz_s, upz_n]; rfl
  have h10 : h1 100 0 = nI 0 := by rw [← hh1, ← hh0]; simp (disch := omega) only [z_ups, upz_s, upz_n]; rfl
  have K1 : pkI l h1 p g := pkI_fr K (fun x _ _ => h1x x (by omega))
  have fC : ∀ hc', (∀ x, x ≠ 100 → x ≠ 102 → x ≠ 103 → hc' x = h1 x) → ∀ j, j < 49 → Fi_isFit l r' 100 (oI j) z (nI b) hc' = some (nI (fitR g f (oI j) (nI b) s 0)) := by
    intro hc' e j hj
    have K2 : pkI l hc' p g := pkI_fr K1 (fun x _ _ => e x (by omega) (by omega) (by omega))
    have R2 : rwI l hc' z 3 10 s f := rwI_fr R (by rw [e z (by omega) (by omega) (by omega), h1x z (by omega)]) (by rw [e _ (by omega) (by omega) (by omega), h1x _ (by omega)])
    exact fitC K2 V R2 P er (oI_P hj) s 0 g_fu (by omega) (by unfold g_fu; omega)
  have f2 : ∀ j, fitR g f (oI j) (nI b) s 0 = 0 ∨ fitR g f (oI j) (nI b) s 0 = 1 := fun j => fitR_2 s 0
  obtain ⟨m1, b1, b2, _, b4⟩ := clr_l (m := m) (y := nI b) (u := 0) 49 0 g_fu hm (by omega) (by unfold g_fu; omega)
  obtain ⟨hc2, hm2, N2, H2, w2, W2, u', v', k1, k2, k3, k4, k5, k6, k7, k8⟩ := maybe_l (r := r') (z := z) (m := m) (y := nI b) (fit := fun j => fitR g f (oI j) (nI b) s 0) K1 V hp f2 fC (nV (g 4)) 0 g_fu g_fu h1 m1 0 (fun _ => 0) (fun _ => 0) (fun _ => 0) 1 0 (by omega) (by have := (zN_V (pv_nm V) (by decide)).2; unfold g_fu; omega) (by have := (zN_V (pv_nm V) (by decide)).2; unfold g_fu; omega) ⟨h14, by decide, h10, fun t ht => by omega⟩ (by omega) ⟨rfl, fun _ _ _ _ => rfl⟩ (by rw [b4 _ (by omega)]; exact eg) (fun j hj => ⟨b2 j (by omega) hj, by omega⟩) (fun j _ => by show (0 : Nat) = _; split <;> rfl) (.inl ⟨rfl, rfl, rfl, fun _ _ => rfl⟩)
  have K2 : pkI l hc2 p g := pkI_fr K1 (fun x _ _ => k7.2 x (by omega) (by omega) (by omega))
  have eg2 : hm2 (m + 12) = g := by rw [k8 _ (by omega), b4 _ (by omega)]; exact eg
  have mid : ∃ (hc3 hm3 : am_F) (N3 : Nat) (H3 w3 W3 : Nat → Nat), (if u' = 0 then some (hc2, r') else if (Pk_hasBench p (nI b) hc2) = 0 then some (hc2, r') else (g_ix (nI b) 6).bind fun k22 => (Fi_weigh l r' 100 (hc2 (p + 4) k22) 1 z (nI b) hc2).bind fun q23 => some (q23, r')) = some (hc3, r') ∧ (if v' = 0 then (Md_painted m (nI b) hm2).bind fun q18 => (g_ix ((1 : Int32) + q18) 49).bind fun k19 => some (am_up hm2 (m + 26) k19 (1 : Int32)) else some hm2 : Option am_F) = some hm3 ∧ fI hc3 N3 H3 w3 ∧ (∀ j, j < 49 → hm3 (m + 26) j = nI (W3 j) ∧ W3 j ≤ 72) ∧ (∀ j, j < 49 → fW N3 H3 w3 j = if fitR g f (oI j) (nI b) s 0 = 0 then 0 else W3 j) ∧ frF hc2 hc3 ∧ ∀ x, x ≠ m + 26 → hm3 x = hm2 x := by
    rcases k3 with ⟨rfl, rfl, rfl, hW⟩ | ⟨rfl, rfl⟩
    · obtain ⟨j0, hj0, ej⟩ := oI_of (pv_bench V b (by omega)).1
      obtain ⟨hc3, N3, H3, w3, a1, a2, a3, a4, a5, a6⟩ := weigh_eq (l := l) (r := r') (z := z) (y := nI b) (w0 := 1) (j := j0) k4 (by decide) hj0 (by decide) (by decide) (fC hc2 k7.2 j0 hj0) (f2 _)
      refine ⟨hc3, am_up hm2 (m + 26) j0 1, N3, H3, w3, fun j => if j = j0 then 1 else 0, ?_, ?_, a2, ?_, ?_, ⟨a5, a6⟩, fun x hx => z_upr hx⟩
      · rw [if_neg (show ¬ (1 : Int32) = 0 by decide), Pk_hasBench_at K2 V hb, if_neg (show ¬ (1 : Int32) = 0 by decide), z_ix (show b < 6 by omega) (by decide), Option.bind_some, (K2.2.2.2.2.1 b (by omega)).1, ej, show Fi_weigh l r' 100 (oI j0) 1 z (nI b) hc2 = some hc3 from a1]
        rfl
      · rw [if_pos rfl, Md_painted_at (by omega), Option.bind_some, eg2, ej, oI_ix, z_ix hj0 (by decide)]
        rfl
      · intro j hj
        rw [z_ups]
        show _ = nI (if j = j0 then 1 else 0) ∧ (if j = j0 then 1 else 0) ≤ 72
        by_cases cj : j = j0
        · subst cj; rw [upz_s, if_pos rfl]; exact ⟨rfl, by decide⟩
        · rw [upz_n cj, if_neg cj, (k5 j hj).1, hW j hj]; exact ⟨rfl, by decide⟩
      · intro j hj
        rw [a4 j, k6 j hj, hW j hj]
        by_cases cj : j = j0
        · subst cj
          simp only [if_true]
          split <;> rfl
        · simp only [if_neg cj, Nat.add_zero]
    · exact ⟨hc2, hm2, N2, H2, w2, W2, by rw [if_pos rfl], by rw [if_neg (show ¬ (1 : Int32) = 0 by decide)], k4, k5, k6, ⟨rfl, fun _ _ _ _ => rfl⟩, fun _ _ => rfl⟩
  obtain ⟨hc3, hm3, N3, H3, w3, W3, c1, c2, c3, c4, c5, c6, c7⟩ := mid
  have m3x : ∀ x, x ≠ m + 26 → hm3 x = hm x := by intro x hx; rw [c7 x hx, k8 x hx, b4 x hx]
  generalize hz0 : am_up hm3 m 45 0 = z0
  have z0x : ∀ x, x ≠ m → x ≠ m + 26 → z0 x = hm x := by intro x h1 h2; rw [← hz0, z_upr h1, m3x x h2]
  have z43 : z0 m 43 = nI q := by rw [← hz0, z_ups, upz_n (by decide), m3x m (by omega)]; exact e43
  have fM : ∀ hm', hm' m 43 = z0 m 43 → (∀ x, x ≠ m → x ≠ m + 26 → hm' x = z0 x) → ∀ j, j < 49 → Md_isFit m (nI b) (oI j) hm' = some (nI (fitR g f (oI j) (nI b) s 0)) := by
    intro hm' e1 e2 j hj
    have g12 : hm' (m + 12) = g := by rw [e2 _ (by omega) (by omega), z0x _ (by omega) (by omega)]; exact eg
    have g7 : hm' (m + 7) = hm (m + 7) := by rw [e2 _ (by omega) (by omega), z0x _ (by omega) (by omega)]
    have := fitM (h := hm') (m := m) (y := nI b) (x := oI j) (q := q) (s := s) (f := f) (by rw [g12]; exact V) (by rw [e1]; exact z43) hq (by omega) (by rw [g7]; exact e7) (by rw [g7]; exact ef) P (oI_P hj) s 0 g_fu (by omega) (by unfold g_fu; omega)
    rw [g12] at this
    exact this
  obtain ⟨hm', d1, d2, d3, d4, d5⟩ := fin_l (m := m) (y := nI b) (hm0 := z0) (W := W3) (fit := fun j => fitR g f (oI j) (nI b) s 0) f2 fM (fun j hj => (c4 j hj).2) 49 0 g_fu z0 (by omega) (by unfold g_fu; omega) rfl (fun _ _ _ => rfl) (fun j _ hj => by rw [← hz0, z_upr (by omega)]; exact (c4 j hj).1) (fun j hj => by omega) (by rw [← hz0, z_ups, upz_s]; rfl)
  have eS : fS 49 (fun j => if fitR g f (oI j) (nI b) s 0 = 0 then 0 else W3 j) = fS N3 w3 := by
    rw [← fS_all (N := N3) (H := H3) (w := w3) (fun t ht => (c3.2.2.2 t ht).2.1)]
    exact fS_congr (fun j hj => (c5 j hj).symm)
  refine ⟨hc3, hm', N3, H3, w3, ?_, ?_, c3, fun j hj => by rw [d2 j hj, c5 j hj], by rw [d3, eS], by rw [c6.1, k7.1, h15], by rw [d4, z43], ?_, fun x h1 h2 => by rw [d5 x h1 h2, z0x x h1 h2]⟩
  · unfold Fi_find
    rw [hr', hh0, show Fi_find_l23 l r' 100 p z (nI b) g_fu 0 h0 = some h1 from el, Option.bind_some, show Fi_find_l73 l r' 100 p z (nI b) g_fu 1 0 h1 = some (u', hc2) from k1, Option.bind_some]
    exact c1
  · unfold Md_findFits
    rw [show Md_findFits_l4 m (nI b) 0 g_fu 0 hm = some m1 from b1, Option.bind_some, show Md_findFits_l25 m (nI b) g_fu 0 0 m1 = some (v', hm2) from k2, Option.bind_some]
    simp only
    rw [c2, Option.bind_some, hz0, ← oI_0, d1]
    rfl
  · intro x h1 h2 h3
    rw [c6.2 x h1 h2 h3, k7.2 x h1 h2 h3, h1x x h1]
end FITS
