/-! the order: class and reference -/
section ORDER
variable {l : List (Nat × Nat)} {r : am_R} {m nb s x i p : Nat} {hm hc : am_F} {g : Nat → Int32} {n : Nat → Nat} {x1 x2 x3 : Int32}
theorem mx_at {a b : Nat} (ha : a < 2 ^ 31) (hb : b < 2 ^ 31) : (if nI a < nI b then nI b else nI a) = nI (max a b) := by
  by_cases c : a < b
  · rw [if_pos (nI_lt c hb), Nat.max_eq_right (by omega)]
  · rw [if_neg (nI_nlt (by omega) ha), Nat.max_eq_left (by omega)]
theorem tot_l (V : pkV g) (hn : nV (g 3) = nb) (h6 : nb ≤ 6) (K : pkI l hc p g) {x0 : Nat} {x2 : Int32} : ∀ (c i fu : Nat), i + c = nb → c < fu → Pa_choose_l46 x0 p x2 hc fu (nI (sumF (hrN g) i)) (nI i) = some (nI (sumF (hrN g) nb)) := by
  have e3 : hc p 3 = nI nb := by rw [K.1.2.2.2, (zN_V (pv_nb V) (by decide)).1, hn]
  intro c
  induction c with
  | zero =>
    intro i fu hi hf
    obtain ⟨fu, rfl⟩ : ∃ q, fu = q + 1 := ⟨fu - 1, by omega⟩
    unfold Pa_choose_l46
    rw [e3, if_pos (nI_le (by omega) (by omega)), show i = nb by omega]
  | succ c ih =>
    intro i fu hi hf
    obtain ⟨fu, rfl⟩ : ∃ q, fu = q + 1 := ⟨fu - 1, by omega⟩
    unfold Pa_choose_l46
    rw [e3, if_neg (nI_ge (by omega) (by omega)), hours_at K V (by omega), Option.bind_some, nI_add, nI_1]
    exact ih (i + 1) fu (by omega) (by omega)
theorem last_l (V : pkV g) (hn : nV (g 3) = nb) (h2 : 2 ≤ nb) (h6 : nb ≤ 6) (hp : p + 12 < 66) (hs : s < 48) {A : Nat} (hA : A < nb) : ∀ (Z fu : Nat) (h : am_F), Z ≤ nb → Z < fu → pkI l h p g → chI h g s nb A Z → ∃ h', Pa_choose_l104 104 p (nI s) (nI (sumF (hrN g) nb)) (nI A) (nI (dA g (s + hrN g A))) fu (nI Z - 1) h = some h' ∧ chI h' g s nb A 0 ∧ ∀ y, y ≠ 104 → h' y = h y := by
  have hT : sumF (hrN g) nb ≤ 18 := Nat.le_trans (sumF_le (B := 3) (fun k hk => (hrN_le V (by omega)).2)) (by omega)
  have hD : dA g (s + hrN g A) ≤ 401 := dA_le
  intro Z
  induction Z with
  | zero =>
    intro fu h hZ hf K C
    obtain ⟨fu, rfl⟩ : ∃ q, fu = q + 1 := ⟨fu - 1, by omega⟩
    unfold Pa_choose_l104
    rw [if_pos (show nI 0 - 1 < 0 by decide)]
    exact ⟨h, rfl, C, fun _ _ => rfl⟩
  | succ Z ih =>
    intro fu h hZ hf K C
    obtain ⟨fu, rfl⟩ : ∃ q, fu = q + 1 := ⟨fu - 1, by omega⟩
    have hz := hrN_le V (show Z < nV (g 3) by omega)
    have hzs : hrN g Z ≤ sumF (hrN g) nb := by
      have : ∀ k, Z < k → hrN g Z ≤ sumF (hrN g) k := by
        intro k
        induction k with
        | zero => intro e; omega
        | succ k ihk =>
          intro e
          show _ ≤ sumF (hrN g) k + hrN g k
          by_cases q : Z = k
          · subst q; omega
          · have := ihk (by omega); omega
      exact this nb (by omega)
    have eF : finN g s nb A Z = dA g (max (s + sumF (hrN g) nb - hrN g Z) (dA g (s + hrN g A)) + hrN g Z) := by
      unfold finN
      rw [if_neg (by omega)]
    have hF : finN g s nb A Z ≤ 401 := by rw [eF]; exact dA_le
    unfold Pa_choose_l104
    rw [nI_pred, if_neg (nI_pos (show Z < 2 ^ 31 by omega)), hours_at K V (by omega), Option.bind_some, Option.bind_some, nI_add, pk_sub (by omega), mx_at (by omega) (by omega), nI_add, dryA_at K V (by omega), Option.bind_some, ← eF, z_dec]
    by_cases c1 : Z = A
    · rw [if_pos (by rw [c1]), Option.bind_some]
      exact ih fu h (by omega) (by omega) K (ch_keep C (fun a z k1 k2 k3 k4 k5 => by unfold visP at k4 k5; omega))
    · rw [if_neg (fun e => c1 ((nI_eq (by omega) (by omega)).1 e))]
      by_cases c2 : h 104 0 ≤ nI (finN g s nb A Z)
      · rw [if_pos c2, Option.bind_some]
        refine ih fu h (by omega) (by omega) K (ch_keep C (fun a z k1 k2 k3 k4 k5 => ?_))
        have : a = A ∧ z = Z := by unfold visP at k4 k5; omega
        obtain ⟨v, v1, v2, _⟩ := ch_le C
        refine ⟨v, v1, v2, ?_⟩
        rw [v1] at c2
        rw [this.1, this.2]
        exact (nI_leI (by omega) (by omega)).1 c2
      · rw [if_neg c2, Option.bind_some]
        have C2 : chI (am_up (am_up (am_up h 104 0 (nI (finN g s nb A Z))) 104 1 (nI A)) 104 2 (nI Z)) g s nb A Z := ch_take C hA (by omega) (fun e => c1 e.symm) (Int32.not_le.1 c2) (by simp only [z_ups]; rw [upz_n (by decide), upz_n (by decide), upz_s]) (by simp only [z_ups]; rw [upz_n (by decide), upz_s]) (by simp only [z_ups]; rw [upz_s]) hF
        have fr : ∀ y, y ≠ 104 → (am_up (am_up (am_up h 104 0 (nI (finN g s nb A Z))) 104 1 (nI A)) 104 2 (nI Z)) y = h y := fun y hy => by rw [z_upr hy, z_upr hy, z_upr hy]
        obtain ⟨h', k1, k2, k3⟩ := ih fu _ (by omega) (by omega) (pkI_fr K (fun x _ _ => fr x (by omega))) C2
        exact ⟨h', k1, k2, fun y hy => by rw [k3 y hy, fr y hy]⟩
theorem first_l (V : pkV g) (hn : nV (g 3) = nb) (h2 : 2 ≤ nb) (h6 : nb ≤ 6) (hp : p + 12 < 66) (hs : s < 48) : ∀ (c A fu : Nat) (h : am_F), A + c = nb → c < fu → pkI l h p g → chI h g s nb A nb → ∃ h', Pa_choose_l73 104 p (nI s) (nI (sumF (hrN g) nb)) fu (nI A) h = some h' ∧ chI h' g s nb nb nb ∧ ∀ y, y ≠ 104 → h' y = h y := by
  intro c
  induction c with
  | zero =>
    intro A fu h hA hf K C
    obtain ⟨fu, rfl⟩ : ∃ q, fu = q + 1 := ⟨fu - 1, by omega⟩
    have e3 : h p 3 = nI nb := by rw [K.1.2.2.2, (zN_V (pv_nb V) (by decide)).1, hn]
    unfold Pa_choose_l73
    rw [e3, if_pos (nI_le (by omega) (by omega))]
    rw [show A = nb by omega] at C
    exact ⟨h, rfl, C, fun _ _ => rfl⟩
  | succ c ih =>
    intro A fu h hA hf K C
    obtain ⟨fu, rfl⟩ : ∃ q, fu = q + 1 := ⟨fu - 1, by omega⟩
    have e3 : h p 3 = nI nb := by rw [K.1.2.2.2, (zN_V (pv_nb V) (by decide)).1, hn]
    have hz := hrN_le V (show A < nV (g 3) by omega)
    obtain ⟨h', k1, k2, k3⟩ := last_l (l := l) V hn h2 h6 hp hs (show A < nb by omega) nb g_fu h (Nat.le_refl _) (by unfold g_fu; omega) K C
    unfold Pa_choose_l73
    rw [e3, if_neg (nI_ge (by omega) (by omega)), hours_at K V (by omega), Option.bind_some, nI_add, dryA_at K V (by omega), Option.bind_some, k1, Option.bind_some, nI_1]
    obtain ⟨h'', j1, j2, j3⟩ := ih (A + 1) fu h' (by omega) (by omega) (pkI_fr K (fun x _ _ => k3 x (by omega))) (ch_keep k2 (fun a z q1 q2 q3 q4 q5 => by unfold visP at q4 q5; omega))
    exact ⟨h'', j1, j2, fun y hy => by rw [j3 y hy, k3 y hy]⟩
/-- what both searches end with -/
def ordR (h : am_F) (nb : Nat) (v5 v6 : Int32) : Prop := (v5 = -1 ∧ ¬ h 104 0 ≤ 400) ∨ ∃ a z B, a < nb ∧ z < nb ∧ (nb = 1 ∨ a ≠ z) ∧ h 104 0 = nI B ∧ v6 = nI B ∧ B ≤ 400 ∧ h 104 1 = nI a ∧ h 104 2 = nI z ∧ v5 = nI (repN nb a z)
theorem ord_core {h : am_F} {v5 v6 : Int32} (h2 : 2 ≤ nb) (h6 : nb ≤ 6) (I : bstI g s nb (6 ^ nb) v5 v6) (C : chI h g s nb nb nb) : ordR h nb v5 v6 := by
  have ends : ∀ x, x < 6 ^ nb → vdB nb x = true → dgN nb x 0 < nb ∧ dgN nb x (nb - 1) < nb ∧ dgN nb x 0 ≠ dgN nb x (nb - 1) ∧ repN nb (dgN nb x 0) (dgN nb x (nb - 1)) ≤ x := by
    intro x hx hv
    have G := ln_good (by omega) h6 hx hv
    exact ⟨ln_lt G (by omega), ln_lt G (by omega), ln_inj G (by omega) (by omega) (by omega), ln_rep G⟩
  rcases C with ⟨c1, c2⟩ | ⟨a0, z0, d1, d2, d3, d4, d5, d6, d7, d8, d9⟩
  · left
    refine ⟨?_, by rw [c1]; decide⟩
    rcases I with ⟨e1, e2, e3⟩ | ⟨w, w1, w2, w3, w4, w5, w6⟩
    · exact e1
    · obtain ⟨k1, k2, k3, k4⟩ := ends w w1 w4.1
      have := c2 _ _ k1 k2 k3 (.inl k1)
      have := w4.2
      unfold lnF at this
      omega
  · right
    obtain ⟨⟨f1, f2, f3, f4⟩, f5⟩ := rep_facts (n := nb) (by omega) d1 d2 (.inr d3)
    have fF : lnF g s nb (repN nb a0 z0) = finN g s nb a0 z0 := by unfold lnF; rw [f3, f4]
    have fok : lnOk g s nb (repN nb a0 z0) := ⟨f2, by rw [fF]; exact d7⟩
    rcases I with ⟨e1, e2, e3⟩ | ⟨w, w1, w2, w3, w4, w5, w6⟩
    · exact absurd fok (e3 _ f1)
    · obtain ⟨k1, k2, k3, k4⟩ := ends w w1 w4.1
      have q1 := w5 _ f1 fok
      rw [fF] at q1
      have q2 : finN g s nb a0 z0 ≤ lnF g s nb w := d8 _ _ k1 k2 k3 (.inl k1)
      have q3 : lnF g s nb w = finN g s nb a0 z0 := by omega
      have q4 : w ≤ repN nb a0 z0 := by
        by_cases c : w ≤ repN nb a0 z0
        · exact c
        · have := w6 _ (Nat.lt_of_not_le c) fok
          rw [fF] at this
          omega
      have q5 : ¬ visP a0 (z0 + 1) (dgN nb w 0) (dgN nb w (nb - 1)) := by
        intro hv
        have := d9 _ _ k1 k2 k3 hv
        unfold lnF at q3
        omega
      have q6 : repN nb a0 z0 ≤ repN nb (dgN nb w 0) (dgN nb w (nb - 1)) := by
        unfold visP at q5
        by_cases ca : a0 < dgN nb w 0
        · exact rep_a (by omega) k1 k2 ca d2 k3 d3
        · have ea : dgN nb w 0 = a0 := by omega
          rw [ea] at k3 ⊢
          by_cases cz : dgN nb w (nb - 1) = z0
          · rw [cz]; exact Nat.le_refl _
          · exact rep_z (by omega) d1 d2 (by omega) d3 k3
      exact ⟨a0, z0, _, d1, d2, .inr d3, d4, by rw [w3, q3], d7, d5, d6, by rw [w2, show w = repN nb a0 z0 by omega]⟩
theorem ord_one {h : am_F} {v5 v6 : Int32} (I : bstI g s 1 (6 ^ 1) v5 v6) (e0 : h 104 0 = nI (dA g (s + hrN g 0))) (e1 : h 104 1 = nI 0) (e2 : h 104 2 = nI 0) : ordR h 1 v5 v6 := by
  have fF : ∀ w, lnF g s 1 w = dA g (s + hrN g 0) := fun w => by unfold lnF finN; rw [if_pos rfl]
  have hD : dA g (s + hrN g 0) ≤ 401 := dA_le
  have r0 : repN 1 0 0 = 0 := by decide
  rcases I with ⟨k1, k2, k3⟩ | ⟨w, w1, w2, w3, w4, w5, w6⟩
  · left
    refine ⟨k1, fun q => k3 0 (by decide) ⟨by decide, ?_⟩⟩
    rw [fF]
    rw [e0] at q
    exact (nI_leI (by omega) (by decide)).1 (show nI (dA g (s + hrN g 0)) ≤ nI 400 from q)
  · right
    refine ⟨0, 0, dA g (s + hrN g 0), by decide, by decide, .inl rfl, e0, by rw [w3, fF], ?_, e1, e2, ?_⟩
    · have := w4.2
      rw [fF] at this
      exact this
    · rw [r0, w2]
      by_cases c : w = 0
      · rw [c]
      · have := w6 0 (by omega) ⟨by decide, by rw [fF, ← fF w]; exact w4.2⟩
        rw [fF, fF] at this
        omega
theorem bench_at {h : am_F} {a z : Nat} (e1 : h 104 1 = nI a) (e2 : h 104 2 = nI z) {x y : Int32} : Pa_benchAt 104 x y h = Pa_benchAt 0 x y (bhp a z) := by
  have b1 : bhp a z 0 1 = nI a := if_pos rfl
  have b2 : bhp a z 0 2 = nI z := if_neg (by decide)
  have L : ∀ fu x3 x4, Pa_benchAt_l26 104 x y h fu x3 x4 = Pa_benchAt_l26 0 x y (bhp a z) fu x3 x4 := by
    intro fu
    induction fu with
    | zero => intro x3 x4; rfl
    | succ fu ih =>
      intro x3 x4
      unfold Pa_benchAt_l26
      simp only [e1, e2, b1, b2, ih]
  unfold Pa_benchAt
  rw [e1, e2, b1, b2, L]
end ORDER
