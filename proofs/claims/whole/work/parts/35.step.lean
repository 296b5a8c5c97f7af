/-! class and reference, event by event -/
def dyR (l : List (Nat × Nat)) (hc : am_F) (d : Nat) (hm : am_F) (m : Nat) (g : Nat → Int32) (cur cF cH : Nat) (P : Nat → Prop) : Prop :=
  (hc d 0 = hm m 35 ∧ hc d 4 = hm m 36 ∧ hc d 5 = hm m 37 ∧ hc d 6 = hm m 38 ∧ hc d 1 = hm m 39 ∧ hc d 2 = hm m 40) ∧
  (∃ T F H, hm m 39 = nI T ∧ hm m 40 = nI F ∧ T ≤ F ∧ F ≤ cF ∧ hm m 35 = nI H ∧ H ≤ 18 * cH) ∧
  (∀ y, y < 6 → hc (d + 3) y = hm (m + 22) y ∧ hc (d + 4) y = hm (m + 23) y ∧ hc (d + 5) y = hm (m + 19) y ∧ (hm (m + 19) y ≠ -1 → hc (d + 6) y = hm (m + 20) y ∧ (hm (m + 20) y = nI 1 ∨ hm (m + 20) y = nI 2)) ∧ ((hm (m + 21) y = -1 ∧ hc (d + 7) y = 0) ∨ ∃ s, s ≤ cur ∧ hm (m + 21) y = nI s ∧ hc (d + 7) y = if nI s < g (56 + 4 * y) then 0 else 1)) ∧
  rwI l hc (d + 1) 6 14 (nV (g 6)) (hc (d + 2)) ∧
  (∀ k, k < 14 → P k → (∀ c, c < 6 → hc (d + 2) (6 * k + c) = hm (m + 13 + c) k) ∧ (∃ A, A < 4 ∧ hm (m + 13) k = nI A) ∧ (∃ x, x ≤ 9 ∧ hm (m + 15) k = nI x))
theorem cost_le {x : Int32} {st : Nat} (h : zN x 10) (_ : st < 3) : ∃ v, v ≤ 9 ∧ costZ x st = nI v := by
  obtain ⟨n, hn, rfl⟩ := h
  unfold costZ
  split
  · exact ⟨n, by omega, rfl⟩
  · split
    · exact ⟨n / 2, by omega, by rw [show (2 : Int32) = nI 2 from rfl, pk_div (by omega) (by decide) (by decide)]⟩
    · exact ⟨0, by omega, rfl⟩
section DAY
variable {l : List (Nat × Nat)} {r : am_R} {h hc hm : am_F} {a d m p k b t c st hg bl A cur cF cH : Nat} {g f : Nat → Int32} {x y : Int32} {P : Nat → Prop}
theorem choose_eq (H : pkI l hc p g) (eg : hm (m + 12) = g) (V : pkV g) (R : dyR l hc d hm m g cur cF cH P) (hk : k < nV (g 6)) (eb : g (111 + (6 * k + 2)) = nI b) (hb : b < nV (g 3)) (et : g (111 + (6 * k + 1)) = nI t) (hs : st < 3) (h2 : hg < 2) (hl2 : bl < 2) (ecard : Md_hangs m (nI b) (nI t) hm = some (nI hg)) (ebl : Md_believes m hm = some (nI bl)) (hcu : cur < 48) : ∃ c, (c = 0 ∨ c = 1 ∨ c = 3) ∧ Dy_choose l r d p (nI k) (nI st) (nI (if hg = 0 then 0 else if bl = 0 then 0 else 1)) hc = some (nI (actOf c st)) ∧ Md_choice m (nI k) (nI b) (nI t) (nI st) hm = some (nI c) := by
  have h3 := zN_V (pv_nb V) (by decide)
  have hnc := zN_V (pv_nc V) (by decide)
  have hb6 : b < 6 := by omega
  have hk14 : k < 14 := by omega
  obtain ⟨hab, hhab, ehab⟩ := (pv_comer V k hk).1
  have a0 : Rw_get l r (p + 11) (nI k) (nI 0) hc = some (nI hab) := by
    rw [← ehab]
    exact com_at (r := r) (c := 0) H hk (by decide)
  have a1 := com_at (r := r) (c := 1) H hk (by decide)
  have a2 := com_at (r := r) (c := 2) H hk (by decide)
  have a3 := com_at (r := r) (c := 3) H hk (by decide)
  have a4 := com_at (r := r) (c := 4) H hk (by decide)
  have b0 : Md_comer m (nI k) (nI 0) hm = some (nI hab) := by
    rw [← ehab, ← eg]
    exact Md_comer_at (a := m) (h := hm) (p := 0) hk14 (by decide)
  have b3 := Md_comer_at (a := m) (h := hm) (p := 3) hk14 (by decide)
  have b4 := Md_comer_at (a := m) (h := hm) (p := 4) hk14 (by decide)
  rw [et] at a1
  rw [eb] at a2
  rw [eg] at b3 b4
  have zb : g_ix (nI b) 6 = some b := z_ix hb6 (by decide)
  have tf : (if nI st = nI 0 then some (nI 2) else some (nI 1) : Option Int32) = some (nI (actOf 1 st)) := by
    unfold actOf
    rw [if_pos rfl]
    by_cases cs : st = 0
    · subst cs; rfl
    · rw [if_neg (fun e => cs ((nI_eq (by omega) (by decide)).1 e)), if_neg cs]
  obtain ⟨r3, r4, r5, r6, r7⟩ := R.2.2.1 b hb6
  unfold Dy_choose Md_choice
  simp only [z_lits]
  simp only [z_n1]
  simp only [a0, a2, b0, tf, Option.bind_some]
  match hab, hhab with
  | 0, _ =>
    rw [if_pos rfl, if_pos rfl, ecard, Option.bind_some]
    match hg, h2 with
    | 0, _ => exact ⟨3, by decide, rfl, rfl⟩
    | 1, _ =>
      simp only [ebl, Option.bind_some]
      match bl, hl2 with
      | 0, _ => exact ⟨3, by decide, rfl, rfl⟩
      | 1, _ => exact ⟨0, by decide, rfl, rfl⟩
  | 1, _ =>
    rw [if_neg (by decide), if_pos rfl, if_neg (by decide), if_pos rfl]
    exact ⟨1, by decide, rfl, rfl⟩
  | 2, _ =>
    rw [if_neg (by decide), if_neg (by decide), if_pos rfl, if_neg (by decide), if_neg (by decide), if_pos rfl, a1, Option.bind_some]
    unfold Dy_latestPrint
    simp only [z_lits]
    simp only [z_n1]
    rw [if_neg (nI_nlt (Nat.zero_le _) (by omega)), if_neg (nI_ge (by omega) (by omega))]
    simp only [zb, Option.bind_some, r5]
    by_cases c1 : hm (m + 19) b = -1
    · simp only [if_pos c1, Option.bind_some]
      exact ⟨3, by decide, rfl, rfl⟩
    · obtain ⟨r6a, r6b⟩ := r6 c1
      simp only [if_neg c1]
      by_cases c2 : nI t - hm (m + 19) b ≤ nI 3
      · have c2' : ¬ nI 3 < nI t - hm (m + 19) b := Int32.not_lt.2 c2
        simp only [if_pos c2, if_neg c2', Option.bind_some, r6a]
        rcases r6b with e | e
        · simp only [e]
          exact ⟨1, by decide, rfl, rfl⟩
        · simp only [e]
          exact ⟨0, by decide, rfl, rfl⟩
      · have c2' : nI 3 < nI t - hm (m + 19) b := Int32.not_le.1 c2
        simp only [if_neg c2, if_pos c2', Option.bind_some]
        exact ⟨3, by decide, rfl, rfl⟩
  | 3, _ =>
    have ep := Md_painted_at (a := m) (h := hm) hb6
    rw [eg] at ep
    rw [if_neg (by decide), if_neg (by decide), if_neg (by decide), if_pos rfl, Pk_hasBench_at H V hb, if_neg (by decide), if_neg (by decide), if_neg (by decide), if_neg (by decide), if_pos rfl]
    simp only [zb, Option.bind_some, ep]
    rcases r7 with ⟨e1, e2⟩ | ⟨s, hs2, e1, e2⟩
    · rw [e1, e2, if_pos rfl]
      exact ⟨0, by decide, rfl, rfl⟩
    · rw [e1, e2, if_neg (z_nem (by omega))]
      by_cases c1 : nI s < g (56 + 4 * b)
      · rw [if_pos c1, if_pos c1]
        exact ⟨0, by decide, rfl, rfl⟩
      · rw [if_neg c1, if_neg c1]
        exact ⟨3, by decide, rfl, rfl⟩
  | 4, _ =>
    rw [if_neg (by decide), if_neg (by decide), if_neg (by decide), if_neg (by decide), if_neg (by decide), if_neg (by decide), if_neg (by decide), if_neg (by decide)]
    simp only [a3, a4, b3, b4, Option.bind_some, atStage_at hs, costs_at hs]
    by_cases c1 : g (111 + (6 * k + 3)) ≤ costZ (g (111 + (6 * k + 4))) st
    · simp only [if_pos c1]
      exact ⟨0, by decide, rfl, rfl⟩
    · simp only [if_neg c1]
      exact ⟨3, by decide, rfl, rfl⟩
theorem bel_eq (H : pkI l hc p g) (V : pkV g) (R : dyR l hc d hm m g cur cF cH P) (hF : cF < 10000) : ∃ bl, bl < 2 ∧ (hc d 1 * 100 < hc p 2 * hc d 2 ↔ bl = 0) ∧ ∀ h' : am_F, h' (m + 12) = g → h' m = hm m → Md_believes m h' = some (nI bl) := by
  obtain ⟨⟨_, _, _, _, e1, e2⟩, ⟨T, F, HH, eT, eF, hTF, hFc, _, _⟩, _⟩ := R
  obtain ⟨B, hB, eB⟩ := pv_belief V
  have hBF : B * F ≤ 100 * F := Nat.mul_le_mul_right F (by omega)
  have key : nI T * nI 100 < nI B * nI F ↔ T * 100 < B * F := by
    rw [pk_mul, pk_mul, nI_ltI (by omega) (by omega)]
  refine ⟨if T * 100 < B * F then 0 else 1, by split <;> omega, ?_, ?_⟩
  · rw [e1, e2, eT, eF, H.1.2.2.1, eB, show (100 : Int32) = nI 100 from rfl, key]
    split <;> omega
  · intro h' eg em
    unfold Md_believes
    rw [em, eg, eT, eF, eB, show (100 : Int32) = nI 100 from rfl, show nI 100 * nI T = nI T * nI 100 by rw [pk_mul, pk_mul, Nat.mul_comm]]
    by_cases c : F = 0
    · subst c
      rw [if_pos (show nI 0 = 0 from rfl), if_neg (by omega)]
      rfl
    · rw [if_neg (fun e => c ((z_eq0 (by omega)).1 e))]
      by_cases c2 : T * 100 < B * F
      · rw [if_pos (key.2 c2), if_pos c2]; rfl
      · rw [if_neg (fun e => c2 (key.1 e)), if_neg c2]; rfl
theorem rows_pr (hb : b < 6) (hs : st < 3) {R3 R4 R5 R6 Q3 Q4 Q5 Q6 : Nat → Int32} (ht : t < 48) (h3 : ∀ y, y < 6 → R3 y = Q3 y ∧ R4 y = Q4 y ∧ R5 y = Q5 y ∧ (Q5 y ≠ -1 → R6 y = Q6 y ∧ (Q6 y = nI 1 ∨ Q6 y = nI 2))) : ∀ y, y < 6 → p3 R3 b st y = p3 Q3 b st y ∧ p4 R4 b st y = p4 Q4 b st y ∧ p5 R5 b st (nI t) y = p5 Q5 b st (nI t) y ∧ (p5 Q5 b st (nI t) y ≠ -1 → p5 R6 b st (nI st) y = p5 Q6 b st (nI st) y ∧ (p5 Q6 b st (nI st) y = nI 1 ∨ p5 Q6 b st (nI st) y = nI 2)) := by
  intro y hy
  obtain ⟨y3, y4, y5, y6⟩ := h3 y hy
  obtain ⟨b3, b4, b5, b6⟩ := h3 b hb
  unfold p3 p4 p5
  by_cases ey : y = b
  · subst ey
    match st, hs with
    | 0, _ => exact ⟨y3, y4, y5, y6⟩
    | 1, _ => exact ⟨y3, by simp only [if_true, upz_s]; rw [y4], by simp only [upz_s, if_neg (show ¬ 1 = 0 by decide)], fun _ => ⟨by simp only [upz_s, if_neg (show ¬ 1 = 0 by decide)], .inl (by simp only [upz_s, if_neg (show ¬ 1 = 0 by decide)])⟩⟩
    | 2, _ => exact ⟨by simp only [if_true, upz_s]; rw [y3], y4, by simp only [upz_s, if_neg (show ¬ 2 = 0 by decide)], fun _ => ⟨by simp only [upz_s, if_neg (show ¬ 2 = 0 by decide)], .inr (by simp only [upz_s, if_neg (show ¬ 2 = 0 by decide)])⟩⟩
  · match st, hs with
    | 0, _ => exact ⟨y3, y4, y5, y6⟩
    | 1, _ => simp only [if_true, if_neg (show ¬ 1 = 0 by decide), if_neg (show ¬ 1 = 2 by decide), upz_n ey]; exact ⟨y3, y4, y5, y6⟩
    | 2, _ => simp only [if_true, if_neg (show ¬ 2 = 0 by decide), if_neg (show ¬ 2 = 1 by decide), upz_n ey]; exact ⟨y3, y4, y5, y6⟩
end DAY
