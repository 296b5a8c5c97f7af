/-! a comer, a pigeon: class and reference keep step -/
/-- what a step of the class leaves as it is -/
def frC (hc hc' : am_F) (d : Nat) : Prop := hc' d 14 = hc d 14 ∧ ∀ x, x < d ∨ d + 8 ≤ x → hc' x = hc x
/-- what a step of the reference leaves as it is -/
def frM (hm hm' : am_F) (m : Nat) : Prop := (∀ y, y < 35 ∨ 40 < y → hm' m y = hm m y) ∧ ∀ x, x < m ∨ (m < x ∧ x < m + 13) ∨ m + 24 ≤ x → hm' x = hm x
theorem frC_tr {h1 h2 h3 : am_F} {d : Nat} (a : frC h1 h2 d) (b : frC h2 h3 d) : frC h1 h3 d := ⟨b.1.trans a.1, fun x hx => (b.2 x hx).trans (a.2 x hx)⟩
theorem frM_tr {h1 h2 h3 : am_F} {m : Nat} (a : frM h1 h2 m) (b : frM h2 h3 m) : frM h1 h3 m := ⟨fun y hy => (b.1 y hy).trans (a.1 y hy), fun x hx => (b.2 x hx).trans (a.2 x hx)⟩
theorem frC_id {h : am_F} {d : Nat} : frC h h d := ⟨rfl, fun _ _ => rfl⟩
theorem frM_id {h : am_F} {m : Nat} : frM h h m := ⟨fun _ _ => rfl, fun _ _ => rfl⟩
section DAY
variable {l : List (Nat × Nat)} {r : am_R} {h hc hm : am_F} {a d m p k b t c st hg bl A cur cF cH : Nat} {g f : Nat → Int32} {x y : Int32} {P : Nat → Prop}
theorem costA_le (V : pkV g) (hk : k < nV (g 6)) (hs : st < 3) : ∃ v, v ≤ 9 ∧ costA g k A st = nI v := by
  obtain ⟨_, _, _, _, h4, h5⟩ := pv_comer V k hk
  unfold costA
  split
  · exact cost_le h4 hs
  · split
    · exact cost_le h5 hs
    · exact ⟨0, by omega, rfl⟩
theorem missA_le (V : pkV g) (hk : k < nV (g 6)) : ∃ v, v ≤ 9 ∧ missA g k A st = nI v := by
  obtain ⟨_, _, _, ⟨n, hn, e⟩, _, _⟩ := pv_comer V k hk
  unfold missA
  split
  · exact ⟨n, by omega, e⟩
  · exact ⟨0, by omega, rfl⟩
set_option maxHeartbeats 4000000 in
theorem step_comer (R : dyR l hc d hm m g cur cF cH P) (H : pkI l hc p g) (V : pkV g) (eg : hm (m + 12) = g) (ap : p + 12 < d ∨ d + 10 ≤ p) (hk : k < nV (g 6)) (et : g (111 + (6 * k + 1)) = nI t) (ht : t < 48) (hct : cur ≤ t) (hF : cF < 9000) : ∃ hc' hm', Dy_come l r d p (nI k) hc = some hc' ∧ Md_comes m (nI k) hm = some hm' ∧ dyR l hc' d hm' m g t (cF + 1) (cH + 1) (fun j => P j ∨ j = k) ∧ frC hc hc' d ∧ frM hm hm' m := by
  have h3 := zN_V (pv_nb V) (by decide)
  have hnc := zN_V (pv_nc V) (by decide)
  obtain ⟨b, hb, eb⟩ := (pv_comer V k hk).2.2.1
  have hb6 : b < 6 := by omega
  have hk14 : k < 14 := by omega
  have hs : stX g (g (56 + 4 * b)) t < 3 := stN_lt _ _
  obtain ⟨hg, h2, ec1, ec2⟩ := card_at (a := m) (x := nI t) H V hb
  obtain ⟨bl, hl2, eb1, eb2⟩ := bel_eq H V R (by omega)
  obtain ⟨c, hc3, ech1, ech2⟩ := choose_eq (r := r) H eg V R hk eb hb et hs h2 hl2 (ec2 hm eg) (eb2 hm eg rfl) (by omega)
  have hA4 : actOf c (stX g (g (56 + 4 * b)) t) < 4 := by
    unfold actOf
    split
    · split <;> omega
    · omega
  obtain ⟨hc', e1, c0, c4, c5, c6, c1, c2, c14, cd1, cd2, cd3, cd4, cd5, cd6, cd7, cx⟩ := come_C H V R.2.2.2.1 ap hk eb hb et ht rfl h2 hl2 hA4 ec1 eb1 ech1
  obtain ⟨hm', e2, m35, m36, m37, m38, m39, m40, mf, m13, m14, ⟨m15k, m15⟩, m16, m17, m18, m22, m23, m19, m20, m21, mx⟩ := come_M eg V hk eb hb et ht rfl h2 hl2 ec2 eb2 hc3 ech2 rfl
  obtain ⟨⟨q0, q4, q5, q6, q1, q2⟩, ⟨T, F, HH, eT, eF, hTF, hFc, eH, hHc⟩, q7, q8, q9⟩ := R
  refine ⟨hc', hm', e1, e2, ⟨⟨?_, ?_, ?_, ?_, ?_, ?_⟩, ?_, ?_, ?_, ?_⟩, ⟨c14, cx⟩, ⟨mf, mx⟩⟩
  · rw [c0, m35, q0]
  · rw [c4, m36, q4]
  · rw [c5, m37, q5]
  · rw [c6, m38, q6]
  · rw [c1, m39, q1]
  · rw [c2, m40, q2]
  · obtain ⟨v1, hv1, ev1⟩ := costA_le (A := actOf c (stX g (g (56 + 4 * b)) t)) V hk hs
    obtain ⟨v2, hv2, ev2⟩ := missA_le (A := actOf c (stX g (g (56 + 4 * b)) t)) (st := stX g (g (56 + 4 * b)) t) V hk
    refine ⟨if actOf c (stX g (g (56 + 4 * b)) t) ≠ 0 ∧ hg = 1 then T + (if stX g (g (56 + 4 * b)) t = 0 then 0 else 1) else T, if actOf c (stX g (g (56 + 4 * b)) t) ≠ 0 ∧ hg = 1 then F + 1 else F, HH + (v1 + v2), ?_, ?_, ?_, ?_, ?_, ?_⟩
    · rw [m39, eT]
      split
      · split
        · rw [Int32.add_zero]; rfl
        · rw [nI_1]
      · rfl
    · rw [m40, eF]
      split
      · rw [nI_1]
      · rfl
    · split
      · split <;> omega
      · omega
    · split <;> omega
    · rw [m35, eH, ev1, ev2, nI_add, nI_add]
    · omega
  · have key := rows_pr (t := t) hb6 hs ht (fun y hy => ⟨(q7 y hy).1, (q7 y hy).2.1, (q7 y hy).2.2.1, (q7 y hy).2.2.2.1⟩)
    intro y hy
    obtain ⟨y3, y4, y5, y6, y7⟩ := q7 y hy
    have sat : (hm' (m + 21) y = -1 ∧ hc' (d + 7) y = 0) ∨ ∃ s, s ≤ t ∧ hm' (m + 21) y = nI s ∧ hc' (d + 7) y = if nI s < g (56 + 4 * y) then 0 else 1 := by
      rw [cd7, m21]
      by_cases cA : actOf c (stX g (g (56 + 4 * b)) t) < 2
      · rw [if_pos cA, if_pos (.inl cA)]
        rcases y7 with h | ⟨s, hs1, h⟩
        · exact .inl h
        · exact .inr ⟨s, by omega, h⟩
      · rw [if_neg cA]
        by_cases ey : y = b
        · subst ey
          rw [upz_s]
          refine .inr ⟨t, by omega, rfl, ?_⟩
          by_cases cp : nI t < g (56 + 4 * y)
          · rw [if_pos (.inr cp), if_pos cp]
            rcases y7 with h | ⟨s, hs1, h1, h⟩
            · exact h.2
            · rw [h, if_pos]
              refine Int32.lt_of_le_of_lt ?_ cp
              exact nI_le (by omega) (by omega)
          · rw [if_neg (fun e => e.elim cA cp), if_neg cp, upz_s]
        · rw [upz_n ey]
          have : (if actOf c (stX g (g (56 + 4 * b)) t) < 2 ∨ nI t < g (56 + 4 * b) then hc (d + 7) else upz (hc (d + 7)) b 1) y = hc (d + 7) y := by
            split
            · rfl
            · exact upz_n ey
          rw [this]
          rcases y7 with h | ⟨s, hs1, h⟩
          · exact .inl h
          · exact .inr ⟨s, by omega, h⟩
    rw [cd3, cd4, cd5, cd6, m22, m23, m19, m20]
    by_cases cA : actOf c (stX g (g (56 + 4 * b)) t) = 0
    · simp only [if_pos cA]
      exact ⟨y3, y4, y5, y6, sat⟩
    · simp only [if_neg cA]
      obtain ⟨k3, k4, k5, k6⟩ := key y hy
      exact ⟨k3, k4, k5, k6, sat⟩
  · exact rwI_hd q8 cd1
  · intro j hj hP
    by_cases ej : j = k
    · subst ej
      refine ⟨?_, ⟨_, hA4, by rw [m13, upz_s]⟩, ?_⟩
      · intro c hc
        rw [cd2]
        unfold D6
        match c, hc with
        | 0, _ => simp (disch := omega) only [upz_s, upz_n]; rw [m13, upz_s]
        | 1, _ => simp (disch := omega) only [upz_s, upz_n]; rw [show m + 13 + 1 = m + 14 by omega, m14, upz_s]
        | 2, _ => simp (disch := omega) only [upz_s, upz_n]; rw [show m + 13 + 2 = m + 15 by omega, m15k]
        | 3, _ => simp (disch := omega) only [upz_s, upz_n]; rw [show m + 13 + 3 = m + 16 by omega, m16, upz_s]
        | 4, _ => simp (disch := omega) only [upz_s, upz_n]; rw [show m + 13 + 4 = m + 17 by omega, m17, upz_s]
        | 5, _ => simp (disch := omega) only [upz_s, upz_n]; rw [show m + 13 + 5 = m + 18 by omega, m18, upz_s]
      · rw [m15k]
        exact costA_le V hk hs
    · have hPj : P j := hP.elim id (fun e => absurd e ej)
      obtain ⟨j1, ⟨A, hA, j2⟩, ⟨x, hx, j3⟩⟩ := q9 j hj hPj
      refine ⟨?_, ⟨A, hA, by rw [m13, upz_n ej, j2]⟩, ⟨x, hx, by rw [m15 j ej, j3]⟩⟩
      intro c hc
      have := j1 c hc
      rw [cd2]
      unfold D6
      simp (disch := omega) only [upz_n]
      rw [this]
      match c, hc with
      | 0, _ => rw [m13, upz_n ej]
      | 1, _ => rw [show m + 13 + 1 = m + 14 by omega, m14, upz_n ej]
      | 2, _ => rw [show m + 13 + 2 = m + 15 by omega, m15 j ej]
      | 3, _ => rw [show m + 13 + 3 = m + 16 by omega, m16, upz_n ej]
      | 4, _ => rw [show m + 13 + 4 = m + 17 by omega, m17, upz_n ej]
      | 5, _ => rw [show m + 13 + 5 = m + 18 by omega, m18, upz_n ej]
theorem step_pigeon (R : dyR l hc d hm m g cur cF cH P) (hb6 : b < 6) (hs : st < 3) (ht : t < 48) (hct : cur ≤ t) : ∃ hc' hm', Dy_print d (nI b) (nI t) (nI st) hc = some hc' ∧ Md_print m (nI b) (nI t) (nI st) hm = some hm' ∧ dyR l hc' d hm' m g t cF cH P ∧ frC hc hc' d ∧ frM hm hm' m := by
  obtain ⟨hc', e1, c3, c4, c5, c6, cx⟩ := Dy_print_at (d := d) (t := nI t) (h := hc) hb6 hs
  obtain ⟨hm', e2, m3, m4, m5, m6, mx⟩ := Md_print_at (m := m) (t := nI t) (h := hm) hb6 hs
  have cd : hc' d = hc d := cx _ (by omega) (by omega) (by omega) (by omega)
  have md : hm' m = hm m := mx _ (by omega) (by omega) (by omega) (by omega)
  obtain ⟨q0, q1, q7, q8, q9⟩ := R
  refine ⟨hc', hm', e1, e2, ⟨?_, ?_, ?_, ?_, ?_⟩, ⟨by rw [cd], fun x hx => cx _ (by omega) (by omega) (by omega) (by omega)⟩, ⟨fun y hy => by rw [md], fun x hx => mx _ (by omega) (by omega) (by omega) (by omega)⟩⟩
  · rw [cd, md]; exact q0
  · rw [md]; exact q1
  · have key := rows_pr (t := t) hb6 hs ht (fun y hy => ⟨(q7 y hy).1, (q7 y hy).2.1, (q7 y hy).2.2.1, (q7 y hy).2.2.2.1⟩)
    intro y hy
    obtain ⟨y3, y4, y5, y6, y7⟩ := q7 y hy
    obtain ⟨k3, k4, k5, k6⟩ := key y hy
    rw [c3, c4, c5, c6, m3, m4, m5, m6, cx (d + 7) (by omega) (by omega) (by omega) (by omega), mx (m + 21) (by omega) (by omega) (by omega) (by omega)]
    refine ⟨k3, k4, k5, k6, ?_⟩
    rcases y7 with h | ⟨s, hs1, h⟩
    · exact .inl h
    · exact .inr ⟨s, by omega, h⟩
  · exact rwI_hd q8 (cx _ (by omega) (by omega) (by omega) (by omega))
  · intro j hj hP
    obtain ⟨j1, j2, j3⟩ := q9 j hj hP
    rw [cx (d + 2) (by omega) (by omega) (by omega) (by omega), mx (m + 13) (by omega) (by omega) (by omega) (by omega), mx (m + 15) (by omega) (by omega) (by omega) (by omega)]
    refine ⟨?_, j2, j3⟩
    intro c hc
    rw [mx (m + 13 + c) (by omega) (by omega) (by omega) (by omega)]
    exact j1 c hc
end DAY
