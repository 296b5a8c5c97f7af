/-! a text kept: class and reference -/
section KEEP
variable {l : List (Nat × Nat)} {r : am_R} {hc hm : am_F} {a b m q : Nat} {n : Nat → Nat}
def kpF (hc hc' hm hm' : am_F) (b m : Nat) : Prop := (∀ x, x ≤ b + 1 ∨ b + 43 ≤ x → hc' x = hc x) ∧ (∀ x, x ≤ m + 4 ∨ m + 10 ≤ x → hm' x = hm x) ∧ (∀ y, 4 ≤ y → hm' (m + 5) y = hm (m + 5) y) ∧ (∀ y, 390 ≤ y → hm' (m + 6) y = hm (m + 6) y) ∧ (∀ y, 62 ≤ y → hm' (m + 7) y = hm (m + 7) y) ∧ (∀ y, 66 ≤ y → hm' (m + 8) y = hm (m + 8) y) ∧ (∀ y, 38 ≤ y → hm' (m + 9) y = hm (m + 9) y)
theorem keep_0 (T : tdW r b) (B : tdB l hc b hm m 0 n) (TH : tdH l hc b) (hab : b + 42 < a) (ML : mdL l m) (hq : q < 2) (hqn : q ≤ n 0) (FD : pkI l hc (a + 1) (hm (m + 10)) ∧ pkV (hm (m + 10)) ∧ ∀ y, y < 6 → hc (a + 1 + 6) y = hm (m + 10) (58 + 4 * y)) : ∃ hc' hm', Tl_keep l r b (nI 0) (nI q) a hc = some hc' ∧ (∀ r2, Md_storeAll l r2 m (nI 0) (nI q) (am_up hm (m + 5) 0 (nI (max (n 0) (q + 1)))) = some hm') ∧ tdB l hc' b hm' m 0 (fun t => if t = 0 then max (n 0) (q + 1) else n t) ∧ tdH l hc' b ∧ kpF hc hc' hm hm' b m := by
  obtain ⟨B0, B1, B2, B3, B4⟩ := B
  obtain ⟨z1, z2, z3⟩ := B0 0 (by decide)
  have ev : (if hc (b + 2) 0 < nI q + 1 then nI q + 1 else hc (b + 2) 0) = nI (max (n 0) (q + 1)) := by
    rw [z2, nI_1]
    by_cases c : n 0 < q + 1
    · rw [if_pos (nI_lt c (by omega)), Nat.max_eq_right (by omega)]
    · rw [if_neg (nI_nlt (by omega) (by omega)), Nat.max_eq_left (by omega)]
  generalize eH : am_up hc (b + 2) 0 (nI (max (n 0) (q + 1))) = h1
  have ho : ∀ x, x ≠ b + 2 → h1 x = hc x := fun x hx => by rw [← eH, z_upr hx]
  have cp := Pk_copyFrom_at (r := r) (a := b + 5 + 19 * q) (z := a + 1) (h := h1) (pkI_fr FD.1 (fun x h1 h2 => ho x (by omega))) FD.2.1 (pkH_fr (TH q hq).1 (ho _ (by omega)) (ho _ (by omega)) (ho _ (by omega))) (.inl (by omega))
  obtain ⟨hc', c1, c2, c3, c4⟩ := cp
  have fo : ∀ x, x < b + 5 + 19 * q ∨ b + 18 + 19 * q ≤ x → hc' x = h1 x := fun x hx => c4 x (by omega)
  generalize eM : am_up hm (m + 5) 0 (nI (max (n 0) (q + 1))) = hm1
  have mo : ∀ x, x ≠ m + 5 → hm1 x = hm x := fun x hx => by rw [← eM, z_upr hx]
  have hst : ∀ r2, Md_storeAll l r2 m (nI 0) (nI q) hm1 = some (stN' hm1 m (m + 6) 195 q) := by
    intro r2
    unfold Md_storeAll
    rw [if_pos (show nI 0 = 0 from rfl)]
    have := store_at (l := l) (r := r2) (m := m) (q := q) (h := hm1) (x1 := m + 6) (W := 195) (by omega) (by decide) (by omega) (by rw [ML.1]; decide) (by rw [ML.1]; decide)
    have this' : Md_store l r2 m (m + 6) (195 : Int32) (nI q) hm1 = _ := this
    rw [this']
    rfl
  have ho2 : ∀ x, x ≠ m + 5 → x ≠ m + 6 → stN' hm1 m (m + 6) 195 q x = hm x := fun x h1 h2 => by rw [st_o h2, mo x h1]
  have nq : ∀ q', q' < max (n 0) (q + 1) → q' ≠ q → q' < n 0 := fun q' h1 h2 => by omega
  refine ⟨hc', stN' hm1 m (m + 6) 195 q, ?_, hst, ⟨?_, ?_, ?_, ?_, ?_⟩, ?_, ?_, ?_, ?_, ?_, ?_, ?_, ?_⟩
  · unfold Tl_keep
    rw [if_neg (show ¬ nI 0 < 0 by decide), if_neg (show ¬ (4 : Int32) ≤ nI 0 by decide), if_neg (nI_pos (by omega)), if_pos (show nI q < 2 from nI_lt (show q < 2 by omega) (by decide)), z_ix (show 0 < 4 by decide) (by decide)]
    simp only [Option.bind_some]
    rw [ev, eH]
    have hrw : Tl_rowsAt l r b (nI 0) (nI q) h1 = some none := by
      unfold Tl_rowsAt
      rw [if_pos (show nI 0 ≤ 0 by decide)]
    rw [hrw, Option.bind_some]
    simp only [g_on]
    rw [z_ix hq (by decide)]
    simp only [Option.bind_some]
    rw [T.1 q hq]
    simp only [Option.bind_some]
    rw [c1]
    rfl
  · intro t ht
    have e1 : hc' (b + 2) = h1 (b + 2) := fo _ (by omega)
    rw [e1, st_o (by omega), ← eH, ← eM, z_ups, z_ups]
    simp only
    by_cases c : t = 0
    · rw [if_pos c, c, upz_s, show 4 * 0 + 0 = 0 from rfl, upz_s]
      exact ⟨by omega, rfl, rfl⟩
    · rw [if_neg c, upz_n c, upz_n (by omega)]
      exact B0 t ht
  · intro q' hq'
    have hq2 : q' < max (n 0) (q + 1) := by simpa using hq'
    show sl0 l hc' b _ m 0 q'
    by_cases c : q' = q
    · subst c
      exact sl0_mk (G := hm (m + 10)) c2 FD.2.1 (fun y hy => by rw [c3 y hy, ho _ (by omega)]; exact FD.2.2 y hy) (fun i hi => by rw [show 195 * (2 * 0 + q') + i = 195 * q' + i by omega, st_in hi, mo _ (by omega)])
    · have hqo := nq q' hq2 c
      have z9 : n 0 ≤ 2 := z1
      exact sl0_fr (B1 q' hqo) (fun x h1 h2 => by rw [fo x (by omega), ho x (by omega)]) (fun i hi => by rw [st_out (by omega), mo _ (by omega)])
  · intro q' hq'
    have hq2 : q' < n 1 := by simpa using hq'
    have z9 := (B0 1 (by decide)).1
    show sl1 l hc' b _ m 0 q'
    exact sl1_fr (B2 q' hq2) (by rw [fo _ (by omega), ho _ (by omega)]) (by rw [fo _ (by omega), ho _ (by omega)]) (fun i hi => by rw [ho2 _ (by omega) (by omega)])
  · intro q' hq'
    have hq2 : q' < n 2 := by simpa using hq'
    have z9 := (B0 2 (by decide)).1
    show sl2 l hc' b _ m 0 q'
    exact sl2_fr (B3 q' hq2) (by rw [fo _ (by omega), ho _ (by omega)]) (by rw [fo _ (by omega), ho _ (by omega)]) (fun i hi => by rw [ho2 _ (by omega) (by omega)])
  · intro q' hq'
    have hq2 : q' < n 3 := by simpa using hq'
    have z9 := (B0 3 (by decide)).1
    show sl3 l hc' b _ m 0 q'
    exact sl3_fr (B4 q' hq2) (by rw [fo _ (by omega), ho _ (by omega)]) (by rw [fo _ (by omega), ho _ (by omega)]) (fun i hi => by rw [ho2 _ (by omega) (by omega)])
  · intro q' hq'
    obtain ⟨p1, p2, p3, p4⟩ := TH q' hq'
    have hp : pkH l hc' (b + 5 + 19 * q') := by
      by_cases c : q' = q
      · rw [c]; exact ⟨rwI_H c2.2.2.2.2.2.1, rwI_H c2.2.2.2.2.2.2.1, rwI_H c2.2.2.2.2.2.2.2⟩
      · exact pkH_fr p1 (by rw [fo _ (by omega), ho _ (by omega)]) (by rw [fo _ (by omega), ho _ (by omega)]) (by rw [fo _ (by omega), ho _ (by omega)])
    exact ⟨hp, rwH_fr p2 (by rw [fo _ (by omega), ho _ (by omega)]), rwH_fr p3 (by rw [fo _ (by omega), ho _ (by omega)]), rwH_fr p4 (by rw [fo _ (by omega), ho _ (by omega)])⟩
  · intro x hx
    rw [fo x (by omega), ho x (by omega)]
  · intro x hx
    rw [ho2 x (by omega) (by omega)]
  · intro y hy
    rw [st_o (by omega), ← eM, z_ups, upz_n (by omega)]
  · intro y hy
    rw [st_out (by omega), mo _ (by omega)]
  · intro y hy
    rw [ho2 _ (by omega) (by omega)]
  · intro y hy
    rw [ho2 _ (by omega) (by omega)]
  · intro y hy
    rw [ho2 _ (by omega) (by omega)]
theorem keep_1 (T : tdW r b) (B : tdB l hc b hm m 0 n) (TH : tdH l hc b) (hab : b + 42 < a) (ML : mdL l m) (hq : q < 2) (hqn : q ≤ n 1) (FD : drW l a m 14 3 10 prV hc hm ∧ ctW m 10 hm) : ∃ hc' hm', Tl_keep l r b (nI 1) (nI q) a hc = some hc' ∧ (∀ r2, Md_storeAll l r2 m (nI 1) (nI q) (am_up hm (m + 5) 1 (nI (max (n 1) (q + 1)))) = some hm') ∧ tdB l hc' b hm' m 0 (fun t => if t = 1 then max (n 1) (q + 1) else n t) ∧ tdH l hc' b ∧ kpF hc hc' hm hm' b m := by
  obtain ⟨B0, B1, B2, B3, B4⟩ := B
  obtain ⟨z1, z2, z3⟩ := B0 1 (by decide)
  have ev : (if hc (b + 2) 1 < nI q + 1 then nI q + 1 else hc (b + 2) 1) = nI (max (n 1) (q + 1)) := by
    rw [z2, nI_1]
    by_cases c : n 1 < q + 1
    · rw [if_pos (nI_lt c (by omega)), Nat.max_eq_right (by omega)]
    · rw [if_neg (nI_nlt (by omega) (by omega)), Nat.max_eq_left (by omega)]
  generalize eH : am_up hc (b + 2) 1 (nI (max (n 1) (q + 1))) = h1
  have ho : ∀ x, x ≠ b + 2 → h1 x = hc x := fun x hx => by rw [← eH, z_upr hx]
  have g0 := zN_V FD.2 (by decide)
  obtain ⟨FR, FV⟩ := FD.1
  generalize ec : nV (hm (m + 10) 0) = c at g0 FR FV
  have cp := row_copy (r := r) (a := b + 18 + 19 * q) (x := a + 14) (h := h1) (rw_fr FR (ho _ (by omega)) (ho _ (by omega))) (rwH_fr (TH q hq).2.1 (ho _ (by omega))) (by omega) (.inl (by omega))
  obtain ⟨hc', c1, c2, c4⟩ := cp
  have fo : ∀ x, x < b + 18 + 19 * q ∨ b + 20 + 19 * q ≤ x → hc' x = h1 x := fun x hx => c4 x (by omega) (by omega)
  generalize eM : am_up hm (m + 5) 1 (nI (max (n 1) (q + 1))) = hm1
  have mo : ∀ x, x ≠ m + 5 → hm1 x = hm x := fun x hx => by rw [← eM, z_upr hx]
  have hst : ∀ r2, Md_storeAll l r2 m (nI 1) (nI q) hm1 = some (stN' hm1 m (m + 7) 31 q) := by
    intro r2
    unfold Md_storeAll
    rw [if_neg (show ¬ nI 1 = 0 by decide), if_pos (show nI 1 = 1 from rfl)]
    have := store_at (l := l) (r := r2) (m := m) (q := q) (h := hm1) (x1 := m + 7) (W := 31) (by omega) (by decide) (by omega) (by rw [ML.2.1]; decide) (by rw [ML.2.1]; decide)
    have this' : Md_store l r2 m (m + 7) (31 : Int32) (nI q) hm1 = _ := this
    rw [this']
    rfl
  have ho2 : ∀ x, x ≠ m + 5 → x ≠ m + 7 → stN' hm1 m (m + 7) 31 q x = hm x := fun x h1 h2 => by rw [st_o h2, mo x h1]
  have nq : ∀ q', q' < max (n 1) (q + 1) → q' ≠ q → q' < n 1 := fun q' h1 h2 => by omega
  refine ⟨hc', stN' hm1 m (m + 7) 31 q, ?_, hst, ⟨?_, ?_, ?_, ?_, ?_⟩, ?_, ?_, ?_, ?_, ?_, ?_, ?_, ?_⟩
  · unfold Tl_keep
    rw [if_neg (show ¬ nI 1 < 0 by decide), if_neg (show ¬ (4 : Int32) ≤ nI 1 by decide), if_neg (nI_pos (by omega)), if_pos (show nI q < 2 from nI_lt (show q < 2 by omega) (by decide)), z_ix (show 1 < 4 by decide) (by decide)]
    simp only [Option.bind_some]
    rw [ev, eH]
    have hrw : Tl_rowsAt l r b (nI 1) (nI q) h1 = some (some (b + 18 + 19 * q)) := by
      unfold Tl_rowsAt
      rw [if_neg (show ¬ nI 1 ≤ 0 by decide), if_neg (show ¬ (4 : Int32) ≤ nI 1 by decide), if_neg (nI_pos (by omega)), if_neg (show ¬ (2 : Int32) ≤ nI q from nI_ge (show q < 2 by omega) (by decide)), z_ix (by decide) (by decide), Option.bind_some, ← eH, z_ups, upz_s, if_pos (nI_lt (by omega) (by omega)), show (2 : Int32) = nI 2 from rfl, pk_mul, nI_add, z_ix (by omega) (by decide), Option.bind_some]
      exact congrArg some ((T.2 q hq).1)
    rw [hrw, Option.bind_some]
    simp only [g_on]
    rw [show Rd_rowsOf a (nI 1) = a + 14 from rfl, c1]
    rfl
  · intro t ht
    have e1 : hc' (b + 2) = h1 (b + 2) := fo _ (by omega)
    rw [e1, st_o (by omega), ← eH, ← eM, z_ups, z_ups]
    simp only
    by_cases c : t = 1
    · rw [if_pos c, c, upz_s, show 4 * 0 + 1 = 1 from rfl, upz_s]
      exact ⟨by omega, rfl, rfl⟩
    · rw [if_neg c, upz_n c, upz_n (by omega)]
      exact B0 t ht
  · intro q' hq'
    have hq2 : q' < n 0 := by simpa using hq'
    have z9 := (B0 0 (by decide)).1
    show sl0 l hc' b _ m 0 q'
    exact sl0_fr (B1 q' hq2) (fun x h1 h2 => by rw [fo x (by omega), ho x (by omega)]) (fun i hi => by rw [ho2 _ (by omega) (by omega)])
  · intro q' hq'
    have hq2 : q' < max (n 1) (q + 1) := by simpa using hq'
    show sl1 l hc' b _ m 0 q'
    by_cases c : q' = q
    · subst c
      exact sl1_mk (G := hm (m + 10)) (c := c) (by omega) g0.1 c2 FV (fun i hi => by rw [show 31 * (2 * 0 + q') + i = 31 * q' + i by omega, st_in hi, mo _ (by omega)])
    · have hqo := nq q' hq2 c
      have z9 : n 1 ≤ 2 := z1
      exact sl1_fr (B2 q' hqo) (by rw [fo _ (by omega), ho _ (by omega)]) (by rw [fo _ (by omega), ho _ (by omega)]) (fun i hi => by rw [st_out (by omega), mo _ (by omega)])
  · intro q' hq'
    have hq2 : q' < n 2 := by simpa using hq'
    have z9 := (B0 2 (by decide)).1
    show sl2 l hc' b _ m 0 q'
    exact sl2_fr (B3 q' hq2) (by rw [fo _ (by omega), ho _ (by omega)]) (by rw [fo _ (by omega), ho _ (by omega)]) (fun i hi => by rw [ho2 _ (by omega) (by omega)])
  · intro q' hq'
    have hq2 : q' < n 3 := by simpa using hq'
    have z9 := (B0 3 (by decide)).1
    show sl3 l hc' b _ m 0 q'
    exact sl3_fr (B4 q' hq2) (by rw [fo _ (by omega), ho _ (by omega)]) (by rw [fo _ (by omega), ho _ (by omega)]) (fun i hi => by rw [ho2 _ (by omega) (by omega)])
  · intro q' hq'
    obtain ⟨p1, p2, p3, p4⟩ := TH q' hq'
    have hp : rwH l hc' (b + 18 + 19 * q') 3 10 := by
      by_cases c : q' = q
      · rw [c]; exact rwI_H c2
      · exact rwH_fr p2 (by rw [fo _ (by omega), ho _ (by omega)])
    exact ⟨pkH_fr p1 (by rw [fo _ (by omega), ho _ (by omega)]) (by rw [fo _ (by omega), ho _ (by omega)]) (by rw [fo _ (by omega), ho _ (by omega)]), hp, rwH_fr p3 (by rw [fo _ (by omega), ho _ (by omega)]), rwH_fr p4 (by rw [fo _ (by omega), ho _ (by omega)])⟩
  · intro x hx
    rw [fo x (by omega), ho x (by omega)]
  · intro x hx
    rw [ho2 x (by omega) (by omega)]
  · intro y hy
    rw [st_o (by omega), ← eM, z_ups, upz_n (by omega)]
  · intro y hy
    rw [ho2 _ (by omega) (by omega)]
  · intro y hy
    rw [st_out (by omega), mo _ (by omega)]
  · intro y hy
    rw [ho2 _ (by omega) (by omega)]
  · intro y hy
    rw [ho2 _ (by omega) (by omega)]
theorem keep_2 (T : tdW r b) (B : tdB l hc b hm m 0 n) (TH : tdH l hc b) (hab : b + 42 < a) (ML : mdL l m) (hq : q < 2) (hqn : q ≤ n 2) (FD : drW l a m 16 4 8 alV hc hm ∧ ctW m 8 hm) : ∃ hc' hm', Tl_keep l r b (nI 2) (nI q) a hc = some hc' ∧ (∀ r2, Md_storeAll l r2 m (nI 2) (nI q) (am_up hm (m + 5) 2 (nI (max (n 2) (q + 1)))) = some hm') ∧ tdB l hc' b hm' m 0 (fun t => if t = 2 then max (n 2) (q + 1) else n t) ∧ tdH l hc' b ∧ kpF hc hc' hm hm' b m := by
  obtain ⟨B0, B1, B2, B3, B4⟩ := B
  obtain ⟨z1, z2, z3⟩ := B0 2 (by decide)
  have ev : (if hc (b + 2) 2 < nI q + 1 then nI q + 1 else hc (b + 2) 2) = nI (max (n 2) (q + 1)) := by
    rw [z2, nI_1]
    by_cases c : n 2 < q + 1
    · rw [if_pos (nI_lt c (by omega)), Nat.max_eq_right (by omega)]
    · rw [if_neg (nI_nlt (by omega) (by omega)), Nat.max_eq_left (by omega)]
  generalize eH : am_up hc (b + 2) 2 (nI (max (n 2) (q + 1))) = h1
  have ho : ∀ x, x ≠ b + 2 → h1 x = hc x := fun x hx => by rw [← eH, z_upr hx]
  have g0 := zN_V FD.2 (by decide)
  obtain ⟨FR, FV⟩ := FD.1
  generalize ec : nV (hm (m + 10) 0) = c at g0 FR FV
  have cp := row_copy (r := r) (a := b + 20 + 19 * q) (x := a + 16) (h := h1) (rw_fr FR (ho _ (by omega)) (ho _ (by omega))) (rwH_fr (TH q hq).2.2.1 (ho _ (by omega))) (by omega) (.inl (by omega))
  obtain ⟨hc', c1, c2, c4⟩ := cp
  have fo : ∀ x, x < b + 20 + 19 * q ∨ b + 22 + 19 * q ≤ x → hc' x = h1 x := fun x hx => c4 x (by omega) (by omega)
  generalize eM : am_up hm (m + 5) 2 (nI (max (n 2) (q + 1))) = hm1
  have mo : ∀ x, x ≠ m + 5 → hm1 x = hm x := fun x hx => by rw [← eM, z_upr hx]
  have hst : ∀ r2, Md_storeAll l r2 m (nI 2) (nI q) hm1 = some (stN' hm1 m (m + 8) 33 q) := by
    intro r2
    unfold Md_storeAll
    rw [if_neg (show ¬ nI 2 = 0 by decide), if_neg (show ¬ nI 2 = 1 by decide), if_pos (show nI 2 = 2 from rfl)]
    have := store_at (l := l) (r := r2) (m := m) (q := q) (h := hm1) (x1 := m + 8) (W := 33) (by omega) (by decide) (by omega) (by rw [ML.2.2.1]; decide) (by rw [ML.2.2.1]; decide)
    have this' : Md_store l r2 m (m + 8) (33 : Int32) (nI q) hm1 = _ := this
    rw [this']
    rfl
  have ho2 : ∀ x, x ≠ m + 5 → x ≠ m + 8 → stN' hm1 m (m + 8) 33 q x = hm x := fun x h1 h2 => by rw [st_o h2, mo x h1]
  have nq : ∀ q', q' < max (n 2) (q + 1) → q' ≠ q → q' < n 2 := fun q' h1 h2 => by omega
  refine ⟨hc', stN' hm1 m (m + 8) 33 q, ?_, hst, ⟨?_, ?_, ?_, ?_, ?_⟩, ?_, ?_, ?_, ?_, ?_, ?_, ?_, ?_⟩
  · unfold Tl_keep
    rw [if_neg (show ¬ nI 2 < 0 by decide), if_neg (show ¬ (4 : Int32) ≤ nI 2 by decide), if_neg (nI_pos (by omega)), if_pos (show nI q < 2 from nI_lt (show q < 2 by omega) (by decide)), z_ix (show 2 < 4 by decide) (by decide)]
    simp only [Option.bind_some]
    rw [ev, eH]
    have hrw : Tl_rowsAt l r b (nI 2) (nI q) h1 = some (some (b + 20 + 19 * q)) := by
      unfold Tl_rowsAt
      rw [if_neg (show ¬ nI 2 ≤ 0 by decide), if_neg (show ¬ (4 : Int32) ≤ nI 2 by decide), if_neg (nI_pos (by omega)), if_neg (show ¬ (2 : Int32) ≤ nI q from nI_ge (show q < 2 by omega) (by decide)), z_ix (by decide) (by decide), Option.bind_some, ← eH, z_ups, upz_s, if_pos (nI_lt (by omega) (by omega)), show (2 : Int32) = nI 2 from rfl, pk_mul, nI_add, z_ix (by omega) (by decide), Option.bind_some]
      exact congrArg some ((T.2 q hq).2.1)
    rw [hrw, Option.bind_some]
    simp only [g_on]
    rw [show Rd_rowsOf a (nI 2) = a + 16 from rfl, c1]
    rfl
  · intro t ht
    have e1 : hc' (b + 2) = h1 (b + 2) := fo _ (by omega)
    rw [e1, st_o (by omega), ← eH, ← eM, z_ups, z_ups]
    simp only
    by_cases c : t = 2
    · rw [if_pos c, c, upz_s, show 4 * 0 + 2 = 2 from rfl, upz_s]
      exact ⟨by omega, rfl, rfl⟩
    · rw [if_neg c, upz_n c, upz_n (by omega)]
      exact B0 t ht
  · intro q' hq'
    have hq2 : q' < n 0 := by simpa using hq'
    have z9 := (B0 0 (by decide)).1
    show sl0 l hc' b _ m 0 q'
    exact sl0_fr (B1 q' hq2) (fun x h1 h2 => by rw [fo x (by omega), ho x (by omega)]) (fun i hi => by rw [ho2 _ (by omega) (by omega)])
  · intro q' hq'
    have hq2 : q' < n 1 := by simpa using hq'
    have z9 := (B0 1 (by decide)).1
    show sl1 l hc' b _ m 0 q'
    exact sl1_fr (B2 q' hq2) (by rw [fo _ (by omega), ho _ (by omega)]) (by rw [fo _ (by omega), ho _ (by omega)]) (fun i hi => by rw [ho2 _ (by omega) (by omega)])
  · intro q' hq'
    have hq2 : q' < max (n 2) (q + 1) := by simpa using hq'
    show sl2 l hc' b _ m 0 q'
    by_cases c : q' = q
    · subst c
      exact sl2_mk (G := hm (m + 10)) (c := c) (by omega) g0.1 c2 FV (fun i hi => by rw [show 33 * (2 * 0 + q') + i = 33 * q' + i by omega, st_in hi, mo _ (by omega)])
    · have hqo := nq q' hq2 c
      have z9 : n 2 ≤ 2 := z1
      exact sl2_fr (B3 q' hqo) (by rw [fo _ (by omega), ho _ (by omega)]) (by rw [fo _ (by omega), ho _ (by omega)]) (fun i hi => by rw [st_out (by omega), mo _ (by omega)])
  · intro q' hq'
    have hq2 : q' < n 3 := by simpa using hq'
    have z9 := (B0 3 (by decide)).1
    show sl3 l hc' b _ m 0 q'
    exact sl3_fr (B4 q' hq2) (by rw [fo _ (by omega), ho _ (by omega)]) (by rw [fo _ (by omega), ho _ (by omega)]) (fun i hi => by rw [ho2 _ (by omega) (by omega)])
  · intro q' hq'
    obtain ⟨p1, p2, p3, p4⟩ := TH q' hq'
    have hp : rwH l hc' (b + 20 + 19 * q') 4 8 := by
      by_cases c : q' = q
      · rw [c]; exact rwI_H c2
      · exact rwH_fr p3 (by rw [fo _ (by omega), ho _ (by omega)])
    exact ⟨pkH_fr p1 (by rw [fo _ (by omega), ho _ (by omega)]) (by rw [fo _ (by omega), ho _ (by omega)]) (by rw [fo _ (by omega), ho _ (by omega)]), rwH_fr p2 (by rw [fo _ (by omega), ho _ (by omega)]), hp, rwH_fr p4 (by rw [fo _ (by omega), ho _ (by omega)])⟩
  · intro x hx
    rw [fo x (by omega), ho x (by omega)]
  · intro x hx
    rw [ho2 x (by omega) (by omega)]
  · intro y hy
    rw [st_o (by omega), ← eM, z_ups, upz_n (by omega)]
  · intro y hy
    rw [ho2 _ (by omega) (by omega)]
  · intro y hy
    rw [ho2 _ (by omega) (by omega)]
  · intro y hy
    rw [st_out (by omega), mo _ (by omega)]
  · intro y hy
    rw [ho2 _ (by omega) (by omega)]
theorem keep_3 (T : tdW r b) (B : tdB l hc b hm m 0 n) (TH : tdH l hc b) (hab : b + 42 < a) (ML : mdL l m) (hq : q < 2) (hqn : q ≤ n 3) (FD : drW l a m 18 3 6 plV hc hm ∧ ctW m 6 hm) : ∃ hc' hm', Tl_keep l r b (nI 3) (nI q) a hc = some hc' ∧ (∀ r2, Md_storeAll l r2 m (nI 3) (nI q) (am_up hm (m + 5) 3 (nI (max (n 3) (q + 1)))) = some hm') ∧ tdB l hc' b hm' m 0 (fun t => if t = 3 then max (n 3) (q + 1) else n t) ∧ tdH l hc' b ∧ kpF hc hc' hm hm' b m := by
  obtain ⟨B0, B1, B2, B3, B4⟩ := B
  obtain ⟨z1, z2, z3⟩ := B0 3 (by decide)
  have ev : (if hc (b + 2) 3 < nI q + 1 then nI q + 1 else hc (b + 2) 3) = nI (max (n 3) (q + 1)) := by
    rw [z2, nI_1]
    by_cases c : n 3 < q + 1
    · rw [if_pos (nI_lt c (by omega)), Nat.max_eq_right (by omega)]
    · rw [if_neg (nI_nlt (by omega) (by omega)), Nat.max_eq_left (by omega)]
  generalize eH : am_up hc (b + 2) 3 (nI (max (n 3) (q + 1))) = h1
  have ho : ∀ x, x ≠ b + 2 → h1 x = hc x := fun x hx => by rw [← eH, z_upr hx]
  have g0 := zN_V FD.2 (by decide)
  obtain ⟨FR, FV⟩ := FD.1
  generalize ec : nV (hm (m + 10) 0) = c at g0 FR FV
  have cp := row_copy (r := r) (a := b + 22 + 19 * q) (x := a + 18) (h := h1) (rw_fr FR (ho _ (by omega)) (ho _ (by omega))) (rwH_fr (TH q hq).2.2.2 (ho _ (by omega))) (by omega) (.inl (by omega))
  obtain ⟨hc', c1, c2, c4⟩ := cp
  have fo : ∀ x, x < b + 22 + 19 * q ∨ b + 24 + 19 * q ≤ x → hc' x = h1 x := fun x hx => c4 x (by omega) (by omega)
  generalize eM : am_up hm (m + 5) 3 (nI (max (n 3) (q + 1))) = hm1
  have mo : ∀ x, x ≠ m + 5 → hm1 x = hm x := fun x hx => by rw [← eM, z_upr hx]
  have hst : ∀ r2, Md_storeAll l r2 m (nI 3) (nI q) hm1 = some (stN' hm1 m (m + 9) 19 q) := by
    intro r2
    unfold Md_storeAll
    rw [if_neg (show ¬ nI 3 = 0 by decide), if_neg (show ¬ nI 3 = 1 by decide), if_neg (show ¬ nI 3 = 2 by decide)]
    have := store_at (l := l) (r := r2) (m := m) (q := q) (h := hm1) (x1 := m + 9) (W := 19) (by omega) (by decide) (by omega) (by rw [ML.2.2.2]; decide) (by rw [ML.2.2.2]; decide)
    have this' : Md_store l r2 m (m + 9) (19 : Int32) (nI q) hm1 = _ := this
    rw [this']
    rfl
  have ho2 : ∀ x, x ≠ m + 5 → x ≠ m + 9 → stN' hm1 m (m + 9) 19 q x = hm x := fun x h1 h2 => by rw [st_o h2, mo x h1]
  have nq : ∀ q', q' < max (n 3) (q + 1) → q' ≠ q → q' < n 3 := fun q' h1 h2 => by omega
  refine ⟨hc', stN' hm1 m (m + 9) 19 q, ?_, hst, ⟨?_, ?_, ?_, ?_, ?_⟩, ?_, ?_, ?_, ?_, ?_, ?_, ?_, ?_⟩
  · unfold Tl_keep
    rw [if_neg (show ¬ nI 3 < 0 by decide), if_neg (show ¬ (4 : Int32) ≤ nI 3 by decide), if_neg (nI_pos (by omega)), if_pos (show nI q < 2 from nI_lt (show q < 2 by omega) (by decide)), z_ix (show 3 < 4 by decide) (by decide)]
    simp only [Option.bind_some]
    rw [ev, eH]
    have hrw : Tl_rowsAt l r b (nI 3) (nI q) h1 = some (some (b + 22 + 19 * q)) := by
      unfold Tl_rowsAt
      rw [if_neg (show ¬ nI 3 ≤ 0 by decide), if_neg (show ¬ (4 : Int32) ≤ nI 3 by decide), if_neg (nI_pos (by omega)), if_neg (show ¬ (2 : Int32) ≤ nI q from nI_ge (show q < 2 by omega) (by decide)), z_ix (by decide) (by decide), Option.bind_some, ← eH, z_ups, upz_s, if_pos (nI_lt (by omega) (by omega)), show (2 : Int32) = nI 2 from rfl, pk_mul, nI_add, z_ix (by omega) (by decide), Option.bind_some]
      exact congrArg some ((T.2 q hq).2.2)
    rw [hrw, Option.bind_some]
    simp only [g_on]
    rw [show Rd_rowsOf a (nI 3) = a + 18 from rfl, c1]
    rfl
  · intro t ht
    have e1 : hc' (b + 2) = h1 (b + 2) := fo _ (by omega)
    rw [e1, st_o (by omega), ← eH, ← eM, z_ups, z_ups]
    simp only
    by_cases c : t = 3
    · rw [if_pos c, c, upz_s, show 4 * 0 + 3 = 3 from rfl, upz_s]
      exact ⟨by omega, rfl, rfl⟩
    · rw [if_neg c, upz_n c, upz_n (by omega)]
      exact B0 t ht
  · intro q' hq'
    have hq2 : q' < n 0 := by simpa using hq'
    have z9 := (B0 0 (by decide)).1
    show sl0 l hc' b _ m 0 q'
    exact sl0_fr (B1 q' hq2) (fun x h1 h2 => by rw [fo x (by omega), ho x (by omega)]) (fun i hi => by rw [ho2 _ (by omega) (by omega)])
  · intro q' hq'
    have hq2 : q' < n 1 := by simpa using hq'
    have z9 := (B0 1 (by decide)).1
    show sl1 l hc' b _ m 0 q'
    exact sl1_fr (B2 q' hq2) (by rw [fo _ (by omega), ho _ (by omega)]) (by rw [fo _ (by omega), ho _ (by omega)]) (fun i hi => by rw [ho2 _ (by omega) (by omega)])
  · intro q' hq'
    have hq2 : q' < n 2 := by simpa using hq'
    have z9 := (B0 2 (by decide)).1
    show sl2 l hc' b _ m 0 q'
    exact sl2_fr (B3 q' hq2) (by rw [fo _ (by omega), ho _ (by omega)]) (by rw [fo _ (by omega), ho _ (by omega)]) (fun i hi => by rw [ho2 _ (by omega) (by omega)])
  · intro q' hq'
    have hq2 : q' < max (n 3) (q + 1) := by simpa using hq'
    show sl3 l hc' b _ m 0 q'
    by_cases c : q' = q
    · subst c
      exact sl3_mk (G := hm (m + 10)) (c := c) (by omega) g0.1 c2 FV (fun i hi => by rw [show 19 * (2 * 0 + q') + i = 19 * q' + i by omega, st_in hi, mo _ (by omega)])
    · have hqo := nq q' hq2 c
      have z9 : n 3 ≤ 2 := z1
      exact sl3_fr (B4 q' hqo) (by rw [fo _ (by omega), ho _ (by omega)]) (by rw [fo _ (by omega), ho _ (by omega)]) (fun i hi => by rw [st_out (by omega), mo _ (by omega)])
  · intro q' hq'
    obtain ⟨p1, p2, p3, p4⟩ := TH q' hq'
    have hp : rwH l hc' (b + 22 + 19 * q') 3 6 := by
      by_cases c : q' = q
      · rw [c]; exact rwI_H c2
      · exact rwH_fr p4 (by rw [fo _ (by omega), ho _ (by omega)])
    exact ⟨pkH_fr p1 (by rw [fo _ (by omega), ho _ (by omega)]) (by rw [fo _ (by omega), ho _ (by omega)]) (by rw [fo _ (by omega), ho _ (by omega)]), rwH_fr p2 (by rw [fo _ (by omega), ho _ (by omega)]), rwH_fr p3 (by rw [fo _ (by omega), ho _ (by omega)]), hp⟩
  · intro x hx
    rw [fo x (by omega), ho x (by omega)]
  · intro x hx
    rw [ho2 x (by omega) (by omega)]
  · intro y hy
    rw [st_o (by omega), ← eM, z_ups, upz_n (by omega)]
  · intro y hy
    rw [ho2 _ (by omega) (by omega)]
  · intro y hy
    rw [ho2 _ (by omega) (by omega)]
  · intro y hy
    rw [ho2 _ (by omega) (by omega)]
  · intro y hy
    rw [st_out (by omega), mo _ (by omega)]
end KEEP
