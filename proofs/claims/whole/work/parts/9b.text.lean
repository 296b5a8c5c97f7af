/-! text: class and reference -/
/-- tape and fault -/
def tdF (hc : am_F) (b : Nat) (hm : am_F) (m k : Nat) : Prop := ∃ N, N ≤ 600 ∧ hc b 1 = nI N ∧ hm (m + 2) k = nI N ∧ (∀ i, i < N → hc (b + 1) i = hm (m + 1) (600 * k + i) ∧ (hm (m + 1) (600 * k + i)).toInt8.toInt32 = hm (m + 1) (600 * k + i)) ∧ hc b 2 = hm (m + 3) k ∧ hc b 3 = hm (m + 4) k
/-- what the reference keeps of its images -/
def imF (hm hm' : am_F) (m : Nat) : Prop := (∀ x, x < m ∨ m + 27 ≤ x → hm' x = hm x) ∧ (∀ y, 600 ≤ y → hm' (m + 1) y = hm (m + 1) y) ∧ (∀ y, 1 ≤ y → hm' (m + 2) y = hm (m + 2) y ∧ hm' (m + 3) y = hm (m + 3) y ∧ hm' (m + 4) y = hm (m + 4) y) ∧ (∀ y, 4 ≤ y → hm' (m + 5) y = hm (m + 5) y) ∧ (∀ y, 390 ≤ y → hm' (m + 6) y = hm (m + 6) y) ∧ (∀ y, 62 ≤ y → hm' (m + 7) y = hm (m + 7) y) ∧ (∀ y, 66 ≤ y → hm' (m + 8) y = hm (m + 8) y) ∧ (∀ y, 38 ≤ y → hm' (m + 9) y = hm (m + 9) y)
def cgo (l : List (Nat × Nat)) (s qq : Nat) (q9 : am_F × am_R) : Option (Int32 × am_F × am_R) := if ((am_up (am_up q9.1 1 2 (q9.1 45 4)) 1 3 ((am_up q9.1 1 2 (q9.1 45 4)) 45 5)) 1 2) = 0 then (Tl_keep l q9.2 1 (nI s) (nI qq) 45 (am_up (am_up q9.1 1 2 (q9.1 45 4)) 1 3 ((am_up q9.1 1 2 (q9.1 45 4)) 45 5))).bind fun q15 => some (nI qq, q15, q9.2) else some ((-1 : Int32), (am_up (am_up q9.1 1 2 (q9.1 45 4)) 1 3 ((am_up q9.1 1 2 (q9.1 45 4)) 45 5)), q9.2)
def mgo (l : List (Nat × Nat)) (r : am_R) (m s qq : Nat) (cnt : Int32) (q5 : Int32 × am_F × am_J) : Option (Int32 × am_F × am_J) := if q5.1 = 0 then some ((-1 : Int32), q5.2.1, q5.2.2) else (Md_storeAll l r m (nI s) (nI qq) (am_up q5.2.1 (m + 5) s cnt)).bind fun q16 => some (nI qq, q16, q5.2.2)
section TEXT
variable {l : List (Nat × Nat)} {r : am_R} {hc hm : am_F} {a b m s q : Nat} {n : Nat → Nat} {j : am_J} {x1 x2 : Int32}
theorem keep_s {k : Nat} (hs : s < 4) (T : tdW r b) (B : tdB l hc b hm m 0 n) (TH : tdH l hc b) (hab : b + 42 < a) (ML : mdL l m) (hq : q < 2) (hqn : q ≤ n s) (FD : fdS l a m s hc hm) : ∃ hc' hm', Tl_keep l r b (nI s) (nI q) a hc = some hc' ∧ (∀ r2, Md_storeAll l r2 m (nI s) (nI q) (am_up hm (m + 5) s (nI (max (n s) (q + 1)))) = some hm') ∧ tdB l hc' b hm' m 0 (fun t => if t = s then max (n s) (q + 1) else n t) ∧ tdH l hc' b ∧ kpF hc hc' hm hm' b m := by
  have : s = 0 ∨ s = 1 ∨ s = 2 ∨ s = 3 := by omega
  rcases this with rfl | rfl | rfl | rfl
  · exact keep_0 T B TH hab ML hq hqn FD
  · exact keep_1 T B TH hab ML hq hqn FD
  · exact keep_2 T B TH hab ML hq hqn FD
  · exact keep_3 T B TH hab ML hq hqn FD
theorem fdS_fr {hc' : am_F} (hs : s < 4) (h : fdS l a m s hc hm) (e : ∀ x, a + 1 ≤ x → hc' x = hc x) : fdS l a m s hc' hm := by
  have : s = 0 ∨ s = 1 ∨ s = 2 ∨ s = 3 := by omega
  rcases this with rfl | rfl | rfl | rfl
  · obtain ⟨h1, h2, h3⟩ := h
    exact ⟨pkI_fr h1 (fun x h1 _ => e x h1), h2, fun y hy => by rw [e _ (by omega)]; exact h3 y hy⟩
  · obtain ⟨⟨h1, h2⟩, h3⟩ := h
    exact ⟨⟨rw_fr h1 (e _ (by omega)) (e _ (by omega)), h2⟩, h3⟩
  · obtain ⟨⟨h1, h2⟩, h3⟩ := h
    exact ⟨⟨rw_fr h1 (e _ (by omega)) (e _ (by omega)), h2⟩, h3⟩
  · obtain ⟨⟨h1, h2⟩, h3⟩ := h
    exact ⟨⟨rw_fr h1 (e _ (by omega)) (e _ (by omega)), h2⟩, h3⟩
theorem tdB_fr {hc' hm' : am_F} {k : Nat} (B : tdB l hc b hm m k n) (e1 : ∀ x, b + 2 ≤ x → x < b + 43 → hc' x = hc x) (e2 : ∀ x, m + 5 ≤ x → x < m + 10 → hm' x = hm x) : tdB l hc' b hm' m k n := by
  obtain ⟨B0, B1, B2, B3, B4⟩ := B
  refine ⟨fun s hs => ?_, fun q hq => ?_, fun q hq => ?_, fun q hq => ?_, fun q hq => ?_⟩
  · rw [e1 _ (by omega) (by omega), e2 _ (by omega) (by omega)]
    exact B0 s hs
  · have := (B0 0 (by decide)).1
    exact sl0_fr (B1 q hq) (fun x h1 h2 => e1 x (by omega) (by omega)) (fun i hi => by rw [e2 _ (by omega) (by omega)])
  · have := (B0 1 (by decide)).1
    exact sl1_fr (B2 q hq) (e1 _ (by omega) (by omega)) (e1 _ (by omega) (by omega)) (fun i hi => by rw [e2 _ (by omega) (by omega)])
  · have := (B0 2 (by decide)).1
    exact sl2_fr (B3 q hq) (e1 _ (by omega) (by omega)) (e1 _ (by omega) (by omega)) (fun i hi => by rw [e2 _ (by omega) (by omega)])
  · have := (B0 3 (by decide)).1
    exact sl3_fr (B4 q hq) (e1 _ (by omega) (by omega)) (e1 _ (by omega) (by omega)) (fun i hi => by rw [e2 _ (by omega) (by omega)])
theorem tdH_fr {hc' : am_F} (H : tdH l hc b) (e1 : ∀ x, b + 2 ≤ x → x < b + 43 → hc' x = hc x) : tdH l hc' b := by
  intro q hq
  obtain ⟨p1, p2, p3, p4⟩ := H q hq
  exact ⟨pkH_fr p1 (e1 _ (by omega) (by omega)) (e1 _ (by omega) (by omega)) (e1 _ (by omega) (by omega)), rwH_fr p2 (e1 _ (by omega) (by omega)), rwH_fr p3 (e1 _ (by omega) (by omega)), rwH_fr p4 (e1 _ (by omega) (by omega))⟩
/-- what a text leaves -/
def txR (l : List (Nat × Nat)) (hc hc' hm hm' : am_F) (m : Nat) : Prop := (∃ n', tdB l hc' 1 hm' m 0 n') ∧ tdF hc' 1 hm' m 0 ∧ tdH l hc' 1 ∧ hdR l hc' 45 ∧ (∀ x, x < 1 ∨ x = 44 ∨ 66 ≤ x → hc' x = hc x) ∧ imF hm hm' m
theorem text_go {h1 hm0 : am_F} {R : am_R} {Cx : Option (am_F × am_R)} {Mx : Option (Int32 × am_F × am_J)} (hs : s < 4) (T : tdW R 1) (B : tdB l hc 1 hm m 0 n) (TH : tdH l hc 1) (ML : mdL l m) (hq : q < 2) (hqn : q ≤ n s) (E : RE l 45 m s h1 hm0 R Cx Mx) (e1 : ∀ x, x ≠ 1 → h1 x = hc x) (e11 : h1 1 1 = 0) (e2 : ∀ x, x ≠ m → x ≠ m + 2 → x ≠ m + 3 → x ≠ m + 4 → hm0 x = hm x) (e3 : ∀ y, 1 ≤ y → hm0 (m + 2) y = hm (m + 2) y ∧ hm0 (m + 3) y = hm (m + 3) y ∧ hm0 (m + 4) y = hm (m + 4) y) (e4 : hm0 (m + 2) 0 = 0) : ∃ v hc' hm' j', Cx.bind (cgo l s q) = some (v, hc', R) ∧ Mx.bind (mgo l r m s q (nI (max (n s) (q + 1)))) = some (v, hm', j') ∧ txR l hc hc' hm hm' m := by
  obtain ⟨v, hc2, hm2, j2, c1, c2, c3, c4, c5, c6, c7, f5, c8⟩ := E
  rw [c1, c2, Option.bind_some, Option.bind_some]
  unfold cgo mgo
  simp only
  rw [z_upr (show 45 ≠ 1 by decide), z_ups, upz_n (by decide), z_ups, upz_s]
  generalize eH : am_up (am_up hc2 1 2 (hc2 45 4)) 1 3 (hc2 45 5) = h2
  have H2o : ∀ x, x ≠ 1 → h2 x = hc2 x := fun x hx => by rw [← eH, z_upr hx, z_upr hx]
  have H21 : h2 1 1 = 0 := by rw [← eH, z_ups, upz_n (by decide), z_ups, upz_n (by decide), c6 1 (by decide), e11]
  have H22 : h2 1 2 = hc2 45 4 := by rw [← eH, z_ups, upz_n (by decide), z_ups, upz_s]
  have H23 : h2 1 3 = hc2 45 5 := by rw [← eH, z_ups, upz_s]
  have H2c : ∀ x, x ≠ 1 → x < 45 ∨ 66 ≤ x → h2 x = hc x := fun x hx h3 => by rw [H2o x hx, c6 x (by omega), e1 x hx]
  have M2 : ∀ x, x ≠ m → x ≠ m + 2 → x ≠ m + 3 → x ≠ m + 4 → x ≠ m + 10 → x ≠ m + 11 → hm2 x = hm x := fun x g1 g2 g3 g4 g5 g6 => by rw [c7 x g1 g3 g4 g5 g6, e2 x g1 g2 g3 g4]
  have M22 : hm2 (m + 2) = hm0 (m + 2) := c7 _ (by omega) (by omega) (by omega) (by omega) (by omega)
  have B2 : tdB l h2 1 hm2 m 0 n := tdB_fr B (fun x g1 g2 => H2c x (by omega) (by omega)) (fun x g1 g2 => M2 x (by omega) (by omega) (by omega) (by omega) (by omega) (by omega))
  have TH2 : tdH l h2 1 := tdH_fr TH (fun x g1 g2 => H2c x (by omega) (by omega))
  have Hd2 : hdR l h2 45 := hd_fr c8 (fun x g1 g2 => H2o x (by omega))
  have I2 : imF hm hm2 m := by
    refine ⟨fun x hx => M2 x (by omega) (by omega) (by omega) (by omega) (by omega) (by omega), fun y _ => by rw [M2 _ (by omega) (by omega) (by omega) (by omega) (by omega) (by omega)], fun y hy => ?_, fun y _ => by rw [M2 _ (by omega) (by omega) (by omega) (by omega) (by omega) (by omega)], fun y _ => by rw [M2 _ (by omega) (by omega) (by omega) (by omega) (by omega) (by omega)], fun y _ => by rw [M2 _ (by omega) (by omega) (by omega) (by omega) (by omega) (by omega)], fun y _ => by rw [M2 _ (by omega) (by omega) (by omega) (by omega) (by omega) (by omega)], fun y _ => by rw [M2 _ (by omega) (by omega) (by omega) (by omega) (by omega) (by omega)]⟩
    obtain ⟨k1, k2, k3⟩ := e3 y hy
    obtain ⟨k4, k5⟩ := f5 y hy
    rw [M22, k1, k4, k2, k5, k3]
    exact ⟨rfl, rfl, rfl⟩
  have F2 : tdF h2 1 hm2 m 0 := ⟨0, by decide, H21, by rw [M22]; exact e4, fun i hi => by omega, by rw [H22, c3], by rw [H23, c4]⟩
  rcases c5 with ⟨v1, v2, v3⟩ | ⟨v1, v2⟩
  · rw [v1, if_neg (show ¬ (1 : Int32) = 0 by decide), v2, if_pos rfl]
    obtain ⟨hc3, hm3, k1, k2, k3, k4, k5, k6, k7, k8, k9, k10, k11⟩ := keep_s (k := 0) hs T B2 TH2 (show 1 + 42 < 45 by decide) ML hq hqn (fdS_fr hs v3 (fun x hx => H2o x (by omega)))
    rw [k1, k2 r, Option.bind_some, Option.bind_some]
    refine ⟨nI q, hc3, hm3, j2, rfl, rfl, ⟨_, k3⟩, ?_, k4, hd_fr Hd2 (fun x g1 g2 => k5 x (by omega)), fun x hx => ?_, ?_⟩
    · obtain ⟨N, n1, n2, n3, n4, n5, n6⟩ := F2
      exact ⟨N, n1, by rw [k5 1 (by omega)]; exact n2, by rw [k6 _ (by omega)]; exact n3, fun i hi => by rw [k5 (1 + 1) (by omega), k6 _ (by omega)]; exact n4 i hi, by rw [k5 1 (by omega), k6 _ (by omega)]; exact n5, by rw [k5 1 (by omega), k6 _ (by omega)]; exact n6⟩
    · rw [k5 x (by omega), H2c x (by omega) (by omega)]
    · obtain ⟨i1, i2, i3, i4, i5, i6, i7, i8⟩ := I2
      refine ⟨fun x hx => by rw [k6 x (by omega), i1 x hx], fun y hy => by rw [k6 _ (by omega), i2 y hy], fun y hy => by rw [k6 _ (by omega), k6 _ (by omega), k6 _ (by omega)]; exact i3 y hy, fun y hy => by rw [k7 y hy, i4 y hy], fun y hy => by rw [k8 y hy, i5 y hy], fun y hy => by rw [k9 y hy, i6 y hy], fun y hy => by rw [k10 y hy, i7 y hy], fun y hy => by rw [k11 y hy, i8 y hy]⟩
  · rw [v1, if_pos rfl, if_neg v2]
    exact ⟨-1, h2, hm2, j2, rfl, rfl, ⟨_, B2⟩, F2, TH2, Hd2, fun x hx => H2c x (by omega) (by omega), I2⟩
theorem how_at (B : tdB l hc 1 hm m 0 n) {h1 : am_F} (e : h1 (1 + 2) = hc (1 + 2)) : Tl_howMany 1 x1 h1 = some (if x1 < 0 then -2 else if x1 < 4 then hc 3 (nV x1) else -2) := by
  unfold Tl_howMany
  by_cases c1 : x1 < 0
  · rw [if_pos c1, if_pos c1]
  · rw [if_neg c1, if_neg c1]
    by_cases c2 : x1 < 4
    · rw [if_pos c2, if_pos c2]
      obtain ⟨k, hk, rfl⟩ := nI_of c1
      have h4 : k < 4 := (nI_ltI hk (show 4 < 2 ^ 31 by decide)).1 c2
      rw [z_ix h4 (by decide), Option.bind_some, e, nV_nI (by omega)]
    · rw [if_neg c2, if_neg c2]
theorem q_text {r2 : am_R} (T : tdW r 1) (B : tdB l hc 1 hm m 0 n) (TF : tdF hc 1 hm m 0) (TH : tdH l hc 1) (Hd : hdR l hc 45) (RL : rdL l 45) (hl2 : g_ln l 2 = 600) (ML : mdL l m) : ∃ v hc' hm' j' r', Wp_text l r 0 x1 x2 hc = some (v, hc', r') ∧ Md_text l r2 m x1 x2 hm j = some (v, hm', j') ∧ (r' = r ∨ r' = am_up r 45 7 (some 2)) ∧ txR l hc hc' hm hm' m := by
  obtain ⟨N, N1, N2, N3, N4, N5, N6⟩ := TF
  unfold Wp_text Md_text
  simp only [Nat.zero_add, Nat.reduceAdd]
  have e0 : ∀ v, (am_up hm m 0 v) (m + 2) 0 = nI N := fun v => by rw [z_upr (by omega)]; exact N3
  rw [e0, N2]
  generalize eH : am_up (am_up (am_up hc 1 1 0) 1 2 0) 1 3 (-1) = h1
  generalize eM : am_up (am_up (am_up (am_up (am_up hm m 0 0) m 11 (nI N)) (m + 2) 0 0) (m + 3) 0 0) (m + 4) 0 (-1) = hm0
  have e1 : ∀ x, x ≠ 1 → h1 x = hc x := fun x hx => by rw [← eH, z_upr hx, z_upr hx, z_upr hx]
  have e11 : h1 1 1 = 0 := by rw [← eH, z_ups, upz_n (by decide), z_ups, upz_n (by decide), z_ups, upz_s]
  have e12 : h1 1 2 = 0 := by rw [← eH, z_ups, upz_n (by decide), z_ups, upz_s]
  have e13 : h1 1 3 = -1 := by rw [← eH, z_ups, upz_s]
  have e2 : ∀ x, x ≠ m → x ≠ m + 2 → x ≠ m + 3 → x ≠ m + 4 → hm0 x = hm x := fun x g1 g2 g3 g4 => by rw [← eM, z_upr g4, z_upr g3, z_upr g2, z_upr g1, z_upr g1]
  have m11 : hm0 m 11 = nI N := by rw [← eM, z_upr (by omega), z_upr (by omega), z_upr (by omega), z_ups, upz_s]
  have m2 : hm0 (m + 2) 0 = 0 := by rw [← eM, z_upr (by omega), z_upr (by omega), z_ups, upz_s]
  have m3 : hm0 (m + 3) 0 = 0 := by rw [← eM, z_upr (by omega), z_ups, upz_s]
  have m4 : hm0 (m + 4) 0 = -1 := by rw [← eM, z_ups, upz_s]
  have e3 : ∀ y, 1 ≤ y → hm0 (m + 2) y = hm (m + 2) y ∧ hm0 (m + 3) y = hm (m + 3) y ∧ hm0 (m + 4) y = hm (m + 4) y := by
    intro y hy
    refine ⟨?_, ?_, ?_⟩
    · rw [← eM, z_upr (by omega), z_upr (by omega), z_ups, upz_n (by omega), z_upr (by omega), z_upr (by omega)]
    · rw [← eM, z_upr (by omega), z_ups, upz_n (by omega), z_upr (by omega), z_upr (by omega), z_upr (by omega)]
    · rw [← eM, z_ups, upz_n (by omega), z_upr (by omega), z_upr (by omega), z_upr (by omega), z_upr (by omega)]
  have R0 : txR l hc h1 hm hm0 m := by
    refine ⟨⟨n, tdB_fr B (fun x g1 g2 => e1 x (by omega)) (fun x g1 g2 => e2 x (by omega) (by omega) (by omega) (by omega))⟩, ⟨0, by decide, e11, m2, fun i hi => by omega, by rw [e12, m3], by rw [e13, m4]⟩, tdH_fr TH (fun x g1 g2 => e1 x (by omega)), hd_fr Hd (fun x g1 g2 => e1 x (by omega)), fun x hx => e1 x (by omega), fun x hx => e2 x (by omega) (by omega) (by omega) (by omega), fun y _ => by rw [e2 _ (by omega) (by omega) (by omega) (by omega)], e3, fun y _ => by rw [e2 _ (by omega) (by omega) (by omega) (by omega)], fun y _ => by rw [e2 _ (by omega) (by omega) (by omega) (by omega)], fun y _ => by rw [e2 _ (by omega) (by omega) (by omega) (by omega)], fun y _ => by rw [e2 _ (by omega) (by omega) (by omega) (by omega)], fun y _ => by rw [e2 _ (by omega) (by omega) (by omega) (by omega)]⟩
  rw [how_at B (e1 _ (by decide)), Option.bind_some]
  rcases pk_ix x1 (n := 4) (by decide) with c | c | ⟨s, hs, rfl⟩
  · rw [if_pos c, if_neg (show ¬ (0 : Int32) ≤ -2 by decide), Md_in_no (.inl c), if_pos rfl]
    exact ⟨-2, h1, hm0, j, r, rfl, rfl, .inl rfl, R0⟩
  · have c1 : ¬ x1 < 0 := fun h => z_negle h (show 4 < 2 ^ 31 by decide) c
    have c2 : ¬ x1 < 4 := Int32.not_lt.2 c
    have c3 : (3 : Int32) < x1 := Int32.lt_of_lt_of_le (show (3 : Int32) < nI 4 by decide) c
    rw [if_neg c1, if_neg c2, if_neg (show ¬ (0 : Int32) ≤ -2 by decide), Md_in_no (.inr c3), if_pos rfl]
    exact ⟨-2, h1, hm0, j, r, rfl, rfl, .inl rfl, R0⟩
  · obtain ⟨z1, z2, z3⟩ := B.1 s hs
    have z2' : hc 3 s = nI (n s) := z2
    have z3' : hm0 (m + 5) s = nI (n s) := by
      rw [e2 _ (by omega) (by omega) (by omega) (by omega)]
      have : hm (m + 5) (4 * 0 + s) = nI (n s) := z3
      rw [show 4 * 0 + s = s by omega] at this
      exact this
    have T' : tdW (am_up r 45 7 (some 2)) 1 := by
      refine ⟨fun q hq => ?_, fun q hq => ?_⟩
      · rw [z_upr (by decide)]; exact T.1 q hq
      · rw [z_upr (by decide)]; exact T.2 q hq
    have E := readText_eq (l := l) (r := r) (j := j) (s := s) (a := 45) (m := m) (tp := 2) (L := N) (hc := h1) (hm := hm0) hs (by decide) RL hl2 N1 m11 (fun i hi => by
      rw [e1 2 (by decide), e2 _ (by omega) (by omega) (by omega) (by omega)]
      have := (N4 i hi).1
      rw [show 600 * 0 + i = i by omega] at this
      exact this) (hd_fr Hd (fun x g1 g2 => e1 x (by omega)))
    rw [if_neg (nI_pos (by omega)), if_pos (show nI s < 4 from nI_lt hs (by decide)), nV_nI (by omega), z2', if_pos (nI_pos' (by omega)), show Md_in (nI s) 0 3 = 1 from Md_in_yes (show 0 ≤ s from Nat.zero_le _) (show s ≤ 3 by omega) (by decide), if_neg (show ¬ (1 : Int32) = 0 by decide)]
    by_cases cx : x2 = -1
    · rw [if_pos cx, if_pos cx]
      simp only [Option.bind_some]
      rw [if_neg (show ¬ (1 : Int32) = 0 by decide), z_ix (show s < 16 by omega) (by decide)]
      simp only [Option.bind_some]
      rw [z3']
      by_cases c2 : n s = 2
      · rw [if_neg (show ¬ nI (n s) < 2 by rw [c2]; decide), if_pos (by rw [c2]; rfl)]
        exact ⟨-2, h1, hm0, j, r, rfl, rfl, .inl rfl, R0⟩
      · rw [if_pos (show nI (n s) < 2 from nI_lt (show n s < 2 by omega) (by decide)), if_neg (show ¬ nI (n s) = 2 from fun e => c2 ((nI_eq (by omega) (by decide)).1 (show nI (n s) = nI 2 from e)))]
        obtain ⟨v, hc', hm', j', g1, g2, g3⟩ := text_go (r := r2) (q := n s) hs T' B TH ML (by omega) (Nat.le_refl _) E e1 e11 e2 e3 m2
        refine ⟨v, hc', hm', j', _, ?_, ?_, .inr rfl, g3⟩
        · rw [← g1]
          rfl
        · rw [← g2]
          obtain ⟨w, hcE, hmE, jE, y1, y2, y3, y4, y5, y6, y7, y8⟩ := E
          rw [y2, Option.bind_some, Option.bind_some]
          unfold mgo
          simp only [cx, if_true, Option.bind_some]
          have y9 : hmE (m + 5) s = nI (n s) := by rw [y7 _ (by omega) (by omega) (by omega) (by omega) (by omega)]; exact z3'
          rw [y9, nI_1, Nat.max_eq_right (by omega)]
    · rw [if_neg cx, if_neg cx]
      simp only [Option.bind_some]
      rw [if_pos trivial]
      rcases pk_ix x2 (n := n s) (by omega) with d | d | ⟨q, hq, rfl⟩
      · rw [if_pos d, Md_is_no (show s < 16 by omega) z3' (by omega) (.inl d), Option.bind_some, if_pos rfl]
        exact ⟨-2, h1, hm0, j, r, rfl, rfl, .inl rfl, R0⟩
      · rw [if_neg (fun h => z_negle h (show n s < 2 ^ 31 by omega) d), if_neg (Int32.not_lt.2 d), Md_is_no (show s < 16 by omega) z3' (by omega) (.inr d), Option.bind_some, if_pos rfl]
        exact ⟨-2, h1, hm0, j, r, rfl, rfl, .inl rfl, R0⟩
      · rw [if_neg (nI_pos (by omega)), if_pos (nI_lt hq (by omega)), Md_is_yes (show s < 16 by omega) z3' (by omega) hq, Option.bind_some, if_neg (show ¬ (1 : Int32) = 0 by decide), z_ix (show s < 16 by omega) (by decide)]
        obtain ⟨v, hc', hm', j', g1, g2, g3⟩ := text_go (r := r2) (q := q) hs T' B TH ML (by omega) (by omega) E e1 e11 e2 e3 m2
        refine ⟨v, hc', hm', j', _, ?_, ?_, .inr rfl, g3⟩
        · rw [← g1]
          rfl
        · rw [← g2]
          obtain ⟨w, hcE, hmE, jE, y1, y2, y3, y4, y5, y6, y7, y8⟩ := E
          rw [y2, Option.bind_some, Option.bind_some]
          unfold mgo
          simp only [if_neg cx, Option.bind_some]
          have y9 : hmE (m + 5) s = nI (n s) := by rw [y7 _ (by omega) (by omega) (by omega) (by omega) (by omega)]; exact z3'
          rw [y9, show nI (n s) + 0 = nI (n s) from nI_add (n s) 0, Nat.max_eq_left (by omega)]
end TEXT
