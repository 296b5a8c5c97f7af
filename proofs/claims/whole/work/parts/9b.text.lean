/-! text: class and reference -/
/-- tape and fault -/
def tdF (hc : am_F) (b : Nat) (hm : am_F) (m k : Nat) : Prop := ∃ N, N ≤ 600 ∧ hc b 1 = nI N ∧ hm (m + 2) k = nI N ∧ (∀ i, i < N → hc (b + 1) i = hm (m + 1) (600 * k + i) ∧ (hm (m + 1) (600 * k + i)).toInt8.toInt32 = hm (m + 1) (600 * k + i)) ∧ hc b 2 = hm (m + 3) k ∧ hc b 3 = hm (m + 4) k
/-- what the reference keeps of its images -/
def imF (hm hm' : am_F) (m : Nat) : Prop := (∀ x, x < m ∨ m + 27 ≤ x → hm' x = hm x) ∧ (∀ y, 600 ≤ y → hm' (m + 1) y = hm (m + 1) y) ∧ (∀ y, 1 ≤ y → hm' (m + 2) y = hm (m + 2) y ∧ hm' (m + 3) y = hm (m + 3) y ∧ hm' (m + 4) y = hm (m + 4) y) ∧ (∀ y, 4 ≤ y → hm' (m + 5) y = hm (m + 5) y) ∧ (∀ y, 390 ≤ y → hm' (m + 6) y = hm (m + 6) y) ∧ (∀ y, 62 ≤ y → hm' (m + 7) y = hm (m + 7) y) ∧ (∀ y, 66 ≤ y → hm' (m + 8) y = hm (m + 8) y) ∧ (∀ y, 38 ≤ y → hm' (m + 9) y = hm (m + 9) y)
def cgo (l : List (Nat × Nat)) (s qq : Nat) (q9 : am_F × am_R) : Option (Int32 × am_F × am_R) := if ((am_up (am_up q9.1 1 2 (q9.1 45 4)) 1 3 ((am_up q9.1 1 2 (q9.1 45 4)) 45 5)) 1 2) = 0 then (Tl_keep l q9.2 1 (nI s) (nI qq) 45 (am_up (am_up q9.1 1 2 (q9.1 45 4)) 1 3 ((am_up q9.1 1 2 (q9.1 45 4)) 45 5))).bind fun q15 => some (nI qq, q15, q9.2) else some ((-1 : Int32), (am_up (am_up q9.1 1 2 (q9.1 45 4)) 1 3 ((am_up q9.1 1 2 (q9.1 45 4)) 45 5)), q9.2)
def mgo (l : List (Nat × Nat)) (r : am_R) (m s qq : Nat) (cnt : Int32) (q5 : Int32 × am_F × am_J) : Option (Int32 × am_F × am_J) := if q5.1 = 0 then some ((-1 : Int32), q5.2.1, q5.2.2) else (Md_storeAll l r m (nI s) (nI qq) (am_up q5.2.1 (m + 5) s cnt)).bind fun q16 => some (nI qq, q16, q5.2.2)
section TEXT
variable {l : List (Nat × Nat)} {r : am_R} {hc hm : am_F} {a b m s q : Nat} {n : Nat → Nat} {j : am_J} {x1 x2 : Int32}
theorem keep_s {k : Nat} (hs : s < 4) (T : tdW r b) (B : tdB l hc b hm m 0 n) (TH : tdH l hc b) (hab : b + 42 < a) (ML : mdL l m) (hq : q < 2) (hqn : q ≤ n s) (FD : fdS l a m s hc hm) : ∃ hc' hm', Tl_keep l r b (nI s) (nI q) a hc = some hc' ∧ (∀ r2, Md_storeAll l r2 m (nI s) (nI q) (am_up hm (m + 5) s (nI (max (n s) (q + 1)))) = some hm') ∧ tdB l hc' b hm' m 0 (fun t => if t = s then max (n s) (q + 1) else n t) ∧ tdH l hc' b ∧ kpF hc hc' hm hm' b m := by
  have : s = 0 ∨ s = 1 ∨ s = 2 ∨ s = 3 := by omega
  rcases this with rfl | rfl | rfl | rfl
  · exact keep_0 T B TH hab ML hq hqn FD
  · exact keep_1 T B TH hab ML hq hqn FD
  · exact keep_2 T B TH hab ML hq hqn FD
  · exact keep_3 T B TH hab ML hq hqn FD
theorem fdS_fr {hc' : am_F} (hs : s < 4) (h : fdS l a m s hc hm) (e : ∀ x, a + 1 ≤ x → hc' x = hc x) : fdS l a m s hc' hm := by
  have : s = 0 ∨ s = 1 ∨ s = 2 ∨ s = 3 := by omega
  rcases this with rfl | rfl | rfl | rfl
  · obtain ⟨h1, h2, h3⟩ := h
    exact ⟨pkI_fr h1 (fun x h1 _ => e x h1), h2, fun y hy => by rw [e _ (by omega)]; exact h3 y hy⟩
  · obtain ⟨⟨h1, h2⟩, h3⟩ := h
    exact ⟨⟨rw_fr h1 (e _ (by omega)) (e _ (by omega)), h2⟩, h3⟩
  · obtain ⟨⟨h1, h2⟩, h3⟩ := h
    exact ⟨⟨rw_fr h1 (e _ (by omega)) (e _ (by omega)), h2⟩, h3⟩
  · obtain ⟨⟨h1, h2⟩, h3⟩ := h
    exact ⟨⟨rw_fr h1 (e _ (by omega)) (e _ (by omega)), h2⟩, h3⟩
theorem tdB_fr {hc' hm' : am_F} {k : Nat} (B : tdB l hc b hm m k n) (e1 : ∀ x, b + 2 ≤ x → x < b + 43 → hc' x = hc x) (e2 : ∀ x, m + 5 ≤ x → x < m + 10 → hm' x = hm x) : tdB l hc' b hm' m k n := by
  obtain ⟨B0, B1, B2, B3, B4⟩ := B
  refine ⟨fun s hs => ?_, fun q hq => ?_, fun q hq => ?_, fun q hq => ?_, fun q hq => ?_⟩
  · rw [e1 _ (by omega) (by omega), e2 _ (by omega) (by omega)]
    exact B0 s hs
  · have := (B0 0 (by decide)).1
    exact sl0_fr (B1 q hq) (fun x h1 h2 => e1 x (by omega) (by omega)) (fun i hi => by rw [e2 _ (by omega) (by omega)])
  · have := (B0 1 (by decide)).1
    exact sl1_fr (B2 q hq) (e1 _ (by omega) (by omega)) (e1 _ (by omega) (by omega)) (fun i hi => by rw [e2 _ (by omega) (by omega)])
  · have := (B0 2 (by decide)).1
    exact sl2_fr (B3 q hq) (e1 _ (by omega) (by omega)) (e1 _ (by omega) (by omega)) (fun i hi => by rw [e2 _ (by omega) (by omega)])
  · have := (B0 3 (by decide)).1
    exact sl3_fr (B4 q hq) (e1 _ (by omega) (by omega)) (e1 _ (by omega) (by omega)) (fun i hi => by rw [e2 _ (by omega) (by omega)])
theorem tdH_fr {hc' : am_F} (H : tdH l hc b) (e1 : ∀ x, b + 2 ≤ x → x < b + 43 → hc' x = hc x) : tdH l hc' b := by
  intro q hq
  obtain ⟨p1, p2, p3, p4⟩ := H q hq
  exact ⟨pkH_fr p1 (e1 _ (by omega) (by omega)) (e1 _ (by omega) (by omega)) (e1 _ (by omega) (by omega)), rwH_fr p2 (e1 _ (by omega) (by omega)), rwH_fr p3 (e1 _ (by omega) (by omega)), rwH_fr p4 (e1 _ (by omega) (by omega))⟩
/-- what a text leaves -/
def txR (l : List (Nat × Nat)) (hc hc' hm hm' : am_F) (m : Nat) : Prop := (∃ n', tdB l hc' 1 hm' m 0 n') ∧ tdF hc' 1 hm' m 0 ∧ tdH l hc' 1 ∧ hdR l hc' 45 ∧ (∀ x, x < 1 ∨ x = 44 ∨ 66 ≤ x → hc' x = hc x) ∧ imF hm hm' m
theorem text_go {h1 hm0 : am_F} {R : am_R} {Cx : Option (am_F × am_R)} {Mx : Option (Int32 × am_F × am_J)} (hs : s < 4) (T : tdW R 1) (B : tdB l hc 1 hm m 0 n) (TH : tdH l hc 1) (ML : mdL l m) (hq : q < 2) (hqn : q ≤ n s) (E : RE l 45 m s h1 hm0 R Cx Mx) (e1 : ∀ x, x ≠ 1 → h1 x = hc x) (e11 : h1 1 1 = 0) (e2 : ∀ x, x ≠ m → x ≠ m + 2 → x ≠ m + 3 → x ≠ m + 4 → hm0 x = hm x) (e3 : ∀ y, 1 ≤ y → hm0 (m + 2) y = hm (m + 2) y ∧ hm0 (m + 3) y = hm (m + 3) y ∧ hm0 (m + 4) y = hm (m + 4) y) (e4 : hm0 (m + 2) 0 = 0) (e5 : ∀ (v hm' j'), Mx = some (v, hm', j') → ∀ y, 1 ≤ y → hm' (m + 3) y = hm0 (m + 3) y ∧ hm' (m + 4) y = hm0 (m + 4) y) : ∃ v hc' hm' j', Cx.bind (cgo l s q) = some (v, hc', R) ∧ Mx.bind (mgo l r m s q (nI (max (n s) (q + 1)))) = some (v, hm', j') ∧ txR l hc hc' hm hm' m := by
  obtain ⟨v, hc2, hm2, j2, c1, c2, c3, c4, c5, c6, c7, c8⟩ := E
  have f5 := e5 v hm2 j2 c2
  rw [c1, c2, Option.bind_some, Option.bind_some]
  unfold cgo mgo
  simp only
  rw [z_upr (show 45 ≠ 1 by decide), z_ups, upz_n (by decide), z_ups, upz_s]
  generalize eH : am_up (am_up hc2 1 2 (hc2 45 4)) 1 3 (hc2 45 5) = h2
  have H2o : ∀ x, x ≠ 1 → h2 x = hc2 x := fun x hx => by rw [← eH, z_upr hx, z_upr hx]
  have H21 : h2 1 1 = 0 := by rw [← eH, z_ups, upz_n (by decide), z_ups, upz_n (by decide), c6 1 (by decide), e11]
  have H22 : h2 1 2 = hc2 45 4 := by rw [← eH, z_ups, upz_n (by decide), z_ups, upz_s]
  have H23 : h2 1 3 = hc2 45 5 := by rw [← eH, z_ups, upz_s]
  have H2c : ∀ x, x ≠ 1 → x < 45 ∨ 66 ≤ x → h2 x = hc x := fun x hx h3 => by rw [H2o x hx, c6 x (by omega), e1 x hx]
  have M2 : ∀ x, x ≠ m → x ≠ m + 2 → x ≠ m + 3 → x ≠ m + 4 → x ≠ m + 10 → x ≠ m + 11 → hm2 x = hm x := fun x g1 g2 g3 g4 g5 g6 => by rw [c7 x g1 g3 g4 g5 g6, e2 x g1 g2 g3 g4]
  have M22 : hm2 (m + 2) = hm0 (m + 2) := c7 _ (by omega) (by omega) (by omega) (by omega) (by omega)
  have B2 : tdB l h2 1 hm2 m 0 n := tdB_fr B (fun x g1 g2 => H2c x (by omega) (by omega)) (fun x g1 g2 => M2 x (by omega) (by omega) (by omega) (by omega) (by omega) (by omega))
  have TH2 : tdH l h2 1 := tdH_fr TH (fun x g1 g2 => H2c x (by omega) (by omega))
  have Hd2 : hdR l h2 45 := hd_fr c8 (fun x g1 g2 => H2o x (by omega))
  have I2 : imF hm hm2 m := by
    refine ⟨fun x hx => M2 x (by omega) (by omega) (by omega) (by omega) (by omega) (by omega), fun y _ => by rw [M2 _ (by omega) (by omega) (by omega) (by omega) (by omega) (by omega)], fun y hy => ?_, fun y _ => by rw [M2 _ (by omega) (by omega) (by omega) (by omega) (by omega) (by omega)], fun y _ => by rw [M2 _ (by omega) (by omega) (by omega) (by omega) (by omega) (by omega)], fun y _ => by rw [M2 _ (by omega) (by omega) (by omega) (by omega) (by omega) (by omega)], fun y _ => by rw [M2 _ (by omega) (by omega) (by omega) (by omega) (by omega) (by omega)], fun y _ => by rw [M2 _ (by omega) (by omega) (by omega) (by omega) (by omega) (by omega)]⟩
    obtain ⟨k1, k2, k3⟩ := e3 y hy
    obtain ⟨k4, k5⟩ := f5 y hy
    rw [M22, k1, k4, k2, k5, k3]
    exact ⟨rfl, rfl, rfl⟩
  have F2 : tdF h2 1 hm2 m 0 := ⟨0, by decide, H21, by rw [M22]; exact e4, fun i hi => by omega, by rw [H22, c3], by rw [H23, c4]⟩
  rcases c5 with ⟨v1, v2, v3⟩ | ⟨v1, v2⟩
  · rw [v1, if_neg (show ¬ (1 : Int32) = 0 by decide), v2, if_pos rfl]
    obtain ⟨hc3, hm3, k1, k2, k3, k4, k5, k6, k7, k8, k9, k10, k11⟩ := keep_s (k := 0) hs T B2 TH2 (show 1 + 42 < 45 by decide) ML hq hqn (fdS_fr hs v3 (fun x hx => H2o x (by omega)))
    rw [k1, k2 r, Option.bind_some, Option.bind_some]
    refine ⟨nI q, hc3, hm3, j2, rfl, rfl, ⟨_, k3⟩, ?_, k4, hd_fr Hd2 (fun x g1 g2 => k5 x (by omega)), fun x hx => ?_, ?_⟩
    · obtain ⟨N, n1, n2, n3, n4, n5, n6⟩ := F2
      exact ⟨N, n1, by rw [k5 1 (by omega)]; exact n2, by rw [k6 _ (by omega)]; exact n3, fun i hi => by rw [k5 (1 + 1) (by omega), k6 _ (by omega)]; exact n4 i hi, by rw [k5 1 (by omega), k6 _ (by omega)]; exact n5, by rw [k5 1 (by omega), k6 _ (by omega)]; exact n6⟩
    · rw [k5 x (by omega), H2c x (by omega) (by omega)]
    · obtain ⟨i1, i2, i3, i4, i5, i6, i7, i8⟩ := I2
      refine ⟨fun x hx => by rw [k6 x (by omega), i1 x hx], fun y hy => by rw [k6 _ (by omega), i2 y hy], fun y hy => by rw [k6 _ (by omega), k6 _ (by omega), k6 _ (by omega)]; exact i3 y hy, fun y hy => by rw [k7 y hy, i4 y hy], fun y hy => by rw [k8 y hy, i5 y hy], fun y hy => by rw [k9 y hy, i6 y hy], fun y hy => by rw [k10 y hy, i7 y hy], fun y hy => by rw [k11 y hy, i8 y hy]⟩
  · rw [v1, if_pos rfl, if_neg v2]
    exact ⟨-1, h2, hm2, j2, rfl, rfl, ⟨_, B2⟩, F2, TH2, Hd2, fun x hx => H2c x (by omega) (by omega), I2⟩
end TEXT
