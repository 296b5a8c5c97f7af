/-! methods as functions, and their runs -/
def Md_in (x0 : Int32) (x1 : Int32) (x2 : Int32) : Int32 :=
  if x0 < x1 then
    (0 : Int32)
  else
    if x2 < x0 then
      (0 : Int32)
    else
      (1 : Int32)
theorem Md_in_s {X : Nat × (Nat → Int32)} {l : List (Nat × Nat)} {r : am_R} {h : am_F} {j : am_J} {x0 : Int32} {x1 : Int32} {x2 : Int32}  : Call X 155 [.int x0, .int x1, .int x2] (l, r, h, j) (some (.int (Md_in x0 x1 x2)), (l, r, h, j)) := by
  generalize e : Md_in x0 x1 x2 = q
  unfold Md_in at e
  refine ⟨Nat.le_of_ble_eq_true rfl, ?_⟩
  show Ev X 155 0 [some (.int x0), some (.int x1), some (.int x2)] [] (l, r, h, j) _
  refine g_run 2 2 [some (.int x0), some (.int x1), some (.int x2)] [.int x1, .int x0] (fun _ => rfl) ?_
  refine g_if (p1 := 14) (L1 := [some (.int x0), some (.int x1), some (.int x2)]) (S1 := []) (s1 := (l, r, h, j)) (p2 := 5) (L2 := [some (.int x0), some (.int x1), some (.int x2)]) (S2 := []) (s2 := (l, r, h, j)) rfl (fun _ _ => rfl) e (fun c1 e => ?_) (fun c1 e => ?_)
  · refine g_run 1 15 [some (.int x0), some (.int x1), some (.int x2)] [.int (0 : Int32)] (fun _ => rfl) ?_
    cases e
    exact g_retZ rfl (y := (0 : Int32)) rfl rfl
  · refine g_run 2 7 [some (.int x0), some (.int x1), some (.int x2)] [.int x2, .int x0] (fun _ => rfl) ?_
    refine g_if (p1 := 14) (L1 := [some (.int x0), some (.int x1), some (.int x2)]) (S1 := []) (s1 := (l, r, h, j)) (p2 := 10) (L2 := [some (.int x0), some (.int x1), some (.int x2)]) (S2 := []) (s2 := (l, r, h, j)) rfl (fun _ _ => rfl) e (fun c2 e => ?_) (fun c2 e => ?_)
    · refine g_run 1 15 [some (.int x0), some (.int x1), some (.int x2)] [.int (0 : Int32)] (fun _ => rfl) ?_
      cases e
      exact g_retZ rfl (y := (0 : Int32)) rfl rfl
    · refine g_run 2 15 [some (.int x0), some (.int x1), some (.int x2)] [.int (1 : Int32)] (fun _ => rfl) ?_
      cases e
      exact g_retZ rfl (y := (1 : Int32)) rfl rfl
def Md_greater (x0 : Int32) (x1 : Int32) : Int32 :=
  if x0 ≤ x1 then
    x1
  else
    x0
theorem Md_greater_s {X : Nat × (Nat → Int32)} {l : List (Nat × Nat)} {r : am_R} {h : am_F} {j : am_J} {x0 : Int32} {x1 : Int32}  : Call X 156 [.int x0, .int x1] (l, r, h, j) (some (.int (Md_greater x0 x1)), (l, r, h, j)) := by
  generalize e : Md_greater x0 x1 = q
  unfold Md_greater at e
  refine ⟨Nat.le_of_ble_eq_true rfl, ?_⟩
  show Ev X 156 0 [some (.int x0), some (.int x1)] [] (l, r, h, j) _
  refine g_run 2 2 [some (.int x0), some (.int x1)] [.int x1, .int x0] (fun _ => rfl) ?_
  refine g_if (p1 := 9) (L1 := [some (.int x0), some (.int x1)]) (S1 := []) (s1 := (l, r, h, j)) (p2 := 5) (L2 := [some (.int x0), some (.int x1)]) (S2 := []) (s2 := (l, r, h, j)) rfl (fun _ _ => rfl) e (fun c1 e => ?_) (fun c1 e => ?_)
  · refine g_run 1 10 [some (.int x0), some (.int x1)] [.int x1] (fun _ => rfl) ?_
    cases e
    exact g_ret rfl (fun _ _ => rfl)
  · refine g_run 2 10 [some (.int x0), some (.int x1)] [.int x0] (fun _ => rfl) ?_
    cases e
    exact g_ret rfl (fun _ _ => rfl)
def Md_lesser (x0 : Int32) (x1 : Int32) : Int32 :=
  if x1 ≤ x0 then
    x1
  else
    x0
theorem Md_lesser_s {X : Nat × (Nat → Int32)} {l : List (Nat × Nat)} {r : am_R} {h : am_F} {j : am_J} {x0 : Int32} {x1 : Int32}  : Call X 157 [.int x0, .int x1] (l, r, h, j) (some (.int (Md_lesser x0 x1)), (l, r, h, j)) := by
  generalize e : Md_lesser x0 x1 = q
  unfold Md_lesser at e
  refine ⟨Nat.le_of_ble_eq_true rfl, ?_⟩
  show Ev X 157 0 [some (.int x0), some (.int x1)] [] (l, r, h, j) _
  refine g_run 2 2 [some (.int x0), some (.int x1)] [.int x1, .int x0] (fun _ => rfl) ?_
  refine g_if (p1 := 9) (L1 := [some (.int x0), some (.int x1)]) (S1 := []) (s1 := (l, r, h, j)) (p2 := 5) (L2 := [some (.int x0), some (.int x1)]) (S2 := []) (s2 := (l, r, h, j)) rfl (fun _ _ => rfl) e (fun c1 e => ?_) (fun c1 e => ?_)
  · refine g_run 1 10 [some (.int x0), some (.int x1)] [.int x1] (fun _ => rfl) ?_
    cases e
    exact g_ret rfl (fun _ _ => rfl)
  · refine g_run 2 10 [some (.int x0), some (.int x1)] [.int x0] (fun _ => rfl) ?_
    cases e
    exact g_ret rfl (fun _ _ => rfl)
def Md_copyRow_l3 (l : List (Nat × Nat)) (r : am_R) (x0 : Nat) (x1 : Int32) (x2 : Int32) (x3 : Int32) : Nat → Int32 → am_F → Option (am_F)
  | 0, _, _ => none
  | n + 1, x4, h =>
    if x1 ≤ x4 then
      some h
    else
      (g_ix ((x1 * x2) + x4) (g_ln l x0)).bind fun k2 =>
      (g_ix ((x1 * x3) + x4) (g_ln l x0)).bind fun k3 =>
      Md_copyRow_l3 l r x0 x1 x2 x3 n (x4 + (1 : Int32)) (am_up h x0 k3 (h x0 k2))
def Md_copyRow (l : List (Nat × Nat)) (r : am_R) (x0 : Nat) (x1 : Int32) (x2 : Int32) (x3 : Int32) (h : am_F) : Option (am_F) :=
  (Md_copyRow_l3 l r x0 x1 x2 x3 g_fu (0 : Int32) h).bind fun q4 =>
  some q4
theorem Md_copyRow_l3_s {X : Nat × (Nat → Int32)} {l : List (Nat × Nat)} {r : am_R} {x0 : Nat} {x1 : Int32} {x2 : Int32} {x3 : Int32} {j : am_J} {q : am_F} {R : Option Value × am_S} (kx0 : l[x0]? = some (10, (g_ln l x0))) (hx : ∀ (y4 : Int32) , Ev X 158 31 [some (.ref x0), some (.int x1), some (.int x2), some (.int x3), some (.int y4)] [] (l, r, q, j) R) : ∀ (n : Nat) (x4 : Int32) (h : am_F), Md_copyRow_l3 l r x0 x1 x2 x3 n x4 h = some q → Ev X 158 3 [some (.ref x0), some (.int x1), some (.int x2), some (.int x3), some (.int x4)] [] (l, r, h, j) R := by
  intro n
  induction n with
  | zero => intro x4 h e; cases e
  | succ n ih =>
    intro x4 h e
    unfold Md_copyRow_l3 at e
    refine g_run 2 6 [some (.ref x0), some (.int x1), some (.int x2), some (.int x3), some (.int x4)] [.int x1, .int x4] (fun _ => rfl) ?_
    refine g_if (p1 := 31) (L1 := [some (.ref x0), some (.int x1), some (.int x2), some (.int x3), some (.int x4)]) (S1 := []) (s1 := (l, r, h, j)) (p2 := 9) (L2 := [some (.ref x0), some (.int x1), some (.int x2), some (.int x3), some (.int x4)]) (S2 := []) (s2 := (l, r, h, j)) rfl (fun _ _ => rfl) e (fun c1 e => ?_) (fun c1 e => ?_)
    · cases e
      exact hx _
    · refine g_run 12 23 [some (.ref x0), some (.int x1), some (.int x2), some (.int x3), some (.int x4)] [.int ((x1 * x2) + x4), .ref x0, .int ((x1 * x3) + x4), .ref x0] (fun _ => rfl) ?_
      obtain ⟨k2, ek2, e⟩ := g_bd e
      refine g_iald 24 rfl rfl kx0 ek2 ?_
      obtain ⟨k3, ek3, e⟩ := g_bd e
      refine g_iast 25 rfl rfl kx0 ek3 ?_
      refine g_run 2 3 [some (.ref x0), some (.int x1), some (.int x2), some (.int x3), some (.int (x4 + (1 : Int32)))] [] (fun _ => rfl) ?_
      exact ih _ _ e
theorem Md_copyRow_s {X : Nat × (Nat → Int32)} {l : List (Nat × Nat)} {r : am_R} {h : am_F} {j : am_J} {x0 : Nat} {x1 : Int32} {x2 : Int32} {x3 : Int32} (kx0 : l[x0]? = some (10, g_ln l x0)) {q : am_F} (e : Md_copyRow l r x0 x1 x2 x3 h = some q) : Call X 158 [.ref x0, .int x1, .int x2, .int x3] (l, r, h, j) (none, (l, r, q, j)) := by
  unfold Md_copyRow at e
  refine ⟨Nat.le_of_ble_eq_true rfl, ?_⟩
  show Ev X 158 0 [some (.ref x0), some (.int x1), some (.int x2), some (.int x3), none] [] (l, r, h, j) _
  refine g_run 2 3 [some (.ref x0), some (.int x1), some (.int x2), some (.int x3), some (.int (0 : Int32))] [] (fun _ => rfl) ?_
  obtain ⟨q4, eq4, e⟩ := g_bd e
  refine Md_copyRow_l3_s kx0 (fun y5 => ?_) _ _ _ eq4
  cases e
  exact g_ret rfl (fun _ _ => rfl)
def Md_copyAll_l2 (l : List (Nat × Nat)) (r : am_R) (x0 : Nat) (x1 : Int32) (x2 : Int32) : Nat → Int32 → am_F → Option (am_F)
  | 0, _, _ => none
  | n + 1, x3, h =>
    if (600 : Int32) ≤ x3 then
      some h
    else
      (g_ix (((600 : Int32) * x1) + x3) 2400).bind fun k2 =>
      (g_ix (((600 : Int32) * x2) + x3) 2400).bind fun k3 =>
      Md_copyAll_l2 l r x0 x1 x2 n (x3 + (1 : Int32)) (am_up h (x0 + 1) k3 (h (x0 + 1) k2).toInt8.toInt32)
def Md_copyAll (l : List (Nat × Nat)) (r : am_R) (a : Nat) (x1 : Int32) (x2 : Int32) (h : am_F) : Option (am_F) :=
  (Md_copyAll_l2 l r a x1 x2 g_fu (0 : Int32) h).bind fun q4 =>
  (Md_copyRow l r (a + 2) (1 : Int32) x1 x2 q4).bind fun q6 =>
  (Md_copyRow l r (a + 3) (1 : Int32) x1 x2 q6).bind fun q7 =>
  (Md_copyRow l r (a + 4) (1 : Int32) x1 x2 q7).bind fun q8 =>
  (Md_copyRow l r (a + 5) (4 : Int32) x1 x2 q8).bind fun q9 =>
  (Md_copyRow l r (a + 6) (390 : Int32) x1 x2 q9).bind fun q10 =>
  (Md_copyRow l r (a + 7) (62 : Int32) x1 x2 q10).bind fun q11 =>
  (Md_copyRow l r (a + 8) (66 : Int32) x1 x2 q11).bind fun q12 =>
  (Md_copyRow l r (a + 9) (38 : Int32) x1 x2 q12).bind fun q13 =>
  some q13
theorem Md_copyAll_l2_s {X : Nat × (Nat → Int32)} {l : List (Nat × Nat)} {r : am_R} {x0 : Nat} {x1 : Int32} {x2 : Int32} {j : am_J} {q : am_F} {R : Option Value × am_S} (kx0 : Md_K l r x0) (hx : ∀ (y3 : Int32) , Ev X 159 39 [some (.ref x0), some (.int x1), some (.int x2), some (.int y3)] [] (l, r, q, j) R) : ∀ (n : Nat) (x3 : Int32) (h : am_F), Md_copyAll_l2 l r x0 x1 x2 n x3 h = some q → Ev X 159 2 [some (.ref x0), some (.int x1), some (.int x2), some (.int x3)] [] (l, r, h, j) R := by
  intro n
  induction n with
  | zero => intro x3 h e; cases e
  | succ n ih =>
    intro x3 h e
    unfold Md_copyAll_l2 at e
    refine g_run 2 6 [some (.ref x0), some (.int x1), some (.int x2), some (.int x3)] [.int (600 : Int32), .int x3] (fun _ => rfl) ?_
    refine g_if (p1 := 39) (L1 := [some (.ref x0), some (.int x1), some (.int x2), some (.int x3)]) (S1 := []) (s1 := (l, r, h, j)) (p2 := 9) (L2 := [some (.ref x0), some (.int x1), some (.int x2), some (.int x3)]) (S2 := []) (s2 := (l, r, h, j)) rfl (fun _ _ => rfl) e (fun c1 e => ?_) (fun c1 e => ?_)
    · cases e
      exact hx _
    · refine g_run 1 10 [some (.ref x0), some (.int x1), some (.int x2), some (.int x3)] [.ref x0] (fun _ => rfl) ?_
      refine g_getA 13 rfl rfl (Md_l kx0) (Md_r1 kx0) ?_
      refine g_run 6 21 [some (.ref x0), some (.int x1), some (.int x2), some (.int x3)] [.ref x0, .int (((600 : Int32) * x2) + x3), .ref (x0 + 1)] (fun _ => rfl) ?_
      refine g_getA 24 rfl rfl (Md_l kx0) (Md_r1 kx0) ?_
      refine g_run 5 31 [some (.ref x0), some (.int x1), some (.int x2), some (.int x3)] [.int (((600 : Int32) * x1) + x3), .ref (x0 + 1), .int (((600 : Int32) * x2) + x3), .ref (x0 + 1)] (fun _ => rfl) ?_
      obtain ⟨k2, ek2, e⟩ := g_bd e
      refine g_bald 32 rfl rfl (Md_k1 kx0) rfl ek2 ?_
      obtain ⟨k3, ek3, e⟩ := g_bd e
      refine g_bast 33 rfl rfl (Md_k1 kx0) ek3 ?_
      refine g_run 2 2 [some (.ref x0), some (.int x1), some (.int x2), some (.int (x3 + (1 : Int32)))] [] (fun _ => rfl) ?_
      exact ih _ _ e
theorem Md_copyAll_s {X : Nat × (Nat → Int32)} {l : List (Nat × Nat)} {r : am_R} {h : am_F} {j : am_J} {a : Nat} {x1 : Int32} {x2 : Int32} (ka : Md_K l r a) {q : am_F} (e : Md_copyAll l r a x1 x2 h = some q) : Call X 159 [.ref a, .int x1, .int x2] (l, r, h, j) (none, (l, r, q, j)) := by
  unfold Md_copyAll at e
  refine ⟨Nat.le_of_ble_eq_true rfl, ?_⟩
  show Ev X 159 0 [some (.ref a), some (.int x1), some (.int x2), none] [] (l, r, h, j) _
  refine g_run 2 2 [some (.ref a), some (.int x1), some (.int x2), some (.int (0 : Int32))] [] (fun _ => rfl) ?_
  obtain ⟨q4, eq4, e⟩ := g_bd e
  refine Md_copyAll_l2_s ka (fun y5 => ?_) _ _ _ eq4
  refine g_run 1 40 [some (.ref a), some (.int x1), some (.int x2), some (.int y5)] [.ref a] (fun _ => rfl) ?_
  refine g_getA 43 rfl rfl (Md_l ka) (Md_r2 ka) ?_
  refine g_run 3 46 [some (.ref a), some (.int x1), some (.int x2), some (.int y5)] [.int x2, .int x1, .int (1 : Int32), .ref (a + 2)] (fun _ => rfl) ?_
  obtain ⟨q6, eq6, e⟩ := g_bd e
  refine g_cSv 49 rfl rfl (by decide) rfl rfl rfl (Md_copyRow_s (g_lnk (Md_k2 ka)) eq6) ?_
  refine g_run 1 50 [some (.ref a), some (.int x1), some (.int x2), some (.int y5)] [.ref a] (fun _ => rfl) ?_
  refine g_getA 53 rfl rfl (Md_l ka) (Md_r3 ka) ?_
  refine g_run 3 56 [some (.ref a), some (.int x1), some (.int x2), some (.int y5)] [.int x2, .int x1, .int (1 : Int32), .ref (a + 3)] (fun _ => rfl) ?_
  obtain ⟨q7, eq7, e⟩ := g_bd e
  refine g_cSv 59 rfl rfl (by decide) rfl rfl rfl (Md_copyRow_s (g_lnk (Md_k3 ka)) eq7) ?_
  refine g_run 1 60 [some (.ref a), some (.int x1), some (.int x2), some (.int y5)] [.ref a] (fun _ => rfl) ?_
  refine g_getA 63 rfl rfl (Md_l ka) (Md_r4 ka) ?_
  refine g_run 3 66 [some (.ref a), some (.int x1), some (.int x2), some (.int y5)] [.int x2, .int x1, .int (1 : Int32), .ref (a + 4)] (fun _ => rfl) ?_
  obtain ⟨q8, eq8, e⟩ := g_bd e
  refine g_cSv 69 rfl rfl (by decide) rfl rfl rfl (Md_copyRow_s (g_lnk (Md_k4 ka)) eq8) ?_
  refine g_run 1 70 [some (.ref a), some (.int x1), some (.int x2), some (.int y5)] [.ref a] (fun _ => rfl) ?_
  refine g_getA 73 rfl rfl (Md_l ka) (Md_r5 ka) ?_
  refine g_run 3 76 [some (.ref a), some (.int x1), some (.int x2), some (.int y5)] [.int x2, .int x1, .int (4 : Int32), .ref (a + 5)] (fun _ => rfl) ?_
  obtain ⟨q9, eq9, e⟩ := g_bd e
  refine g_cSv 79 rfl rfl (by decide) rfl rfl rfl (Md_copyRow_s (g_lnk (Md_k5 ka)) eq9) ?_
  refine g_run 1 80 [some (.ref a), some (.int x1), some (.int x2), some (.int y5)] [.ref a] (fun _ => rfl) ?_
  refine g_getA 83 rfl rfl (Md_l ka) (Md_r6 ka) ?_
  refine g_run 3 88 [some (.ref a), some (.int x1), some (.int x2), some (.int y5)] [.int x2, .int x1, .int (390 : Int32), .ref (a + 6)] (fun _ => rfl) ?_
  obtain ⟨q10, eq10, e⟩ := g_bd e
  refine g_cSv 91 rfl rfl (by decide) rfl rfl rfl (Md_copyRow_s (g_lnk (Md_k6 ka)) eq10) ?_
  refine g_run 1 92 [some (.ref a), some (.int x1), some (.int x2), some (.int y5)] [.ref a] (fun _ => rfl) ?_
  refine g_getA 95 rfl rfl (Md_l ka) (Md_r7 ka) ?_
  refine g_run 3 99 [some (.ref a), some (.int x1), some (.int x2), some (.int y5)] [.int x2, .int x1, .int (62 : Int32), .ref (a + 7)] (fun _ => rfl) ?_
  obtain ⟨q11, eq11, e⟩ := g_bd e
  refine g_cSv 102 rfl rfl (by decide) rfl rfl rfl (Md_copyRow_s (g_lnk (Md_k7 ka)) eq11) ?_
  refine g_run 1 103 [some (.ref a), some (.int x1), some (.int x2), some (.int y5)] [.ref a] (fun _ => rfl) ?_
  refine g_getA 106 rfl rfl (Md_l ka) (Md_r8 ka) ?_
  refine g_run 3 110 [some (.ref a), some (.int x1), some (.int x2), some (.int y5)] [.int x2, .int x1, .int (66 : Int32), .ref (a + 8)] (fun _ => rfl) ?_
  obtain ⟨q12, eq12, e⟩ := g_bd e
  refine g_cSv 113 rfl rfl (by decide) rfl rfl rfl (Md_copyRow_s (g_lnk (Md_k8 ka)) eq12) ?_
  refine g_run 1 114 [some (.ref a), some (.int x1), some (.int x2), some (.int y5)] [.ref a] (fun _ => rfl) ?_
  refine g_getA 117 rfl rfl (Md_l ka) (Md_r9 ka) ?_
  refine g_run 3 121 [some (.ref a), some (.int x1), some (.int x2), some (.int y5)] [.int x2, .int x1, .int (38 : Int32), .ref (a + 9)] (fun _ => rfl) ?_
  obtain ⟨q13, eq13, e⟩ := g_bd e
  refine g_cSv 124 rfl rfl (by decide) rfl rfl rfl (Md_copyRow_s (g_lnk (Md_k9 ka)) eq13) ?_
  cases e
  exact g_ret rfl (fun _ _ => rfl)
def Md_is (a : Nat) (x1 : Int32) (x2 : Int32) (h : am_F) : Option (Int32) :=
  (g_ix x1 16).bind fun k1 =>
  (g_bz (Md_in x2 (0 : Int32) ((h (a + 5) k1) - (1 : Int32)))).bind fun z9 =>
  some z9
theorem Md_is_s {X : Nat × (Nat → Int32)} {l : List (Nat × Nat)} {r : am_R} {h : am_F} {j : am_J} {a : Nat} {x1 : Int32} {x2 : Int32} (ka : Md_K l r a) {q : Int32} (e : Md_is a x1 x2 h = some q) : Call X 160 [.ref a, .int x1, .int x2] (l, r, h, j) (some (.int q), (l, r, h, j)) := by
  unfold Md_is at e
  refine ⟨Nat.le_of_ble_eq_true rfl, ?_⟩
  show Ev X 160 0 [some (.ref a), some (.int x1), some (.int x2)] [] (l, r, h, j) _
  refine g_run 3 3 [some (.ref a), some (.int x1), some (.int x2)] [.ref a, .int (0 : Int32), .int x2] (fun _ => rfl) ?_
  refine g_getA 6 rfl rfl (Md_l ka) (Md_r5 ka) ?_
  refine g_run 1 7 [some (.ref a), some (.int x1), some (.int x2)] [.int x1, .ref (a + 5), .int (0 : Int32), .int x2] (fun _ => rfl) ?_
  obtain ⟨k1, ek1, e⟩ := g_bd e
  refine g_iald 8 rfl rfl (Md_k5 ka) ek1 ?_
  refine g_run 2 10 [some (.ref a), some (.int x1), some (.int x2)] [.int ((h (a + 5) k1) - (1 : Int32)), .int (0 : Int32), .int x2] (fun _ => rfl) ?_
  refine g_cS 13 rfl rfl (by decide) rfl rfl rfl Md_in_s ?_
  obtain ⟨z9, ez9, e⟩ := g_bd e
  cases e
  exact g_retZ rfl ez9 rfl
def Md_four_l3 (x0 : Nat) (x1 : Int32) : Nat → Int32 → am_F → Option (am_F)
  | 0, _, _ => none
  | n + 1, x2, h =>
    if x2 < 0 then
      some h
    else
      (g_ix (h (x0 + 2) 0) 2400).bind fun k2 =>
      Md_four_l3 x0 x1 n (x2 + (Int32.ofInt (-8))) (am_up (am_up h (x0 + 1) k2 (x1 >>> (x2 &&& 31)).toInt8.toInt32.toInt8.toInt32) (x0 + 2) 0 (((am_up h (x0 + 1) k2 (x1 >>> (x2 &&& 31)).toInt8.toInt32.toInt8.toInt32) (x0 + 2) 0) + (1 : Int32)))
def Md_four (a : Nat) (x1 : Int32) (h : am_F) : Option (am_F) :=
  (Md_four_l3 a x1 g_fu (24 : Int32) h).bind fun q3 =>
  some q3
theorem Md_four_l3_s {X : Nat × (Nat → Int32)} {l : List (Nat × Nat)} {r : am_R} {x0 : Nat} {x1 : Int32} {j : am_J} {q : am_F} {R : Option Value × am_S} (kx0 : Md_K l r x0) (hx : ∀ (y2 : Int32) , Ev X 162 38 [some (.ref x0), some (.int x1), some (.int y2)] [] (l, r, q, j) R) : ∀ (n : Nat) (x2 : Int32) (h : am_F), Md_four_l3 x0 x1 n x2 h = some q → Ev X 162 3 [some (.ref x0), some (.int x1), some (.int x2)] [] (l, r, h, j) R := by
  intro n
  induction n with
  | zero => intro x2 h e; cases e
  | succ n ih =>
    intro x2 h e
    unfold Md_four_l3 at e
    refine g_run 1 4 [some (.ref x0), some (.int x1), some (.int x2)] [.int x2] (fun _ => rfl) ?_
    refine g_if (p1 := 38) (L1 := [some (.ref x0), some (.int x1), some (.int x2)]) (S1 := []) (s1 := (l, r, h, j)) (p2 := 7) (L2 := [some (.ref x0), some (.int x1), some (.int x2)]) (S2 := []) (s2 := (l, r, h, j)) rfl (fun _ _ => rfl) e (fun c1 e => ?_) (fun c1 e => ?_)
    · cases e
      exact hx _
    · refine g_run 1 8 [some (.ref x0), some (.int x1), some (.int x2)] [.ref x0] (fun _ => rfl) ?_
      refine g_getA 11 rfl rfl (Md_l kx0) (Md_r1 kx0) ?_
      refine g_run 1 12 [some (.ref x0), some (.int x1), some (.int x2)] [.ref x0, .ref (x0 + 1)] (fun _ => rfl) ?_
      refine g_getA 15 rfl rfl (Md_l kx0) (Md_r2 kx0) ?_
      refine g_run 1 16 [some (.ref x0), some (.int x1), some (.int x2)] [.int (0 : Int32), .ref (x0 + 2), .ref (x0 + 1)] (fun _ => rfl) ?_
      refine g_iald 17 rfl rfl (Md_k2 kx0) (kx := 0) rfl ?_
      refine g_run 4 21 [some (.ref x0), some (.int x1), some (.int x2)] [.int (x1 >>> (x2 &&& 31)).toInt8.toInt32, .int (h (x0 + 2) 0), .ref (x0 + 1)] (fun _ => rfl) ?_
      obtain ⟨k2, ek2, e⟩ := g_bd e
      refine g_bast 22 rfl rfl (Md_k1 kx0) ek2 ?_
      refine g_run 1 23 [some (.ref x0), some (.int x1), some (.int x2)] [.ref x0] (fun _ => rfl) ?_
      refine g_getA 26 rfl rfl (Md_l kx0) (Md_r2 kx0) ?_
      refine g_run 2 28 [some (.ref x0), some (.int x1), some (.int x2)] [.int (0 : Int32), .ref (x0 + 2), .int (0 : Int32), .ref (x0 + 2)] (fun _ => rfl) ?_
      refine g_iald 29 rfl rfl (Md_k2 kx0) (kx := 0) rfl ?_
      refine g_run 2 31 [some (.ref x0), some (.int x1), some (.int x2)] [.int (((am_up h (x0 + 1) k2 (x1 >>> (x2 &&& 31)).toInt8.toInt32.toInt8.toInt32) (x0 + 2) 0) + (1 : Int32)), .int (0 : Int32), .ref (x0 + 2)] (fun _ => rfl) ?_
      refine g_iast 32 rfl rfl (Md_k2 kx0) (kx := 0) rfl ?_
      refine g_go 35 [some (.ref x0), some (.int x1), some (.int (x2 + (Int32.ofInt (-8))))] [] rfl (fun _ _ => rfl) ?_
      refine g_run 1 3 [some (.ref x0), some (.int x1), some (.int (x2 + (Int32.ofInt (-8))))] [] (fun _ => rfl) ?_
      exact ih _ _ e
theorem Md_four_s {X : Nat × (Nat → Int32)} {l : List (Nat × Nat)} {r : am_R} {h : am_F} {j : am_J} {a : Nat} {x1 : Int32} (ka : Md_K l r a) {q : am_F} (e : Md_four a x1 h = some q) : Call X 162 [.ref a, .int x1] (l, r, h, j) (none, (l, r, q, j)) := by
  unfold Md_four at e
  refine ⟨Nat.le_of_ble_eq_true rfl, ?_⟩
  show Ev X 162 0 [some (.ref a), some (.int x1), none] [] (l, r, h, j) _
  refine g_run 2 3 [some (.ref a), some (.int x1), some (.int (24 : Int32))] [] (fun _ => rfl) ?_
  obtain ⟨q3, eq3, e⟩ := g_bd e
  refine Md_four_l3_s ka (fun y4 => ?_) _ _ _ eq3
  cases e
  exact g_ret rfl (fun _ _ => rfl)
def Md_feed (a : Nat) (x1 : Int32) (x2 : Int32) (x3 : Int32) (x4 : Int32) (x5 : Int32) (h : am_F) : Option (Int32 × am_F) :=
  if (((am_up h a 0 (0 : Int32)) (a + 2) 0) + (20 : Int32)) ≤ (600 : Int32) then
    (Md_four a x1 (am_up h a 0 (0 : Int32))).bind fun q2 =>
    (Md_four a x2 q2).bind fun q3 =>
    (Md_four a x3 q3).bind fun q4 =>
    (Md_four a x4 q4).bind fun q5 =>
    (Md_four a x5 q5).bind fun q6 =>
    some ((q6 (a + 2) 0), q6)
  else
    some ((-1 : Int32), (am_up h a 0 (0 : Int32)))
theorem Md_feed_s {X : Nat × (Nat → Int32)} {l : List (Nat × Nat)} {r : am_R} {h : am_F} {j : am_J} {a : Nat} {x1 : Int32} {x2 : Int32} {x3 : Int32} {x4 : Int32} {x5 : Int32} (ka : Md_K l r a) {q : Int32 × am_F} (e : Md_feed a x1 x2 x3 x4 x5 h = some q) : Call X 161 [.ref a, .int x1, .int x2, .int x3, .int x4, .int x5] (l, r, h, j) (some (.int q.1), (l, r, q.2, j)) := by
  unfold Md_feed at e
  refine ⟨Nat.le_of_ble_eq_true rfl, ?_⟩
  show Ev X 161 0 [some (.ref a), some (.int x1), some (.int x2), some (.int x3), some (.int x4), some (.int x5)] [] (l, r, h, j) _
  refine g_run 2 2 [some (.ref a), some (.int x1), some (.int x2), some (.int x3), some (.int x4), some (.int x5)] [.int (0 : Int32), .ref a] (fun _ => rfl) ?_
  refine g_putI 5 rfl rfl (Md_l ka) ?_
  refine g_run 1 6 [some (.ref a), some (.int x1), some (.int x2), some (.int x3), some (.int x4), some (.int x5)] [.ref a] (fun _ => rfl) ?_
  refine g_getA 9 rfl rfl (Md_l ka) (Md_r2 ka) ?_
  refine g_run 1 10 [some (.ref a), some (.int x1), some (.int x2), some (.int x3), some (.int x4), some (.int x5)] [.int (0 : Int32), .ref (a + 2)] (fun _ => rfl) ?_
  refine g_iald 11 rfl rfl (Md_k2 ka) (kx := 0) rfl ?_
  refine g_run 3 17 [some (.ref a), some (.int x1), some (.int x2), some (.int x3), some (.int x4), some (.int x5)] [.int (600 : Int32), .int (((am_up h a 0 (0 : Int32)) (a + 2) 0) + (20 : Int32))] (fun _ => rfl) ?_
  refine g_if (p1 := 22) (L1 := [some (.ref a), some (.int x1), some (.int x2), some (.int x3), some (.int x4), some (.int x5)]) (S1 := []) (s1 := (l, r, (am_up h a 0 (0 : Int32)), j)) (p2 := 20) (L2 := [some (.ref a), some (.int x1), some (.int x2), some (.int x3), some (.int x4), some (.int x5)]) (S2 := []) (s2 := (l, r, (am_up h a 0 (0 : Int32)), j)) rfl (fun _ _ => rfl) e (fun c1 e => ?_) (fun c1 e => ?_)
  · refine g_run 2 24 [some (.ref a), some (.int x1), some (.int x2), some (.int x3), some (.int x4), some (.int x5)] [.int x1, .ref a] (fun _ => rfl) ?_
    obtain ⟨q2, eq2, e⟩ := g_bd e
    refine g_cVv 27 rfl rfl rfl rfl rfl (Md_l ka) (Md_four_s ka eq2) ?_
    refine g_run 2 29 [some (.ref a), some (.int x1), some (.int x2), some (.int x3), some (.int x4), some (.int x5)] [.int x2, .ref a] (fun _ => rfl) ?_
    obtain ⟨q3, eq3, e⟩ := g_bd e
    refine g_cVv 32 rfl rfl rfl rfl rfl (Md_l ka) (Md_four_s ka eq3) ?_
    refine g_run 2 34 [some (.ref a), some (.int x1), some (.int x2), some (.int x3), some (.int x4), some (.int x5)] [.int x3, .ref a] (fun _ => rfl) ?_
    obtain ⟨q4, eq4, e⟩ := g_bd e
    refine g_cVv 37 rfl rfl rfl rfl rfl (Md_l ka) (Md_four_s ka eq4) ?_
    refine g_run 2 40 [some (.ref a), some (.int x1), some (.int x2), some (.int x3), some (.int x4), some (.int x5)] [.int x4, .ref a] (fun _ => rfl) ?_
    obtain ⟨q5, eq5, e⟩ := g_bd e
    refine g_cVv 43 rfl rfl rfl rfl rfl (Md_l ka) (Md_four_s ka eq5) ?_
    refine g_run 2 46 [some (.ref a), some (.int x1), some (.int x2), some (.int x3), some (.int x4), some (.int x5)] [.int x5, .ref a] (fun _ => rfl) ?_
    obtain ⟨q6, eq6, e⟩ := g_bd e
    refine g_cVv 49 rfl rfl rfl rfl rfl (Md_l ka) (Md_four_s ka eq6) ?_
    refine g_run 1 50 [some (.ref a), some (.int x1), some (.int x2), some (.int x3), some (.int x4), some (.int x5)] [.ref a] (fun _ => rfl) ?_
    refine g_getA 53 rfl rfl (Md_l ka) (Md_r2 ka) ?_
    refine g_run 1 54 [some (.ref a), some (.int x1), some (.int x2), some (.int x3), some (.int x4), some (.int x5)] [.int (0 : Int32), .ref (a + 2)] (fun _ => rfl) ?_
    refine g_iald 55 rfl rfl (Md_k2 ka) (kx := 0) rfl ?_
    cases e
    exact g_ret rfl (fun _ _ => rfl)
  · refine g_run 1 21 [some (.ref a), some (.int x1), some (.int x2), some (.int x3), some (.int x4), some (.int x5)] [.int (-1 : Int32)] (fun _ => rfl) ?_
    cases e
    exact g_ret rfl (fun _ _ => rfl)
def Md_end (a : Nat) (x1 : Int32) (h : am_F) : Option (Int32 × am_F) :=
  if (Md_in x1 (0 : Int32) ((am_up h a 0 (0 : Int32)) (a + 2) 0)) = 0 then
    some ((-1 : Int32), (am_up h a 0 (0 : Int32)))
  else
    some (x1, (am_up (am_up h a 0 (0 : Int32)) (a + 2) 0 x1))
theorem Md_end_s {X : Nat × (Nat → Int32)} {l : List (Nat × Nat)} {r : am_R} {h : am_F} {j : am_J} {a : Nat} {x1 : Int32} (ka : Md_K l r a) {q : Int32 × am_F} (e : Md_end a x1 h = some q) : Call X 163 [.ref a, .int x1] (l, r, h, j) (some (.int q.1), (l, r, q.2, j)) := by
  unfold Md_end at e
  refine ⟨Nat.le_of_ble_eq_true rfl, ?_⟩
  show Ev X 163 0 [some (.ref a), some (.int x1)] [] (l, r, h, j) _
  refine g_run 2 2 [some (.ref a), some (.int x1)] [.int (0 : Int32), .ref a] (fun _ => rfl) ?_
  refine g_putI 5 rfl rfl (Md_l ka) ?_
  refine g_run 3 8 [some (.ref a), some (.int x1)] [.ref a, .int (0 : Int32), .int x1] (fun _ => rfl) ?_
  refine g_getA 11 rfl rfl (Md_l ka) (Md_r2 ka) ?_
  refine g_run 1 12 [some (.ref a), some (.int x1)] [.int (0 : Int32), .ref (a + 2), .int (0 : Int32), .int x1] (fun _ => rfl) ?_
  refine g_iald 13 rfl rfl (Md_k2 ka) (kx := 0) rfl ?_
  refine g_cS 16 rfl rfl (by decide) rfl rfl rfl Md_in_s ?_
  refine g_if (p1 := 19) (L1 := [some (.ref a), some (.int x1)]) (S1 := []) (s1 := (l, r, (am_up h a 0 (0 : Int32)), j)) (p2 := 21) (L2 := [some (.ref a), some (.int x1)]) (S2 := []) (s2 := (l, r, (am_up h a 0 (0 : Int32)), j)) rfl (fun _ _ => rfl) e (fun c1 e => ?_) (fun c1 e => ?_)
  · refine g_run 1 20 [some (.ref a), some (.int x1)] [.int (-1 : Int32)] (fun _ => rfl) ?_
    cases e
    exact g_ret rfl (fun _ _ => rfl)
  · refine g_run 1 22 [some (.ref a), some (.int x1)] [.ref a] (fun _ => rfl) ?_
    refine g_getA 25 rfl rfl (Md_l ka) (Md_r2 ka) ?_
    refine g_run 2 27 [some (.ref a), some (.int x1)] [.int x1, .int (0 : Int32), .ref (a + 2)] (fun _ => rfl) ?_
    refine g_iast 28 rfl rfl (Md_k2 ka) (kx := 0) rfl ?_
    refine g_run 1 29 [some (.ref a), some (.int x1)] [.int x1] (fun _ => rfl) ?_
    cases e
    exact g_ret rfl (fun _ _ => rfl)
def Md_see (a : Nat) (h : am_F) : Option (Int32) :=
  if (h a 11) ≤ (h a 10) then
    some (-1 : Int32)
  else
    (g_ix (h a 10) 2400).bind fun k2 =>
    some ((h (a + 1) k2) &&& (255 : Int32))
theorem Md_see_s {X : Nat × (Nat → Int32)} {l : List (Nat × Nat)} {r : am_R} {h : am_F} {j : am_J} {a : Nat} (ka : Md_K l r a) {q : Int32} (e : Md_see a h = some q) : Call X 164 [.ref a] (l, r, h, j) (some (.int q), (l, r, h, j)) := by
  unfold Md_see at e
  refine ⟨Nat.le_of_ble_eq_true rfl, ?_⟩
  show Ev X 164 0 [some (.ref a)] [] (l, r, h, j) _
  refine g_run 1 1 [some (.ref a)] [.ref a] (fun _ => rfl) ?_
  refine g_getI 4 rfl rfl (Md_l ka) ?_
  refine g_run 1 5 [some (.ref a)] [.ref a, .int (h a 10)] (fun _ => rfl) ?_
  refine g_getI 8 rfl rfl (Md_l ka) ?_
  refine g_if (p1 := 27) (L1 := [some (.ref a)]) (S1 := []) (s1 := (l, r, h, j)) (p2 := 11) (L2 := [some (.ref a)]) (S2 := []) (s2 := (l, r, h, j)) rfl (fun _ _ => rfl) e (fun c1 e => ?_) (fun c1 e => ?_)
  · refine g_run 1 28 [some (.ref a)] [.int (-1 : Int32)] (fun _ => rfl) ?_
    cases e
    exact g_ret rfl (fun _ _ => rfl)
  · refine g_run 1 12 [some (.ref a)] [.ref a] (fun _ => rfl) ?_
    refine g_getA 15 rfl rfl (Md_l ka) (Md_r1 ka) ?_
    refine g_run 1 16 [some (.ref a)] [.ref a, .ref (a + 1)] (fun _ => rfl) ?_
    refine g_getI 19 rfl rfl (Md_l ka) ?_
    obtain ⟨k2, ek2, e⟩ := g_bd e
    refine g_bald 20 rfl rfl (Md_k1 ka) rfl ek2 ?_
    refine g_run 3 28 [some (.ref a)] [.int ((h (a + 1) k2) &&& (255 : Int32))] (fun _ => rfl) ?_
    cases e
    exact g_ret rfl (fun _ _ => rfl)
def Md_token_l0 (x0 : Nat) (j : am_J) : Nat → am_F → Option (am_F)
  | 0, _ => none
  | n + 1, h =>
    (Md_see x0 h).bind fun q1 =>
    if q1 = (10 : Int32) then
      Md_token_l0 x0 j n (am_up h x0 10 ((h x0 10) + (1 : Int32)))
    else
      (Md_see x0 h).bind fun q3 =>
      if q3 = (32 : Int32) then
        Md_token_l0 x0 j n (am_up h x0 10 ((h x0 10) + (1 : Int32)))
      else
        some h
def Md_token_l163 (x0 : Nat) (j : am_J) : Nat → Int32 → am_F → Option (Int32 × am_F)
  | 0, _, _ => none
  | n + 1, x2, h =>
    (Md_see x0 h).bind fun q13 =>
    if (Md_in q13 (48 : Int32) (57 : Int32)) = 0 then
      some (x2, h)
    else
      (if (3 : Int32) ≤ x2 then
          some (h x0 14)
        else
          (Md_see x0 h).bind fun q17 =>
          some ((((10 : Int32) * (h x0 14)) + q17) - (48 : Int32)) : Option (Int32)).bind fun q18 =>
      Md_token_l163 x0 j n (x2 + (1 : Int32)) (am_up (am_up h x0 14 q18) x0 10 (((am_up h x0 14 q18) x0 10) + (1 : Int32)))
def Md_token_l74 (x0 : Nat) : Nat → Int32 → am_F → am_J → Option (Int32 × am_F × am_J)
  | 0, _, _, _ => none
  | n + 1, x2, h, j =>
    (Md_see x0 h).bind fun q23 =>
    if (Md_in q23 (97 : Int32) (122 : Int32)) = 0 then
      some (x2, h, j)
    else
      (Md_see x0 h).bind fun q25 =>
      Md_token_l74 x0 n (x2 + (1 : Int32)) (am_up h x0 10 ((h x0 10) + (1 : Int32))) (am_up j x0 15 (((j x0 15) <<< (Int32.toInt64 (8 : Int32) &&& 63)) ||| q25.toInt64))
def Md_token (a : Nat) (h : am_F) (j : am_J) : Option (am_F × am_J) :=
  (Md_token_l0 a j g_fu h).bind fun q5 =>
  (Md_see a (am_up q5 a 12 (q5 a 10))).bind fun q6 =>
  if 0 ≤ q6 then
    if (Md_in q6 (97 : Int32) (122 : Int32)) = 0 then
      if (Md_in q6 (48 : Int32) (57 : Int32)) = 0 then
        (if q6 = (59 : Int32) then
            some (4 : Int32)
          else
            some (1 : Int32) : Option (Int32)).bind fun q12 =>
        some ((am_up (am_up (am_up q5 a 12 (q5 a 10)) a 10 (((am_up q5 a 12 (q5 a 10)) a 10) + (1 : Int32))) a 13 q12), (am_up j a 15 (0 : Int64)))
      else
        (Md_token_l163 a (am_up j a 15 (0 : Int64)) g_fu (0 : Int32) (am_up (am_up q5 a 12 (q5 a 10)) a 14 (0 : Int32))).bind fun q19 =>
        (if q19.1 ≤ (3 : Int32) then
            some (3 : Int32)
          else
            some (1 : Int32) : Option (Int32)).bind fun q22 =>
        some ((am_up q19.2 a 13 q22), (am_up j a 15 (0 : Int64)))
    else
      (Md_token_l74 a g_fu (0 : Int32) (am_up q5 a 12 (q5 a 10)) (am_up j a 15 (0 : Int64))).bind fun q26 =>
      (if q26.1 ≤ (8 : Int32) then
          some (q26.2.2 a 15)
        else
          some (0 : Int64) : Option (Int64)).bind fun q29 =>
      some ((am_up q26.2.1 a 13 (2 : Int32)), (am_up q26.2.2 a 15 q29))
  else
    some ((am_up (am_up q5 a 12 (q5 a 10)) a 13 (0 : Int32)), (am_up j a 15 (0 : Int64)))
theorem Md_token_l0_s {X : Nat × (Nat → Int32)} {l : List (Nat × Nat)} {r : am_R} {x0 : Nat} {j : am_J} {q : am_F} {R : Option Value × am_S} (kx0 : Md_K l r x0) (hx : ∀ (_ : True), Ev X 165 31 [some (.ref x0), none, none] [] (l, r, q, j) R) : ∀ (n : Nat) (h : am_F), Md_token_l0 x0 j n h = some q → Ev X 165 0 [some (.ref x0), none, none] [] (l, r, h, j) R := by
  intro n
  induction n with
  | zero => intro h e; cases e
  | succ n ih =>
    intro h e
    unfold Md_token_l0 at e
    refine g_run 1 1 [some (.ref x0), none, none] [.ref x0] (fun _ => rfl) ?_
    obtain ⟨q1, eq1, e⟩ := g_bd e
    refine g_cV 4 rfl rfl rfl rfl rfl (Md_l kx0) (Md_see_s kx0 eq1) ?_
    refine g_run 1 6 [some (.ref x0), none, none] [.int (10 : Int32), .int q1] (fun _ => rfl) ?_
    refine g_if (p1 := 18) (L1 := [some (.ref x0), none, none]) (S1 := []) (s1 := (l, r, h, j)) (p2 := 9) (L2 := [some (.ref x0), none, none]) (S2 := []) (s2 := (l, r, h, j)) rfl (fun _ _ => rfl) e (fun c2 e => ?_) (fun c2 e => ?_)
    · refine g_run 2 20 [some (.ref x0), none, none] [.ref x0, .ref x0] (fun _ => rfl) ?_
      refine g_getI 23 rfl rfl (Md_l kx0) ?_
      refine g_run 2 25 [some (.ref x0), none, none] [.int ((h x0 10) + (1 : Int32)), .ref x0] (fun _ => rfl) ?_
      refine g_putI 28 rfl rfl (Md_l kx0) ?_
      refine g_run 1 0 [some (.ref x0), none, none] [] (fun _ => rfl) ?_
      exact ih _ e
    · refine g_run 1 10 [some (.ref x0), none, none] [.ref x0] (fun _ => rfl) ?_
      obtain ⟨q3, eq3, e⟩ := g_bd e
      refine g_cV 13 rfl rfl rfl rfl rfl (Md_l kx0) (Md_see_s kx0 eq3) ?_
      refine g_run 1 15 [some (.ref x0), none, none] [.int (32 : Int32), .int q3] (fun _ => rfl) ?_
      refine g_if (p1 := 18) (L1 := [some (.ref x0), none, none]) (S1 := []) (s1 := (l, r, h, j)) (p2 := 31) (L2 := [some (.ref x0), none, none]) (S2 := []) (s2 := (l, r, h, j)) rfl (fun _ _ => rfl) e (fun c4 e => ?_) (fun c4 e => ?_)
      · refine g_run 2 20 [some (.ref x0), none, none] [.ref x0, .ref x0] (fun _ => rfl) ?_
        refine g_getI 23 rfl rfl (Md_l kx0) ?_
        refine g_run 2 25 [some (.ref x0), none, none] [.int ((h x0 10) + (1 : Int32)), .ref x0] (fun _ => rfl) ?_
        refine g_putI 28 rfl rfl (Md_l kx0) ?_
        refine g_run 1 0 [some (.ref x0), none, none] [] (fun _ => rfl) ?_
        exact ih _ e
      · cases e
        exact hx trivial
theorem Md_token_l163_s {X : Nat × (Nat → Int32)} {l : List (Nat × Nat)} {r : am_R} {x0 : Nat} {y1 : Int32} {j : am_J} {q : Int32 × am_F} {R : Option Value × am_S} (kx0 : Md_K l r x0) (hx : ∀ (_ : True), Ev X 165 224 [some (.ref x0), some (.int y1), some (.int q.1)] [] (l, r, q.2, j) R) : ∀ (n : Nat) (x2 : Int32) (h : am_F), Md_token_l163 x0 j n x2 h = some q → Ev X 165 163 [some (.ref x0), some (.int y1), some (.int x2)] [] (l, r, h, j) R := by
  intro n
  induction n with
  | zero => intro x2 h e; cases e
  | succ n ih =>
    intro x2 h e
    unfold Md_token_l163 at e
    refine g_run 1 164 [some (.ref x0), some (.int y1), some (.int x2)] [.ref x0] (fun _ => rfl) ?_
    obtain ⟨q13, eq13, e⟩ := g_bd e
    refine g_cV 167 rfl rfl rfl rfl rfl (Md_l kx0) (Md_see_s kx0 eq13) ?_
    refine g_run 2 171 [some (.ref x0), some (.int y1), some (.int x2)] [.int (57 : Int32), .int (48 : Int32), .int q13] (fun _ => rfl) ?_
    refine g_cS 174 rfl rfl (by decide) rfl rfl rfl Md_in_s ?_
    refine g_if (p1 := 224) (L1 := [some (.ref x0), some (.int y1), some (.int x2)]) (S1 := []) (s1 := (l, r, h, j)) (p2 := 177) (L2 := [some (.ref x0), some (.int y1), some (.int x2)]) (S2 := []) (s2 := (l, r, h, j)) rfl (fun _ _ => rfl) e (fun c14 e => ?_) (fun c14 e => ?_)
    · cases e
      exact hx trivial
    · refine g_run 3 180 [some (.ref x0), some (.int y1), some (.int x2)] [.int (3 : Int32), .int x2, .ref x0] (fun _ => rfl) ?_
      obtain ⟨q18, eq18, e⟩ := g_bd e
      have hjq18 : ∀ (_ : True), Ev X 165 205 [some (.ref x0), some (.int y1), some (.int x2)] [.int q18, .ref x0] (l, r, h, j) R := by
        intro _
        refine g_putI 208 rfl rfl (Md_l kx0) ?_
        refine g_run 2 210 [some (.ref x0), some (.int y1), some (.int x2)] [.ref x0, .ref x0] (fun _ => rfl) ?_
        refine g_getI 213 rfl rfl (Md_l kx0) ?_
        refine g_run 2 215 [some (.ref x0), some (.int y1), some (.int x2)] [.int (((am_up h x0 14 q18) x0 10) + (1 : Int32)), .ref x0] (fun _ => rfl) ?_
        refine g_putI 218 rfl rfl (Md_l kx0) ?_
        refine g_run 2 163 [some (.ref x0), some (.int y1), some (.int (x2 + (1 : Int32)))] [] (fun _ => rfl) ?_
        exact ih _ _ e
      replace e := eq18
      refine g_if (p1 := 201) (L1 := [some (.ref x0), some (.int y1), some (.int x2)]) (S1 := [.ref x0]) (s1 := (l, r, h, j)) (p2 := 183) (L2 := [some (.ref x0), some (.int y1), some (.int x2)]) (S2 := [.ref x0]) (s2 := (l, r, h, j)) rfl (fun _ _ => rfl) e (fun c15 e => ?_) (fun c15 e => ?_)
      · refine g_run 1 202 [some (.ref x0), some (.int y1), some (.int x2)] [.ref x0, .ref x0] (fun _ => rfl) ?_
        refine g_getI 205 rfl rfl (Md_l kx0) ?_
        cases e
        exact hjq18 trivial
      · refine g_run 2 186 [some (.ref x0), some (.int y1), some (.int x2)] [.ref x0, .int (10 : Int32), .ref x0] (fun _ => rfl) ?_
        refine g_getI 189 rfl rfl (Md_l kx0) ?_
        refine g_run 2 191 [some (.ref x0), some (.int y1), some (.int x2)] [.ref x0, .int ((10 : Int32) * (h x0 14)), .ref x0] (fun _ => rfl) ?_
        obtain ⟨q17, eq17, e⟩ := g_bd e
        refine g_cV 194 rfl rfl rfl rfl rfl (Md_l kx0) (Md_see_s kx0 eq17) ?_
        refine g_run 4 205 [some (.ref x0), some (.int y1), some (.int x2)] [.int ((((10 : Int32) * (h x0 14)) + q17) - (48 : Int32)), .ref x0] (fun _ => rfl) ?_
        cases e
        exact hjq18 trivial
theorem Md_token_l74_s {X : Nat × (Nat → Int32)} {l : List (Nat × Nat)} {r : am_R} {x0 : Nat} {y1 : Int32} {q : Int32 × am_F × am_J} {R : Option Value × am_S} (kx0 : Md_K l r x0) (hx : ∀ (_ : True), Ev X 165 121 [some (.ref x0), some (.int y1), some (.int q.1)] [] (l, r, q.2.1, q.2.2) R) : ∀ (n : Nat) (x2 : Int32) (h : am_F) (j : am_J), Md_token_l74 x0 n x2 h j = some q → Ev X 165 74 [some (.ref x0), some (.int y1), some (.int x2)] [] (l, r, h, j) R := by
  intro n
  induction n with
  | zero => intro x2 h j e; cases e
  | succ n ih =>
    intro x2 h j e
    unfold Md_token_l74 at e
    refine g_run 1 75 [some (.ref x0), some (.int y1), some (.int x2)] [.ref x0] (fun _ => rfl) ?_
    obtain ⟨q23, eq23, e⟩ := g_bd e
    refine g_cV 78 rfl rfl rfl rfl rfl (Md_l kx0) (Md_see_s kx0 eq23) ?_
    refine g_run 2 82 [some (.ref x0), some (.int y1), some (.int x2)] [.int (122 : Int32), .int (97 : Int32), .int q23] (fun _ => rfl) ?_
    refine g_cS 85 rfl rfl (by decide) rfl rfl rfl Md_in_s ?_
    refine g_if (p1 := 121) (L1 := [some (.ref x0), some (.int y1), some (.int x2)]) (S1 := []) (s1 := (l, r, h, j)) (p2 := 88) (L2 := [some (.ref x0), some (.int y1), some (.int x2)]) (S2 := []) (s2 := (l, r, h, j)) rfl (fun _ _ => rfl) e (fun c24 e => ?_) (fun c24 e => ?_)
    · cases e
      exact hx trivial
    · refine g_run 2 90 [some (.ref x0), some (.int y1), some (.int x2)] [.ref x0, .ref x0] (fun _ => rfl) ?_
      refine g_getJ 93 rfl rfl (Md_l kx0) ?_
      refine g_run 3 97 [some (.ref x0), some (.int y1), some (.int x2)] [.ref x0, .long ((j x0 15) <<< (Int32.toInt64 (8 : Int32) &&& 63)), .ref x0] (fun _ => rfl) ?_
      obtain ⟨q25, eq25, e⟩ := g_bd e
      refine g_cV 100 rfl rfl rfl rfl rfl (Md_l kx0) (Md_see_s kx0 eq25) ?_
      refine g_run 2 102 [some (.ref x0), some (.int y1), some (.int x2)] [.long (((j x0 15) <<< (Int32.toInt64 (8 : Int32) &&& 63)) ||| q25.toInt64), .ref x0] (fun _ => rfl) ?_
      refine g_putJ 105 rfl rfl (Md_l kx0) ?_
      refine g_run 2 107 [some (.ref x0), some (.int y1), some (.int x2)] [.ref x0, .ref x0] (fun _ => rfl) ?_
      refine g_getI 110 rfl rfl (Md_l kx0) ?_
      refine g_run 2 112 [some (.ref x0), some (.int y1), some (.int x2)] [.int ((h x0 10) + (1 : Int32)), .ref x0] (fun _ => rfl) ?_
      refine g_putI 115 rfl rfl (Md_l kx0) ?_
      refine g_run 2 74 [some (.ref x0), some (.int y1), some (.int (x2 + (1 : Int32)))] [] (fun _ => rfl) ?_
      exact ih _ _ _ e
theorem Md_token_s {X : Nat × (Nat → Int32)} {l : List (Nat × Nat)} {r : am_R} {h : am_F} {j : am_J} {a : Nat} (ka : Md_K l r a) {q : am_F × am_J} (e : Md_token a h j = some q) : Call X 165 [.ref a] (l, r, h, j) (none, (l, r, q.1, q.2)) := by
  unfold Md_token at e
  refine ⟨Nat.le_of_ble_eq_true rfl, ?_⟩
  show Ev X 165 0 [some (.ref a), none, none] [] (l, r, h, j) _
  obtain ⟨q5, eq5, e⟩ := g_bd e
  refine Md_token_l0_s ka (fun _ => ?_) _ _ eq5
  refine g_run 2 33 [some (.ref a), none, none] [.ref a, .ref a] (fun _ => rfl) ?_
  refine g_getI 36 rfl rfl (Md_l ka) ?_
  refine g_putI 39 rfl rfl (Md_l ka) ?_
  refine g_run 1 40 [some (.ref a), none, none] [.ref a] (fun _ => rfl) ?_
  obtain ⟨q6, eq6, e⟩ := g_bd e
  refine g_cV 43 rfl rfl rfl rfl rfl (Md_l ka) (Md_see_s ka eq6) ?_
  refine g_run 3 46 [some (.ref a), some (.int q6), none] [.long (0 : Int64), .ref a] (fun _ => rfl) ?_
  refine g_putJ 49 rfl rfl (Md_l ka) ?_
  refine g_run 3 52 [some (.ref a), some (.int q6), some (.int (0 : Int32))] [.int q6] (fun _ => rfl) ?_
  refine g_if (p1 := 63) (L1 := [some (.ref a), some (.int q6), some (.int (0 : Int32))]) (S1 := []) (s1 := (l, r, (am_up q5 a 12 (q5 a 10)), (am_up j a 15 (0 : Int64)))) (p2 := 55) (L2 := [some (.ref a), some (.int q6), some (.int (0 : Int32))]) (S2 := []) (s2 := (l, r, (am_up q5 a 12 (q5 a 10)), (am_up j a 15 (0 : Int64)))) rfl (fun _ _ => rfl) e (fun c7 e => ?_) (fun c7 e => ?_)
  · refine g_run 3 68 [some (.ref a), some (.int q6), some (.int (0 : Int32))] [.int (122 : Int32), .int (97 : Int32), .int q6] (fun _ => rfl) ?_
    refine g_cS 71 rfl rfl (by decide) rfl rfl rfl Md_in_s ?_
    refine g_if (p1 := 147) (L1 := [some (.ref a), some (.int q6), some (.int (0 : Int32))]) (S1 := []) (s1 := (l, r, (am_up q5 a 12 (q5 a 10)), (am_up j a 15 (0 : Int64)))) (p2 := 74) (L2 := [some (.ref a), some (.int q6), some (.int (0 : Int32))]) (S2 := []) (s2 := (l, r, (am_up q5 a 12 (q5 a 10)), (am_up j a 15 (0 : Int64)))) rfl (fun _ _ => rfl) e (fun c8 e => ?_) (fun c8 e => ?_)
    · refine g_run 3 152 [some (.ref a), some (.int q6), some (.int (0 : Int32))] [.int (57 : Int32), .int (48 : Int32), .int q6] (fun _ => rfl) ?_
      refine g_cS 155 rfl rfl (by decide) rfl rfl rfl Md_in_s ?_
      refine g_if (p1 := 241) (L1 := [some (.ref a), some (.int q6), some (.int (0 : Int32))]) (S1 := []) (s1 := (l, r, (am_up q5 a 12 (q5 a 10)), (am_up j a 15 (0 : Int64)))) (p2 := 158) (L2 := [some (.ref a), some (.int q6), some (.int (0 : Int32))]) (S2 := []) (s2 := (l, r, (am_up q5 a 12 (q5 a 10)), (am_up j a 15 (0 : Int64)))) rfl (fun _ _ => rfl) e (fun c9 e => ?_) (fun c9 e => ?_)
      · refine g_run 2 243 [some (.ref a), some (.int q6), some (.int (0 : Int32))] [.ref a, .ref a] (fun _ => rfl) ?_
        refine g_getI 246 rfl rfl (Md_l ka) ?_
        refine g_run 2 248 [some (.ref a), some (.int q6), some (.int (0 : Int32))] [.int (((am_up q5 a 12 (q5 a 10)) a 10) + (1 : Int32)), .ref a] (fun _ => rfl) ?_
        refine g_putI 251 rfl rfl (Md_l ka) ?_
        refine g_run 3 255 [some (.ref a), some (.int q6), some (.int (0 : Int32))] [.int (59 : Int32), .int q6, .ref a] (fun _ => rfl) ?_
        obtain ⟨q12, eq12, e⟩ := g_bd e
        have hjq12 : ∀ (_ : True), Ev X 165 263 [some (.ref a), some (.int q6), some (.int (0 : Int32))] [.int q12, .ref a] (l, r, (am_up (am_up q5 a 12 (q5 a 10)) a 10 (((am_up q5 a 12 (q5 a 10)) a 10) + (1 : Int32))), (am_up j a 15 (0 : Int64))) (none, (l, r, q.1, q.2)) := by
          intro _
          refine g_putI 266 rfl rfl (Md_l ka) ?_
          cases e
          exact g_ret rfl (fun _ _ => rfl)
        replace e := eq12
        refine g_if (p1 := 258) (L1 := [some (.ref a), some (.int q6), some (.int (0 : Int32))]) (S1 := [.ref a]) (s1 := (l, r, (am_up (am_up q5 a 12 (q5 a 10)) a 10 (((am_up q5 a 12 (q5 a 10)) a 10) + (1 : Int32))), (am_up j a 15 (0 : Int64)))) (p2 := 262) (L2 := [some (.ref a), some (.int q6), some (.int (0 : Int32))]) (S2 := [.ref a]) (s2 := (l, r, (am_up (am_up q5 a 12 (q5 a 10)) a 10 (((am_up q5 a 12 (q5 a 10)) a 10) + (1 : Int32))), (am_up j a 15 (0 : Int64)))) rfl (fun _ _ => rfl) e (fun c10 e => ?_) (fun c10 e => ?_)
        · refine g_run 2 263 [some (.ref a), some (.int q6), some (.int (0 : Int32))] [.int (4 : Int32), .ref a] (fun _ => rfl) ?_
          cases e
          exact hjq12 trivial
        · refine g_run 1 263 [some (.ref a), some (.int q6), some (.int (0 : Int32))] [.int (1 : Int32), .ref a] (fun _ => rfl) ?_
          cases e
          exact hjq12 trivial
      · refine g_run 2 160 [some (.ref a), some (.int q6), some (.int (0 : Int32))] [.int (0 : Int32), .ref a] (fun _ => rfl) ?_
        refine g_putI 163 rfl rfl (Md_l ka) ?_
        obtain ⟨q19, eq19, e⟩ := g_bd e
        refine Md_token_l163_s ka (fun _ => ?_) _ _ _ eq19
        refine g_run 3 227 [some (.ref a), some (.int q6), some (.int q19.1)] [.int (3 : Int32), .int q19.1, .ref a] (fun _ => rfl) ?_
        obtain ⟨q22, eq22, e⟩ := g_bd e
        have hjq22 : ∀ (_ : True), Ev X 165 235 [some (.ref a), some (.int q6), some (.int q19.1)] [.int q22, .ref a] (l, r, q19.2, (am_up j a 15 (0 : Int64))) (none, (l, r, q.1, q.2)) := by
          intro _
          refine g_putI 238 rfl rfl (Md_l ka) ?_
          refine g_run 1 266 [some (.ref a), some (.int q6), some (.int q19.1)] [] (fun _ => rfl) ?_
          cases e
          exact g_ret rfl (fun _ _ => rfl)
        replace e := eq22
        refine g_if (p1 := 234) (L1 := [some (.ref a), some (.int q6), some (.int q19.1)]) (S1 := [.ref a]) (s1 := (l, r, q19.2, (am_up j a 15 (0 : Int64)))) (p2 := 230) (L2 := [some (.ref a), some (.int q6), some (.int q19.1)]) (S2 := [.ref a]) (s2 := (l, r, q19.2, (am_up j a 15 (0 : Int64)))) rfl (fun _ _ => rfl) e (fun c20 e => ?_) (fun c20 e => ?_)
        · refine g_run 1 235 [some (.ref a), some (.int q6), some (.int q19.1)] [.int (3 : Int32), .ref a] (fun _ => rfl) ?_
          cases e
          exact hjq22 trivial
        · refine g_run 2 235 [some (.ref a), some (.int q6), some (.int q19.1)] [.int (1 : Int32), .ref a] (fun _ => rfl) ?_
          cases e
          exact hjq22 trivial
    · obtain ⟨q26, eq26, e⟩ := g_bd e
      refine Md_token_l74_s ka (fun _ => ?_) _ _ _ _ eq26
      refine g_run 3 125 [some (.ref a), some (.int q6), some (.int q26.1)] [.int (8 : Int32), .int q26.1, .ref a] (fun _ => rfl) ?_
      obtain ⟨q29, eq29, e⟩ := g_bd e
      have hjq29 : ∀ (_ : True), Ev X 165 136 [some (.ref a), some (.int q6), some (.int q26.1)] [.long q29, .ref a] (l, r, q26.2.1, q26.2.2) (none, (l, r, q.1, q.2)) := by
        intro _
        refine g_putJ 139 rfl rfl (Md_l ka) ?_
        refine g_run 2 141 [some (.ref a), some (.int q6), some (.int q26.1)] [.int (2 : Int32), .ref a] (fun _ => rfl) ?_
        refine g_putI 144 rfl rfl (Md_l ka) ?_
        refine g_run 1 266 [some (.ref a), some (.int q6), some (.int q26.1)] [] (fun _ => rfl) ?_
        cases e
        exact g_ret rfl (fun _ _ => rfl)
      replace e := eq29
      refine g_if (p1 := 132) (L1 := [some (.ref a), some (.int q6), some (.int q26.1)]) (S1 := [.ref a]) (s1 := (l, r, q26.2.1, q26.2.2)) (p2 := 128) (L2 := [some (.ref a), some (.int q6), some (.int q26.1)]) (S2 := [.ref a]) (s2 := (l, r, q26.2.1, q26.2.2)) rfl (fun _ _ => rfl) e (fun c27 e => ?_) (fun c27 e => ?_)
      · refine g_run 1 133 [some (.ref a), some (.int q6), some (.int q26.1)] [.ref a, .ref a] (fun _ => rfl) ?_
        refine g_getJ 136 rfl rfl (Md_l ka) ?_
        cases e
        exact hjq29 trivial
      · refine g_run 2 136 [some (.ref a), some (.int q6), some (.int q26.1)] [.long (0 : Int64), .ref a] (fun _ => rfl) ?_
        cases e
        exact hjq29 trivial
  · refine g_run 2 57 [some (.ref a), some (.int q6), some (.int (0 : Int32))] [.int (0 : Int32), .ref a] (fun _ => rfl) ?_
    refine g_putI 60 rfl rfl (Md_l ka) ?_
    refine g_run 1 266 [some (.ref a), some (.int q6), some (.int (0 : Int32))] [] (fun _ => rfl) ?_
    cases e
    exact g_ret rfl (fun _ _ => rfl)
def Md_fails (a : Nat) (h : am_F) : Option (Int32 × am_F) :=
  some ((0 : Int32), (am_up h a 16 (h a 12)))
theorem Md_fails_s {X : Nat × (Nat → Int32)} {l : List (Nat × Nat)} {r : am_R} {h : am_F} {j : am_J} {a : Nat} (ka : Md_K l r a) {q : Int32 × am_F} (e : Md_fails a h = some q) : Call X 166 [.ref a] (l, r, h, j) (some (.int q.1), (l, r, q.2, j)) := by
  unfold Md_fails at e
  refine ⟨Nat.le_of_ble_eq_true rfl, ?_⟩
  show Ev X 166 0 [some (.ref a)] [] (l, r, h, j) _
  refine g_run 2 2 [some (.ref a)] [.ref a, .ref a] (fun _ => rfl) ?_
  refine g_getI 5 rfl rfl (Md_l ka) ?_
  refine g_putI 8 rfl rfl (Md_l ka) ?_
  refine g_run 1 9 [some (.ref a)] [.int (0 : Int32)] (fun _ => rfl) ?_
  cases e
  exact g_retZ rfl (y := (0 : Int32)) rfl rfl
def Md_later (a : Nat) (x1 : Int32) (x2 : Int32) (h : am_F) : Option (am_F) :=
  if (h a 17) = 0 then
    some (am_up (am_up h a 17 x1) a 18 x2)
  else
    if x2 < (h a 18) then
      some (am_up (am_up h a 17 x1) a 18 x2)
    else
      if x2 = (h a 18) then
        if (h a 17) ≤ x1 then
          some h
        else
          some (am_up (am_up h a 17 x1) a 18 x2)
      else
        some h
theorem Md_later_s {X : Nat × (Nat → Int32)} {l : List (Nat × Nat)} {r : am_R} {h : am_F} {j : am_J} {a : Nat} {x1 : Int32} {x2 : Int32} (ka : Md_K l r a) {q : am_F} (e : Md_later a x1 x2 h = some q) : Call X 167 [.ref a, .int x1, .int x2] (l, r, h, j) (none, (l, r, q, j)) := by
  unfold Md_later at e
  refine ⟨Nat.le_of_ble_eq_true rfl, ?_⟩
  show Ev X 167 0 [some (.ref a), some (.int x1), some (.int x2)] [] (l, r, h, j) _
  refine g_run 1 1 [some (.ref a), some (.int x1), some (.int x2)] [.ref a] (fun _ => rfl) ?_
  refine g_getI 4 rfl rfl (Md_l ka) ?_
  refine g_if (p1 := 31) (L1 := [some (.ref a), some (.int x1), some (.int x2)]) (S1 := []) (s1 := (l, r, h, j)) (p2 := 7) (L2 := [some (.ref a), some (.int x1), some (.int x2)]) (S2 := []) (s2 := (l, r, h, j)) rfl (fun _ _ => rfl) e (fun c1 e => ?_) (fun c1 e => ?_)
  · refine g_run 2 33 [some (.ref a), some (.int x1), some (.int x2)] [.int x1, .ref a] (fun _ => rfl) ?_
    refine g_putI 36 rfl rfl (Md_l ka) ?_
    refine g_run 2 38 [some (.ref a), some (.int x1), some (.int x2)] [.int x2, .ref a] (fun _ => rfl) ?_
    refine g_putI 41 rfl rfl (Md_l ka) ?_
    cases e
    exact g_ret rfl (fun _ _ => rfl)
  · refine g_run 2 9 [some (.ref a), some (.int x1), some (.int x2)] [.ref a, .int x2] (fun _ => rfl) ?_
    refine g_getI 12 rfl rfl (Md_l ka) ?_
    refine g_if (p1 := 31) (L1 := [some (.ref a), some (.int x1), some (.int x2)]) (S1 := []) (s1 := (l, r, h, j)) (p2 := 15) (L2 := [some (.ref a), some (.int x1), some (.int x2)]) (S2 := []) (s2 := (l, r, h, j)) rfl (fun _ _ => rfl) e (fun c2 e => ?_) (fun c2 e => ?_)
    · refine g_run 2 33 [some (.ref a), some (.int x1), some (.int x2)] [.int x1, .ref a] (fun _ => rfl) ?_
      refine g_putI 36 rfl rfl (Md_l ka) ?_
      refine g_run 2 38 [some (.ref a), some (.int x1), some (.int x2)] [.int x2, .ref a] (fun _ => rfl) ?_
      refine g_putI 41 rfl rfl (Md_l ka) ?_
      cases e
      exact g_ret rfl (fun _ _ => rfl)
    · refine g_run 2 17 [some (.ref a), some (.int x1), some (.int x2)] [.ref a, .int x2] (fun _ => rfl) ?_
      refine g_getI 20 rfl rfl (Md_l ka) ?_
      refine g_if (p1 := 23) (L1 := [some (.ref a), some (.int x1), some (.int x2)]) (S1 := []) (s1 := (l, r, h, j)) (p2 := 41) (L2 := [some (.ref a), some (.int x1), some (.int x2)]) (S2 := []) (s2 := (l, r, h, j)) rfl (fun _ _ => rfl) e (fun c3 e => ?_) (fun c3 e => ?_)
      · refine g_run 2 25 [some (.ref a), some (.int x1), some (.int x2)] [.ref a, .int x1] (fun _ => rfl) ?_
        refine g_getI 28 rfl rfl (Md_l ka) ?_
        refine g_if (p1 := 41) (L1 := [some (.ref a), some (.int x1), some (.int x2)]) (S1 := []) (s1 := (l, r, h, j)) (p2 := 31) (L2 := [some (.ref a), some (.int x1), some (.int x2)]) (S2 := []) (s2 := (l, r, h, j)) rfl (fun _ _ => rfl) e (fun c4 e => ?_) (fun c4 e => ?_)
        · cases e
          exact g_ret rfl (fun _ _ => rfl)
        · refine g_run 2 33 [some (.ref a), some (.int x1), some (.int x2)] [.int x1, .ref a] (fun _ => rfl) ?_
          refine g_putI 36 rfl rfl (Md_l ka) ?_
          refine g_run 2 38 [some (.ref a), some (.int x1), some (.int x2)] [.int x2, .ref a] (fun _ => rfl) ?_
          refine g_putI 41 rfl rfl (Md_l ka) ?_
          cases e
          exact g_ret rfl (fun _ _ => rfl)
      · cases e
        exact g_ret rfl (fun _ _ => rfl)
def Md_take (a : Nat) (x1 : Int32) (x2 : Int32) (x3 : Int32) (h : am_F) (j : am_J) : Option (Int32 × am_F × am_J) :=
  if (h a 13) = (3 : Int32) then
    (g_ix x1 6).bind fun k2 =>
    (if (Md_in ((am_up h (a + 11) k2 (h a 14)) a 14) x2 x3) = 0 then
        (Md_later a (2 : Int32) ((am_up h (a + 11) k2 (h a 14)) a 12) (am_up h (a + 11) k2 (h a 14))).bind fun q5 =>
        some (am_up q5 a 22 (0 : Int32))
      else
        some (am_up h (a + 11) k2 (h a 14)) : Option (am_F)).bind fun q6 =>
    (Md_token a q6 j).bind fun q7 =>
    some ((1 : Int32), q7.1, q7.2)
  else
    (Md_fails a h).bind fun q8 =>
    (g_bz q8.1).bind fun z9 =>
    some (z9, q8.2, j)
theorem Md_take_s {X : Nat × (Nat → Int32)} {l : List (Nat × Nat)} {r : am_R} {h : am_F} {j : am_J} {a : Nat} {x1 : Int32} {x2 : Int32} {x3 : Int32} (ka : Md_K l r a) {q : Int32 × am_F × am_J} (e : Md_take a x1 x2 x3 h j = some q) : Call X 168 [.ref a, .int x1, .int x2, .int x3] (l, r, h, j) (some (.int q.1), (l, r, q.2.1, q.2.2)) := by
  unfold Md_take at e
  refine ⟨Nat.le_of_ble_eq_true rfl, ?_⟩
  show Ev X 168 0 [some (.ref a), some (.int x1), some (.int x2), some (.int x3)] [] (l, r, h, j) _
  refine g_run 1 1 [some (.ref a), some (.int x1), some (.int x2), some (.int x3)] [.ref a] (fun _ => rfl) ?_
  refine g_getI 4 rfl rfl (Md_l ka) ?_
  refine g_run 1 5 [some (.ref a), some (.int x1), some (.int x2), some (.int x3)] [.int (3 : Int32), .int (h a 13)] (fun _ => rfl) ?_
  refine g_if (p1 := 13) (L1 := [some (.ref a), some (.int x1), some (.int x2), some (.int x3)]) (S1 := []) (s1 := (l, r, h, j)) (p2 := 8) (L2 := [some (.ref a), some (.int x1), some (.int x2), some (.int x3)]) (S2 := []) (s2 := (l, r, h, j)) rfl (fun _ _ => rfl) e (fun c1 e => ?_) (fun c1 e => ?_)
  · refine g_run 1 14 [some (.ref a), some (.int x1), some (.int x2), some (.int x3)] [.ref a] (fun _ => rfl) ?_
    refine g_getA 17 rfl rfl (Md_l ka) (Md_r20 ka) ?_
    refine g_run 2 19 [some (.ref a), some (.int x1), some (.int x2), some (.int x3)] [.ref a, .int x1, .ref (a + 11)] (fun _ => rfl) ?_
    refine g_getI 22 rfl rfl (Md_l ka) ?_
    obtain ⟨k2, ek2, e⟩ := g_bd e
    refine g_iast 23 rfl rfl (Md_k20 ka) ek2 ?_
    refine g_run 1 24 [some (.ref a), some (.int x1), some (.int x2), some (.int x3)] [.ref a] (fun _ => rfl) ?_
    refine g_getI 27 rfl rfl (Md_l ka) ?_
    refine g_run 2 29 [some (.ref a), some (.int x1), some (.int x2), some (.int x3)] [.int x3, .int x2, .int ((am_up h (a + 11) k2 (h a 14)) a 14)] (fun _ => rfl) ?_
    refine g_cS 32 rfl rfl (by decide) rfl rfl rfl Md_in_s ?_
    obtain ⟨q6, eq6, e⟩ := g_bd e
    have hjq6 : ∀ (_ : True), Ev X 168 49 [some (.ref a), some (.int x1), some (.int x2), some (.int x3)] [] (l, r, q6, j) (some (.int q.1), (l, r, q.2.1, q.2.2)) := by
      intro _
      refine g_run 1 50 [some (.ref a), some (.int x1), some (.int x2), some (.int x3)] [.ref a] (fun _ => rfl) ?_
      obtain ⟨q7, eq7, e⟩ := g_bd e
      refine g_cVv 53 rfl rfl rfl rfl rfl (Md_l ka) (Md_token_s ka eq7) ?_
      refine g_run 1 54 [some (.ref a), some (.int x1), some (.int x2), some (.int x3)] [.int (1 : Int32)] (fun _ => rfl) ?_
      cases e
      exact g_retZ rfl (y := (1 : Int32)) rfl rfl
    replace e := eq6
    refine g_if (p1 := 35) (L1 := [some (.ref a), some (.int x1), some (.int x2), some (.int x3)]) (S1 := []) (s1 := (l, r, (am_up h (a + 11) k2 (h a 14)), j)) (p2 := 49) (L2 := [some (.ref a), some (.int x1), some (.int x2), some (.int x3)]) (S2 := []) (s2 := (l, r, (am_up h (a + 11) k2 (h a 14)), j)) rfl (fun _ _ => rfl) e (fun c3 e => ?_) (fun c3 e => ?_)
    · refine g_run 3 38 [some (.ref a), some (.int x1), some (.int x2), some (.int x3)] [.ref a, .int (2 : Int32), .ref a] (fun _ => rfl) ?_
      refine g_getI 41 rfl rfl (Md_l ka) ?_
      obtain ⟨q5, eq5, e⟩ := g_bd e
      refine g_cVv 44 rfl rfl rfl rfl rfl (Md_l ka) (Md_later_s ka eq5) ?_
      refine g_run 2 46 [some (.ref a), some (.int x1), some (.int x2), some (.int x3)] [.int (0 : Int32), .ref a] (fun _ => rfl) ?_
      refine g_putZ 49 rfl rfl (Md_l ka) (by decide) ?_
      cases e
      exact hjq6 trivial
    · cases e
      exact hjq6 trivial
  · refine g_run 1 9 [some (.ref a), some (.int x1), some (.int x2), some (.int x3)] [.ref a] (fun _ => rfl) ?_
    obtain ⟨q8, eq8, e⟩ := g_bd e
    refine g_cV 12 rfl rfl rfl rfl rfl (Md_l ka) (Md_fails_s ka eq8) ?_
    obtain ⟨z9, ez9, e⟩ := g_bd e
    cases e
    exact g_retZ rfl ez9 rfl
def Md_takeBench (a : Nat) (x1 : Int32) (h : am_F) (j : am_J) : Option (Int32 × am_F × am_J) :=
  (Md_take a x1 (0 : Int32) (5 : Int32) h j).bind fun q1 =>
  if q1.1 = 0 then
    some ((0 : Int32), q1.2.1, q1.2.2)
  else
    (g_ix x1 6).bind fun k3 =>
    some ((1 : Int32), (am_up q1.2.1 a 21 (Md_greater (q1.2.1 a 21) (q1.2.1 (a + 11) k3))), q1.2.2)
theorem Md_takeBench_s {X : Nat × (Nat → Int32)} {l : List (Nat × Nat)} {r : am_R} {h : am_F} {j : am_J} {a : Nat} {x1 : Int32} (ka : Md_K l r a) {q : Int32 × am_F × am_J} (e : Md_takeBench a x1 h j = some q) : Call X 169 [.ref a, .int x1] (l, r, h, j) (some (.int q.1), (l, r, q.2.1, q.2.2)) := by
  unfold Md_takeBench at e
  refine ⟨Nat.le_of_ble_eq_true rfl, ?_⟩
  show Ev X 169 0 [some (.ref a), some (.int x1)] [] (l, r, h, j) _
  refine g_run 4 4 [some (.ref a), some (.int x1)] [.int (5 : Int32), .int (0 : Int32), .int x1, .ref a] (fun _ => rfl) ?_
  obtain ⟨q1, eq1, e⟩ := g_bd e
  refine g_cV 7 rfl rfl rfl rfl rfl (Md_l ka) (Md_take_s ka eq1) ?_
  refine g_if (p1 := 10) (L1 := [some (.ref a), some (.int x1)]) (S1 := []) (s1 := (l, r, q1.2.1, q1.2.2)) (p2 := 12) (L2 := [some (.ref a), some (.int x1)]) (S2 := []) (s2 := (l, r, q1.2.1, q1.2.2)) rfl (fun _ _ => rfl) e (fun c2 e => ?_) (fun c2 e => ?_)
  · refine g_run 1 11 [some (.ref a), some (.int x1)] [.int (0 : Int32)] (fun _ => rfl) ?_
    cases e
    exact g_retZ rfl (y := (0 : Int32)) rfl rfl
  · refine g_run 2 14 [some (.ref a), some (.int x1)] [.ref a, .ref a] (fun _ => rfl) ?_
    refine g_getI 17 rfl rfl (Md_l ka) ?_
    refine g_run 1 18 [some (.ref a), some (.int x1)] [.ref a, .int (q1.2.1 a 21), .ref a] (fun _ => rfl) ?_
    refine g_getA 21 rfl rfl (Md_l ka) (Md_r20 ka) ?_
    refine g_run 1 22 [some (.ref a), some (.int x1)] [.int x1, .ref (a + 11), .int (q1.2.1 a 21), .ref a] (fun _ => rfl) ?_
    obtain ⟨k3, ek3, e⟩ := g_bd e
    refine g_iald 23 rfl rfl (Md_k20 ka) ek3 ?_
    refine g_cS 26 rfl rfl (by decide) rfl rfl rfl Md_greater_s ?_
    refine g_putI 29 rfl rfl (Md_l ka) ?_
    refine g_run 1 30 [some (.ref a), some (.int x1)] [.int (1 : Int32)] (fun _ => rfl) ?_
    cases e
    exact g_retZ rfl (y := (1 : Int32)) rfl rfl
def Md_full (a : Nat) (x1 : Int32) (x2 : Int32) (x3 : Int32) (h : am_F) : Option (am_F) :=
  (g_ix x1 195).bind fun k1 =>
  if (h (a + 10) k1) = x2 then
    (Md_later a (3 : Int32) x3 h).bind fun q3 =>
    some q3
  else
    some h
theorem Md_full_s {X : Nat × (Nat → Int32)} {l : List (Nat × Nat)} {r : am_R} {h : am_F} {j : am_J} {a : Nat} {x1 : Int32} {x2 : Int32} {x3 : Int32} (ka : Md_K l r a) {q : am_F} (e : Md_full a x1 x2 x3 h = some q) : Call X 170 [.ref a, .int x1, .int x2, .int x3] (l, r, h, j) (none, (l, r, q, j)) := by
  unfold Md_full at e
  refine ⟨Nat.le_of_ble_eq_true rfl, ?_⟩
  show Ev X 170 0 [some (.ref a), some (.int x1), some (.int x2), some (.int x3)] [] (l, r, h, j) _
  refine g_run 1 1 [some (.ref a), some (.int x1), some (.int x2), some (.int x3)] [.ref a] (fun _ => rfl) ?_
  refine g_getA 4 rfl rfl (Md_l ka) (Md_r19 ka) ?_
  refine g_run 1 5 [some (.ref a), some (.int x1), some (.int x2), some (.int x3)] [.int x1, .ref (a + 10)] (fun _ => rfl) ?_
  obtain ⟨k1, ek1, e⟩ := g_bd e
  refine g_iald 6 rfl rfl (Md_k19 ka) ek1 ?_
  refine g_run 1 7 [some (.ref a), some (.int x1), some (.int x2), some (.int x3)] [.int x2, .int (h (a + 10) k1)] (fun _ => rfl) ?_
  refine g_if (p1 := 10) (L1 := [some (.ref a), some (.int x1), some (.int x2), some (.int x3)]) (S1 := []) (s1 := (l, r, h, j)) (p2 := 16) (L2 := [some (.ref a), some (.int x1), some (.int x2), some (.int x3)]) (S2 := []) (s2 := (l, r, h, j)) rfl (fun _ _ => rfl) e (fun c2 e => ?_) (fun c2 e => ?_)
  · refine g_run 3 13 [some (.ref a), some (.int x1), some (.int x2), some (.int x3)] [.int x3, .int (3 : Int32), .ref a] (fun _ => rfl) ?_
    obtain ⟨q3, eq3, e⟩ := g_bd e
    refine g_cVv 16 rfl rfl rfl rfl rfl (Md_l ka) (Md_later_s ka eq3) ?_
    cases e
    exact g_ret rfl (fun _ _ => rfl)
  · cases e
    exact g_ret rfl (fun _ _ => rfl)
def Md_keep_l19 (x0 : Nat) (x1 : Int32) (x2 : Int32) (x3 : Int32) (x4 : Int32) (x6 : Int32) : Nat → Int32 → am_F → Option (am_F)
  | 0, _, _ => none
  | n + 1, x7, h =>
    if x3 ≤ x7 then
      some h
    else
      (g_ix x7 6).bind fun k4 =>
      (g_ix ((x2 + (x4 * x6)) + x7) 195).bind fun k5 =>
      Md_keep_l19 x0 x1 x2 x3 x4 x6 n (x7 + (1 : Int32)) (am_up h (x0 + 10) k5 (h (x0 + 11) k4))
def Md_keep (a : Nat) (x1 : Int32) (x2 : Int32) (x3 : Int32) (x4 : Int32) (x5 : Int32) (h : am_F) : Option (am_F) :=
  (g_ix x1 195).bind fun k1 =>
  if (h (a + 10) k1) = x5 then
    some h
  else
    (Md_keep_l19 a x1 x2 x3 x4 (h (a + 10) k1) g_fu (0 : Int32) h).bind fun q6 =>
    (g_ix x1 195).bind fun k8 =>
    (g_ix x1 195).bind fun k9 =>
    some (am_up q6 (a + 10) k9 ((q6 (a + 10) k8) + (1 : Int32)))
theorem Md_keep_l19_s {X : Nat × (Nat → Int32)} {l : List (Nat × Nat)} {r : am_R} {x0 : Nat} {x1 : Int32} {x2 : Int32} {x3 : Int32} {x4 : Int32} {x6 : Int32} {y5 : Int32} {j : am_J} {q : am_F} {R : Option Value × am_S} (kx0 : Md_K l r x0) (hx : ∀ (y7 : Int32) , Ev X 171 53 [some (.ref x0), some (.int x1), some (.int x2), some (.int x3), some (.int x4), some (.int y5), some (.int x6), some (.int y7)] [] (l, r, q, j) R) : ∀ (n : Nat) (x7 : Int32) (h : am_F), Md_keep_l19 x0 x1 x2 x3 x4 x6 n x7 h = some q → Ev X 171 19 [some (.ref x0), some (.int x1), some (.int x2), some (.int x3), some (.int x4), some (.int y5), some (.int x6), some (.int x7)] [] (l, r, h, j) R := by
  intro n
  induction n with
  | zero => intro x7 h e; cases e
  | succ n ih =>
    intro x7 h e
    unfold Md_keep_l19 at e
    refine g_run 2 22 [some (.ref x0), some (.int x1), some (.int x2), some (.int x3), some (.int x4), some (.int y5), some (.int x6), some (.int x7)] [.int x3, .int x7] (fun _ => rfl) ?_
    refine g_if (p1 := 53) (L1 := [some (.ref x0), some (.int x1), some (.int x2), some (.int x3), some (.int x4), some (.int y5), some (.int x6), some (.int x7)]) (S1 := []) (s1 := (l, r, h, j)) (p2 := 25) (L2 := [some (.ref x0), some (.int x1), some (.int x2), some (.int x3), some (.int x4), some (.int y5), some (.int x6), some (.int x7)]) (S2 := []) (s2 := (l, r, h, j)) rfl (fun _ _ => rfl) e (fun c3 e => ?_) (fun c3 e => ?_)
    · cases e
      exact hx _
    · refine g_run 1 26 [some (.ref x0), some (.int x1), some (.int x2), some (.int x3), some (.int x4), some (.int y5), some (.int x6), some (.int x7)] [.ref x0] (fun _ => rfl) ?_
      refine g_getA 29 rfl rfl (Md_l kx0) (Md_r19 kx0) ?_
      refine g_run 8 40 [some (.ref x0), some (.int x1), some (.int x2), some (.int x3), some (.int x4), some (.int y5), some (.int x6), some (.int x7)] [.ref x0, .int ((x2 + (x4 * x6)) + x7), .ref (x0 + 10)] (fun _ => rfl) ?_
      refine g_getA 43 rfl rfl (Md_l kx0) (Md_r20 kx0) ?_
      refine g_run 1 45 [some (.ref x0), some (.int x1), some (.int x2), some (.int x3), some (.int x4), some (.int y5), some (.int x6), some (.int x7)] [.int x7, .ref (x0 + 11), .int ((x2 + (x4 * x6)) + x7), .ref (x0 + 10)] (fun _ => rfl) ?_
      obtain ⟨k4, ek4, e⟩ := g_bd e
      refine g_iald 46 rfl rfl (Md_k20 kx0) ek4 ?_
      obtain ⟨k5, ek5, e⟩ := g_bd e
      refine g_iast 47 rfl rfl (Md_k19 kx0) ek5 ?_
      refine g_run 2 19 [some (.ref x0), some (.int x1), some (.int x2), some (.int x3), some (.int x4), some (.int y5), some (.int x6), some (.int (x7 + (1 : Int32)))] [] (fun _ => rfl) ?_
      exact ih _ _ e
theorem Md_keep_s {X : Nat × (Nat → Int32)} {l : List (Nat × Nat)} {r : am_R} {h : am_F} {j : am_J} {a : Nat} {x1 : Int32} {x2 : Int32} {x3 : Int32} {x4 : Int32} {x5 : Int32} (ka : Md_K l r a) {q : am_F} (e : Md_keep a x1 x2 x3 x4 x5 h = some q) : Call X 171 [.ref a, .int x1, .int x2, .int x3, .int x4, .int x5] (l, r, h, j) (none, (l, r, q, j)) := by
  unfold Md_keep at e
  refine ⟨Nat.le_of_ble_eq_true rfl, ?_⟩
  show Ev X 171 0 [some (.ref a), some (.int x1), some (.int x2), some (.int x3), some (.int x4), some (.int x5), none, none] [] (l, r, h, j) _
  refine g_run 1 1 [some (.ref a), some (.int x1), some (.int x2), some (.int x3), some (.int x4), some (.int x5), none, none] [.ref a] (fun _ => rfl) ?_
  refine g_getA 4 rfl rfl (Md_l ka) (Md_r19 ka) ?_
  refine g_run 1 5 [some (.ref a), some (.int x1), some (.int x2), some (.int x3), some (.int x4), some (.int x5), none, none] [.int x1, .ref (a + 10)] (fun _ => rfl) ?_
  obtain ⟨k1, ek1, e⟩ := g_bd e
  refine g_iald 6 rfl rfl (Md_k19 ka) ek1 ?_
  refine g_run 3 12 [some (.ref a), some (.int x1), some (.int x2), some (.int x3), some (.int x4), some (.int x5), some (.int (h (a + 10) k1)), none] [.int x5, .int (h (a + 10) k1)] (fun _ => rfl) ?_
  refine g_if (p1 := 15) (L1 := [some (.ref a), some (.int x1), some (.int x2), some (.int x3), some (.int x4), some (.int x5), some (.int (h (a + 10) k1)), none]) (S1 := []) (s1 := (l, r, h, j)) (p2 := 16) (L2 := [some (.ref a), some (.int x1), some (.int x2), some (.int x3), some (.int x4), some (.int x5), some (.int (h (a + 10) k1)), none]) (S2 := []) (s2 := (l, r, h, j)) rfl (fun _ _ => rfl) e (fun c2 e => ?_) (fun c2 e => ?_)
  · cases e
    exact g_ret rfl (fun _ _ => rfl)
  · refine g_run 2 19 [some (.ref a), some (.int x1), some (.int x2), some (.int x3), some (.int x4), some (.int x5), some (.int (h (a + 10) k1)), some (.int (0 : Int32))] [] (fun _ => rfl) ?_
    obtain ⟨q6, eq6, e⟩ := g_bd e
    refine Md_keep_l19_s ka (fun y7 => ?_) _ _ _ eq6
    refine g_run 1 54 [some (.ref a), some (.int x1), some (.int x2), some (.int x3), some (.int x4), some (.int x5), some (.int (h (a + 10) k1)), some (.int y7)] [.ref a] (fun _ => rfl) ?_
    refine g_getA 57 rfl rfl (Md_l ka) (Md_r19 ka) ?_
    refine g_run 2 59 [some (.ref a), some (.int x1), some (.int x2), some (.int x3), some (.int x4), some (.int x5), some (.int (h (a + 10) k1)), some (.int y7)] [.int x1, .ref (a + 10), .int x1, .ref (a + 10)] (fun _ => rfl) ?_
    obtain ⟨k8, ek8, e⟩ := g_bd e
    refine g_iald 60 rfl rfl (Md_k19 ka) ek8 ?_
    refine g_run 2 62 [some (.ref a), some (.int x1), some (.int x2), some (.int x3), some (.int x4), some (.int x5), some (.int (h (a + 10) k1)), some (.int y7)] [.int ((q6 (a + 10) k8) + (1 : Int32)), .int x1, .ref (a + 10)] (fun _ => rfl) ?_
    obtain ⟨k9, ek9, e⟩ := g_bd e
    refine g_iast 63 rfl rfl (Md_k19 ka) ek9 ?_
    cases e
    exact g_ret rfl (fun _ _ => rfl)
def Md_rateLine_l47 (x0 : Nat) (j : am_J) : Nat → Int32 → am_F → Option (am_F)
  | 0, _, _ => none
  | n + 1, x1, h =>
    if (h x0 22) = 0 then
      some h
    else
      if (h (x0 + 11) 1) < x1 then
        some h
      else
        (g_ix ((7 : Int32) + x1) 195).bind fun k9 =>
        Md_rateLine_l47 x0 j n (x1 + (1 : Int32)) (am_up h (x0 + 10) k9 (h (x0 + 11) 2))
def Md_rateLine (a : Nat) (h : am_F) (j : am_J) : Option (Int32 × am_F × am_J) :=
  (Md_take a (0 : Int32) (0 : Int32) (47 : Int32) h j).bind fun q1 =>
  if q1.1 = 0 then
    some ((0 : Int32), q1.2.1, q1.2.2)
  else
    (Md_take a (1 : Int32) (q1.2.1 (a + 11) 0) (47 : Int32) q1.2.1 q1.2.2).bind fun q3 =>
    if q3.1 = 0 then
      some ((0 : Int32), q3.2.1, q3.2.2)
    else
      (Md_take a (2 : Int32) (0 : Int32) (9 : Int32) q3.2.1 q3.2.2).bind fun q5 =>
      if q5.1 = 0 then
        some ((0 : Int32), q5.2.1, q5.2.2)
      else
        (Md_rateLine_l47 a q5.2.2 g_fu (q5.2.1 (a + 11) 0) q5.2.1).bind fun q10 =>
        some ((1 : Int32), q10, q5.2.2)
theorem Md_rateLine_l47_s {X : Nat × (Nat → Int32)} {l : List (Nat × Nat)} {r : am_R} {x0 : Nat} {j : am_J} {q : am_F} {R : Option Value × am_S} (kx0 : Md_K l r x0) (hx : ∀ (y1 : Int32) , Ev X 172 85 [some (.ref x0), some (.int y1)] [] (l, r, q, j) R) : ∀ (n : Nat) (x1 : Int32) (h : am_F), Md_rateLine_l47 x0 j n x1 h = some q → Ev X 172 47 [some (.ref x0), some (.int x1)] [] (l, r, h, j) R := by
  intro n
  induction n with
  | zero => intro x1 h e; cases e
  | succ n ih =>
    intro x1 h e
    unfold Md_rateLine_l47 at e
    refine g_run 1 48 [some (.ref x0), some (.int x1)] [.ref x0] (fun _ => rfl) ?_
    refine g_getZ 51 rfl rfl (Md_l kx0) ?_
    refine g_if (p1 := 85) (L1 := [some (.ref x0), some (.int x1)]) (S1 := []) (s1 := (l, r, h, j)) (p2 := 54) (L2 := [some (.ref x0), some (.int x1)]) (S2 := []) (s2 := (l, r, h, j)) rfl (fun _ _ => rfl) e (fun c7 e => ?_) (fun c7 e => ?_)
    · cases e
      exact hx _
    · refine g_run 2 56 [some (.ref x0), some (.int x1)] [.ref x0, .int x1] (fun _ => rfl) ?_
      refine g_getA 59 rfl rfl (Md_l kx0) (Md_r20 kx0) ?_
      refine g_run 1 60 [some (.ref x0), some (.int x1)] [.int (1 : Int32), .ref (x0 + 11), .int x1] (fun _ => rfl) ?_
      refine g_iald 61 rfl rfl (Md_k20 kx0) (kx := 1) rfl ?_
      refine g_if (p1 := 85) (L1 := [some (.ref x0), some (.int x1)]) (S1 := []) (s1 := (l, r, h, j)) (p2 := 64) (L2 := [some (.ref x0), some (.int x1)]) (S2 := []) (s2 := (l, r, h, j)) rfl (fun _ _ => rfl) e (fun c8 e => ?_) (fun c8 e => ?_)
      · cases e
        exact hx _
      · refine g_run 1 65 [some (.ref x0), some (.int x1)] [.ref x0] (fun _ => rfl) ?_
        refine g_getA 68 rfl rfl (Md_l kx0) (Md_r19 kx0) ?_
        refine g_run 4 73 [some (.ref x0), some (.int x1)] [.ref x0, .int ((7 : Int32) + x1), .ref (x0 + 10)] (fun _ => rfl) ?_
        refine g_getA 76 rfl rfl (Md_l kx0) (Md_r20 kx0) ?_
        refine g_run 1 77 [some (.ref x0), some (.int x1)] [.int (2 : Int32), .ref (x0 + 11), .int ((7 : Int32) + x1), .ref (x0 + 10)] (fun _ => rfl) ?_
        refine g_iald 78 rfl rfl (Md_k20 kx0) (kx := 2) rfl ?_
        obtain ⟨k9, ek9, e⟩ := g_bd e
        refine g_iast 79 rfl rfl (Md_k19 kx0) ek9 ?_
        refine g_run 2 47 [some (.ref x0), some (.int (x1 + (1 : Int32)))] [] (fun _ => rfl) ?_
        exact ih _ _ e
theorem Md_rateLine_s {X : Nat × (Nat → Int32)} {l : List (Nat × Nat)} {r : am_R} {h : am_F} {j : am_J} {a : Nat} (ka : Md_K l r a) {q : Int32 × am_F × am_J} (e : Md_rateLine a h j = some q) : Call X 172 [.ref a] (l, r, h, j) (some (.int q.1), (l, r, q.2.1, q.2.2)) := by
  unfold Md_rateLine at e
  refine ⟨Nat.le_of_ble_eq_true rfl, ?_⟩
  show Ev X 172 0 [some (.ref a), none] [] (l, r, h, j) _
  refine g_run 4 5 [some (.ref a), none] [.int (47 : Int32), .int (0 : Int32), .int (0 : Int32), .ref a] (fun _ => rfl) ?_
  obtain ⟨q1, eq1, e⟩ := g_bd e
  refine g_cV 8 rfl rfl rfl rfl rfl (Md_l ka) (Md_take_s ka eq1) ?_
  refine g_if (p1 := 38) (L1 := [some (.ref a), none]) (S1 := []) (s1 := (l, r, q1.2.1, q1.2.2)) (p2 := 11) (L2 := [some (.ref a), none]) (S2 := []) (s2 := (l, r, q1.2.1, q1.2.2)) rfl (fun _ _ => rfl) e (fun c2 e => ?_) (fun c2 e => ?_)
  · refine g_run 1 39 [some (.ref a), none] [.int (0 : Int32)] (fun _ => rfl) ?_
    cases e
    exact g_retZ rfl (y := (0 : Int32)) rfl rfl
  · refine g_run 3 14 [some (.ref a), none] [.ref a, .int (1 : Int32), .ref a] (fun _ => rfl) ?_
    refine g_getA 17 rfl rfl (Md_l ka) (Md_r20 ka) ?_
    refine g_run 1 18 [some (.ref a), none] [.int (0 : Int32), .ref (a + 11), .int (1 : Int32), .ref a] (fun _ => rfl) ?_
    refine g_iald 19 rfl rfl (Md_k20 ka) (kx := 0) rfl ?_
    refine g_run 1 21 [some (.ref a), none] [.int (47 : Int32), .int (q1.2.1 (a + 11) 0), .int (1 : Int32), .ref a] (fun _ => rfl) ?_
    obtain ⟨q3, eq3, e⟩ := g_bd e
    refine g_cV 24 rfl rfl rfl rfl rfl (Md_l ka) (Md_take_s ka eq3) ?_
    refine g_if (p1 := 38) (L1 := [some (.ref a), none]) (S1 := []) (s1 := (l, r, q3.2.1, q3.2.2)) (p2 := 27) (L2 := [some (.ref a), none]) (S2 := []) (s2 := (l, r, q3.2.1, q3.2.2)) rfl (fun _ _ => rfl) e (fun c4 e => ?_) (fun c4 e => ?_)
    · refine g_run 1 39 [some (.ref a), none] [.int (0 : Int32)] (fun _ => rfl) ?_
      cases e
      exact g_retZ rfl (y := (0 : Int32)) rfl rfl
    · refine g_run 4 32 [some (.ref a), none] [.int (9 : Int32), .int (0 : Int32), .int (2 : Int32), .ref a] (fun _ => rfl) ?_
      obtain ⟨q5, eq5, e⟩ := g_bd e
      refine g_cV 35 rfl rfl rfl rfl rfl (Md_l ka) (Md_take_s ka eq5) ?_
      refine g_if (p1 := 38) (L1 := [some (.ref a), none]) (S1 := []) (s1 := (l, r, q5.2.1, q5.2.2)) (p2 := 40) (L2 := [some (.ref a), none]) (S2 := []) (s2 := (l, r, q5.2.1, q5.2.2)) rfl (fun _ _ => rfl) e (fun c6 e => ?_) (fun c6 e => ?_)
      · refine g_run 1 39 [some (.ref a), none] [.int (0 : Int32)] (fun _ => rfl) ?_
        cases e
        exact g_retZ rfl (y := (0 : Int32)) rfl rfl
      · refine g_run 1 41 [some (.ref a), none] [.ref a] (fun _ => rfl) ?_
        refine g_getA 44 rfl rfl (Md_l ka) (Md_r20 ka) ?_
        refine g_run 1 45 [some (.ref a), none] [.int (0 : Int32), .ref (a + 11)] (fun _ => rfl) ?_
        refine g_iald 46 rfl rfl (Md_k20 ka) (kx := 0) rfl ?_
        refine g_run 1 47 [some (.ref a), some (.int (q5.2.1 (a + 11) 0))] [] (fun _ => rfl) ?_
        obtain ⟨q10, eq10, e⟩ := g_bd e
        refine Md_rateLine_l47_s ka (fun y11 => ?_) _ _ _ eq10
        refine g_run 1 86 [some (.ref a), some (.int y11)] [.int (1 : Int32)] (fun _ => rfl) ?_
        cases e
        exact g_retZ rfl (y := (1 : Int32)) rfl rfl
def Md_cardLine (a : Nat) (h : am_F) (j : am_J) : Option (Int32 × am_F × am_J) :=
  (Md_takeBench a (0 : Int32) h j).bind fun q1 =>
  if q1.1 = 0 then
    some ((0 : Int32), q1.2.1, q1.2.2)
  else
    (Md_take a (1 : Int32) (0 : Int32) (47 : Int32) q1.2.1 q1.2.2).bind fun q3 =>
    if q3.1 = 0 then
      some ((0 : Int32), q3.2.1, q3.2.2)
    else
      (Md_take a (2 : Int32) (q3.2.1 (a + 11) 1) (47 : Int32) q3.2.1 q3.2.2).bind fun q5 =>
      if q5.1 = 0 then
        some ((0 : Int32), q5.2.1, q5.2.2)
      else
        (if (q5.2.1 a 22) = 0 then
            some q5.2.1
          else
            (g_ix (((55 : Int32) + ((4 : Int32) * (q5.2.1 (a + 11) 0))) + (2 : Int32)) 195).bind fun k9 =>
            (g_ix (((55 : Int32) + ((4 : Int32) * ((am_up q5.2.1 (a + 10) k9 (q5.2.1 (a + 11) 1)) (a + 11) 0))) + (3 : Int32)) 195).bind fun k10 =>
            some (am_up (am_up q5.2.1 (a + 10) k9 (q5.2.1 (a + 11) 1)) (a + 10) k10 ((am_up q5.2.1 (a + 10) k9 (q5.2.1 (a + 11) 1)) (a + 11) 2)) : Option (am_F)).bind fun q11 =>
        some ((1 : Int32), q11, q5.2.2)
theorem Md_cardLine_s {X : Nat × (Nat → Int32)} {l : List (Nat × Nat)} {r : am_R} {h : am_F} {j : am_J} {a : Nat} (ka : Md_K l r a) {q : Int32 × am_F × am_J} (e : Md_cardLine a h j = some q) : Call X 173 [.ref a] (l, r, h, j) (some (.int q.1), (l, r, q.2.1, q.2.2)) := by
  unfold Md_cardLine at e
  refine ⟨Nat.le_of_ble_eq_true rfl, ?_⟩
  show Ev X 173 0 [some (.ref a)] [] (l, r, h, j) _
  refine g_run 2 2 [some (.ref a)] [.int (0 : Int32), .ref a] (fun _ => rfl) ?_
  obtain ⟨q1, eq1, e⟩ := g_bd e
  refine g_cV 5 rfl rfl rfl rfl rfl (Md_l ka) (Md_takeBench_s ka eq1) ?_
  refine g_if (p1 := 35) (L1 := [some (.ref a)]) (S1 := []) (s1 := (l, r, q1.2.1, q1.2.2)) (p2 := 8) (L2 := [some (.ref a)]) (S2 := []) (s2 := (l, r, q1.2.1, q1.2.2)) rfl (fun _ _ => rfl) e (fun c2 e => ?_) (fun c2 e => ?_)
  · refine g_run 1 36 [some (.ref a)] [.int (0 : Int32)] (fun _ => rfl) ?_
    cases e
    exact g_retZ rfl (y := (0 : Int32)) rfl rfl
  · refine g_run 4 13 [some (.ref a)] [.int (47 : Int32), .int (0 : Int32), .int (1 : Int32), .ref a] (fun _ => rfl) ?_
    obtain ⟨q3, eq3, e⟩ := g_bd e
    refine g_cV 16 rfl rfl rfl rfl rfl (Md_l ka) (Md_take_s ka eq3) ?_
    refine g_if (p1 := 35) (L1 := [some (.ref a)]) (S1 := []) (s1 := (l, r, q3.2.1, q3.2.2)) (p2 := 19) (L2 := [some (.ref a)]) (S2 := []) (s2 := (l, r, q3.2.1, q3.2.2)) rfl (fun _ _ => rfl) e (fun c4 e => ?_) (fun c4 e => ?_)
    · refine g_run 1 36 [some (.ref a)] [.int (0 : Int32)] (fun _ => rfl) ?_
      cases e
      exact g_retZ rfl (y := (0 : Int32)) rfl rfl
    · refine g_run 3 22 [some (.ref a)] [.ref a, .int (2 : Int32), .ref a] (fun _ => rfl) ?_
      refine g_getA 25 rfl rfl (Md_l ka) (Md_r20 ka) ?_
      refine g_run 1 26 [some (.ref a)] [.int (1 : Int32), .ref (a + 11), .int (2 : Int32), .ref a] (fun _ => rfl) ?_
      refine g_iald 27 rfl rfl (Md_k20 ka) (kx := 1) rfl ?_
      refine g_run 1 29 [some (.ref a)] [.int (47 : Int32), .int (q3.2.1 (a + 11) 1), .int (2 : Int32), .ref a] (fun _ => rfl) ?_
      obtain ⟨q5, eq5, e⟩ := g_bd e
      refine g_cV 32 rfl rfl rfl rfl rfl (Md_l ka) (Md_take_s ka eq5) ?_
      refine g_if (p1 := 35) (L1 := [some (.ref a)]) (S1 := []) (s1 := (l, r, q5.2.1, q5.2.2)) (p2 := 37) (L2 := [some (.ref a)]) (S2 := []) (s2 := (l, r, q5.2.1, q5.2.2)) rfl (fun _ _ => rfl) e (fun c6 e => ?_) (fun c6 e => ?_)
      · refine g_run 1 36 [some (.ref a)] [.int (0 : Int32)] (fun _ => rfl) ?_
        cases e
        exact g_retZ rfl (y := (0 : Int32)) rfl rfl
      · refine g_run 1 38 [some (.ref a)] [.ref a] (fun _ => rfl) ?_
        refine g_getZ 41 rfl rfl (Md_l ka) ?_
        obtain ⟨q11, eq11, e⟩ := g_bd e
        have hjq11 : ∀ (_ : True), Ev X 173 92 [some (.ref a)] [] (l, r, q11, q5.2.2) (some (.int q.1), (l, r, q.2.1, q.2.2)) := by
          intro _
          refine g_run 1 93 [some (.ref a)] [.int (1 : Int32)] (fun _ => rfl) ?_
          cases e
          exact g_retZ rfl (y := (1 : Int32)) rfl rfl
        replace e := eq11
        refine g_if (p1 := 92) (L1 := [some (.ref a)]) (S1 := []) (s1 := (l, r, q5.2.1, q5.2.2)) (p2 := 44) (L2 := [some (.ref a)]) (S2 := []) (s2 := (l, r, q5.2.1, q5.2.2)) rfl (fun _ _ => rfl) e (fun c7 e => ?_) (fun c7 e => ?_)
        · cases e
          exact hjq11 trivial
        · refine g_run 1 45 [some (.ref a)] [.ref a] (fun _ => rfl) ?_
          refine g_getA 48 rfl rfl (Md_l ka) (Md_r19 ka) ?_
          refine g_run 3 52 [some (.ref a)] [.ref a, .int (4 : Int32), .int (55 : Int32), .ref (a + 10)] (fun _ => rfl) ?_
          refine g_getA 55 rfl rfl (Md_l ka) (Md_r20 ka) ?_
          refine g_run 1 56 [some (.ref a)] [.int (0 : Int32), .ref (a + 11), .int (4 : Int32), .int (55 : Int32), .ref (a + 10)] (fun _ => rfl) ?_
          refine g_iald 57 rfl rfl (Md_k20 ka) (kx := 0) rfl ?_
          refine g_run 5 62 [some (.ref a)] [.ref a, .int (((55 : Int32) + ((4 : Int32) * (q5.2.1 (a + 11) 0))) + (2 : Int32)), .ref (a + 10)] (fun _ => rfl) ?_
          refine g_getA 65 rfl rfl (Md_l ka) (Md_r20 ka) ?_
          refine g_run 1 66 [some (.ref a)] [.int (1 : Int32), .ref (a + 11), .int (((55 : Int32) + ((4 : Int32) * (q5.2.1 (a + 11) 0))) + (2 : Int32)), .ref (a + 10)] (fun _ => rfl) ?_
          refine g_iald 67 rfl rfl (Md_k20 ka) (kx := 1) rfl ?_
          obtain ⟨k9, ek9, e⟩ := g_bd e
          refine g_iast 68 rfl rfl (Md_k19 ka) ek9 ?_
          refine g_run 1 69 [some (.ref a)] [.ref a] (fun _ => rfl) ?_
          refine g_getA 72 rfl rfl (Md_l ka) (Md_r19 ka) ?_
          refine g_run 3 76 [some (.ref a)] [.ref a, .int (4 : Int32), .int (55 : Int32), .ref (a + 10)] (fun _ => rfl) ?_
          refine g_getA 79 rfl rfl (Md_l ka) (Md_r20 ka) ?_
          refine g_run 1 80 [some (.ref a)] [.int (0 : Int32), .ref (a + 11), .int (4 : Int32), .int (55 : Int32), .ref (a + 10)] (fun _ => rfl) ?_
          refine g_iald 81 rfl rfl (Md_k20 ka) (kx := 0) rfl ?_
          refine g_run 5 86 [some (.ref a)] [.ref a, .int (((55 : Int32) + ((4 : Int32) * ((am_up q5.2.1 (a + 10) k9 (q5.2.1 (a + 11) 1)) (a + 11) 0))) + (3 : Int32)), .ref (a + 10)] (fun _ => rfl) ?_
          refine g_getA 89 rfl rfl (Md_l ka) (Md_r20 ka) ?_
          refine g_run 1 90 [some (.ref a)] [.int (2 : Int32), .ref (a + 11), .int (((55 : Int32) + ((4 : Int32) * ((am_up q5.2.1 (a + 10) k9 (q5.2.1 (a + 11) 1)) (a + 11) 0))) + (3 : Int32)), .ref (a + 10)] (fun _ => rfl) ?_
          refine g_iald 91 rfl rfl (Md_k20 ka) (kx := 2) rfl ?_
          obtain ⟨k10, ek10, e⟩ := g_bd e
          refine g_iast 92 rfl rfl (Md_k19 ka) ek10 ?_
          cases e
          exact hjq11 trivial
def Md_paintedLine (a : Nat) (h : am_F) (j : am_J) : Option (Int32 × am_F × am_J) :=
  (Md_takeBench a (0 : Int32) h j).bind fun q1 =>
  if q1.1 = 0 then
    some ((0 : Int32), q1.2.1, q1.2.2)
  else
    (Md_take a (1 : Int32) (0 : Int32) (47 : Int32) q1.2.1 q1.2.2).bind fun q3 =>
    if q3.1 = 0 then
      some ((0 : Int32), q3.2.1, q3.2.2)
    else
      (if (q3.2.1 a 22) = 0 then
          some q3.2.1
        else
          (g_ix (((55 : Int32) + ((4 : Int32) * (q3.2.1 (a + 11) 0))) + (1 : Int32)) 195).bind fun k7 =>
          some (am_up q3.2.1 (a + 10) k7 (q3.2.1 (a + 11) 1)) : Option (am_F)).bind fun q8 =>
      some ((1 : Int32), q8, q3.2.2)
theorem Md_paintedLine_s {X : Nat × (Nat → Int32)} {l : List (Nat × Nat)} {r : am_R} {h : am_F} {j : am_J} {a : Nat} (ka : Md_K l r a) {q : Int32 × am_F × am_J} (e : Md_paintedLine a h j = some q) : Call X 174 [.ref a] (l, r, h, j) (some (.int q.1), (l, r, q.2.1, q.2.2)) := by
  unfold Md_paintedLine at e
  refine ⟨Nat.le_of_ble_eq_true rfl, ?_⟩
  show Ev X 174 0 [some (.ref a)] [] (l, r, h, j) _
  refine g_run 2 2 [some (.ref a)] [.int (0 : Int32), .ref a] (fun _ => rfl) ?_
  obtain ⟨q1, eq1, e⟩ := g_bd e
  refine g_cV 5 rfl rfl rfl rfl rfl (Md_l ka) (Md_takeBench_s ka eq1) ?_
  refine g_if (p1 := 19) (L1 := [some (.ref a)]) (S1 := []) (s1 := (l, r, q1.2.1, q1.2.2)) (p2 := 8) (L2 := [some (.ref a)]) (S2 := []) (s2 := (l, r, q1.2.1, q1.2.2)) rfl (fun _ _ => rfl) e (fun c2 e => ?_) (fun c2 e => ?_)
  · refine g_run 1 20 [some (.ref a)] [.int (0 : Int32)] (fun _ => rfl) ?_
    cases e
    exact g_retZ rfl (y := (0 : Int32)) rfl rfl
  · refine g_run 4 13 [some (.ref a)] [.int (47 : Int32), .int (0 : Int32), .int (1 : Int32), .ref a] (fun _ => rfl) ?_
    obtain ⟨q3, eq3, e⟩ := g_bd e
    refine g_cV 16 rfl rfl rfl rfl rfl (Md_l ka) (Md_take_s ka eq3) ?_
    refine g_if (p1 := 19) (L1 := [some (.ref a)]) (S1 := []) (s1 := (l, r, q3.2.1, q3.2.2)) (p2 := 21) (L2 := [some (.ref a)]) (S2 := []) (s2 := (l, r, q3.2.1, q3.2.2)) rfl (fun _ _ => rfl) e (fun c4 e => ?_) (fun c4 e => ?_)
    · refine g_run 1 20 [some (.ref a)] [.int (0 : Int32)] (fun _ => rfl) ?_
      cases e
      exact g_retZ rfl (y := (0 : Int32)) rfl rfl
    · refine g_run 1 22 [some (.ref a)] [.ref a] (fun _ => rfl) ?_
      refine g_getZ 25 rfl rfl (Md_l ka) ?_
      obtain ⟨q8, eq8, e⟩ := g_bd e
      have hjq8 : ∀ (_ : True), Ev X 174 52 [some (.ref a)] [] (l, r, q8, q3.2.2) (some (.int q.1), (l, r, q.2.1, q.2.2)) := by
        intro _
        refine g_run 1 53 [some (.ref a)] [.int (1 : Int32)] (fun _ => rfl) ?_
        cases e
        exact g_retZ rfl (y := (1 : Int32)) rfl rfl
      replace e := eq8
      refine g_if (p1 := 52) (L1 := [some (.ref a)]) (S1 := []) (s1 := (l, r, q3.2.1, q3.2.2)) (p2 := 28) (L2 := [some (.ref a)]) (S2 := []) (s2 := (l, r, q3.2.1, q3.2.2)) rfl (fun _ _ => rfl) e (fun c5 e => ?_) (fun c5 e => ?_)
      · cases e
        exact hjq8 trivial
      · refine g_run 1 29 [some (.ref a)] [.ref a] (fun _ => rfl) ?_
        refine g_getA 32 rfl rfl (Md_l ka) (Md_r19 ka) ?_
        refine g_run 3 36 [some (.ref a)] [.ref a, .int (4 : Int32), .int (55 : Int32), .ref (a + 10)] (fun _ => rfl) ?_
        refine g_getA 39 rfl rfl (Md_l ka) (Md_r20 ka) ?_
        refine g_run 1 40 [some (.ref a)] [.int (0 : Int32), .ref (a + 11), .int (4 : Int32), .int (55 : Int32), .ref (a + 10)] (fun _ => rfl) ?_
        refine g_iald 41 rfl rfl (Md_k20 ka) (kx := 0) rfl ?_
        refine g_run 5 46 [some (.ref a)] [.ref a, .int (((55 : Int32) + ((4 : Int32) * (q3.2.1 (a + 11) 0))) + (1 : Int32)), .ref (a + 10)] (fun _ => rfl) ?_
        refine g_getA 49 rfl rfl (Md_l ka) (Md_r20 ka) ?_
        refine g_run 1 50 [some (.ref a)] [.int (1 : Int32), .ref (a + 11), .int (((55 : Int32) + ((4 : Int32) * (q3.2.1 (a + 11) 0))) + (1 : Int32)), .ref (a + 10)] (fun _ => rfl) ?_
        refine g_iald 51 rfl rfl (Md_k20 ka) (kx := 1) rfl ?_
        obtain ⟨k7, ek7, e⟩ := g_bd e
        refine g_iast 52 rfl rfl (Md_k19 ka) ek7 ?_
        cases e
        exact hjq8 trivial
def Md_maybeLine (a : Nat) (x1 : Int32) (h : am_F) (j : am_J) : Option (Int32 × am_F × am_J) :=
  (Md_full a (4 : Int32) (8 : Int32) x1 h).bind fun q1 =>
  (Md_takeBench a (0 : Int32) q1 j).bind fun q2 =>
  if q2.1 = 0 then
    some ((0 : Int32), q2.2.1, q2.2.2)
  else
    (Md_take a (1 : Int32) (0 : Int32) (47 : Int32) q2.2.1 q2.2.2).bind fun q4 =>
    if q4.1 = 0 then
      some ((0 : Int32), q4.2.1, q4.2.2)
    else
      (Md_take a (2 : Int32) (1 : Int32) (9 : Int32) q4.2.1 q4.2.2).bind fun q6 =>
      if q6.1 = 0 then
        some ((0 : Int32), q6.2.1, q6.2.2)
      else
        (Md_keep a (4 : Int32) (79 : Int32) (3 : Int32) (3 : Int32) (8 : Int32) q6.2.1).bind fun q8 =>
        some ((1 : Int32), q8, q6.2.2)
theorem Md_maybeLine_s {X : Nat × (Nat → Int32)} {l : List (Nat × Nat)} {r : am_R} {h : am_F} {j : am_J} {a : Nat} {x1 : Int32} (ka : Md_K l r a) {q : Int32 × am_F × am_J} (e : Md_maybeLine a x1 h j = some q) : Call X 175 [.ref a, .int x1] (l, r, h, j) (some (.int q.1), (l, r, q.2.1, q.2.2)) := by
  unfold Md_maybeLine at e
  refine ⟨Nat.le_of_ble_eq_true rfl, ?_⟩
  show Ev X 175 0 [some (.ref a), some (.int x1)] [] (l, r, h, j) _
  refine g_run 4 5 [some (.ref a), some (.int x1)] [.int x1, .int (8 : Int32), .int (4 : Int32), .ref a] (fun _ => rfl) ?_
  obtain ⟨q1, eq1, e⟩ := g_bd e
  refine g_cVv 8 rfl rfl rfl rfl rfl (Md_l ka) (Md_full_s ka eq1) ?_
  refine g_run 2 10 [some (.ref a), some (.int x1)] [.int (0 : Int32), .ref a] (fun _ => rfl) ?_
  obtain ⟨q2, eq2, e⟩ := g_bd e
  refine g_cV 13 rfl rfl rfl rfl rfl (Md_l ka) (Md_takeBench_s ka eq2) ?_
  refine g_if (p1 := 38) (L1 := [some (.ref a), some (.int x1)]) (S1 := []) (s1 := (l, r, q2.2.1, q2.2.2)) (p2 := 16) (L2 := [some (.ref a), some (.int x1)]) (S2 := []) (s2 := (l, r, q2.2.1, q2.2.2)) rfl (fun _ _ => rfl) e (fun c3 e => ?_) (fun c3 e => ?_)
  · refine g_run 1 39 [some (.ref a), some (.int x1)] [.int (0 : Int32)] (fun _ => rfl) ?_
    cases e
    exact g_retZ rfl (y := (0 : Int32)) rfl rfl
  · refine g_run 4 21 [some (.ref a), some (.int x1)] [.int (47 : Int32), .int (0 : Int32), .int (1 : Int32), .ref a] (fun _ => rfl) ?_
    obtain ⟨q4, eq4, e⟩ := g_bd e
    refine g_cV 24 rfl rfl rfl rfl rfl (Md_l ka) (Md_take_s ka eq4) ?_
    refine g_if (p1 := 38) (L1 := [some (.ref a), some (.int x1)]) (S1 := []) (s1 := (l, r, q4.2.1, q4.2.2)) (p2 := 27) (L2 := [some (.ref a), some (.int x1)]) (S2 := []) (s2 := (l, r, q4.2.1, q4.2.2)) rfl (fun _ _ => rfl) e (fun c5 e => ?_) (fun c5 e => ?_)
    · refine g_run 1 39 [some (.ref a), some (.int x1)] [.int (0 : Int32)] (fun _ => rfl) ?_
      cases e
      exact g_retZ rfl (y := (0 : Int32)) rfl rfl
    · refine g_run 4 32 [some (.ref a), some (.int x1)] [.int (9 : Int32), .int (1 : Int32), .int (2 : Int32), .ref a] (fun _ => rfl) ?_
      obtain ⟨q6, eq6, e⟩ := g_bd e
      refine g_cV 35 rfl rfl rfl rfl rfl (Md_l ka) (Md_take_s ka eq6) ?_
      refine g_if (p1 := 38) (L1 := [some (.ref a), some (.int x1)]) (S1 := []) (s1 := (l, r, q6.2.1, q6.2.2)) (p2 := 40) (L2 := [some (.ref a), some (.int x1)]) (S2 := []) (s2 := (l, r, q6.2.1, q6.2.2)) rfl (fun _ _ => rfl) e (fun c7 e => ?_) (fun c7 e => ?_)
      · refine g_run 1 39 [some (.ref a), some (.int x1)] [.int (0 : Int32)] (fun _ => rfl) ?_
        cases e
        exact g_retZ rfl (y := (0 : Int32)) rfl rfl
      · refine g_run 6 48 [some (.ref a), some (.int x1)] [.int (8 : Int32), .int (3 : Int32), .int (3 : Int32), .int (79 : Int32), .int (4 : Int32), .ref a] (fun _ => rfl) ?_
        obtain ⟨q8, eq8, e⟩ := g_bd e
        refine g_cVv 51 rfl rfl rfl rfl rfl (Md_l ka) (Md_keep_s ka eq8) ?_
        refine g_run 1 52 [some (.ref a), some (.int x1)] [.int (1 : Int32)] (fun _ => rfl) ?_
        cases e
        exact g_retZ rfl (y := (1 : Int32)) rfl rfl
def Md_pigeonLine (a : Nat) (x1 : Int32) (h : am_F) (j : am_J) : Option (Int32 × am_F × am_J) :=
  (Md_full a (5 : Int32) (4 : Int32) x1 h).bind fun q1 =>
  (Md_takeBench a (0 : Int32) q1 j).bind fun q2 =>
  if q2.1 = 0 then
    some ((0 : Int32), q2.2.1, q2.2.2)
  else
    (Md_take a (1 : Int32) (0 : Int32) (47 : Int32) q2.2.1 q2.2.2).bind fun q4 =>
    if q4.1 = 0 then
      some ((0 : Int32), q4.2.1, q4.2.2)
    else
      (Md_keep a (5 : Int32) (103 : Int32) (2 : Int32) (2 : Int32) (4 : Int32) q4.2.1).bind fun q6 =>
      some ((1 : Int32), q6, q4.2.2)
theorem Md_pigeonLine_s {X : Nat × (Nat → Int32)} {l : List (Nat × Nat)} {r : am_R} {h : am_F} {j : am_J} {a : Nat} {x1 : Int32} (ka : Md_K l r a) {q : Int32 × am_F × am_J} (e : Md_pigeonLine a x1 h j = some q) : Call X 176 [.ref a, .int x1] (l, r, h, j) (some (.int q.1), (l, r, q.2.1, q.2.2)) := by
  unfold Md_pigeonLine at e
  refine ⟨Nat.le_of_ble_eq_true rfl, ?_⟩
  show Ev X 176 0 [some (.ref a), some (.int x1)] [] (l, r, h, j) _
  refine g_run 4 4 [some (.ref a), some (.int x1)] [.int x1, .int (4 : Int32), .int (5 : Int32), .ref a] (fun _ => rfl) ?_
  obtain ⟨q1, eq1, e⟩ := g_bd e
  refine g_cVv 7 rfl rfl rfl rfl rfl (Md_l ka) (Md_full_s ka eq1) ?_
  refine g_run 2 9 [some (.ref a), some (.int x1)] [.int (0 : Int32), .ref a] (fun _ => rfl) ?_
  obtain ⟨q2, eq2, e⟩ := g_bd e
  refine g_cV 12 rfl rfl rfl rfl rfl (Md_l ka) (Md_takeBench_s ka eq2) ?_
  refine g_if (p1 := 26) (L1 := [some (.ref a), some (.int x1)]) (S1 := []) (s1 := (l, r, q2.2.1, q2.2.2)) (p2 := 15) (L2 := [some (.ref a), some (.int x1)]) (S2 := []) (s2 := (l, r, q2.2.1, q2.2.2)) rfl (fun _ _ => rfl) e (fun c3 e => ?_) (fun c3 e => ?_)
  · refine g_run 1 27 [some (.ref a), some (.int x1)] [.int (0 : Int32)] (fun _ => rfl) ?_
    cases e
    exact g_retZ rfl (y := (0 : Int32)) rfl rfl
  · refine g_run 4 20 [some (.ref a), some (.int x1)] [.int (47 : Int32), .int (0 : Int32), .int (1 : Int32), .ref a] (fun _ => rfl) ?_
    obtain ⟨q4, eq4, e⟩ := g_bd e
    refine g_cV 23 rfl rfl rfl rfl rfl (Md_l ka) (Md_take_s ka eq4) ?_
    refine g_if (p1 := 26) (L1 := [some (.ref a), some (.int x1)]) (S1 := []) (s1 := (l, r, q4.2.1, q4.2.2)) (p2 := 28) (L2 := [some (.ref a), some (.int x1)]) (S2 := []) (s2 := (l, r, q4.2.1, q4.2.2)) rfl (fun _ _ => rfl) e (fun c5 e => ?_) (fun c5 e => ?_)
    · refine g_run 1 27 [some (.ref a), some (.int x1)] [.int (0 : Int32)] (fun _ => rfl) ?_
      cases e
      exact g_retZ rfl (y := (0 : Int32)) rfl rfl
    · refine g_run 6 35 [some (.ref a), some (.int x1)] [.int (4 : Int32), .int (2 : Int32), .int (2 : Int32), .int (103 : Int32), .int (5 : Int32), .ref a] (fun _ => rfl) ?_
      obtain ⟨q6, eq6, e⟩ := g_bd e
      refine g_cVv 38 rfl rfl rfl rfl rfl (Md_l ka) (Md_keep_s ka eq6) ?_
      refine g_run 1 39 [some (.ref a), some (.int x1)] [.int (1 : Int32)] (fun _ => rfl) ?_
      cases e
      exact g_retZ rfl (y := (1 : Int32)) rfl rfl
def Md_habitBy (x0 : Int64) : Int32 :=
  if (lg_cmp x0 (1667330660 : Int64)) = 0 then
    (0 : Int32)
  else
    if (lg_cmp x0 (500086170472 : Int64)) = 0 then
      (1 : Int32)
    else
      if (lg_cmp x0 (482955849332 : Int64)) = 0 then
        (2 : Int32)
      else
        if (lg_cmp x0 (495672714608 : Int64)) = 0 then
          (3 : Int32)
        else
          if (lg_cmp x0 (1650815860 : Int64)) = 0 then
            (4 : Int32)
          else
            (-1 : Int32)
theorem Md_habitBy_s {X : Nat × (Nat → Int32)} {l : List (Nat × Nat)} {r : am_R} {h : am_F} {j : am_J} {x0 : Int64}  : Call X 177 [.long x0] (l, r, h, j) (some (.int (Md_habitBy x0)), (l, r, h, j)) := by
  generalize e : Md_habitBy x0 = q
  unfold Md_habitBy at e
  refine ⟨Nat.le_of_ble_eq_true rfl, ?_⟩
  show Ev X 177 0 [some (.long x0), none] [] (l, r, h, j) _
  refine g_run 3 5 [some (.long x0), none] [.int (lg_cmp x0 (1667330660 : Int64))] (fun _ => rfl) ?_
  refine g_if (p1 := 8) (L1 := [some (.long x0), none]) (S1 := []) (s1 := (l, r, h, j)) (p2 := 12) (L2 := [some (.long x0), none]) (S2 := []) (s2 := (l, r, h, j)) rfl (fun _ _ => rfl) e (fun c1 e => ?_) (fun c1 e => ?_)
  · refine g_run 2 61 [some (.long x0), none] [.int (0 : Int32)] (fun _ => rfl) ?_
    cases e
    exact g_ret rfl (fun _ _ => rfl)
  · refine g_run 3 17 [some (.long x0), none] [.int (lg_cmp x0 (500086170472 : Int64))] (fun _ => rfl) ?_
    refine g_if (p1 := 20) (L1 := [some (.long x0), none]) (S1 := []) (s1 := (l, r, h, j)) (p2 := 24) (L2 := [some (.long x0), none]) (S2 := []) (s2 := (l, r, h, j)) rfl (fun _ _ => rfl) e (fun c2 e => ?_) (fun c2 e => ?_)
    · refine g_run 2 61 [some (.long x0), none] [.int (1 : Int32)] (fun _ => rfl) ?_
      cases e
      exact g_ret rfl (fun _ _ => rfl)
    · refine g_run 3 29 [some (.long x0), none] [.int (lg_cmp x0 (482955849332 : Int64))] (fun _ => rfl) ?_
      refine g_if (p1 := 32) (L1 := [some (.long x0), none]) (S1 := []) (s1 := (l, r, h, j)) (p2 := 36) (L2 := [some (.long x0), none]) (S2 := []) (s2 := (l, r, h, j)) rfl (fun _ _ => rfl) e (fun c3 e => ?_) (fun c3 e => ?_)
      · refine g_run 2 61 [some (.long x0), none] [.int (2 : Int32)] (fun _ => rfl) ?_
        cases e
        exact g_ret rfl (fun _ _ => rfl)
      · refine g_run 3 41 [some (.long x0), none] [.int (lg_cmp x0 (495672714608 : Int64))] (fun _ => rfl) ?_
        refine g_if (p1 := 44) (L1 := [some (.long x0), none]) (S1 := []) (s1 := (l, r, h, j)) (p2 := 48) (L2 := [some (.long x0), none]) (S2 := []) (s2 := (l, r, h, j)) rfl (fun _ _ => rfl) e (fun c4 e => ?_) (fun c4 e => ?_)
        · refine g_run 2 61 [some (.long x0), none] [.int (3 : Int32)] (fun _ => rfl) ?_
          cases e
          exact g_ret rfl (fun _ _ => rfl)
        · refine g_run 3 53 [some (.long x0), none] [.int (lg_cmp x0 (1650815860 : Int64))] (fun _ => rfl) ?_
          refine g_if (p1 := 56) (L1 := [some (.long x0), none]) (S1 := []) (s1 := (l, r, h, j)) (p2 := 60) (L2 := [some (.long x0), none]) (S2 := []) (s2 := (l, r, h, j)) rfl (fun _ _ => rfl) e (fun c5 e => ?_) (fun c5 e => ?_)
          · refine g_run 2 61 [some (.long x0), none] [.int (4 : Int32)] (fun _ => rfl) ?_
            cases e
            exact g_ret rfl (fun _ _ => rfl)
          · refine g_run 1 61 [some (.long x0), none] [.int (-1 : Int32)] (fun _ => rfl) ?_
            cases e
            exact g_ret rfl (fun _ _ => rfl)
def Md_comerLine (a : Nat) (x1 : Int32) (h : am_F) (j : am_J) : Option (Int32 × am_F × am_J) :=
  (Md_full a (6 : Int32) (14 : Int32) x1 h).bind fun q1 =>
  (if (q1 a 13) = (2 : Int32) then
      some (Md_habitBy (j a 15))
    else
      some (-1 : Int32) : Option (Int32)).bind fun q4 =>
  if q4 = (-1 : Int32) then
    (Md_fails a q1).bind fun q6 =>
    (g_bz q6.1).bind fun z9 =>
    some (z9, q6.2, j)
  else
    (Md_token a q1 j).bind fun q7 =>
    (Md_take a (1 : Int32) (0 : Int32) (47 : Int32) q7.1 q7.2).bind fun q8 =>
    if q8.1 = 0 then
      some ((0 : Int32), q8.2.1, q8.2.2)
    else
      (Md_takeBench a (2 : Int32) q8.2.1 q8.2.2).bind fun q10 =>
      if q10.1 = 0 then
        some ((0 : Int32), q10.2.1, q10.2.2)
      else
        (Md_take a (3 : Int32) (0 : Int32) (9 : Int32) q10.2.1 q10.2.2).bind fun q12 =>
        if q12.1 = 0 then
          some ((0 : Int32), q12.2.1, q12.2.2)
        else
          (Md_take a (4 : Int32) (0 : Int32) (9 : Int32) q12.2.1 q12.2.2).bind fun q14 =>
          if q14.1 = 0 then
            some ((0 : Int32), q14.2.1, q14.2.2)
          else
            (Md_take a (5 : Int32) (0 : Int32) (9 : Int32) q14.2.1 q14.2.2).bind fun q16 =>
            if q16.1 = 0 then
              some ((0 : Int32), q16.2.1, q16.2.2)
            else
              (Md_keep a (6 : Int32) (111 : Int32) (6 : Int32) (6 : Int32) (14 : Int32) (am_up q16.2.1 (a + 11) 0 q4)).bind fun q18 =>
              some ((1 : Int32), q18, q16.2.2)
theorem Md_comerLine_s {X : Nat × (Nat → Int32)} {l : List (Nat × Nat)} {r : am_R} {h : am_F} {j : am_J} {a : Nat} {x1 : Int32} (ka : Md_K l r a) {q : Int32 × am_F × am_J} (e : Md_comerLine a x1 h j = some q) : Call X 178 [.ref a, .int x1] (l, r, h, j) (some (.int q.1), (l, r, q.2.1, q.2.2)) := by
  unfold Md_comerLine at e
  refine ⟨Nat.le_of_ble_eq_true rfl, ?_⟩
  show Ev X 178 0 [some (.ref a), some (.int x1), none] [] (l, r, h, j) _
  refine g_run 4 6 [some (.ref a), some (.int x1), none] [.int x1, .int (14 : Int32), .int (6 : Int32), .ref a] (fun _ => rfl) ?_
  obtain ⟨q1, eq1, e⟩ := g_bd e
  refine g_cVv 9 rfl rfl rfl rfl rfl (Md_l ka) (Md_full_s ka eq1) ?_
  refine g_run 1 10 [some (.ref a), some (.int x1), none] [.ref a] (fun _ => rfl) ?_
  refine g_getI 13 rfl rfl (Md_l ka) ?_
  refine g_run 1 14 [some (.ref a), some (.int x1), none] [.int (2 : Int32), .int (q1 a 13)] (fun _ => rfl) ?_
  obtain ⟨q4, eq4, e⟩ := g_bd e
  have hjq4 : ∀ (_ : True), Ev X 178 28 [some (.ref a), some (.int x1), none] [.int q4] (l, r, q1, j) (some (.int q.1), (l, r, q.2.1, q.2.2)) := by
    intro _
    refine g_run 3 31 [some (.ref a), some (.int x1), some (.int q4)] [.int (-1 : Int32), .int q4] (fun _ => rfl) ?_
    refine g_if (p1 := 34) (L1 := [some (.ref a), some (.int x1), some (.int q4)]) (S1 := []) (s1 := (l, r, q1, j)) (p2 := 39) (L2 := [some (.ref a), some (.int x1), some (.int q4)]) (S2 := []) (s2 := (l, r, q1, j)) rfl (fun _ _ => rfl) e (fun c5 e => ?_) (fun c5 e => ?_)
    · refine g_run 1 35 [some (.ref a), some (.int x1), some (.int q4)] [.ref a] (fun _ => rfl) ?_
      obtain ⟨q6, eq6, e⟩ := g_bd e
      refine g_cV 38 rfl rfl rfl rfl rfl (Md_l ka) (Md_fails_s ka eq6) ?_
      obtain ⟨z9, ez9, e⟩ := g_bd e
      cases e
      exact g_retZ rfl ez9 rfl
    · refine g_run 1 40 [some (.ref a), some (.int x1), some (.int q4)] [.ref a] (fun _ => rfl) ?_
      obtain ⟨q7, eq7, e⟩ := g_bd e
      refine g_cVv 43 rfl rfl rfl rfl rfl (Md_l ka) (Md_token_s ka eq7) ?_
      refine g_run 4 48 [some (.ref a), some (.int x1), some (.int q4)] [.int (47 : Int32), .int (0 : Int32), .int (1 : Int32), .ref a] (fun _ => rfl) ?_
      obtain ⟨q8, eq8, e⟩ := g_bd e
      refine g_cV 51 rfl rfl rfl rfl rfl (Md_l ka) (Md_take_s ka eq8) ?_
      refine g_if (p1 := 95) (L1 := [some (.ref a), some (.int x1), some (.int q4)]) (S1 := []) (s1 := (l, r, q8.2.1, q8.2.2)) (p2 := 54) (L2 := [some (.ref a), some (.int x1), some (.int q4)]) (S2 := []) (s2 := (l, r, q8.2.1, q8.2.2)) rfl (fun _ _ => rfl) e (fun c9 e => ?_) (fun c9 e => ?_)
      · refine g_run 1 96 [some (.ref a), some (.int x1), some (.int q4)] [.int (0 : Int32)] (fun _ => rfl) ?_
        cases e
        exact g_retZ rfl (y := (0 : Int32)) rfl rfl
      · refine g_run 2 56 [some (.ref a), some (.int x1), some (.int q4)] [.int (2 : Int32), .ref a] (fun _ => rfl) ?_
        obtain ⟨q10, eq10, e⟩ := g_bd e
        refine g_cV 59 rfl rfl rfl rfl rfl (Md_l ka) (Md_takeBench_s ka eq10) ?_
        refine g_if (p1 := 95) (L1 := [some (.ref a), some (.int x1), some (.int q4)]) (S1 := []) (s1 := (l, r, q10.2.1, q10.2.2)) (p2 := 62) (L2 := [some (.ref a), some (.int x1), some (.int q4)]) (S2 := []) (s2 := (l, r, q10.2.1, q10.2.2)) rfl (fun _ _ => rfl) e (fun c11 e => ?_) (fun c11 e => ?_)
        · refine g_run 1 96 [some (.ref a), some (.int x1), some (.int q4)] [.int (0 : Int32)] (fun _ => rfl) ?_
          cases e
          exact g_retZ rfl (y := (0 : Int32)) rfl rfl
        · refine g_run 4 67 [some (.ref a), some (.int x1), some (.int q4)] [.int (9 : Int32), .int (0 : Int32), .int (3 : Int32), .ref a] (fun _ => rfl) ?_
          obtain ⟨q12, eq12, e⟩ := g_bd e
          refine g_cV 70 rfl rfl rfl rfl rfl (Md_l ka) (Md_take_s ka eq12) ?_
          refine g_if (p1 := 95) (L1 := [some (.ref a), some (.int x1), some (.int q4)]) (S1 := []) (s1 := (l, r, q12.2.1, q12.2.2)) (p2 := 73) (L2 := [some (.ref a), some (.int x1), some (.int q4)]) (S2 := []) (s2 := (l, r, q12.2.1, q12.2.2)) rfl (fun _ _ => rfl) e (fun c13 e => ?_) (fun c13 e => ?_)
          · refine g_run 1 96 [some (.ref a), some (.int x1), some (.int q4)] [.int (0 : Int32)] (fun _ => rfl) ?_
            cases e
            exact g_retZ rfl (y := (0 : Int32)) rfl rfl
          · refine g_run 4 78 [some (.ref a), some (.int x1), some (.int q4)] [.int (9 : Int32), .int (0 : Int32), .int (4 : Int32), .ref a] (fun _ => rfl) ?_
            obtain ⟨q14, eq14, e⟩ := g_bd e
            refine g_cV 81 rfl rfl rfl rfl rfl (Md_l ka) (Md_take_s ka eq14) ?_
            refine g_if (p1 := 95) (L1 := [some (.ref a), some (.int x1), some (.int q4)]) (S1 := []) (s1 := (l, r, q14.2.1, q14.2.2)) (p2 := 84) (L2 := [some (.ref a), some (.int x1), some (.int q4)]) (S2 := []) (s2 := (l, r, q14.2.1, q14.2.2)) rfl (fun _ _ => rfl) e (fun c15 e => ?_) (fun c15 e => ?_)
            · refine g_run 1 96 [some (.ref a), some (.int x1), some (.int q4)] [.int (0 : Int32)] (fun _ => rfl) ?_
              cases e
              exact g_retZ rfl (y := (0 : Int32)) rfl rfl
            · refine g_run 4 89 [some (.ref a), some (.int x1), some (.int q4)] [.int (9 : Int32), .int (0 : Int32), .int (5 : Int32), .ref a] (fun _ => rfl) ?_
              obtain ⟨q16, eq16, e⟩ := g_bd e
              refine g_cV 92 rfl rfl rfl rfl rfl (Md_l ka) (Md_take_s ka eq16) ?_
              refine g_if (p1 := 95) (L1 := [some (.ref a), some (.int x1), some (.int q4)]) (S1 := []) (s1 := (l, r, q16.2.1, q16.2.2)) (p2 := 97) (L2 := [some (.ref a), some (.int x1), some (.int q4)]) (S2 := []) (s2 := (l, r, q16.2.1, q16.2.2)) rfl (fun _ _ => rfl) e (fun c17 e => ?_) (fun c17 e => ?_)
              · refine g_run 1 96 [some (.ref a), some (.int x1), some (.int q4)] [.int (0 : Int32)] (fun _ => rfl) ?_
                cases e
                exact g_retZ rfl (y := (0 : Int32)) rfl rfl
              · refine g_run 1 98 [some (.ref a), some (.int x1), some (.int q4)] [.ref a] (fun _ => rfl) ?_
                refine g_getA 101 rfl rfl (Md_l ka) (Md_r20 ka) ?_
                refine g_run 2 103 [some (.ref a), some (.int x1), some (.int q4)] [.int q4, .int (0 : Int32), .ref (a + 11)] (fun _ => rfl) ?_
                refine g_iast 104 rfl rfl (Md_k20 ka) (kx := 0) rfl ?_
                refine g_run 6 115 [some (.ref a), some (.int x1), some (.int q4)] [.int (14 : Int32), .int (6 : Int32), .int (6 : Int32), .int (111 : Int32), .int (6 : Int32), .ref a] (fun _ => rfl) ?_
                obtain ⟨q18, eq18, e⟩ := g_bd e
                refine g_cVv 118 rfl rfl rfl rfl rfl (Md_l ka) (Md_keep_s ka eq18) ?_
                refine g_run 1 119 [some (.ref a), some (.int x1), some (.int q4)] [.int (1 : Int32)] (fun _ => rfl) ?_
                cases e
                exact g_retZ rfl (y := (1 : Int32)) rfl rfl
  replace e := eq4
  refine g_if (p1 := 17) (L1 := [some (.ref a), some (.int x1), none]) (S1 := []) (s1 := (l, r, q1, j)) (p2 := 27) (L2 := [some (.ref a), some (.int x1), none]) (S2 := []) (s2 := (l, r, q1, j)) rfl (fun _ _ => rfl) e (fun c2 e => ?_) (fun c2 e => ?_)
  · refine g_run 1 18 [some (.ref a), some (.int x1), none] [.ref a] (fun _ => rfl) ?_
    refine g_getJ 21 rfl rfl (Md_l ka) ?_
    refine g_cS 24 rfl rfl (by decide) rfl rfl rfl Md_habitBy_s ?_
    refine g_run 1 28 [some (.ref a), some (.int x1), none] [.int (Md_habitBy (j a 15))] (fun _ => rfl) ?_
    cases e
    exact hjq4 trivial
  · refine g_run 1 28 [some (.ref a), some (.int x1), none] [.int (-1 : Int32)] (fun _ => rfl) ?_
    cases e
    exact hjq4 trivial
def Md_benchLine (a : Nat) (x1 : Int32) (h : am_F) (j : am_J) : Option (Int32 × am_F × am_J) :=
  (Md_full a (3 : Int32) (6 : Int32) x1 h).bind fun q1 =>
  (Md_take a (0 : Int32) (1 : Int32) (9 : Int32) q1 j).bind fun q2 =>
  if q2.1 = 0 then
    some ((0 : Int32), q2.2.1, q2.2.2)
  else
    (Md_keep a (3 : Int32) (55 : Int32) (1 : Int32) (4 : Int32) (6 : Int32) q2.2.1).bind fun q4 =>
    some ((1 : Int32), q4, q2.2.2)
theorem Md_benchLine_s {X : Nat × (Nat → Int32)} {l : List (Nat × Nat)} {r : am_R} {h : am_F} {j : am_J} {a : Nat} {x1 : Int32} (ka : Md_K l r a) {q : Int32 × am_F × am_J} (e : Md_benchLine a x1 h j = some q) : Call X 179 [.ref a, .int x1] (l, r, h, j) (some (.int q.1), (l, r, q.2.1, q.2.2)) := by
  unfold Md_benchLine at e
  refine ⟨Nat.le_of_ble_eq_true rfl, ?_⟩
  show Ev X 179 0 [some (.ref a), some (.int x1)] [] (l, r, h, j) _
  refine g_run 4 5 [some (.ref a), some (.int x1)] [.int x1, .int (6 : Int32), .int (3 : Int32), .ref a] (fun _ => rfl) ?_
  obtain ⟨q1, eq1, e⟩ := g_bd e
  refine g_cVv 8 rfl rfl rfl rfl rfl (Md_l ka) (Md_full_s ka eq1) ?_
  refine g_run 4 13 [some (.ref a), some (.int x1)] [.int (9 : Int32), .int (1 : Int32), .int (0 : Int32), .ref a] (fun _ => rfl) ?_
  obtain ⟨q2, eq2, e⟩ := g_bd e
  refine g_cV 16 rfl rfl rfl rfl rfl (Md_l ka) (Md_take_s ka eq2) ?_
  refine g_if (p1 := 19) (L1 := [some (.ref a), some (.int x1)]) (S1 := []) (s1 := (l, r, q2.2.1, q2.2.2)) (p2 := 21) (L2 := [some (.ref a), some (.int x1)]) (S2 := []) (s2 := (l, r, q2.2.1, q2.2.2)) rfl (fun _ _ => rfl) e (fun c3 e => ?_) (fun c3 e => ?_)
  · refine g_run 1 20 [some (.ref a), some (.int x1)] [.int (0 : Int32)] (fun _ => rfl) ?_
    cases e
    exact g_retZ rfl (y := (0 : Int32)) rfl rfl
  · refine g_run 6 29 [some (.ref a), some (.int x1)] [.int (6 : Int32), .int (4 : Int32), .int (1 : Int32), .int (55 : Int32), .int (3 : Int32), .ref a] (fun _ => rfl) ?_
    obtain ⟨q4, eq4, e⟩ := g_bd e
    refine g_cVv 32 rfl rfl rfl rfl rfl (Md_l ka) (Md_keep_s ka eq4) ?_
    refine g_run 1 33 [some (.ref a), some (.int x1)] [.int (1 : Int32)] (fun _ => rfl) ?_
    cases e
    exact g_retZ rfl (y := (1 : Int32)) rfl rfl
def Md_plainLine (a : Nat) (x1 : Int32) (x2 : Int32) (x3 : Int32) (h : am_F) (j : am_J) : Option (Int32 × am_F × am_J) :=
  (Md_take a (0 : Int32) x2 x3 h j).bind fun q1 =>
  if q1.1 = 0 then
    some ((0 : Int32), q1.2.1, q1.2.2)
  else
    (g_ix x1 195).bind fun k3 =>
    some ((1 : Int32), (am_up q1.2.1 (a + 10) k3 (q1.2.1 (a + 11) 0)), q1.2.2)
theorem Md_plainLine_s {X : Nat × (Nat → Int32)} {l : List (Nat × Nat)} {r : am_R} {h : am_F} {j : am_J} {a : Nat} {x1 : Int32} {x2 : Int32} {x3 : Int32} (ka : Md_K l r a) {q : Int32 × am_F × am_J} (e : Md_plainLine a x1 x2 x3 h j = some q) : Call X 180 [.ref a, .int x1, .int x2, .int x3] (l, r, h, j) (some (.int q.1), (l, r, q.2.1, q.2.2)) := by
  unfold Md_plainLine at e
  refine ⟨Nat.le_of_ble_eq_true rfl, ?_⟩
  show Ev X 180 0 [some (.ref a), some (.int x1), some (.int x2), some (.int x3)] [] (l, r, h, j) _
  refine g_run 4 4 [some (.ref a), some (.int x1), some (.int x2), some (.int x3)] [.int x3, .int x2, .int (0 : Int32), .ref a] (fun _ => rfl) ?_
  obtain ⟨q1, eq1, e⟩ := g_bd e
  refine g_cV 7 rfl rfl rfl rfl rfl (Md_l ka) (Md_take_s ka eq1) ?_
  refine g_if (p1 := 10) (L1 := [some (.ref a), some (.int x1), some (.int x2), some (.int x3)]) (S1 := []) (s1 := (l, r, q1.2.1, q1.2.2)) (p2 := 12) (L2 := [some (.ref a), some (.int x1), some (.int x2), some (.int x3)]) (S2 := []) (s2 := (l, r, q1.2.1, q1.2.2)) rfl (fun _ _ => rfl) e (fun c2 e => ?_) (fun c2 e => ?_)
  · refine g_run 1 11 [some (.ref a), some (.int x1), some (.int x2), some (.int x3)] [.int (0 : Int32)] (fun _ => rfl) ?_
    cases e
    exact g_retZ rfl (y := (0 : Int32)) rfl rfl
  · refine g_run 1 13 [some (.ref a), some (.int x1), some (.int x2), some (.int x3)] [.ref a] (fun _ => rfl) ?_
    refine g_getA 16 rfl rfl (Md_l ka) (Md_r19 ka) ?_
    refine g_run 2 18 [some (.ref a), some (.int x1), some (.int x2), some (.int x3)] [.ref a, .int x1, .ref (a + 10)] (fun _ => rfl) ?_
    refine g_getA 21 rfl rfl (Md_l ka) (Md_r20 ka) ?_
    refine g_run 1 22 [some (.ref a), some (.int x1), some (.int x2), some (.int x3)] [.int (0 : Int32), .ref (a + 11), .int x1, .ref (a + 10)] (fun _ => rfl) ?_
    refine g_iald 23 rfl rfl (Md_k20 ka) (kx := 0) rfl ?_
    obtain ⟨k3, ek3, e⟩ := g_bd e
    refine g_iast 24 rfl rfl (Md_k19 ka) ek3 ?_
    refine g_run 1 25 [some (.ref a), some (.int x1), some (.int x2), some (.int x3)] [.int (1 : Int32)] (fun _ => rfl) ?_
    cases e
    exact g_retZ rfl (y := (1 : Int32)) rfl rfl
def Md_parkLine_t85 (x0 : Nat) (x1 : Int64) (x3 : Int32) (h : am_F) (j : am_J) : Option (Int32 × am_F × am_J) :=
  (Md_token x0 h j).bind fun q2 =>
  if (lg_cmp x1 (1918989413 : Int64)) = 0 then
    (Md_rateLine x0 q2.1 q2.2).bind fun q4 =>
    (g_bz q4.1).bind fun z9 =>
    some (z9, q4.2.1, q4.2.2)
  else
    if (lg_cmp x1 (440005915496 : Int64)) = 0 then
      (if (lg_cmp x1 (440005915496 : Int64)) = 0 then
          some (0 : Int32)
        else
          some (1 : Int32) : Option (Int32)).bind fun q8 =>
      (if (lg_cmp x1 (440005915496 : Int64)) = 0 then
          some (1 : Int32)
        else
          some (0 : Int32) : Option (Int32)).bind fun q11 =>
      (Md_plainLine x0 q8 q11 (60 : Int32) q2.1 q2.2).bind fun q12 =>
      (g_bz q12.1).bind fun z9 =>
      some (z9, q12.2.1, q12.2.2)
    else
      if (lg_cmp x1 (126943821523833 : Int64)) = 0 then
        (if (lg_cmp x1 (440005915496 : Int64)) = 0 then
            some (0 : Int32)
          else
            some (1 : Int32) : Option (Int32)).bind fun q16 =>
        (if (lg_cmp x1 (440005915496 : Int64)) = 0 then
            some (1 : Int32)
          else
            some (0 : Int32) : Option (Int32)).bind fun q19 =>
        (Md_plainLine x0 q16 q19 (60 : Int32) q2.1 q2.2).bind fun q20 =>
        (g_bz q20.1).bind fun z9 =>
        some (z9, q20.2.1, q20.2.2)
      else
        if (lg_cmp x1 (108187750065510 : Int64)) = 0 then
          (Md_plainLine x0 (2 : Int32) (0 : Int32) (100 : Int32) q2.1 q2.2).bind fun q22 =>
          (g_bz q22.1).bind fun z9 =>
          some (z9, q22.2.1, q22.2.2)
        else
          if (lg_cmp x1 (422608528232 : Int64)) = 0 then
            (Md_benchLine x0 x3 q2.1 q2.2).bind fun q24 =>
            (g_bz q24.1).bind fun z9 =>
            some (z9, q24.2.1, q24.2.2)
          else
            if (lg_cmp x1 (31632302844175716 : Int64)) = 0 then
              (Md_paintedLine x0 q2.1 q2.2).bind fun q26 =>
              (g_bz q26.1).bind fun z9 =>
              some (z9, q26.2.1, q26.2.2)
            else
              if (lg_cmp x1 (1667330660 : Int64)) = 0 then
                (Md_cardLine x0 q2.1 q2.2).bind fun q28 =>
                (g_bz q28.1).bind fun z9 =>
                some (z9, q28.2.1, q28.2.2)
              else
                if (lg_cmp x1 (469786780261 : Int64)) = 0 then
                  (Md_maybeLine x0 x3 q2.1 q2.2).bind fun q30 =>
                  (g_bz q30.1).bind fun z9 =>
                  some (z9, q30.2.1, q30.2.2)
                else
                  if (lg_cmp x1 (123598008577902 : Int64)) = 0 then
                    (Md_pigeonLine x0 x3 q2.1 q2.2).bind fun q32 =>
                    (g_bz q32.1).bind fun z9 =>
                    some (z9, q32.2.1, q32.2.2)
                  else
                    (Md_comerLine x0 x3 q2.1 q2.2).bind fun q33 =>
                    (g_bz q33.1).bind fun z9 =>
                    some (z9, q33.2.1, q33.2.2)
def Md_parkLine (a : Nat) (x1 : Int64) (x3 : Int32) (h : am_F) (j : am_J) : Option (Int32 × am_F × am_J) :=
  if (lg_cmp x1 (1918989413 : Int64)) = 0 then
    Md_parkLine_t85 a x1 x3 h j
  else
    if (lg_cmp x1 (440005915496 : Int64)) = 0 then
      Md_parkLine_t85 a x1 x3 h j
    else
      if (lg_cmp x1 (126943821523833 : Int64)) = 0 then
        Md_parkLine_t85 a x1 x3 h j
      else
        if (lg_cmp x1 (108187750065510 : Int64)) = 0 then
          Md_parkLine_t85 a x1 x3 h j
        else
          if (lg_cmp x1 (422608528232 : Int64)) = 0 then
            Md_parkLine_t85 a x1 x3 h j
          else
            if (lg_cmp x1 (31632302844175716 : Int64)) = 0 then
              Md_parkLine_t85 a x1 x3 h j
            else
              if (lg_cmp x1 (1667330660 : Int64)) = 0 then
                Md_parkLine_t85 a x1 x3 h j
              else
                if (lg_cmp x1 (469786780261 : Int64)) = 0 then
                  Md_parkLine_t85 a x1 x3 h j
                else
                  if (lg_cmp x1 (123598008577902 : Int64)) = 0 then
                    Md_parkLine_t85 a x1 x3 h j
                  else
                    if (lg_cmp x1 (427071202674 : Int64)) = 0 then
                      Md_parkLine_t85 a x1 x3 h j
                    else
                      (Md_fails a h).bind fun q43 =>
                      (g_bz q43.1).bind fun z9 =>
                      some (z9, q43.2, j)
theorem Md_parkLine_t85_s {X : Nat × (Nat → Int32)} {l : List (Nat × Nat)} {r : am_R} {h : am_F} {j : am_J} {x0 : Nat} {x1 : Int64} {x3 : Int32} (kx0 : Md_K l r x0) {q : Int32 × am_F × am_J} (e : Md_parkLine_t85 x0 x1 x3 h j = some q) : Ev X 181 85 [some (.ref x0), some (.long x1), none, some (.int x3)] [] (l, r, h, j) (some (.int q.1), (l, r, q.2.1, q.2.2)) := by
  unfold Md_parkLine_t85 at e
  refine g_run 1 86 [some (.ref x0), some (.long x1), none, some (.int x3)] [.ref x0] (fun _ => rfl) ?_
  obtain ⟨q2, eq2, e⟩ := g_bd e
  refine g_cVv 89 rfl rfl rfl rfl rfl (Md_l kx0) (Md_token_s kx0 eq2) ?_
  refine g_run 3 94 [some (.ref x0), some (.long x1), none, some (.int x3)] [.int (lg_cmp x1 (1918989413 : Int64))] (fun _ => rfl) ?_
  refine g_if (p1 := 97) (L1 := [some (.ref x0), some (.long x1), none, some (.int x3)]) (S1 := []) (s1 := (l, r, q2.1, q2.2)) (p2 := 102) (L2 := [some (.ref x0), some (.long x1), none, some (.int x3)]) (S2 := []) (s2 := (l, r, q2.1, q2.2)) rfl (fun _ _ => rfl) e (fun c3 e => ?_) (fun c3 e => ?_)
  · refine g_run 1 98 [some (.ref x0), some (.long x1), none, some (.int x3)] [.ref x0] (fun _ => rfl) ?_
    obtain ⟨q4, eq4, e⟩ := g_bd e
    refine g_cV 101 rfl rfl rfl rfl rfl (Md_l kx0) (Md_rateLine_s kx0 eq4) ?_
    obtain ⟨z9, ez9, e⟩ := g_bd e
    cases e
    exact g_retZ rfl ez9 rfl
  · refine g_run 3 107 [some (.ref x0), some (.long x1), none, some (.int x3)] [.int (lg_cmp x1 (440005915496 : Int64))] (fun _ => rfl) ?_
    refine g_if (p1 := 118) (L1 := [some (.ref x0), some (.long x1), none, some (.int x3)]) (S1 := []) (s1 := (l, r, q2.1, q2.2)) (p2 := 110) (L2 := [some (.ref x0), some (.long x1), none, some (.int x3)]) (S2 := []) (s2 := (l, r, q2.1, q2.2)) rfl (fun _ _ => rfl) e (fun c5 e => ?_) (fun c5 e => ?_)
    · refine g_run 4 124 [some (.ref x0), some (.long x1), none, some (.int x3)] [.int (lg_cmp x1 (440005915496 : Int64)), .ref x0] (fun _ => rfl) ?_
      obtain ⟨q8, eq8, e⟩ := g_bd e
      have hjq8 : ∀ (_ : True), Ev X 181 132 [some (.ref x0), some (.long x1), none, some (.int x3)] [.int q8, .ref x0] (l, r, q2.1, q2.2) (some (.int q.1), (l, r, q.2.1, q.2.2)) := by
        intro _
        refine g_run 3 137 [some (.ref x0), some (.long x1), none, some (.int x3)] [.int (lg_cmp x1 (440005915496 : Int64)), .int q8, .ref x0] (fun _ => rfl) ?_
        obtain ⟨q11, eq11, e⟩ := g_bd e
        have hjq11 : ∀ (_ : True), Ev X 181 145 [some (.ref x0), some (.long x1), none, some (.int x3)] [.int q11, .int q8, .ref x0] (l, r, q2.1, q2.2) (some (.int q.1), (l, r, q.2.1, q.2.2)) := by
          intro _
          refine g_run 1 147 [some (.ref x0), some (.long x1), none, some (.int x3)] [.int (60 : Int32), .int q11, .int q8, .ref x0] (fun _ => rfl) ?_
          obtain ⟨q12, eq12, e⟩ := g_bd e
          refine g_cV 150 rfl rfl rfl rfl rfl (Md_l kx0) (Md_plainLine_s kx0 eq12) ?_
          obtain ⟨z9, ez9, e⟩ := g_bd e
          cases e
          exact g_retZ rfl ez9 rfl
        replace e := eq11
        refine g_if (p1 := 140) (L1 := [some (.ref x0), some (.long x1), none, some (.int x3)]) (S1 := [.int q8, .ref x0]) (s1 := (l, r, q2.1, q2.2)) (p2 := 144) (L2 := [some (.ref x0), some (.long x1), none, some (.int x3)]) (S2 := [.int q8, .ref x0]) (s2 := (l, r, q2.1, q2.2)) rfl (fun _ _ => rfl) e (fun c9 e => ?_) (fun c9 e => ?_)
        · refine g_run 2 145 [some (.ref x0), some (.long x1), none, some (.int x3)] [.int (1 : Int32), .int q8, .ref x0] (fun _ => rfl) ?_
          cases e
          exact hjq11 trivial
        · refine g_run 1 145 [some (.ref x0), some (.long x1), none, some (.int x3)] [.int (0 : Int32), .int q8, .ref x0] (fun _ => rfl) ?_
          cases e
          exact hjq11 trivial
      replace e := eq8
      refine g_if (p1 := 127) (L1 := [some (.ref x0), some (.long x1), none, some (.int x3)]) (S1 := [.ref x0]) (s1 := (l, r, q2.1, q2.2)) (p2 := 131) (L2 := [some (.ref x0), some (.long x1), none, some (.int x3)]) (S2 := [.ref x0]) (s2 := (l, r, q2.1, q2.2)) rfl (fun _ _ => rfl) e (fun c6 e => ?_) (fun c6 e => ?_)
      · refine g_run 2 132 [some (.ref x0), some (.long x1), none, some (.int x3)] [.int (0 : Int32), .ref x0] (fun _ => rfl) ?_
        cases e
        exact hjq8 trivial
      · refine g_run 1 132 [some (.ref x0), some (.long x1), none, some (.int x3)] [.int (1 : Int32), .ref x0] (fun _ => rfl) ?_
        cases e
        exact hjq8 trivial
    · refine g_run 3 115 [some (.ref x0), some (.long x1), none, some (.int x3)] [.int (lg_cmp x1 (126943821523833 : Int64))] (fun _ => rfl) ?_
      refine g_if (p1 := 118) (L1 := [some (.ref x0), some (.long x1), none, some (.int x3)]) (S1 := []) (s1 := (l, r, q2.1, q2.2)) (p2 := 151) (L2 := [some (.ref x0), some (.long x1), none, some (.int x3)]) (S2 := []) (s2 := (l, r, q2.1, q2.2)) rfl (fun _ _ => rfl) e (fun c13 e => ?_) (fun c13 e => ?_)
      · refine g_run 4 124 [some (.ref x0), some (.long x1), none, some (.int x3)] [.int (lg_cmp x1 (440005915496 : Int64)), .ref x0] (fun _ => rfl) ?_
        obtain ⟨q16, eq16, e⟩ := g_bd e
        have hjq16 : ∀ (_ : True), Ev X 181 132 [some (.ref x0), some (.long x1), none, some (.int x3)] [.int q16, .ref x0] (l, r, q2.1, q2.2) (some (.int q.1), (l, r, q.2.1, q.2.2)) := by
          intro _
          refine g_run 3 137 [some (.ref x0), some (.long x1), none, some (.int x3)] [.int (lg_cmp x1 (440005915496 : Int64)), .int q16, .ref x0] (fun _ => rfl) ?_
          obtain ⟨q19, eq19, e⟩ := g_bd e
          have hjq19 : ∀ (_ : True), Ev X 181 145 [some (.ref x0), some (.long x1), none, some (.int x3)] [.int q19, .int q16, .ref x0] (l, r, q2.1, q2.2) (some (.int q.1), (l, r, q.2.1, q.2.2)) := by
            intro _
            refine g_run 1 147 [some (.ref x0), some (.long x1), none, some (.int x3)] [.int (60 : Int32), .int q19, .int q16, .ref x0] (fun _ => rfl) ?_
            obtain ⟨q20, eq20, e⟩ := g_bd e
            refine g_cV 150 rfl rfl rfl rfl rfl (Md_l kx0) (Md_plainLine_s kx0 eq20) ?_
            obtain ⟨z9, ez9, e⟩ := g_bd e
            cases e
            exact g_retZ rfl ez9 rfl
          replace e := eq19
          refine g_if (p1 := 140) (L1 := [some (.ref x0), some (.long x1), none, some (.int x3)]) (S1 := [.int q16, .ref x0]) (s1 := (l, r, q2.1, q2.2)) (p2 := 144) (L2 := [some (.ref x0), some (.long x1), none, some (.int x3)]) (S2 := [.int q16, .ref x0]) (s2 := (l, r, q2.1, q2.2)) rfl (fun _ _ => rfl) e (fun c17 e => ?_) (fun c17 e => ?_)
          · refine g_run 2 145 [some (.ref x0), some (.long x1), none, some (.int x3)] [.int (1 : Int32), .int q16, .ref x0] (fun _ => rfl) ?_
            cases e
            exact hjq19 trivial
          · refine g_run 1 145 [some (.ref x0), some (.long x1), none, some (.int x3)] [.int (0 : Int32), .int q16, .ref x0] (fun _ => rfl) ?_
            cases e
            exact hjq19 trivial
        replace e := eq16
        refine g_if (p1 := 127) (L1 := [some (.ref x0), some (.long x1), none, some (.int x3)]) (S1 := [.ref x0]) (s1 := (l, r, q2.1, q2.2)) (p2 := 131) (L2 := [some (.ref x0), some (.long x1), none, some (.int x3)]) (S2 := [.ref x0]) (s2 := (l, r, q2.1, q2.2)) rfl (fun _ _ => rfl) e (fun c14 e => ?_) (fun c14 e => ?_)
        · refine g_run 2 132 [some (.ref x0), some (.long x1), none, some (.int x3)] [.int (0 : Int32), .ref x0] (fun _ => rfl) ?_
          cases e
          exact hjq16 trivial
        · refine g_run 1 132 [some (.ref x0), some (.long x1), none, some (.int x3)] [.int (1 : Int32), .ref x0] (fun _ => rfl) ?_
          cases e
          exact hjq16 trivial
      · refine g_run 3 156 [some (.ref x0), some (.long x1), none, some (.int x3)] [.int (lg_cmp x1 (108187750065510 : Int64))] (fun _ => rfl) ?_
        refine g_if (p1 := 159) (L1 := [some (.ref x0), some (.long x1), none, some (.int x3)]) (S1 := []) (s1 := (l, r, q2.1, q2.2)) (p2 := 168) (L2 := [some (.ref x0), some (.long x1), none, some (.int x3)]) (S2 := []) (s2 := (l, r, q2.1, q2.2)) rfl (fun _ _ => rfl) e (fun c21 e => ?_) (fun c21 e => ?_)
        · refine g_run 4 164 [some (.ref x0), some (.long x1), none, some (.int x3)] [.int (100 : Int32), .int (0 : Int32), .int (2 : Int32), .ref x0] (fun _ => rfl) ?_
          obtain ⟨q22, eq22, e⟩ := g_bd e
          refine g_cV 167 rfl rfl rfl rfl rfl (Md_l kx0) (Md_plainLine_s kx0 eq22) ?_
          obtain ⟨z9, ez9, e⟩ := g_bd e
          cases e
          exact g_retZ rfl ez9 rfl
        · refine g_run 3 173 [some (.ref x0), some (.long x1), none, some (.int x3)] [.int (lg_cmp x1 (422608528232 : Int64))] (fun _ => rfl) ?_
          refine g_if (p1 := 176) (L1 := [some (.ref x0), some (.long x1), none, some (.int x3)]) (S1 := []) (s1 := (l, r, q2.1, q2.2)) (p2 := 182) (L2 := [some (.ref x0), some (.long x1), none, some (.int x3)]) (S2 := []) (s2 := (l, r, q2.1, q2.2)) rfl (fun _ _ => rfl) e (fun c23 e => ?_) (fun c23 e => ?_)
          · refine g_run 2 178 [some (.ref x0), some (.long x1), none, some (.int x3)] [.int x3, .ref x0] (fun _ => rfl) ?_
            obtain ⟨q24, eq24, e⟩ := g_bd e
            refine g_cV 181 rfl rfl rfl rfl rfl (Md_l kx0) (Md_benchLine_s kx0 eq24) ?_
            obtain ⟨z9, ez9, e⟩ := g_bd e
            cases e
            exact g_retZ rfl ez9 rfl
          · refine g_run 3 187 [some (.ref x0), some (.long x1), none, some (.int x3)] [.int (lg_cmp x1 (31632302844175716 : Int64))] (fun _ => rfl) ?_
            refine g_if (p1 := 190) (L1 := [some (.ref x0), some (.long x1), none, some (.int x3)]) (S1 := []) (s1 := (l, r, q2.1, q2.2)) (p2 := 195) (L2 := [some (.ref x0), some (.long x1), none, some (.int x3)]) (S2 := []) (s2 := (l, r, q2.1, q2.2)) rfl (fun _ _ => rfl) e (fun c25 e => ?_) (fun c25 e => ?_)
            · refine g_run 1 191 [some (.ref x0), some (.long x1), none, some (.int x3)] [.ref x0] (fun _ => rfl) ?_
              obtain ⟨q26, eq26, e⟩ := g_bd e
              refine g_cV 194 rfl rfl rfl rfl rfl (Md_l kx0) (Md_paintedLine_s kx0 eq26) ?_
              obtain ⟨z9, ez9, e⟩ := g_bd e
              cases e
              exact g_retZ rfl ez9 rfl
            · refine g_run 3 200 [some (.ref x0), some (.long x1), none, some (.int x3)] [.int (lg_cmp x1 (1667330660 : Int64))] (fun _ => rfl) ?_
              refine g_if (p1 := 203) (L1 := [some (.ref x0), some (.long x1), none, some (.int x3)]) (S1 := []) (s1 := (l, r, q2.1, q2.2)) (p2 := 208) (L2 := [some (.ref x0), some (.long x1), none, some (.int x3)]) (S2 := []) (s2 := (l, r, q2.1, q2.2)) rfl (fun _ _ => rfl) e (fun c27 e => ?_) (fun c27 e => ?_)
              · refine g_run 1 204 [some (.ref x0), some (.long x1), none, some (.int x3)] [.ref x0] (fun _ => rfl) ?_
                obtain ⟨q28, eq28, e⟩ := g_bd e
                refine g_cV 207 rfl rfl rfl rfl rfl (Md_l kx0) (Md_cardLine_s kx0 eq28) ?_
                obtain ⟨z9, ez9, e⟩ := g_bd e
                cases e
                exact g_retZ rfl ez9 rfl
              · refine g_run 3 213 [some (.ref x0), some (.long x1), none, some (.int x3)] [.int (lg_cmp x1 (469786780261 : Int64))] (fun _ => rfl) ?_
                refine g_if (p1 := 216) (L1 := [some (.ref x0), some (.long x1), none, some (.int x3)]) (S1 := []) (s1 := (l, r, q2.1, q2.2)) (p2 := 224) (L2 := [some (.ref x0), some (.long x1), none, some (.int x3)]) (S2 := []) (s2 := (l, r, q2.1, q2.2)) rfl (fun _ _ => rfl) e (fun c29 e => ?_) (fun c29 e => ?_)
                · refine g_run 2 218 [some (.ref x0), some (.long x1), none, some (.int x3)] [.int x3, .ref x0] (fun _ => rfl) ?_
                  obtain ⟨q30, eq30, e⟩ := g_bd e
                  refine g_cV 221 rfl rfl rfl rfl rfl (Md_l kx0) (Md_maybeLine_s kx0 eq30) ?_
                  refine g_run 1 245 [some (.ref x0), some (.long x1), none, some (.int x3)] [.int q30.1] (fun _ => rfl) ?_
                  obtain ⟨z9, ez9, e⟩ := g_bd e
                  cases e
                  exact g_retZ rfl ez9 rfl
                · refine g_run 3 229 [some (.ref x0), some (.long x1), none, some (.int x3)] [.int (lg_cmp x1 (123598008577902 : Int64))] (fun _ => rfl) ?_
                  refine g_if (p1 := 232) (L1 := [some (.ref x0), some (.long x1), none, some (.int x3)]) (S1 := []) (s1 := (l, r, q2.1, q2.2)) (p2 := 240) (L2 := [some (.ref x0), some (.long x1), none, some (.int x3)]) (S2 := []) (s2 := (l, r, q2.1, q2.2)) rfl (fun _ _ => rfl) e (fun c31 e => ?_) (fun c31 e => ?_)
                  · refine g_run 2 234 [some (.ref x0), some (.long x1), none, some (.int x3)] [.int x3, .ref x0] (fun _ => rfl) ?_
                    obtain ⟨q32, eq32, e⟩ := g_bd e
                    refine g_cV 237 rfl rfl rfl rfl rfl (Md_l kx0) (Md_pigeonLine_s kx0 eq32) ?_
                    refine g_run 1 245 [some (.ref x0), some (.long x1), none, some (.int x3)] [.int q32.1] (fun _ => rfl) ?_
                    obtain ⟨z9, ez9, e⟩ := g_bd e
                    cases e
                    exact g_retZ rfl ez9 rfl
                  · refine g_run 2 242 [some (.ref x0), some (.long x1), none, some (.int x3)] [.int x3, .ref x0] (fun _ => rfl) ?_
                    obtain ⟨q33, eq33, e⟩ := g_bd e
                    refine g_cV 245 rfl rfl rfl rfl rfl (Md_l kx0) (Md_comerLine_s kx0 eq33) ?_
                    obtain ⟨z9, ez9, e⟩ := g_bd e
                    cases e
                    exact g_retZ rfl ez9 rfl
theorem Md_parkLine_s {X : Nat × (Nat → Int32)} {l : List (Nat × Nat)} {r : am_R} {h : am_F} {j : am_J} {a : Nat} {x1 : Int64} {x3 : Int32} (ka : Md_K l r a) {q : Int32 × am_F × am_J} (e : Md_parkLine a x1 x3 h j = some q) : Call X 181 [.ref a, .long x1, .int x3] (l, r, h, j) (some (.int q.1), (l, r, q.2.1, q.2.2)) := by
  unfold Md_parkLine at e
  refine ⟨Nat.le_of_ble_eq_true rfl, ?_⟩
  show Ev X 181 0 [some (.ref a), some (.long x1), none, some (.int x3)] [] (l, r, h, j) _
  refine g_run 3 5 [some (.ref a), some (.long x1), none, some (.int x3)] [.int (lg_cmp x1 (1918989413 : Int64))] (fun _ => rfl) ?_
  refine g_if (p1 := 85) (L1 := [some (.ref a), some (.long x1), none, some (.int x3)]) (S1 := []) (s1 := (l, r, h, j)) (p2 := 8) (L2 := [some (.ref a), some (.long x1), none, some (.int x3)]) (S2 := []) (s2 := (l, r, h, j)) rfl (fun _ _ => rfl) e (fun c1 e => ?_) (fun c1 e => ?_)
  · exact Md_parkLine_t85_s ka e
  · refine g_run 3 13 [some (.ref a), some (.long x1), none, some (.int x3)] [.int (lg_cmp x1 (440005915496 : Int64))] (fun _ => rfl) ?_
    refine g_if (p1 := 85) (L1 := [some (.ref a), some (.long x1), none, some (.int x3)]) (S1 := []) (s1 := (l, r, h, j)) (p2 := 16) (L2 := [some (.ref a), some (.long x1), none, some (.int x3)]) (S2 := []) (s2 := (l, r, h, j)) rfl (fun _ _ => rfl) e (fun c34 e => ?_) (fun c34 e => ?_)
    · exact Md_parkLine_t85_s ka e
    · refine g_run 3 21 [some (.ref a), some (.long x1), none, some (.int x3)] [.int (lg_cmp x1 (126943821523833 : Int64))] (fun _ => rfl) ?_
      refine g_if (p1 := 85) (L1 := [some (.ref a), some (.long x1), none, some (.int x3)]) (S1 := []) (s1 := (l, r, h, j)) (p2 := 24) (L2 := [some (.ref a), some (.long x1), none, some (.int x3)]) (S2 := []) (s2 := (l, r, h, j)) rfl (fun _ _ => rfl) e (fun c35 e => ?_) (fun c35 e => ?_)
      · exact Md_parkLine_t85_s ka e
      · refine g_run 3 29 [some (.ref a), some (.long x1), none, some (.int x3)] [.int (lg_cmp x1 (108187750065510 : Int64))] (fun _ => rfl) ?_
        refine g_if (p1 := 85) (L1 := [some (.ref a), some (.long x1), none, some (.int x3)]) (S1 := []) (s1 := (l, r, h, j)) (p2 := 32) (L2 := [some (.ref a), some (.long x1), none, some (.int x3)]) (S2 := []) (s2 := (l, r, h, j)) rfl (fun _ _ => rfl) e (fun c36 e => ?_) (fun c36 e => ?_)
        · exact Md_parkLine_t85_s ka e
        · refine g_run 3 37 [some (.ref a), some (.long x1), none, some (.int x3)] [.int (lg_cmp x1 (422608528232 : Int64))] (fun _ => rfl) ?_
          refine g_if (p1 := 85) (L1 := [some (.ref a), some (.long x1), none, some (.int x3)]) (S1 := []) (s1 := (l, r, h, j)) (p2 := 40) (L2 := [some (.ref a), some (.long x1), none, some (.int x3)]) (S2 := []) (s2 := (l, r, h, j)) rfl (fun _ _ => rfl) e (fun c37 e => ?_) (fun c37 e => ?_)
          · exact Md_parkLine_t85_s ka e
          · refine g_run 3 45 [some (.ref a), some (.long x1), none, some (.int x3)] [.int (lg_cmp x1 (31632302844175716 : Int64))] (fun _ => rfl) ?_
            refine g_if (p1 := 85) (L1 := [some (.ref a), some (.long x1), none, some (.int x3)]) (S1 := []) (s1 := (l, r, h, j)) (p2 := 48) (L2 := [some (.ref a), some (.long x1), none, some (.int x3)]) (S2 := []) (s2 := (l, r, h, j)) rfl (fun _ _ => rfl) e (fun c38 e => ?_) (fun c38 e => ?_)
            · exact Md_parkLine_t85_s ka e
            · refine g_run 3 53 [some (.ref a), some (.long x1), none, some (.int x3)] [.int (lg_cmp x1 (1667330660 : Int64))] (fun _ => rfl) ?_
              refine g_if (p1 := 85) (L1 := [some (.ref a), some (.long x1), none, some (.int x3)]) (S1 := []) (s1 := (l, r, h, j)) (p2 := 56) (L2 := [some (.ref a), some (.long x1), none, some (.int x3)]) (S2 := []) (s2 := (l, r, h, j)) rfl (fun _ _ => rfl) e (fun c39 e => ?_) (fun c39 e => ?_)
              · exact Md_parkLine_t85_s ka e
              · refine g_run 3 61 [some (.ref a), some (.long x1), none, some (.int x3)] [.int (lg_cmp x1 (469786780261 : Int64))] (fun _ => rfl) ?_
                refine g_if (p1 := 85) (L1 := [some (.ref a), some (.long x1), none, some (.int x3)]) (S1 := []) (s1 := (l, r, h, j)) (p2 := 64) (L2 := [some (.ref a), some (.long x1), none, some (.int x3)]) (S2 := []) (s2 := (l, r, h, j)) rfl (fun _ _ => rfl) e (fun c40 e => ?_) (fun c40 e => ?_)
                · exact Md_parkLine_t85_s ka e
                · refine g_run 3 69 [some (.ref a), some (.long x1), none, some (.int x3)] [.int (lg_cmp x1 (123598008577902 : Int64))] (fun _ => rfl) ?_
                  refine g_if (p1 := 85) (L1 := [some (.ref a), some (.long x1), none, some (.int x3)]) (S1 := []) (s1 := (l, r, h, j)) (p2 := 72) (L2 := [some (.ref a), some (.long x1), none, some (.int x3)]) (S2 := []) (s2 := (l, r, h, j)) rfl (fun _ _ => rfl) e (fun c41 e => ?_) (fun c41 e => ?_)
                  · exact Md_parkLine_t85_s ka e
                  · refine g_run 3 77 [some (.ref a), some (.long x1), none, some (.int x3)] [.int (lg_cmp x1 (427071202674 : Int64))] (fun _ => rfl) ?_
                    refine g_if (p1 := 85) (L1 := [some (.ref a), some (.long x1), none, some (.int x3)]) (S1 := []) (s1 := (l, r, h, j)) (p2 := 80) (L2 := [some (.ref a), some (.long x1), none, some (.int x3)]) (S2 := []) (s2 := (l, r, h, j)) rfl (fun _ _ => rfl) e (fun c42 e => ?_) (fun c42 e => ?_)
                    · exact Md_parkLine_t85_s ka e
                    · refine g_run 1 81 [some (.ref a), some (.long x1), none, some (.int x3)] [.ref a] (fun _ => rfl) ?_
                      obtain ⟨q43, eq43, e⟩ := g_bd e
                      refine g_cV 84 rfl rfl rfl rfl rfl (Md_l ka) (Md_fails_s ka eq43) ?_
                      obtain ⟨z9, ez9, e⟩ := g_bd e
                      cases e
                      exact g_retZ rfl ez9 rfl
def Md_sightLine (a : Nat) (x1 : Int64) (x3 : Int32) (h : am_F) (j : am_J) : Option (Int32 × am_F × am_J) :=
  if (lg_cmp x1 (1684366704 : Int64)) = 0 then
    (Md_full a (0 : Int32) (10 : Int32) x3 h).bind fun q2 =>
    (Md_token a q2 j).bind fun q3 =>
    (Md_take a (1 : Int32) (0 : Int32) (5 : Int32) q3.1 q3.2).bind fun q4 =>
    if q4.1 = 0 then
      some ((0 : Int32), q4.2.1, q4.2.2)
    else
      (Md_take a (2 : Int32) (0 : Int32) (47 : Int32) q4.2.1 q4.2.2).bind fun q6 =>
      if q6.1 = 0 then
        some ((0 : Int32), q6.2.1, q6.2.2)
      else
        (if (lg_cmp x1 (1684366704 : Int64)) = 0 then
            some (2 : Int32)
          else
            if (lg_cmp x1 (439720963700 : Int64)) = 0 then
              some (1 : Int32)
            else
              some (0 : Int32) : Option (Int32)).bind fun q11 =>
        (Md_keep a (0 : Int32) (1 : Int32) (3 : Int32) (3 : Int32) (10 : Int32) (am_up q6.2.1 (a + 11) 0 q11)).bind fun q12 =>
        some ((1 : Int32), q12, q6.2.2)
  else
    if (lg_cmp x1 (439720963700 : Int64)) = 0 then
      (Md_full a (0 : Int32) (10 : Int32) x3 h).bind fun q14 =>
      (Md_token a q14 j).bind fun q15 =>
      (Md_take a (1 : Int32) (0 : Int32) (5 : Int32) q15.1 q15.2).bind fun q16 =>
      if q16.1 = 0 then
        some ((0 : Int32), q16.2.1, q16.2.2)
      else
        (Md_take a (2 : Int32) (0 : Int32) (47 : Int32) q16.2.1 q16.2.2).bind fun q18 =>
        if q18.1 = 0 then
          some ((0 : Int32), q18.2.1, q18.2.2)
        else
          (if (lg_cmp x1 (1684366704 : Int64)) = 0 then
              some (2 : Int32)
            else
              if (lg_cmp x1 (439720963700 : Int64)) = 0 then
                some (1 : Int32)
              else
                some (0 : Int32) : Option (Int32)).bind fun q23 =>
          (Md_keep a (0 : Int32) (1 : Int32) (3 : Int32) (3 : Int32) (10 : Int32) (am_up q18.2.1 (a + 11) 0 q23)).bind fun q24 =>
          some ((1 : Int32), q24, q18.2.2)
    else
      if (lg_cmp x1 (1685418868 : Int64)) = 0 then
        (Md_full a (0 : Int32) (10 : Int32) x3 h).bind fun q26 =>
        (Md_token a q26 j).bind fun q27 =>
        (Md_take a (1 : Int32) (0 : Int32) (5 : Int32) q27.1 q27.2).bind fun q28 =>
        if q28.1 = 0 then
          some ((0 : Int32), q28.2.1, q28.2.2)
        else
          (Md_take a (2 : Int32) (0 : Int32) (47 : Int32) q28.2.1 q28.2.2).bind fun q30 =>
          if q30.1 = 0 then
            some ((0 : Int32), q30.2.1, q30.2.2)
          else
            (if (lg_cmp x1 (1684366704 : Int64)) = 0 then
                some (2 : Int32)
              else
                if (lg_cmp x1 (439720963700 : Int64)) = 0 then
                  some (1 : Int32)
                else
                  some (0 : Int32) : Option (Int32)).bind fun q35 =>
            (Md_keep a (0 : Int32) (1 : Int32) (3 : Int32) (3 : Int32) (10 : Int32) (am_up q30.2.1 (a + 11) 0 q35)).bind fun q36 =>
            some ((1 : Int32), q36, q30.2.2)
      else
        (Md_fails a h).bind fun q37 =>
        (g_bz q37.1).bind fun z9 =>
        some (z9, q37.2, j)
theorem Md_sightLine_s {X : Nat × (Nat → Int32)} {l : List (Nat × Nat)} {r : am_R} {h : am_F} {j : am_J} {a : Nat} {x1 : Int64} {x3 : Int32} (ka : Md_K l r a) {q : Int32 × am_F × am_J} (e : Md_sightLine a x1 x3 h j = some q) : Call X 182 [.ref a, .long x1, .int x3] (l, r, h, j) (some (.int q.1), (l, r, q.2.1, q.2.2)) := by
  unfold Md_sightLine at e
  refine ⟨Nat.le_of_ble_eq_true rfl, ?_⟩
  show Ev X 182 0 [some (.ref a), some (.long x1), none, some (.int x3)] [] (l, r, h, j) _
  refine g_run 3 5 [some (.ref a), some (.long x1), none, some (.int x3)] [.int (lg_cmp x1 (1684366704 : Int64))] (fun _ => rfl) ?_
  refine g_if (p1 := 29) (L1 := [some (.ref a), some (.long x1), none, some (.int x3)]) (S1 := []) (s1 := (l, r, h, j)) (p2 := 8) (L2 := [some (.ref a), some (.long x1), none, some (.int x3)]) (S2 := []) (s2 := (l, r, h, j)) rfl (fun _ _ => rfl) e (fun c1 e => ?_) (fun c1 e => ?_)
  · refine g_run 4 34 [some (.ref a), some (.long x1), none, some (.int x3)] [.int x3, .int (10 : Int32), .int (0 : Int32), .ref a] (fun _ => rfl) ?_
    obtain ⟨q2, eq2, e⟩ := g_bd e
    refine g_cVv 37 rfl rfl rfl rfl rfl (Md_l ka) (Md_full_s ka eq2) ?_
    refine g_run 1 38 [some (.ref a), some (.long x1), none, some (.int x3)] [.ref a] (fun _ => rfl) ?_
    obtain ⟨q3, eq3, e⟩ := g_bd e
    refine g_cVv 41 rfl rfl rfl rfl rfl (Md_l ka) (Md_token_s ka eq3) ?_
    refine g_run 4 45 [some (.ref a), some (.long x1), none, some (.int x3)] [.int (5 : Int32), .int (0 : Int32), .int (1 : Int32), .ref a] (fun _ => rfl) ?_
    obtain ⟨q4, eq4, e⟩ := g_bd e
    refine g_cV 48 rfl rfl rfl rfl rfl (Md_l ka) (Md_take_s ka eq4) ?_
    refine g_if (p1 := 62) (L1 := [some (.ref a), some (.long x1), none, some (.int x3)]) (S1 := []) (s1 := (l, r, q4.2.1, q4.2.2)) (p2 := 51) (L2 := [some (.ref a), some (.long x1), none, some (.int x3)]) (S2 := []) (s2 := (l, r, q4.2.1, q4.2.2)) rfl (fun _ _ => rfl) e (fun c5 e => ?_) (fun c5 e => ?_)
    · refine g_run 1 63 [some (.ref a), some (.long x1), none, some (.int x3)] [.int (0 : Int32)] (fun _ => rfl) ?_
      cases e
      exact g_retZ rfl (y := (0 : Int32)) rfl rfl
    · refine g_run 4 56 [some (.ref a), some (.long x1), none, some (.int x3)] [.int (47 : Int32), .int (0 : Int32), .int (2 : Int32), .ref a] (fun _ => rfl) ?_
      obtain ⟨q6, eq6, e⟩ := g_bd e
      refine g_cV 59 rfl rfl rfl rfl rfl (Md_l ka) (Md_take_s ka eq6) ?_
      refine g_if (p1 := 62) (L1 := [some (.ref a), some (.long x1), none, some (.int x3)]) (S1 := []) (s1 := (l, r, q6.2.1, q6.2.2)) (p2 := 64) (L2 := [some (.ref a), some (.long x1), none, some (.int x3)]) (S2 := []) (s2 := (l, r, q6.2.1, q6.2.2)) rfl (fun _ _ => rfl) e (fun c7 e => ?_) (fun c7 e => ?_)
      · refine g_run 1 63 [some (.ref a), some (.long x1), none, some (.int x3)] [.int (0 : Int32)] (fun _ => rfl) ?_
        cases e
        exact g_retZ rfl (y := (0 : Int32)) rfl rfl
      · refine g_run 1 65 [some (.ref a), some (.long x1), none, some (.int x3)] [.ref a] (fun _ => rfl) ?_
        refine g_getA 68 rfl rfl (Md_l ka) (Md_r20 ka) ?_
        refine g_run 4 74 [some (.ref a), some (.long x1), none, some (.int x3)] [.int (lg_cmp x1 (1684366704 : Int64)), .int (0 : Int32), .ref (a + 11)] (fun _ => rfl) ?_
        obtain ⟨q11, eq11, e⟩ := g_bd e
        have hjq11 : ∀ (_ : True), Ev X 182 94 [some (.ref a), some (.long x1), none, some (.int x3)] [.int q11, .int (0 : Int32), .ref (a + 11)] (l, r, q6.2.1, q6.2.2) (some (.int q.1), (l, r, q.2.1, q.2.2)) := by
          intro _
          refine g_iast 95 rfl rfl (Md_k20 ka) (kx := 0) rfl ?_
          refine g_run 6 102 [some (.ref a), some (.long x1), none, some (.int x3)] [.int (10 : Int32), .int (3 : Int32), .int (3 : Int32), .int (1 : Int32), .int (0 : Int32), .ref a] (fun _ => rfl) ?_
          obtain ⟨q12, eq12, e⟩ := g_bd e
          refine g_cVv 105 rfl rfl rfl rfl rfl (Md_l ka) (Md_keep_s ka eq12) ?_
          refine g_run 1 106 [some (.ref a), some (.long x1), none, some (.int x3)] [.int (1 : Int32)] (fun _ => rfl) ?_
          cases e
          exact g_retZ rfl (y := (1 : Int32)) rfl rfl
        replace e := eq11
        refine g_if (p1 := 77) (L1 := [some (.ref a), some (.long x1), none, some (.int x3)]) (S1 := [.int (0 : Int32), .ref (a + 11)]) (s1 := (l, r, q6.2.1, q6.2.2)) (p2 := 81) (L2 := [some (.ref a), some (.long x1), none, some (.int x3)]) (S2 := [.int (0 : Int32), .ref (a + 11)]) (s2 := (l, r, q6.2.1, q6.2.2)) rfl (fun _ _ => rfl) e (fun c8 e => ?_) (fun c8 e => ?_)
        · refine g_run 2 94 [some (.ref a), some (.long x1), none, some (.int x3)] [.int (2 : Int32), .int (0 : Int32), .ref (a + 11)] (fun _ => rfl) ?_
          cases e
          exact hjq11 trivial
        · refine g_run 3 86 [some (.ref a), some (.long x1), none, some (.int x3)] [.int (lg_cmp x1 (439720963700 : Int64)), .int (0 : Int32), .ref (a + 11)] (fun _ => rfl) ?_
          refine g_if (p1 := 89) (L1 := [some (.ref a), some (.long x1), none, some (.int x3)]) (S1 := [.int (0 : Int32), .ref (a + 11)]) (s1 := (l, r, q6.2.1, q6.2.2)) (p2 := 93) (L2 := [some (.ref a), some (.long x1), none, some (.int x3)]) (S2 := [.int (0 : Int32), .ref (a + 11)]) (s2 := (l, r, q6.2.1, q6.2.2)) rfl (fun _ _ => rfl) e (fun c10 e => ?_) (fun c10 e => ?_)
          · refine g_run 2 94 [some (.ref a), some (.long x1), none, some (.int x3)] [.int (1 : Int32), .int (0 : Int32), .ref (a + 11)] (fun _ => rfl) ?_
            cases e
            exact hjq11 trivial
          · refine g_run 1 94 [some (.ref a), some (.long x1), none, some (.int x3)] [.int (0 : Int32), .int (0 : Int32), .ref (a + 11)] (fun _ => rfl) ?_
            cases e
            exact hjq11 trivial
  · refine g_run 3 13 [some (.ref a), some (.long x1), none, some (.int x3)] [.int (lg_cmp x1 (439720963700 : Int64))] (fun _ => rfl) ?_
    refine g_if (p1 := 29) (L1 := [some (.ref a), some (.long x1), none, some (.int x3)]) (S1 := []) (s1 := (l, r, h, j)) (p2 := 16) (L2 := [some (.ref a), some (.long x1), none, some (.int x3)]) (S2 := []) (s2 := (l, r, h, j)) rfl (fun _ _ => rfl) e (fun c13 e => ?_) (fun c13 e => ?_)
    · refine g_run 4 34 [some (.ref a), some (.long x1), none, some (.int x3)] [.int x3, .int (10 : Int32), .int (0 : Int32), .ref a] (fun _ => rfl) ?_
      obtain ⟨q14, eq14, e⟩ := g_bd e
      refine g_cVv 37 rfl rfl rfl rfl rfl (Md_l ka) (Md_full_s ka eq14) ?_
      refine g_run 1 38 [some (.ref a), some (.long x1), none, some (.int x3)] [.ref a] (fun _ => rfl) ?_
      obtain ⟨q15, eq15, e⟩ := g_bd e
      refine g_cVv 41 rfl rfl rfl rfl rfl (Md_l ka) (Md_token_s ka eq15) ?_
      refine g_run 4 45 [some (.ref a), some (.long x1), none, some (.int x3)] [.int (5 : Int32), .int (0 : Int32), .int (1 : Int32), .ref a] (fun _ => rfl) ?_
      obtain ⟨q16, eq16, e⟩ := g_bd e
      refine g_cV 48 rfl rfl rfl rfl rfl (Md_l ka) (Md_take_s ka eq16) ?_
      refine g_if (p1 := 62) (L1 := [some (.ref a), some (.long x1), none, some (.int x3)]) (S1 := []) (s1 := (l, r, q16.2.1, q16.2.2)) (p2 := 51) (L2 := [some (.ref a), some (.long x1), none, some (.int x3)]) (S2 := []) (s2 := (l, r, q16.2.1, q16.2.2)) rfl (fun _ _ => rfl) e (fun c17 e => ?_) (fun c17 e => ?_)
      · refine g_run 1 63 [some (.ref a), some (.long x1), none, some (.int x3)] [.int (0 : Int32)] (fun _ => rfl) ?_
        cases e
        exact g_retZ rfl (y := (0 : Int32)) rfl rfl
      · refine g_run 4 56 [some (.ref a), some (.long x1), none, some (.int x3)] [.int (47 : Int32), .int (0 : Int32), .int (2 : Int32), .ref a] (fun _ => rfl) ?_
        obtain ⟨q18, eq18, e⟩ := g_bd e
        refine g_cV 59 rfl rfl rfl rfl rfl (Md_l ka) (Md_take_s ka eq18) ?_
        refine g_if (p1 := 62) (L1 := [some (.ref a), some (.long x1), none, some (.int x3)]) (S1 := []) (s1 := (l, r, q18.2.1, q18.2.2)) (p2 := 64) (L2 := [some (.ref a), some (.long x1), none, some (.int x3)]) (S2 := []) (s2 := (l, r, q18.2.1, q18.2.2)) rfl (fun _ _ => rfl) e (fun c19 e => ?_) (fun c19 e => ?_)
        · refine g_run 1 63 [some (.ref a), some (.long x1), none, some (.int x3)] [.int (0 : Int32)] (fun _ => rfl) ?_
          cases e
          exact g_retZ rfl (y := (0 : Int32)) rfl rfl
        · refine g_run 1 65 [some (.ref a), some (.long x1), none, some (.int x3)] [.ref a] (fun _ => rfl) ?_
          refine g_getA 68 rfl rfl (Md_l ka) (Md_r20 ka) ?_
          refine g_run 4 74 [some (.ref a), some (.long x1), none, some (.int x3)] [.int (lg_cmp x1 (1684366704 : Int64)), .int (0 : Int32), .ref (a + 11)] (fun _ => rfl) ?_
          obtain ⟨q23, eq23, e⟩ := g_bd e
          have hjq23 : ∀ (_ : True), Ev X 182 94 [some (.ref a), some (.long x1), none, some (.int x3)] [.int q23, .int (0 : Int32), .ref (a + 11)] (l, r, q18.2.1, q18.2.2) (some (.int q.1), (l, r, q.2.1, q.2.2)) := by
            intro _
            refine g_iast 95 rfl rfl (Md_k20 ka) (kx := 0) rfl ?_
            refine g_run 6 102 [some (.ref a), some (.long x1), none, some (.int x3)] [.int (10 : Int32), .int (3 : Int32), .int (3 : Int32), .int (1 : Int32), .int (0 : Int32), .ref a] (fun _ => rfl) ?_
            obtain ⟨q24, eq24, e⟩ := g_bd e
            refine g_cVv 105 rfl rfl rfl rfl rfl (Md_l ka) (Md_keep_s ka eq24) ?_
            refine g_run 1 106 [some (.ref a), some (.long x1), none, some (.int x3)] [.int (1 : Int32)] (fun _ => rfl) ?_
            cases e
            exact g_retZ rfl (y := (1 : Int32)) rfl rfl
          replace e := eq23
          refine g_if (p1 := 77) (L1 := [some (.ref a), some (.long x1), none, some (.int x3)]) (S1 := [.int (0 : Int32), .ref (a + 11)]) (s1 := (l, r, q18.2.1, q18.2.2)) (p2 := 81) (L2 := [some (.ref a), some (.long x1), none, some (.int x3)]) (S2 := [.int (0 : Int32), .ref (a + 11)]) (s2 := (l, r, q18.2.1, q18.2.2)) rfl (fun _ _ => rfl) e (fun c20 e => ?_) (fun c20 e => ?_)
          · refine g_run 2 94 [some (.ref a), some (.long x1), none, some (.int x3)] [.int (2 : Int32), .int (0 : Int32), .ref (a + 11)] (fun _ => rfl) ?_
            cases e
            exact hjq23 trivial
          · refine g_run 3 86 [some (.ref a), some (.long x1), none, some (.int x3)] [.int (lg_cmp x1 (439720963700 : Int64)), .int (0 : Int32), .ref (a + 11)] (fun _ => rfl) ?_
            refine g_if (p1 := 89) (L1 := [some (.ref a), some (.long x1), none, some (.int x3)]) (S1 := [.int (0 : Int32), .ref (a + 11)]) (s1 := (l, r, q18.2.1, q18.2.2)) (p2 := 93) (L2 := [some (.ref a), some (.long x1), none, some (.int x3)]) (S2 := [.int (0 : Int32), .ref (a + 11)]) (s2 := (l, r, q18.2.1, q18.2.2)) rfl (fun _ _ => rfl) e (fun c22 e => ?_) (fun c22 e => ?_)
            · refine g_run 2 94 [some (.ref a), some (.long x1), none, some (.int x3)] [.int (1 : Int32), .int (0 : Int32), .ref (a + 11)] (fun _ => rfl) ?_
              cases e
              exact hjq23 trivial
            · refine g_run 1 94 [some (.ref a), some (.long x1), none, some (.int x3)] [.int (0 : Int32), .int (0 : Int32), .ref (a + 11)] (fun _ => rfl) ?_
              cases e
              exact hjq23 trivial
    · refine g_run 3 21 [some (.ref a), some (.long x1), none, some (.int x3)] [.int (lg_cmp x1 (1685418868 : Int64))] (fun _ => rfl) ?_
      refine g_if (p1 := 29) (L1 := [some (.ref a), some (.long x1), none, some (.int x3)]) (S1 := []) (s1 := (l, r, h, j)) (p2 := 24) (L2 := [some (.ref a), some (.long x1), none, some (.int x3)]) (S2 := []) (s2 := (l, r, h, j)) rfl (fun _ _ => rfl) e (fun c25 e => ?_) (fun c25 e => ?_)
      · refine g_run 4 34 [some (.ref a), some (.long x1), none, some (.int x3)] [.int x3, .int (10 : Int32), .int (0 : Int32), .ref a] (fun _ => rfl) ?_
        obtain ⟨q26, eq26, e⟩ := g_bd e
        refine g_cVv 37 rfl rfl rfl rfl rfl (Md_l ka) (Md_full_s ka eq26) ?_
        refine g_run 1 38 [some (.ref a), some (.long x1), none, some (.int x3)] [.ref a] (fun _ => rfl) ?_
        obtain ⟨q27, eq27, e⟩ := g_bd e
        refine g_cVv 41 rfl rfl rfl rfl rfl (Md_l ka) (Md_token_s ka eq27) ?_
        refine g_run 4 45 [some (.ref a), some (.long x1), none, some (.int x3)] [.int (5 : Int32), .int (0 : Int32), .int (1 : Int32), .ref a] (fun _ => rfl) ?_
        obtain ⟨q28, eq28, e⟩ := g_bd e
        refine g_cV 48 rfl rfl rfl rfl rfl (Md_l ka) (Md_take_s ka eq28) ?_
        refine g_if (p1 := 62) (L1 := [some (.ref a), some (.long x1), none, some (.int x3)]) (S1 := []) (s1 := (l, r, q28.2.1, q28.2.2)) (p2 := 51) (L2 := [some (.ref a), some (.long x1), none, some (.int x3)]) (S2 := []) (s2 := (l, r, q28.2.1, q28.2.2)) rfl (fun _ _ => rfl) e (fun c29 e => ?_) (fun c29 e => ?_)
        · refine g_run 1 63 [some (.ref a), some (.long x1), none, some (.int x3)] [.int (0 : Int32)] (fun _ => rfl) ?_
          cases e
          exact g_retZ rfl (y := (0 : Int32)) rfl rfl
        · refine g_run 4 56 [some (.ref a), some (.long x1), none, some (.int x3)] [.int (47 : Int32), .int (0 : Int32), .int (2 : Int32), .ref a] (fun _ => rfl) ?_
          obtain ⟨q30, eq30, e⟩ := g_bd e
          refine g_cV 59 rfl rfl rfl rfl rfl (Md_l ka) (Md_take_s ka eq30) ?_
          refine g_if (p1 := 62) (L1 := [some (.ref a), some (.long x1), none, some (.int x3)]) (S1 := []) (s1 := (l, r, q30.2.1, q30.2.2)) (p2 := 64) (L2 := [some (.ref a), some (.long x1), none, some (.int x3)]) (S2 := []) (s2 := (l, r, q30.2.1, q30.2.2)) rfl (fun _ _ => rfl) e (fun c31 e => ?_) (fun c31 e => ?_)
          · refine g_run 1 63 [some (.ref a), some (.long x1), none, some (.int x3)] [.int (0 : Int32)] (fun _ => rfl) ?_
            cases e
            exact g_retZ rfl (y := (0 : Int32)) rfl rfl
          · refine g_run 1 65 [some (.ref a), some (.long x1), none, some (.int x3)] [.ref a] (fun _ => rfl) ?_
            refine g_getA 68 rfl rfl (Md_l ka) (Md_r20 ka) ?_
            refine g_run 4 74 [some (.ref a), some (.long x1), none, some (.int x3)] [.int (lg_cmp x1 (1684366704 : Int64)), .int (0 : Int32), .ref (a + 11)] (fun _ => rfl) ?_
            obtain ⟨q35, eq35, e⟩ := g_bd e
            have hjq35 : ∀ (_ : True), Ev X 182 94 [some (.ref a), some (.long x1), none, some (.int x3)] [.int q35, .int (0 : Int32), .ref (a + 11)] (l, r, q30.2.1, q30.2.2) (some (.int q.1), (l, r, q.2.1, q.2.2)) := by
              intro _
              refine g_iast 95 rfl rfl (Md_k20 ka) (kx := 0) rfl ?_
              refine g_run 6 102 [some (.ref a), some (.long x1), none, some (.int x3)] [.int (10 : Int32), .int (3 : Int32), .int (3 : Int32), .int (1 : Int32), .int (0 : Int32), .ref a] (fun _ => rfl) ?_
              obtain ⟨q36, eq36, e⟩ := g_bd e
              refine g_cVv 105 rfl rfl rfl rfl rfl (Md_l ka) (Md_keep_s ka eq36) ?_
              refine g_run 1 106 [some (.ref a), some (.long x1), none, some (.int x3)] [.int (1 : Int32)] (fun _ => rfl) ?_
              cases e
              exact g_retZ rfl (y := (1 : Int32)) rfl rfl
            replace e := eq35
            refine g_if (p1 := 77) (L1 := [some (.ref a), some (.long x1), none, some (.int x3)]) (S1 := [.int (0 : Int32), .ref (a + 11)]) (s1 := (l, r, q30.2.1, q30.2.2)) (p2 := 81) (L2 := [some (.ref a), some (.long x1), none, some (.int x3)]) (S2 := [.int (0 : Int32), .ref (a + 11)]) (s2 := (l, r, q30.2.1, q30.2.2)) rfl (fun _ _ => rfl) e (fun c32 e => ?_) (fun c32 e => ?_)
            · refine g_run 2 94 [some (.ref a), some (.long x1), none, some (.int x3)] [.int (2 : Int32), .int (0 : Int32), .ref (a + 11)] (fun _ => rfl) ?_
              cases e
              exact hjq35 trivial
            · refine g_run 3 86 [some (.ref a), some (.long x1), none, some (.int x3)] [.int (lg_cmp x1 (439720963700 : Int64)), .int (0 : Int32), .ref (a + 11)] (fun _ => rfl) ?_
              refine g_if (p1 := 89) (L1 := [some (.ref a), some (.long x1), none, some (.int x3)]) (S1 := [.int (0 : Int32), .ref (a + 11)]) (s1 := (l, r, q30.2.1, q30.2.2)) (p2 := 93) (L2 := [some (.ref a), some (.long x1), none, some (.int x3)]) (S2 := [.int (0 : Int32), .ref (a + 11)]) (s2 := (l, r, q30.2.1, q30.2.2)) rfl (fun _ _ => rfl) e (fun c34 e => ?_) (fun c34 e => ?_)
              · refine g_run 2 94 [some (.ref a), some (.long x1), none, some (.int x3)] [.int (1 : Int32), .int (0 : Int32), .ref (a + 11)] (fun _ => rfl) ?_
                cases e
                exact hjq35 trivial
              · refine g_run 1 94 [some (.ref a), some (.long x1), none, some (.int x3)] [.int (0 : Int32), .int (0 : Int32), .ref (a + 11)] (fun _ => rfl) ?_
                cases e
                exact hjq35 trivial
      · refine g_run 1 25 [some (.ref a), some (.long x1), none, some (.int x3)] [.ref a] (fun _ => rfl) ?_
        obtain ⟨q37, eq37, e⟩ := g_bd e
        refine g_cV 28 rfl rfl rfl rfl rfl (Md_l ka) (Md_fails_s ka eq37) ?_
        obtain ⟨z9, ez9, e⟩ := g_bd e
        cases e
        exact g_retZ rfl ez9 rfl
