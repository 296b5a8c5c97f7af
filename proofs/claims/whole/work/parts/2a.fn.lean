/-! methods as functions, and their runs -/
def Dy_forget (a : Nat) (h : am_F) : Option (am_F) :=
  some (am_up (am_up h a 1 (0 : Int32)) a 2 (0 : Int32))
theorem Dy_forget_s {X : Nat × (Nat → Int32)} {l : List (Nat × Nat)} {r : am_R} {h : am_F} {j : am_J} {a : Nat} (ka : Dy_K l r a) {q : am_F} (e : Dy_forget a h = some q) : Call X 1 [.ref a] (l, r, h, j) (none, (l, r, q, j)) := by
  unfold Dy_forget at e
  refine ⟨Nat.le_of_ble_eq_true rfl, ?_⟩
  show Ev X 1 0 [some (.ref a)] [] (l, r, h, j) _
  refine g_run 2 2 [some (.ref a)] [.int (0 : Int32), .ref a] (fun _ => rfl) ?_
  refine g_putI 5 rfl rfl (Dy_l ka) ?_
  refine g_run 2 7 [some (.ref a)] [.int (0 : Int32), .ref a] (fun _ => rfl) ?_
  refine g_putI 10 rfl rfl (Dy_l ka) ?_
  cases e
  exact g_ret rfl (fun _ _ => rfl)
def Ar_fill_l5 (l : List (Nat × Nat)) (r : am_R) (x0 : Nat) (x1 : Int32) (x3 : Int32) : Nat → Int32 → am_F → Option (am_F)
  | 0, _, _ => none
  | n + 1, x2, h =>
    if x3 ≤ x2 then
      some h
    else
      (g_ix x2 (g_ln l x0)).bind fun k2 =>
      Ar_fill_l5 l r x0 x1 x3 n (x2 + (1 : Int32)) (am_up h x0 k2 x1)
def Ar_fill (l : List (Nat × Nat)) (r : am_R) (x0 : Nat) (x1 : Int32) (h : am_F) : Option (am_F) :=
  (Ar_fill_l5 l r x0 x1 (Int32.ofNat (g_ln l x0)) g_fu (0 : Int32) h).bind fun q3 =>
  some q3
theorem Ar_fill_l5_s {X : Nat × (Nat → Int32)} {l : List (Nat × Nat)} {r : am_R} {x0 : Nat} {x1 : Int32} {x3 : Int32} {j : am_J} {q : am_F} {R : Option Value × am_S} (kx0 : l[x0]? = some (10, (g_ln l x0))) (hx : ∀ (y2 : Int32) , Ev X 271 20 [some (.ref x0), some (.int x1), some (.int y2), some (.int x3)] [] (l, r, q, j) R) : ∀ (n : Nat) (x2 : Int32) (h : am_F), Ar_fill_l5 l r x0 x1 x3 n x2 h = some q → Ev X 271 5 [some (.ref x0), some (.int x1), some (.int x2), some (.int x3)] [] (l, r, h, j) R := by
  intro n
  induction n with
  | zero => intro x2 h e; cases e
  | succ n ih =>
    intro x2 h e
    unfold Ar_fill_l5 at e
    refine g_run 2 7 [some (.ref x0), some (.int x1), some (.int x2), some (.int x3)] [.int x3, .int x2] (fun _ => rfl) ?_
    refine g_if (p1 := 20) (L1 := [some (.ref x0), some (.int x1), some (.int x2), some (.int x3)]) (S1 := []) (s1 := (l, r, h, j)) (p2 := 10) (L2 := [some (.ref x0), some (.int x1), some (.int x2), some (.int x3)]) (S2 := []) (s2 := (l, r, h, j)) rfl (fun _ _ => rfl) e (fun c1 e => ?_) (fun c1 e => ?_)
    · cases e
      exact hx _
    · refine g_run 3 13 [some (.ref x0), some (.int x1), some (.int x2), some (.int x3)] [.int x1, .int x2, .ref x0] (fun _ => rfl) ?_
      obtain ⟨k2, ek2, e⟩ := g_bd e
      refine g_iast 14 rfl rfl kx0 ek2 ?_
      refine g_run 2 5 [some (.ref x0), some (.int x1), some (.int (x2 + (1 : Int32))), some (.int x3)] [] (fun _ => rfl) ?_
      exact ih _ _ e
theorem Ar_fill_s {X : Nat × (Nat → Int32)} {l : List (Nat × Nat)} {r : am_R} {h : am_F} {j : am_J} {x0 : Nat} {x1 : Int32} (kx0 : l[x0]? = some (10, g_ln l x0)) {q : am_F} (e : Ar_fill l r x0 x1 h = some q) : Call X 271 [.ref x0, .int x1] (l, r, h, j) (none, (l, r, q, j)) := by
  unfold Ar_fill at e
  refine ⟨Nat.le_of_ble_eq_true rfl, ?_⟩
  show Ev X 271 0 [some (.ref x0), some (.int x1), none, none] [] (l, r, h, j) _
  refine g_run 3 3 [some (.ref x0), some (.int x1), some (.int (0 : Int32)), none] [.ref x0] (fun _ => rfl) ?_
  refine g_alen 4 rfl rfl kx0 rfl ?_
  refine g_run 1 5 [some (.ref x0), some (.int x1), some (.int (0 : Int32)), some (.int (Int32.ofNat (g_ln l x0)))] [] (fun _ => rfl) ?_
  obtain ⟨q3, eq3, e⟩ := g_bd e
  refine Ar_fill_l5_s kx0 (fun y4 => ?_) _ _ _ eq3
  cases e
  exact g_ret rfl (fun _ _ => rfl)
def Rw_isFull (a : Nat) (h : am_F) : Int32 :=
  if (h a 3) < (h a 1) then
    (0 : Int32)
  else
    (1 : Int32)
theorem Rw_isFull_s {X : Nat × (Nat → Int32)} {l : List (Nat × Nat)} {r : am_R} {h : am_F} {j : am_J} {a : Nat} (ka : Rw_K l r a) : Call X 79 [.ref a] (l, r, h, j) (some (.int (Rw_isFull a h)), (l, r, h, j)) := by
  generalize e : Rw_isFull a h = q
  unfold Rw_isFull at e
  refine ⟨Nat.le_of_ble_eq_true rfl, ?_⟩
  show Ev X 79 0 [some (.ref a)] [] (l, r, h, j) _
  refine g_run 1 1 [some (.ref a)] [.ref a] (fun _ => rfl) ?_
  refine g_getI 4 rfl rfl (Rw_l ka) ?_
  refine g_run 1 5 [some (.ref a)] [.ref a, .int (h a 3)] (fun _ => rfl) ?_
  refine g_getI 8 rfl rfl (Rw_l ka) ?_
  refine g_if (p1 := 15) (L1 := [some (.ref a)]) (S1 := []) (s1 := (l, r, h, j)) (p2 := 11) (L2 := [some (.ref a)]) (S2 := []) (s2 := (l, r, h, j)) rfl (fun _ _ => rfl) e (fun c1 e => ?_) (fun c1 e => ?_)
  · refine g_run 1 16 [some (.ref a)] [.int (0 : Int32)] (fun _ => rfl) ?_
    cases e
    exact g_retZ rfl (y := (0 : Int32)) rfl rfl
  · refine g_run 2 16 [some (.ref a)] [.int (1 : Int32)] (fun _ => rfl) ?_
    cases e
    exact g_retZ rfl (y := (1 : Int32)) rfl rfl
def Rw_open_l26 (l : List (Nat × Nat)) (r : am_R) (x0 : Nat) (x1 : Int32) : Nat → Int32 → am_F → Option (am_F)
  | 0, _, _ => none
  | n + 1, x2, h =>
    if (h x0 0) ≤ x2 then
      some h
    else
      (g_ix ((x1 * (h x0 0)) + x2) (g_ln l (x0 + 1))).bind fun k3 =>
      Rw_open_l26 l r x0 x1 n (x2 + (1 : Int32)) (am_up h (x0 + 1) k3 (0 : Int32))
def Rw_open (l : List (Nat × Nat)) (r : am_R) (a : Nat) (h : am_F) : Option (Int32 × am_F) :=
  if (Rw_isFull a h) = 0 then
    (Rw_open_l26 l r a (h a 3) g_fu (0 : Int32) (am_up h a 3 ((h a 3) + (1 : Int32)))).bind fun q4 =>
    some ((h a 3), q4)
  else
    some ((-1 : Int32), h)
theorem Rw_open_l26_s {X : Nat × (Nat → Int32)} {l : List (Nat × Nat)} {r : am_R} {x0 : Nat} {x1 : Int32} {j : am_J} {q : am_F} {R : Option Value × am_S} (kx0 : Rw_K l r x0) (hx : ∀ (y2 : Int32) , Ev X 82 54 [some (.ref x0), some (.int x1), some (.int y2)] [] (l, r, q, j) R) : ∀ (n : Nat) (x2 : Int32) (h : am_F), Rw_open_l26 l r x0 x1 n x2 h = some q → Ev X 82 26 [some (.ref x0), some (.int x1), some (.int x2)] [] (l, r, h, j) R := by
  intro n
  induction n with
  | zero => intro x2 h e; cases e
  | succ n ih =>
    intro x2 h e
    unfold Rw_open_l26 at e
    refine g_run 2 28 [some (.ref x0), some (.int x1), some (.int x2)] [.ref x0, .int x2] (fun _ => rfl) ?_
    refine g_getI 31 rfl rfl (Rw_l kx0) ?_
    refine g_if (p1 := 54) (L1 := [some (.ref x0), some (.int x1), some (.int x2)]) (S1 := []) (s1 := (l, r, h, j)) (p2 := 34) (L2 := [some (.ref x0), some (.int x1), some (.int x2)]) (S2 := []) (s2 := (l, r, h, j)) rfl (fun _ _ => rfl) e (fun c2 e => ?_) (fun c2 e => ?_)
    · cases e
      exact hx _
    · refine g_run 1 35 [some (.ref x0), some (.int x1), some (.int x2)] [.ref x0] (fun _ => rfl) ?_
      refine g_getA 38 rfl rfl (Rw_l kx0) (Rw_r2 kx0) ?_
      refine g_run 2 40 [some (.ref x0), some (.int x1), some (.int x2)] [.ref x0, .int x1, .ref (x0 + 1)] (fun _ => rfl) ?_
      refine g_getI 43 rfl rfl (Rw_l kx0) ?_
      refine g_run 4 47 [some (.ref x0), some (.int x1), some (.int x2)] [.int (0 : Int32), .int ((x1 * (h x0 0)) + x2), .ref (x0 + 1)] (fun _ => rfl) ?_
      obtain ⟨k3, ek3, e⟩ := g_bd e
      refine g_iast 48 rfl rfl (Rw_k2 kx0) ek3 ?_
      refine g_run 2 26 [some (.ref x0), some (.int x1), some (.int (x2 + (1 : Int32)))] [] (fun _ => rfl) ?_
      exact ih _ _ e
theorem Rw_open_s {X : Nat × (Nat → Int32)} {l : List (Nat × Nat)} {r : am_R} {h : am_F} {j : am_J} {a : Nat} (ka : Rw_K l r a) {q : Int32 × am_F} (e : Rw_open l r a h = some q) : Call X 82 [.ref a] (l, r, h, j) (some (.int q.1), (l, r, q.2, j)) := by
  unfold Rw_open at e
  refine ⟨Nat.le_of_ble_eq_true rfl, ?_⟩
  show Ev X 82 0 [some (.ref a), none, none] [] (l, r, h, j) _
  refine g_run 1 1 [some (.ref a), none, none] [.ref a] (fun _ => rfl) ?_
  refine g_cV 4 rfl rfl rfl rfl rfl (Rw_l ka) (Rw_isFull_s ka) ?_
  refine g_if (p1 := 9) (L1 := [some (.ref a), none, none]) (S1 := []) (s1 := (l, r, h, j)) (p2 := 7) (L2 := [some (.ref a), none, none]) (S2 := []) (s2 := (l, r, h, j)) rfl (fun _ _ => rfl) e (fun c1 e => ?_) (fun c1 e => ?_)
  · refine g_run 1 10 [some (.ref a), none, none] [.ref a] (fun _ => rfl) ?_
    refine g_getI 13 rfl rfl (Rw_l ka) ?_
    refine g_run 3 16 [some (.ref a), some (.int (h a 3)), none] [.ref a, .ref a] (fun _ => rfl) ?_
    refine g_getI 19 rfl rfl (Rw_l ka) ?_
    refine g_run 2 21 [some (.ref a), some (.int (h a 3)), none] [.int ((h a 3) + (1 : Int32)), .ref a] (fun _ => rfl) ?_
    refine g_putI 24 rfl rfl (Rw_l ka) ?_
    refine g_run 2 26 [some (.ref a), some (.int (h a 3)), some (.int (0 : Int32))] [] (fun _ => rfl) ?_
    obtain ⟨q4, eq4, e⟩ := g_bd e
    refine Rw_open_l26_s ka (fun y5 => ?_) _ _ _ eq4
    refine g_run 1 55 [some (.ref a), some (.int (h a 3)), some (.int y5)] [.int (h a 3)] (fun _ => rfl) ?_
    cases e
    exact g_ret rfl (fun _ _ => rfl)
  · refine g_run 1 8 [some (.ref a), none, none] [.int (-1 : Int32)] (fun _ => rfl) ?_
    cases e
    exact g_ret rfl (fun _ _ => rfl)
def Dy_clear_l70 (l : List (Nat × Nat)) (r : am_R) (x0 : Nat) (x1 : Int32) : Nat → Int32 → am_F → Option (am_F)
  | 0, _, _ => none
  | n + 1, x2, h =>
    if x1 ≤ x2 then
      some h
    else
      (Rw_open l r (x0 + 1) h).bind fun q7 =>
      Dy_clear_l70 l r x0 x1 n (x2 + (1 : Int32)) q7.2
def Dy_clear (l : List (Nat × Nat)) (r : am_R) (a : Nat) (x1 : Int32) (h : am_F) : Option (am_F) :=
  (Ar_fill l r (a + 3) (0 : Int32) (am_up (am_up (am_up (am_up h a 0 (0 : Int32)) a 4 (0 : Int32)) a 5 (0 : Int32)) a 6 (0 : Int32))).bind fun q1 =>
  (Ar_fill l r (a + 4) (0 : Int32) q1).bind fun q2 =>
  (Ar_fill l r (a + 5) (-1 : Int32) q2).bind fun q3 =>
  (Ar_fill l r (a + 6) (0 : Int32) q3).bind fun q4 =>
  (Ar_fill l r (a + 7) (0 : Int32) q4).bind fun q5 =>
  (Dy_clear_l70 l r a x1 g_fu (0 : Int32) (am_up q5 (a + 1) 3 (0 : Int32))).bind fun q8 =>
  some q8
theorem Dy_clear_l70_s {X : Nat × (Nat → Int32)} {l : List (Nat × Nat)} {r : am_R} {x0 : Nat} {x1 : Int32} {j : am_J} {q : am_F} {R : Option Value × am_S} (kx0 : Dy_K l r x0) (hx : ∀ (y2 : Int32) , Ev X 4 89 [some (.ref x0), some (.int x1), some (.int y2)] [] (l, r, q, j) R) : ∀ (n : Nat) (x2 : Int32) (h : am_F), Dy_clear_l70 l r x0 x1 n x2 h = some q → Ev X 4 70 [some (.ref x0), some (.int x1), some (.int x2)] [] (l, r, h, j) R := by
  intro n
  induction n with
  | zero => intro x2 h e; cases e
  | succ n ih =>
    intro x2 h e
    unfold Dy_clear_l70 at e
    refine g_run 2 72 [some (.ref x0), some (.int x1), some (.int x2)] [.int x1, .int x2] (fun _ => rfl) ?_
    refine g_if (p1 := 89) (L1 := [some (.ref x0), some (.int x1), some (.int x2)]) (S1 := []) (s1 := (l, r, h, j)) (p2 := 75) (L2 := [some (.ref x0), some (.int x1), some (.int x2)]) (S2 := []) (s2 := (l, r, h, j)) rfl (fun _ _ => rfl) e (fun c6 e => ?_) (fun c6 e => ?_)
    · cases e
      exact hx _
    · refine g_run 1 76 [some (.ref x0), some (.int x1), some (.int x2)] [.ref x0] (fun _ => rfl) ?_
      refine g_getA 79 rfl rfl (Dy_l kx0) (Dy_r3 kx0) ?_
      obtain ⟨q7, eq7, e⟩ := g_bd e
      refine g_cV 82 rfl rfl rfl rfl rfl (Rw_l (Dy_k3 kx0)) (Rw_open_s (Dy_k3 kx0) eq7) ?_
      refine g_run 3 70 [some (.ref x0), some (.int x1), some (.int (x2 + (1 : Int32)))] [] (fun _ => rfl) ?_
      exact ih _ _ e
theorem Dy_clear_s {X : Nat × (Nat → Int32)} {l : List (Nat × Nat)} {r : am_R} {h : am_F} {j : am_J} {a : Nat} {x1 : Int32} (ka : Dy_K l r a) {q : am_F} (e : Dy_clear l r a x1 h = some q) : Call X 4 [.ref a, .int x1] (l, r, h, j) (none, (l, r, q, j)) := by
  unfold Dy_clear at e
  refine ⟨Nat.le_of_ble_eq_true rfl, ?_⟩
  show Ev X 4 0 [some (.ref a), some (.int x1), none] [] (l, r, h, j) _
  refine g_run 2 2 [some (.ref a), some (.int x1), none] [.int (0 : Int32), .ref a] (fun _ => rfl) ?_
  refine g_putI 5 rfl rfl (Dy_l ka) ?_
  refine g_run 2 7 [some (.ref a), some (.int x1), none] [.int (0 : Int32), .ref a] (fun _ => rfl) ?_
  refine g_putI 10 rfl rfl (Dy_l ka) ?_
  refine g_run 2 12 [some (.ref a), some (.int x1), none] [.int (0 : Int32), .ref a] (fun _ => rfl) ?_
  refine g_putI 15 rfl rfl (Dy_l ka) ?_
  refine g_run 2 17 [some (.ref a), some (.int x1), none] [.int (0 : Int32), .ref a] (fun _ => rfl) ?_
  refine g_putI 20 rfl rfl (Dy_l ka) ?_
  refine g_run 1 21 [some (.ref a), some (.int x1), none] [.ref a] (fun _ => rfl) ?_
  refine g_getA 24 rfl rfl (Dy_l ka) (Dy_r7 ka) ?_
  refine g_run 1 25 [some (.ref a), some (.int x1), none] [.int (0 : Int32), .ref (a + 3)] (fun _ => rfl) ?_
  obtain ⟨q1, eq1, e⟩ := g_bd e
  refine g_cSv 28 rfl rfl (by decide) rfl rfl rfl (Ar_fill_s (g_lnk (Dy_k7 ka)) eq1) ?_
  refine g_run 1 29 [some (.ref a), some (.int x1), none] [.ref a] (fun _ => rfl) ?_
  refine g_getA 32 rfl rfl (Dy_l ka) (Dy_r8 ka) ?_
  refine g_run 1 33 [some (.ref a), some (.int x1), none] [.int (0 : Int32), .ref (a + 4)] (fun _ => rfl) ?_
  obtain ⟨q2, eq2, e⟩ := g_bd e
  refine g_cSv 36 rfl rfl (by decide) rfl rfl rfl (Ar_fill_s (g_lnk (Dy_k8 ka)) eq2) ?_
  refine g_run 1 37 [some (.ref a), some (.int x1), none] [.ref a] (fun _ => rfl) ?_
  refine g_getA 40 rfl rfl (Dy_l ka) (Dy_r9 ka) ?_
  refine g_run 1 41 [some (.ref a), some (.int x1), none] [.int (-1 : Int32), .ref (a + 5)] (fun _ => rfl) ?_
  obtain ⟨q3, eq3, e⟩ := g_bd e
  refine g_cSv 44 rfl rfl (by decide) rfl rfl rfl (Ar_fill_s (g_lnk (Dy_k9 ka)) eq3) ?_
  refine g_run 1 45 [some (.ref a), some (.int x1), none] [.ref a] (fun _ => rfl) ?_
  refine g_getA 48 rfl rfl (Dy_l ka) (Dy_r10 ka) ?_
  refine g_run 1 49 [some (.ref a), some (.int x1), none] [.int (0 : Int32), .ref (a + 6)] (fun _ => rfl) ?_
  obtain ⟨q4, eq4, e⟩ := g_bd e
  refine g_cSv 52 rfl rfl (by decide) rfl rfl rfl (Ar_fill_s (g_lnk (Dy_k10 ka)) eq4) ?_
  refine g_run 1 53 [some (.ref a), some (.int x1), none] [.ref a] (fun _ => rfl) ?_
  refine g_getA 56 rfl rfl (Dy_l ka) (Dy_r11 ka) ?_
  refine g_run 1 57 [some (.ref a), some (.int x1), none] [.int (0 : Int32), .ref (a + 7)] (fun _ => rfl) ?_
  obtain ⟨q5, eq5, e⟩ := g_bd e
  refine g_cSv 60 rfl rfl (by decide) rfl rfl rfl (Ar_fill_s (g_lnk (Dy_k11 ka)) eq5) ?_
  refine g_run 1 61 [some (.ref a), some (.int x1), none] [.ref a] (fun _ => rfl) ?_
  refine g_getA 64 rfl rfl (Dy_l ka) (Dy_r3 ka) ?_
  refine g_run 1 65 [some (.ref a), some (.int x1), none] [.int (0 : Int32), .ref (a + 1)] (fun _ => rfl) ?_
  refine g_putI 68 rfl rfl (Rw_l (Dy_k3 ka)) ?_
  refine g_run 2 70 [some (.ref a), some (.int x1), some (.int (0 : Int32))] [] (fun _ => rfl) ?_
  obtain ⟨q8, eq8, e⟩ := g_bd e
  refine Dy_clear_l70_s ka (fun y9 => ?_) _ _ _ eq8
  cases e
  exact g_ret rfl (fun _ _ => rfl)
def Rw_get (l : List (Nat × Nat)) (r : am_R) (a : Nat) (x1 : Int32) (x2 : Int32) (h : am_F) : Option (Int32) :=
  if x1 < 0 then
    some (-1 : Int32)
  else
    if (h a 3) ≤ x1 then
      some (-1 : Int32)
    else
      if x2 < 0 then
        some (-1 : Int32)
      else
        if x2 < (h a 0) then
          (g_ix ((x1 * (h a 0)) + x2) (g_ln l (a + 1))).bind fun k5 =>
          some (h (a + 1) k5)
        else
          some (-1 : Int32)
theorem Rw_get_s {X : Nat × (Nat → Int32)} {l : List (Nat × Nat)} {r : am_R} {h : am_F} {j : am_J} {a : Nat} {x1 : Int32} {x2 : Int32} (ka : Rw_K l r a) {q : Int32} (e : Rw_get l r a x1 x2 h = some q) : Call X 80 [.ref a, .int x1, .int x2] (l, r, h, j) (some (.int q), (l, r, h, j)) := by
  unfold Rw_get at e
  refine ⟨Nat.le_of_ble_eq_true rfl, ?_⟩
  show Ev X 80 0 [some (.ref a), some (.int x1), some (.int x2)] [] (l, r, h, j) _
  refine g_run 1 1 [some (.ref a), some (.int x1), some (.int x2)] [.int x1] (fun _ => rfl) ?_
  refine g_if (p1 := 24) (L1 := [some (.ref a), some (.int x1), some (.int x2)]) (S1 := []) (s1 := (l, r, h, j)) (p2 := 4) (L2 := [some (.ref a), some (.int x1), some (.int x2)]) (S2 := []) (s2 := (l, r, h, j)) rfl (fun _ _ => rfl) e (fun c1 e => ?_) (fun c1 e => ?_)
  · refine g_run 1 25 [some (.ref a), some (.int x1), some (.int x2)] [.int (-1 : Int32)] (fun _ => rfl) ?_
    cases e
    exact g_ret rfl (fun _ _ => rfl)
  · refine g_run 2 6 [some (.ref a), some (.int x1), some (.int x2)] [.ref a, .int x1] (fun _ => rfl) ?_
    refine g_getI 9 rfl rfl (Rw_l ka) ?_
    refine g_if (p1 := 24) (L1 := [some (.ref a), some (.int x1), some (.int x2)]) (S1 := []) (s1 := (l, r, h, j)) (p2 := 12) (L2 := [some (.ref a), some (.int x1), some (.int x2)]) (S2 := []) (s2 := (l, r, h, j)) rfl (fun _ _ => rfl) e (fun c2 e => ?_) (fun c2 e => ?_)
    · refine g_run 1 25 [some (.ref a), some (.int x1), some (.int x2)] [.int (-1 : Int32)] (fun _ => rfl) ?_
      cases e
      exact g_ret rfl (fun _ _ => rfl)
    · refine g_run 1 13 [some (.ref a), some (.int x1), some (.int x2)] [.int x2] (fun _ => rfl) ?_
      refine g_if (p1 := 24) (L1 := [some (.ref a), some (.int x1), some (.int x2)]) (S1 := []) (s1 := (l, r, h, j)) (p2 := 16) (L2 := [some (.ref a), some (.int x1), some (.int x2)]) (S2 := []) (s2 := (l, r, h, j)) rfl (fun _ _ => rfl) e (fun c3 e => ?_) (fun c3 e => ?_)
      · refine g_run 1 25 [some (.ref a), some (.int x1), some (.int x2)] [.int (-1 : Int32)] (fun _ => rfl) ?_
        cases e
        exact g_ret rfl (fun _ _ => rfl)
      · refine g_run 2 18 [some (.ref a), some (.int x1), some (.int x2)] [.ref a, .int x2] (fun _ => rfl) ?_
        refine g_getI 21 rfl rfl (Rw_l ka) ?_
        refine g_if (p1 := 26) (L1 := [some (.ref a), some (.int x1), some (.int x2)]) (S1 := []) (s1 := (l, r, h, j)) (p2 := 24) (L2 := [some (.ref a), some (.int x1), some (.int x2)]) (S2 := []) (s2 := (l, r, h, j)) rfl (fun _ _ => rfl) e (fun c4 e => ?_) (fun c4 e => ?_)
        · refine g_run 1 27 [some (.ref a), some (.int x1), some (.int x2)] [.ref a] (fun _ => rfl) ?_
          refine g_getA 30 rfl rfl (Rw_l ka) (Rw_r2 ka) ?_
          refine g_run 2 32 [some (.ref a), some (.int x1), some (.int x2)] [.ref a, .int x1, .ref (a + 1)] (fun _ => rfl) ?_
          refine g_getI 35 rfl rfl (Rw_l ka) ?_
          refine g_run 3 38 [some (.ref a), some (.int x1), some (.int x2)] [.int ((x1 * (h a 0)) + x2), .ref (a + 1)] (fun _ => rfl) ?_
          obtain ⟨k5, ek5, e⟩ := g_bd e
          refine g_iald 39 rfl rfl (Rw_k2 ka) ek5 ?_
          cases e
          exact g_ret rfl (fun _ _ => rfl)
        · refine g_run 1 25 [some (.ref a), some (.int x1), some (.int x2)] [.int (-1 : Int32)] (fun _ => rfl) ?_
          cases e
          exact g_ret rfl (fun _ _ => rfl)
def Dy_queueUp_l18 (x0 : Nat) (x1 : Int32) (x2 : Int32) : Nat → Int32 → am_F → Option (Int32 × am_F)
  | 0, _, _ => none
  | n + 1, x3, h =>
    if x3 ≤ 0 then
      some (x3, h)
    else
      (g_ix (x3 - (1 : Int32)) 18).bind fun k3 =>
      if (h (x0 + 9) k3) ≤ x2 then
        some (x3, h)
      else
        (g_ix (x3 - (1 : Int32)) 18).bind fun k5 =>
        (g_ix x3 18).bind fun k6 =>
        (g_ix (x3 - (1 : Int32)) 18).bind fun k7 =>
        (g_ix x3 18).bind fun k8 =>
        Dy_queueUp_l18 x0 x1 x2 n (x3 + (Int32.ofInt (-1))) (am_up (am_up h (x0 + 8) k6 (h (x0 + 8) k5)) (x0 + 9) k8 ((am_up h (x0 + 8) k6 (h (x0 + 8) k5)) (x0 + 9) k7))
def Dy_queueUp (a : Nat) (x1 : Int32) (x2 : Int32) (h : am_F) : Option (am_F) :=
  if (h a 14) < (18 : Int32) then
    (Dy_queueUp_l18 a x1 x2 g_fu (h a 14) h).bind fun q9 =>
    (g_ix q9.1 18).bind fun k10 =>
    (g_ix q9.1 18).bind fun k11 =>
    some (am_up (am_up (am_up q9.2 (a + 8) k10 x1) (a + 9) k11 x2) a 14 (((am_up (am_up q9.2 (a + 8) k10 x1) (a + 9) k11 x2) a 14) + (1 : Int32)))
  else
    some h
theorem Dy_queueUp_l18_s {X : Nat × (Nat → Int32)} {l : List (Nat × Nat)} {r : am_R} {x0 : Nat} {x1 : Int32} {x2 : Int32} {j : am_J} {q : Int32 × am_F} {R : Option Value × am_S} (kx0 : Dy_K l r x0) (hx : ∀ (_ : True), Ev X 6 68 [some (.ref x0), some (.int x1), some (.int x2), some (.int q.1)] [] (l, r, q.2, j) R) : ∀ (n : Nat) (x3 : Int32) (h : am_F), Dy_queueUp_l18 x0 x1 x2 n x3 h = some q → Ev X 6 18 [some (.ref x0), some (.int x1), some (.int x2), some (.int x3)] [] (l, r, h, j) R := by
  intro n
  induction n with
  | zero => intro x3 h e; cases e
  | succ n ih =>
    intro x3 h e
    unfold Dy_queueUp_l18 at e
    refine g_run 1 19 [some (.ref x0), some (.int x1), some (.int x2), some (.int x3)] [.int x3] (fun _ => rfl) ?_
    refine g_if (p1 := 68) (L1 := [some (.ref x0), some (.int x1), some (.int x2), some (.int x3)]) (S1 := []) (s1 := (l, r, h, j)) (p2 := 22) (L2 := [some (.ref x0), some (.int x1), some (.int x2), some (.int x3)]) (S2 := []) (s2 := (l, r, h, j)) rfl (fun _ _ => rfl) e (fun c2 e => ?_) (fun c2 e => ?_)
    · cases e
      exact hx trivial
    · refine g_run 1 23 [some (.ref x0), some (.int x1), some (.int x2), some (.int x3)] [.ref x0] (fun _ => rfl) ?_
      refine g_getA 26 rfl rfl (Dy_l kx0) (Dy_r13 kx0) ?_
      refine g_run 3 29 [some (.ref x0), some (.int x1), some (.int x2), some (.int x3)] [.int (x3 - (1 : Int32)), .ref (x0 + 9)] (fun _ => rfl) ?_
      obtain ⟨k3, ek3, e⟩ := g_bd e
      refine g_iald 30 rfl rfl (Dy_k13 kx0) ek3 ?_
      refine g_run 1 31 [some (.ref x0), some (.int x1), some (.int x2), some (.int x3)] [.int x2, .int (h (x0 + 9) k3)] (fun _ => rfl) ?_
      refine g_if (p1 := 68) (L1 := [some (.ref x0), some (.int x1), some (.int x2), some (.int x3)]) (S1 := []) (s1 := (l, r, h, j)) (p2 := 34) (L2 := [some (.ref x0), some (.int x1), some (.int x2), some (.int x3)]) (S2 := []) (s2 := (l, r, h, j)) rfl (fun _ _ => rfl) e (fun c4 e => ?_) (fun c4 e => ?_)
      · cases e
        exact hx trivial
      · refine g_run 1 35 [some (.ref x0), some (.int x1), some (.int x2), some (.int x3)] [.ref x0] (fun _ => rfl) ?_
        refine g_getA 38 rfl rfl (Dy_l kx0) (Dy_r12 kx0) ?_
        refine g_run 2 40 [some (.ref x0), some (.int x1), some (.int x2), some (.int x3)] [.ref x0, .int x3, .ref (x0 + 8)] (fun _ => rfl) ?_
        refine g_getA 43 rfl rfl (Dy_l kx0) (Dy_r12 kx0) ?_
        refine g_run 3 46 [some (.ref x0), some (.int x1), some (.int x2), some (.int x3)] [.int (x3 - (1 : Int32)), .ref (x0 + 8), .int x3, .ref (x0 + 8)] (fun _ => rfl) ?_
        obtain ⟨k5, ek5, e⟩ := g_bd e
        refine g_iald 47 rfl rfl (Dy_k12 kx0) ek5 ?_
        obtain ⟨k6, ek6, e⟩ := g_bd e
        refine g_iast 48 rfl rfl (Dy_k12 kx0) ek6 ?_
        refine g_run 1 49 [some (.ref x0), some (.int x1), some (.int x2), some (.int x3)] [.ref x0] (fun _ => rfl) ?_
        refine g_getA 52 rfl rfl (Dy_l kx0) (Dy_r13 kx0) ?_
        refine g_run 2 54 [some (.ref x0), some (.int x1), some (.int x2), some (.int x3)] [.ref x0, .int x3, .ref (x0 + 9)] (fun _ => rfl) ?_
        refine g_getA 57 rfl rfl (Dy_l kx0) (Dy_r13 kx0) ?_
        refine g_run 3 60 [some (.ref x0), some (.int x1), some (.int x2), some (.int x3)] [.int (x3 - (1 : Int32)), .ref (x0 + 9), .int x3, .ref (x0 + 9)] (fun _ => rfl) ?_
        obtain ⟨k7, ek7, e⟩ := g_bd e
        refine g_iald 61 rfl rfl (Dy_k13 kx0) ek7 ?_
        obtain ⟨k8, ek8, e⟩ := g_bd e
        refine g_iast 62 rfl rfl (Dy_k13 kx0) ek8 ?_
        refine g_go 65 [some (.ref x0), some (.int x1), some (.int x2), some (.int (x3 + (Int32.ofInt (-1))))] [] rfl (fun _ _ => rfl) ?_
        refine g_run 1 18 [some (.ref x0), some (.int x1), some (.int x2), some (.int (x3 + (Int32.ofInt (-1))))] [] (fun _ => rfl) ?_
        exact ih _ _ e
theorem Dy_queueUp_s {X : Nat × (Nat → Int32)} {l : List (Nat × Nat)} {r : am_R} {h : am_F} {j : am_J} {a : Nat} {x1 : Int32} {x2 : Int32} (ka : Dy_K l r a) {q : am_F} (e : Dy_queueUp a x1 x2 h = some q) : Call X 6 [.ref a, .int x1, .int x2] (l, r, h, j) (none, (l, r, q, j)) := by
  unfold Dy_queueUp at e
  refine ⟨Nat.le_of_ble_eq_true rfl, ?_⟩
  show Ev X 6 0 [some (.ref a), some (.int x1), some (.int x2), none] [] (l, r, h, j) _
  refine g_run 1 1 [some (.ref a), some (.int x1), some (.int x2), none] [.ref a] (fun _ => rfl) ?_
  refine g_getI 4 rfl rfl (Dy_l ka) ?_
  refine g_run 1 5 [some (.ref a), some (.int x1), some (.int x2), none] [.ref a, .int (h a 14)] (fun _ => rfl) ?_
  refine g_getA 8 rfl rfl (Dy_l ka) (Dy_r12 ka) ?_
  refine g_alen 9 rfl rfl (Dy_k12 ka) rfl ?_
  refine g_if (p1 := 13) (L1 := [some (.ref a), some (.int x1), some (.int x2), none]) (S1 := []) (s1 := (l, r, h, j)) (p2 := 12) (L2 := [some (.ref a), some (.int x1), some (.int x2), none]) (S2 := []) (s2 := (l, r, h, j)) rfl (fun _ _ => rfl) e (fun c1 e => ?_) (fun c1 e => ?_)
  · refine g_run 1 14 [some (.ref a), some (.int x1), some (.int x2), none] [.ref a] (fun _ => rfl) ?_
    refine g_getI 17 rfl rfl (Dy_l ka) ?_
    refine g_run 1 18 [some (.ref a), some (.int x1), some (.int x2), some (.int (h a 14))] [] (fun _ => rfl) ?_
    obtain ⟨q9, eq9, e⟩ := g_bd e
    refine Dy_queueUp_l18_s ka (fun _ => ?_) _ _ _ eq9
    refine g_run 1 69 [some (.ref a), some (.int x1), some (.int x2), some (.int q9.1)] [.ref a] (fun _ => rfl) ?_
    refine g_getA 72 rfl rfl (Dy_l ka) (Dy_r12 ka) ?_
    refine g_run 2 74 [some (.ref a), some (.int x1), some (.int x2), some (.int q9.1)] [.int x1, .int q9.1, .ref (a + 8)] (fun _ => rfl) ?_
    obtain ⟨k10, ek10, e⟩ := g_bd e
    refine g_iast 75 rfl rfl (Dy_k12 ka) ek10 ?_
    refine g_run 1 76 [some (.ref a), some (.int x1), some (.int x2), some (.int q9.1)] [.ref a] (fun _ => rfl) ?_
    refine g_getA 79 rfl rfl (Dy_l ka) (Dy_r13 ka) ?_
    refine g_run 2 81 [some (.ref a), some (.int x1), some (.int x2), some (.int q9.1)] [.int x2, .int q9.1, .ref (a + 9)] (fun _ => rfl) ?_
    obtain ⟨k11, ek11, e⟩ := g_bd e
    refine g_iast 82 rfl rfl (Dy_k13 ka) ek11 ?_
    refine g_run 2 84 [some (.ref a), some (.int x1), some (.int x2), some (.int q9.1)] [.ref a, .ref a] (fun _ => rfl) ?_
    refine g_getI 87 rfl rfl (Dy_l ka) ?_
    refine g_run 2 89 [some (.ref a), some (.int x1), some (.int x2), some (.int q9.1)] [.int (((am_up (am_up q9.2 (a + 8) k10 x1) (a + 9) k11 x2) a 14) + (1 : Int32)), .ref a] (fun _ => rfl) ?_
    refine g_putI 92 rfl rfl (Dy_l ka) ?_
    cases e
    exact g_ret rfl (fun _ _ => rfl)
  · cases e
    exact g_ret rfl (fun _ _ => rfl)
def Dy_lineUp_l7 (l : List (Nat × Nat)) (r : am_R) (x0 : Nat) (x1 : Nat) : Nat → Int32 → am_F → Option (am_F)
  | 0, _, _ => none
  | n + 1, x2, h =>
    if (h (x1 + 9) 3) ≤ x2 then
      some h
    else
      (Rw_get l r (x1 + 9) x2 (1 : Int32) h).bind fun q2 =>
      (Dy_queueUp x0 x2 q2 h).bind fun q3 =>
      Dy_lineUp_l7 l r x0 x1 n (x2 + (1 : Int32)) q3
def Dy_lineUp_l40 (l : List (Nat × Nat)) (r : am_R) (x0 : Nat) (x1 : Nat) : Nat → Int32 → am_F → Option (am_F)
  | 0, _, _ => none
  | n + 1, x2, h =>
    if (h (x1 + 11) 3) ≤ x2 then
      some h
    else
      (Rw_get l r (x1 + 11) x2 (1 : Int32) h).bind fun q7 =>
      (Dy_queueUp x0 ((4 : Int32) + x2) q7 h).bind fun q8 =>
      Dy_lineUp_l40 l r x0 x1 n (x2 + (1 : Int32)) q8
def Dy_lineUp (l : List (Nat × Nat)) (r : am_R) (a : Nat) (x1 : Nat) (h : am_F) : Option (am_F) :=
  (Dy_lineUp_l7 l r a x1 g_fu (0 : Int32) (am_up h a 14 (0 : Int32))).bind fun q4 =>
  (Dy_lineUp_l40 l r a x1 g_fu (0 : Int32) q4).bind fun q9 =>
  some q9
theorem Dy_lineUp_l7_s {X : Nat × (Nat → Int32)} {l : List (Nat × Nat)} {r : am_R} {x0 : Nat} {x1 : Nat} {j : am_J} {q : am_F} {R : Option Value × am_S} (kx0 : Dy_K l r x0) (kx1 : Pk_K l r x1) (hx : ∀ (y2 : Int32) , Ev X 5 38 [some (.ref x0), some (.ref x1), some (.int y2)] [] (l, r, q, j) R) : ∀ (n : Nat) (x2 : Int32) (h : am_F), Dy_lineUp_l7 l r x0 x1 n x2 h = some q → Ev X 5 7 [some (.ref x0), some (.ref x1), some (.int x2)] [] (l, r, h, j) R := by
  intro n
  induction n with
  | zero => intro x2 h e; cases e
  | succ n ih =>
    intro x2 h e
    unfold Dy_lineUp_l7 at e
    refine g_run 2 9 [some (.ref x0), some (.ref x1), some (.int x2)] [.ref x1, .int x2] (fun _ => rfl) ?_
    refine g_getA 12 rfl rfl (Pk_l kx1) (Pk_r11 kx1) ?_
    refine g_getI 15 rfl rfl (Rw_l (Pk_k11 kx1)) ?_
    refine g_if (p1 := 38) (L1 := [some (.ref x0), some (.ref x1), some (.int x2)]) (S1 := []) (s1 := (l, r, h, j)) (p2 := 18) (L2 := [some (.ref x0), some (.ref x1), some (.int x2)]) (S2 := []) (s2 := (l, r, h, j)) rfl (fun _ _ => rfl) e (fun c1 e => ?_) (fun c1 e => ?_)
    · cases e
      exact hx _
    · refine g_run 3 21 [some (.ref x0), some (.ref x1), some (.int x2)] [.ref x1, .int x2, .ref x0] (fun _ => rfl) ?_
      refine g_getA 24 rfl rfl (Pk_l kx1) (Pk_r11 kx1) ?_
      refine g_run 2 26 [some (.ref x0), some (.ref x1), some (.int x2)] [.int (1 : Int32), .int x2, .ref (x1 + 9), .int x2, .ref x0] (fun _ => rfl) ?_
      obtain ⟨q2, eq2, e⟩ := g_bd e
      refine g_cV 29 rfl rfl rfl rfl rfl (Rw_l (Pk_k11 kx1)) (Rw_get_s (Pk_k11 kx1) eq2) ?_
      obtain ⟨q3, eq3, e⟩ := g_bd e
      refine g_cVv 32 rfl rfl rfl rfl rfl (Dy_l kx0) (Dy_queueUp_s kx0 eq3) ?_
      refine g_run 2 7 [some (.ref x0), some (.ref x1), some (.int (x2 + (1 : Int32)))] [] (fun _ => rfl) ?_
      exact ih _ _ e
theorem Dy_lineUp_l40_s {X : Nat × (Nat → Int32)} {l : List (Nat × Nat)} {r : am_R} {x0 : Nat} {x1 : Nat} {j : am_J} {q : am_F} {R : Option Value × am_S} (kx0 : Dy_K l r x0) (kx1 : Pk_K l r x1) (hx : ∀ (y2 : Int32) , Ev X 5 73 [some (.ref x0), some (.ref x1), some (.int y2)] [] (l, r, q, j) R) : ∀ (n : Nat) (x2 : Int32) (h : am_F), Dy_lineUp_l40 l r x0 x1 n x2 h = some q → Ev X 5 40 [some (.ref x0), some (.ref x1), some (.int x2)] [] (l, r, h, j) R := by
  intro n
  induction n with
  | zero => intro x2 h e; cases e
  | succ n ih =>
    intro x2 h e
    unfold Dy_lineUp_l40 at e
    refine g_run 2 42 [some (.ref x0), some (.ref x1), some (.int x2)] [.ref x1, .int x2] (fun _ => rfl) ?_
    refine g_getA 45 rfl rfl (Pk_l kx1) (Pk_r12 kx1) ?_
    refine g_getI 48 rfl rfl (Rw_l (Pk_k12 kx1)) ?_
    refine g_if (p1 := 73) (L1 := [some (.ref x0), some (.ref x1), some (.int x2)]) (S1 := []) (s1 := (l, r, h, j)) (p2 := 51) (L2 := [some (.ref x0), some (.ref x1), some (.int x2)]) (S2 := []) (s2 := (l, r, h, j)) rfl (fun _ _ => rfl) e (fun c6 e => ?_) (fun c6 e => ?_)
    · cases e
      exact hx _
    · refine g_run 5 56 [some (.ref x0), some (.ref x1), some (.int x2)] [.ref x1, .int ((4 : Int32) + x2), .ref x0] (fun _ => rfl) ?_
      refine g_getA 59 rfl rfl (Pk_l kx1) (Pk_r12 kx1) ?_
      refine g_run 2 61 [some (.ref x0), some (.ref x1), some (.int x2)] [.int (1 : Int32), .int x2, .ref (x1 + 11), .int ((4 : Int32) + x2), .ref x0] (fun _ => rfl) ?_
      obtain ⟨q7, eq7, e⟩ := g_bd e
      refine g_cV 64 rfl rfl rfl rfl rfl (Rw_l (Pk_k12 kx1)) (Rw_get_s (Pk_k12 kx1) eq7) ?_
      obtain ⟨q8, eq8, e⟩ := g_bd e
      refine g_cVv 67 rfl rfl rfl rfl rfl (Dy_l kx0) (Dy_queueUp_s kx0 eq8) ?_
      refine g_run 2 40 [some (.ref x0), some (.ref x1), some (.int (x2 + (1 : Int32)))] [] (fun _ => rfl) ?_
      exact ih _ _ e
theorem Dy_lineUp_s {X : Nat × (Nat → Int32)} {l : List (Nat × Nat)} {r : am_R} {h : am_F} {j : am_J} {a : Nat} {x1 : Nat} (ka : Dy_K l r a) (kx1 : Pk_K l r x1) {q : am_F} (e : Dy_lineUp l r a x1 h = some q) : Call X 5 [.ref a, .ref x1] (l, r, h, j) (none, (l, r, q, j)) := by
  unfold Dy_lineUp at e
  refine ⟨Nat.le_of_ble_eq_true rfl, ?_⟩
  show Ev X 5 0 [some (.ref a), some (.ref x1), none] [] (l, r, h, j) _
  refine g_run 2 2 [some (.ref a), some (.ref x1), none] [.int (0 : Int32), .ref a] (fun _ => rfl) ?_
  refine g_putI 5 rfl rfl (Dy_l ka) ?_
  refine g_run 2 7 [some (.ref a), some (.ref x1), some (.int (0 : Int32))] [] (fun _ => rfl) ?_
  obtain ⟨q4, eq4, e⟩ := g_bd e
  refine Dy_lineUp_l7_s ka kx1 (fun y5 => ?_) _ _ _ eq4
  refine g_run 2 40 [some (.ref a), some (.ref x1), some (.int (0 : Int32))] [] (fun _ => rfl) ?_
  obtain ⟨q9, eq9, e⟩ := g_bd e
  refine Dy_lineUp_l40_s ka kx1 (fun y10 => ?_) _ _ _ eq9
  cases e
  exact g_ret rfl (fun _ _ => rfl)
def Pk_hasBench (a : Nat) (x1 : Int32) (h : am_F) : Int32 :=
  if x1 < 0 then
    (0 : Int32)
  else
    if (h a 3) ≤ x1 then
      (0 : Int32)
    else
      if (6 : Int32) ≤ x1 then
        (0 : Int32)
      else
        (1 : Int32)
theorem Pk_hasBench_s {X : Nat × (Nat → Int32)} {l : List (Nat × Nat)} {r : am_R} {h : am_F} {j : am_J} {a : Nat} {x1 : Int32} (ka : Pk_K l r a) : Call X 37 [.ref a, .int x1] (l, r, h, j) (some (.int (Pk_hasBench a x1 h)), (l, r, h, j)) := by
  generalize e : Pk_hasBench a x1 h = q
  unfold Pk_hasBench at e
  refine ⟨Nat.le_of_ble_eq_true rfl, ?_⟩
  show Ev X 37 0 [some (.ref a), some (.int x1)] [] (l, r, h, j) _
  refine g_run 1 1 [some (.ref a), some (.int x1)] [.int x1] (fun _ => rfl) ?_
  refine g_if (p1 := 22) (L1 := [some (.ref a), some (.int x1)]) (S1 := []) (s1 := (l, r, h, j)) (p2 := 4) (L2 := [some (.ref a), some (.int x1)]) (S2 := []) (s2 := (l, r, h, j)) rfl (fun _ _ => rfl) e (fun c1 e => ?_) (fun c1 e => ?_)
  · refine g_run 1 23 [some (.ref a), some (.int x1)] [.int (0 : Int32)] (fun _ => rfl) ?_
    cases e
    exact g_retZ rfl (y := (0 : Int32)) rfl rfl
  · refine g_run 2 6 [some (.ref a), some (.int x1)] [.ref a, .int x1] (fun _ => rfl) ?_
    refine g_getI 9 rfl rfl (Pk_l ka) ?_
    refine g_if (p1 := 22) (L1 := [some (.ref a), some (.int x1)]) (S1 := []) (s1 := (l, r, h, j)) (p2 := 12) (L2 := [some (.ref a), some (.int x1)]) (S2 := []) (s2 := (l, r, h, j)) rfl (fun _ _ => rfl) e (fun c2 e => ?_) (fun c2 e => ?_)
    · refine g_run 1 23 [some (.ref a), some (.int x1)] [.int (0 : Int32)] (fun _ => rfl) ?_
      cases e
      exact g_retZ rfl (y := (0 : Int32)) rfl rfl
    · refine g_run 2 15 [some (.ref a), some (.int x1)] [.int (6 : Int32), .int x1] (fun _ => rfl) ?_
      refine g_if (p1 := 22) (L1 := [some (.ref a), some (.int x1)]) (S1 := []) (s1 := (l, r, h, j)) (p2 := 18) (L2 := [some (.ref a), some (.int x1)]) (S2 := []) (s2 := (l, r, h, j)) rfl (fun _ _ => rfl) e (fun c3 e => ?_) (fun c3 e => ?_)
      · refine g_run 1 23 [some (.ref a), some (.int x1)] [.int (0 : Int32)] (fun _ => rfl) ?_
        cases e
        exact g_retZ rfl (y := (0 : Int32)) rfl rfl
      · refine g_run 2 23 [some (.ref a), some (.int x1)] [.int (1 : Int32)] (fun _ => rfl) ?_
        cases e
        exact g_retZ rfl (y := (1 : Int32)) rfl rfl
def Pk_wetness (a : Nat) (x1 : Int32) (x2 : Int32) (h : am_F) : Option (Int32) :=
  if x1 < 0 then
    some (0 : Int32)
  else
    if x2 < x1 then
      some (0 : Int32)
    else
      if x2 < (48 : Int32) then
        (g_ix x2 48).bind fun k4 =>
        (g_ix x1 48).bind fun k5 =>
        if ((h a 0) - ((h (a + 2) k4) - (h (a + 2) k5))) ≤ 0 then
          some (0 : Int32)
        else
          some ((h a 0) - ((h (a + 2) k4) - (h (a + 2) k5)))
      else
        some (0 : Int32)
theorem Pk_wetness_s {X : Nat × (Nat → Int32)} {l : List (Nat × Nat)} {r : am_R} {h : am_F} {j : am_J} {a : Nat} {x1 : Int32} {x2 : Int32} (ka : Pk_K l r a) {q : Int32} (e : Pk_wetness a x1 x2 h = some q) : Call X 38 [.ref a, .int x1, .int x2] (l, r, h, j) (some (.int q), (l, r, h, j)) := by
  unfold Pk_wetness at e
  refine ⟨Nat.le_of_ble_eq_true rfl, ?_⟩
  show Ev X 38 0 [some (.ref a), some (.int x1), some (.int x2), none] [] (l, r, h, j) _
  refine g_run 1 1 [some (.ref a), some (.int x1), some (.int x2), none] [.int x1] (fun _ => rfl) ?_
  refine g_if (p1 := 15) (L1 := [some (.ref a), some (.int x1), some (.int x2), none]) (S1 := []) (s1 := (l, r, h, j)) (p2 := 4) (L2 := [some (.ref a), some (.int x1), some (.int x2), none]) (S2 := []) (s2 := (l, r, h, j)) rfl (fun _ _ => rfl) e (fun c1 e => ?_) (fun c1 e => ?_)
  · refine g_run 1 16 [some (.ref a), some (.int x1), some (.int x2), none] [.int (0 : Int32)] (fun _ => rfl) ?_
    cases e
    exact g_ret rfl (fun _ _ => rfl)
  · refine g_run 2 6 [some (.ref a), some (.int x1), some (.int x2), none] [.int x1, .int x2] (fun _ => rfl) ?_
    refine g_if (p1 := 15) (L1 := [some (.ref a), some (.int x1), some (.int x2), none]) (S1 := []) (s1 := (l, r, h, j)) (p2 := 9) (L2 := [some (.ref a), some (.int x1), some (.int x2), none]) (S2 := []) (s2 := (l, r, h, j)) rfl (fun _ _ => rfl) e (fun c2 e => ?_) (fun c2 e => ?_)
    · refine g_run 1 16 [some (.ref a), some (.int x1), some (.int x2), none] [.int (0 : Int32)] (fun _ => rfl) ?_
      cases e
      exact g_ret rfl (fun _ _ => rfl)
    · refine g_run 2 12 [some (.ref a), some (.int x1), some (.int x2), none] [.int (48 : Int32), .int x2] (fun _ => rfl) ?_
      refine g_if (p1 := 17) (L1 := [some (.ref a), some (.int x1), some (.int x2), none]) (S1 := []) (s1 := (l, r, h, j)) (p2 := 15) (L2 := [some (.ref a), some (.int x1), some (.int x2), none]) (S2 := []) (s2 := (l, r, h, j)) rfl (fun _ _ => rfl) e (fun c3 e => ?_) (fun c3 e => ?_)
      · refine g_run 1 18 [some (.ref a), some (.int x1), some (.int x2), none] [.ref a] (fun _ => rfl) ?_
        refine g_getI 21 rfl rfl (Pk_l ka) ?_
        refine g_run 1 22 [some (.ref a), some (.int x1), some (.int x2), none] [.ref a, .int (h a 0)] (fun _ => rfl) ?_
        refine g_getA 25 rfl rfl (Pk_l ka) (Pk_r5 ka) ?_
        refine g_run 1 26 [some (.ref a), some (.int x1), some (.int x2), none] [.int x2, .ref (a + 2), .int (h a 0)] (fun _ => rfl) ?_
        obtain ⟨k4, ek4, e⟩ := g_bd e
        refine g_iald 27 rfl rfl (Pk_k5 ka) ek4 ?_
        refine g_run 1 28 [some (.ref a), some (.int x1), some (.int x2), none] [.ref a, .int (h (a + 2) k4), .int (h a 0)] (fun _ => rfl) ?_
        refine g_getA 31 rfl rfl (Pk_l ka) (Pk_r5 ka) ?_
        refine g_run 1 32 [some (.ref a), some (.int x1), some (.int x2), none] [.int x1, .ref (a + 2), .int (h (a + 2) k4), .int (h a 0)] (fun _ => rfl) ?_
        obtain ⟨k5, ek5, e⟩ := g_bd e
        refine g_iald 33 rfl rfl (Pk_k5 ka) ek5 ?_
        refine g_run 4 37 [some (.ref a), some (.int x1), some (.int x2), some (.int ((h a 0) - ((h (a + 2) k4) - (h (a + 2) k5))))] [.int ((h a 0) - ((h (a + 2) k4) - (h (a + 2) k5)))] (fun _ => rfl) ?_
        refine g_if (p1 := 44) (L1 := [some (.ref a), some (.int x1), some (.int x2), some (.int ((h a 0) - ((h (a + 2) k4) - (h (a + 2) k5))))]) (S1 := []) (s1 := (l, r, h, j)) (p2 := 40) (L2 := [some (.ref a), some (.int x1), some (.int x2), some (.int ((h a 0) - ((h (a + 2) k4) - (h (a + 2) k5))))]) (S2 := []) (s2 := (l, r, h, j)) rfl (fun _ _ => rfl) e (fun c6 e => ?_) (fun c6 e => ?_)
        · refine g_run 1 45 [some (.ref a), some (.int x1), some (.int x2), some (.int ((h a 0) - ((h (a + 2) k4) - (h (a + 2) k5))))] [.int (0 : Int32)] (fun _ => rfl) ?_
          cases e
          exact g_ret rfl (fun _ _ => rfl)
        · refine g_run 2 45 [some (.ref a), some (.int x1), some (.int x2), some (.int ((h a 0) - ((h (a + 2) k4) - (h (a + 2) k5))))] [.int ((h a 0) - ((h (a + 2) k4) - (h (a + 2) k5)))] (fun _ => rfl) ?_
          cases e
          exact g_ret rfl (fun _ _ => rfl)
      · refine g_run 1 16 [some (.ref a), some (.int x1), some (.int x2), none] [.int (0 : Int32)] (fun _ => rfl) ?_
        cases e
        exact g_ret rfl (fun _ _ => rfl)
def Pk_stageBy (a : Nat) (x1 : Int32) (h : am_F) : Int32 :=
  if x1 ≤ (h a 1) then
    if x1 ≤ 0 then
      (0 : Int32)
    else
      (1 : Int32)
  else
    (2 : Int32)
theorem Pk_stageBy_s {X : Nat × (Nat → Int32)} {l : List (Nat × Nat)} {r : am_R} {h : am_F} {j : am_J} {a : Nat} {x1 : Int32} (ka : Pk_K l r a) : Call X 39 [.ref a, .int x1] (l, r, h, j) (some (.int (Pk_stageBy a x1 h)), (l, r, h, j)) := by
  generalize e : Pk_stageBy a x1 h = q
  unfold Pk_stageBy at e
  refine ⟨Nat.le_of_ble_eq_true rfl, ?_⟩
  show Ev X 39 0 [some (.ref a), some (.int x1)] [] (l, r, h, j) _
  refine g_run 2 2 [some (.ref a), some (.int x1)] [.ref a, .int x1] (fun _ => rfl) ?_
  refine g_getI 5 rfl rfl (Pk_l ka) ?_
  refine g_if (p1 := 10) (L1 := [some (.ref a), some (.int x1)]) (S1 := []) (s1 := (l, r, h, j)) (p2 := 8) (L2 := [some (.ref a), some (.int x1)]) (S2 := []) (s2 := (l, r, h, j)) rfl (fun _ _ => rfl) e (fun c1 e => ?_) (fun c1 e => ?_)
  · refine g_run 1 11 [some (.ref a), some (.int x1)] [.int x1] (fun _ => rfl) ?_
    refine g_if (p1 := 18) (L1 := [some (.ref a), some (.int x1)]) (S1 := []) (s1 := (l, r, h, j)) (p2 := 14) (L2 := [some (.ref a), some (.int x1)]) (S2 := []) (s2 := (l, r, h, j)) rfl (fun _ _ => rfl) e (fun c2 e => ?_) (fun c2 e => ?_)
    · refine g_run 1 19 [some (.ref a), some (.int x1)] [.int (0 : Int32)] (fun _ => rfl) ?_
      cases e
      exact g_ret rfl (fun _ _ => rfl)
    · refine g_run 2 19 [some (.ref a), some (.int x1)] [.int (1 : Int32)] (fun _ => rfl) ?_
      cases e
      exact g_ret rfl (fun _ _ => rfl)
  · refine g_run 1 9 [some (.ref a), some (.int x1)] [.int (2 : Int32)] (fun _ => rfl) ?_
    cases e
    exact g_ret rfl (fun _ _ => rfl)
def Pk_stageOf (a : Nat) (x1 : Int32) (x2 : Int32) (h : am_F) : Option (Int32) :=
  if (Pk_hasBench a x1 h) = 0 then
    some (0 : Int32)
  else
    (g_ix x1 6).bind fun k2 =>
    (Pk_wetness a (h (a + 4) k2) x2 h).bind fun q3 =>
    some (Pk_stageBy a q3 h)
theorem Pk_stageOf_s {X : Nat × (Nat → Int32)} {l : List (Nat × Nat)} {r : am_R} {h : am_F} {j : am_J} {a : Nat} {x1 : Int32} {x2 : Int32} (ka : Pk_K l r a) {q : Int32} (e : Pk_stageOf a x1 x2 h = some q) : Call X 41 [.ref a, .int x1, .int x2] (l, r, h, j) (some (.int q), (l, r, h, j)) := by
  unfold Pk_stageOf at e
  refine ⟨Nat.le_of_ble_eq_true rfl, ?_⟩
  show Ev X 41 0 [some (.ref a), some (.int x1), some (.int x2)] [] (l, r, h, j) _
  refine g_run 2 2 [some (.ref a), some (.int x1), some (.int x2)] [.int x1, .ref a] (fun _ => rfl) ?_
  refine g_cV 5 rfl rfl rfl rfl rfl (Pk_l ka) (Pk_hasBench_s ka) ?_
  refine g_if (p1 := 26) (L1 := [some (.ref a), some (.int x1), some (.int x2)]) (S1 := []) (s1 := (l, r, h, j)) (p2 := 8) (L2 := [some (.ref a), some (.int x1), some (.int x2)]) (S2 := []) (s2 := (l, r, h, j)) rfl (fun _ _ => rfl) e (fun c1 e => ?_) (fun c1 e => ?_)
  · refine g_run 1 27 [some (.ref a), some (.int x1), some (.int x2)] [.int (0 : Int32)] (fun _ => rfl) ?_
    cases e
    exact g_ret rfl (fun _ _ => rfl)
  · refine g_run 3 11 [some (.ref a), some (.int x1), some (.int x2)] [.ref a, .ref a, .ref a] (fun _ => rfl) ?_
    refine g_getA 14 rfl rfl (Pk_l ka) (Pk_r7 ka) ?_
    refine g_run 1 15 [some (.ref a), some (.int x1), some (.int x2)] [.int x1, .ref (a + 4), .ref a, .ref a] (fun _ => rfl) ?_
    obtain ⟨k2, ek2, e⟩ := g_bd e
    refine g_iald 16 rfl rfl (Pk_k7 ka) ek2 ?_
    refine g_run 1 17 [some (.ref a), some (.int x1), some (.int x2)] [.int x2, .int (h (a + 4) k2), .ref a, .ref a] (fun _ => rfl) ?_
    obtain ⟨q3, eq3, e⟩ := g_bd e
    refine g_cV 20 rfl rfl rfl rfl rfl (Pk_l ka) (Pk_wetness_s ka eq3) ?_
    refine g_cV 23 rfl rfl rfl rfl rfl (Pk_l ka) (Pk_stageBy_s ka) ?_
    refine g_run 1 27 [some (.ref a), some (.int x1), some (.int x2)] [.int (Pk_stageBy a q3 h)] (fun _ => rfl) ?_
    cases e
    exact g_ret rfl (fun _ _ => rfl)
def Pk_hasCard (a : Nat) (x1 : Int32) (x2 : Int32) (h : am_F) : Option (Int32) :=
  if (Pk_hasBench a x1 h) = 0 then
    some (0 : Int32)
  else
    (g_ix x1 6).bind fun k2 =>
    if (h (a + 5) k2) = (-1 : Int32) then
      some (0 : Int32)
    else
      (g_ix x1 6).bind fun k4 =>
      if x2 < (h (a + 5) k4) then
        some (0 : Int32)
      else
        (g_ix x1 6).bind fun k6 =>
        if (h (a + 6) k6) < x2 then
          some (0 : Int32)
        else
          some (1 : Int32)
theorem Pk_hasCard_s {X : Nat × (Nat → Int32)} {l : List (Nat × Nat)} {r : am_R} {h : am_F} {j : am_J} {a : Nat} {x1 : Int32} {x2 : Int32} (ka : Pk_K l r a) {q : Int32} (e : Pk_hasCard a x1 x2 h = some q) : Call X 47 [.ref a, .int x1, .int x2] (l, r, h, j) (some (.int q), (l, r, h, j)) := by
  unfold Pk_hasCard at e
  refine ⟨Nat.le_of_ble_eq_true rfl, ?_⟩
  show Ev X 47 0 [some (.ref a), some (.int x1), some (.int x2)] [] (l, r, h, j) _
  refine g_run 2 2 [some (.ref a), some (.int x1), some (.int x2)] [.int x1, .ref a] (fun _ => rfl) ?_
  refine g_cV 5 rfl rfl rfl rfl rfl (Pk_l ka) (Pk_hasBench_s ka) ?_
  refine g_if (p1 := 42) (L1 := [some (.ref a), some (.int x1), some (.int x2)]) (S1 := []) (s1 := (l, r, h, j)) (p2 := 8) (L2 := [some (.ref a), some (.int x1), some (.int x2)]) (S2 := []) (s2 := (l, r, h, j)) rfl (fun _ _ => rfl) e (fun c1 e => ?_) (fun c1 e => ?_)
  · refine g_run 1 43 [some (.ref a), some (.int x1), some (.int x2)] [.int (0 : Int32)] (fun _ => rfl) ?_
    cases e
    exact g_retZ rfl (y := (0 : Int32)) rfl rfl
  · refine g_run 1 9 [some (.ref a), some (.int x1), some (.int x2)] [.ref a] (fun _ => rfl) ?_
    refine g_getA 12 rfl rfl (Pk_l ka) (Pk_r8 ka) ?_
    refine g_run 1 13 [some (.ref a), some (.int x1), some (.int x2)] [.int x1, .ref (a + 5)] (fun _ => rfl) ?_
    obtain ⟨k2, ek2, e⟩ := g_bd e
    refine g_iald 14 rfl rfl (Pk_k8 ka) ek2 ?_
    refine g_run 1 15 [some (.ref a), some (.int x1), some (.int x2)] [.int (-1 : Int32), .int (h (a + 5) k2)] (fun _ => rfl) ?_
    refine g_if (p1 := 42) (L1 := [some (.ref a), some (.int x1), some (.int x2)]) (S1 := []) (s1 := (l, r, h, j)) (p2 := 18) (L2 := [some (.ref a), some (.int x1), some (.int x2)]) (S2 := []) (s2 := (l, r, h, j)) rfl (fun _ _ => rfl) e (fun c3 e => ?_) (fun c3 e => ?_)
    · refine g_run 1 43 [some (.ref a), some (.int x1), some (.int x2)] [.int (0 : Int32)] (fun _ => rfl) ?_
      cases e
      exact g_retZ rfl (y := (0 : Int32)) rfl rfl
    · refine g_run 2 20 [some (.ref a), some (.int x1), some (.int x2)] [.ref a, .int x2] (fun _ => rfl) ?_
      refine g_getA 23 rfl rfl (Pk_l ka) (Pk_r8 ka) ?_
      refine g_run 1 24 [some (.ref a), some (.int x1), some (.int x2)] [.int x1, .ref (a + 5), .int x2] (fun _ => rfl) ?_
      obtain ⟨k4, ek4, e⟩ := g_bd e
      refine g_iald 25 rfl rfl (Pk_k8 ka) ek4 ?_
      refine g_if (p1 := 42) (L1 := [some (.ref a), some (.int x1), some (.int x2)]) (S1 := []) (s1 := (l, r, h, j)) (p2 := 28) (L2 := [some (.ref a), some (.int x1), some (.int x2)]) (S2 := []) (s2 := (l, r, h, j)) rfl (fun _ _ => rfl) e (fun c5 e => ?_) (fun c5 e => ?_)
      · refine g_run 1 43 [some (.ref a), some (.int x1), some (.int x2)] [.int (0 : Int32)] (fun _ => rfl) ?_
        cases e
        exact g_retZ rfl (y := (0 : Int32)) rfl rfl
      · refine g_run 2 30 [some (.ref a), some (.int x1), some (.int x2)] [.ref a, .int x2] (fun _ => rfl) ?_
        refine g_getA 33 rfl rfl (Pk_l ka) (Pk_r9 ka) ?_
        refine g_run 1 34 [some (.ref a), some (.int x1), some (.int x2)] [.int x1, .ref (a + 6), .int x2] (fun _ => rfl) ?_
        obtain ⟨k6, ek6, e⟩ := g_bd e
        refine g_iald 35 rfl rfl (Pk_k9 ka) ek6 ?_
        refine g_if (p1 := 42) (L1 := [some (.ref a), some (.int x1), some (.int x2)]) (S1 := []) (s1 := (l, r, h, j)) (p2 := 38) (L2 := [some (.ref a), some (.int x1), some (.int x2)]) (S2 := []) (s2 := (l, r, h, j)) rfl (fun _ _ => rfl) e (fun c7 e => ?_) (fun c7 e => ?_)
        · refine g_run 1 43 [some (.ref a), some (.int x1), some (.int x2)] [.int (0 : Int32)] (fun _ => rfl) ?_
          cases e
          exact g_retZ rfl (y := (0 : Int32)) rfl rfl
        · refine g_run 2 43 [some (.ref a), some (.int x1), some (.int x2)] [.int (1 : Int32)] (fun _ => rfl) ?_
          cases e
          exact g_retZ rfl (y := (1 : Int32)) rfl rfl
def Wp_atStage (x0 : Int32) (x1 : Int32) : Option (Int32) :=
  if x1 = (2 : Int32) then
    some x0
  else
    if x1 = (1 : Int32) then
      some (x0 / (2 : Int32))
    else
      some (0 : Int32)
theorem Wp_atStage_s {X : Nat × (Nat → Int32)} {l : List (Nat × Nat)} {r : am_R} {h : am_F} {j : am_J} {x0 : Int32} {x1 : Int32}  {q : Int32} (e : Wp_atStage x0 x1 = some q) : Call X 141 [.int x0, .int x1] (l, r, h, j) (some (.int q), (l, r, h, j)) := by
  unfold Wp_atStage at e
  refine ⟨Nat.le_of_ble_eq_true rfl, ?_⟩
  show Ev X 141 0 [some (.int x0), some (.int x1)] [] (l, r, h, j) _
  refine g_run 2 2 [some (.int x0), some (.int x1)] [.int (2 : Int32), .int x1] (fun _ => rfl) ?_
  refine g_if (p1 := 5) (L1 := [some (.int x0), some (.int x1)]) (S1 := []) (s1 := (l, r, h, j)) (p2 := 7) (L2 := [some (.int x0), some (.int x1)]) (S2 := []) (s2 := (l, r, h, j)) rfl (fun _ _ => rfl) e (fun c1 e => ?_) (fun c1 e => ?_)
  · refine g_run 1 6 [some (.int x0), some (.int x1)] [.int x0] (fun _ => rfl) ?_
    cases e
    exact g_ret rfl (fun _ _ => rfl)
  · refine g_run 2 9 [some (.int x0), some (.int x1)] [.int (1 : Int32), .int x1] (fun _ => rfl) ?_
    refine g_if (p1 := 12) (L1 := [some (.int x0), some (.int x1)]) (S1 := []) (s1 := (l, r, h, j)) (p2 := 18) (L2 := [some (.int x0), some (.int x1)]) (S2 := []) (s2 := (l, r, h, j)) rfl (fun _ _ => rfl) e (fun c2 e => ?_) (fun c2 e => ?_)
    · refine g_run 4 19 [some (.int x0), some (.int x1)] [.int (x0 / (2 : Int32))] (fun _ => rfl) ?_
      cases e
      exact g_ret rfl (fun _ _ => rfl)
    · refine g_run 1 19 [some (.int x0), some (.int x1)] [.int (0 : Int32)] (fun _ => rfl) ?_
      cases e
      exact g_ret rfl (fun _ _ => rfl)
def Dy_latestPrint (a : Nat) (x1 : Int32) (x2 : Int32) (h : am_F) : Option (Int32) :=
  if x1 < 0 then
    some (-1 : Int32)
  else
    if (6 : Int32) ≤ x1 then
      some (-1 : Int32)
    else
      (g_ix x1 6).bind fun k3 =>
      if (h (a + 5) k3) = (-1 : Int32) then
        some (-1 : Int32)
      else
        (g_ix x1 6).bind fun k5 =>
        if (x2 - (h (a + 5) k5)) ≤ (3 : Int32) then
          (g_ix x1 6).bind fun k7 =>
          some (h (a + 6) k7)
        else
          some (-1 : Int32)
theorem Dy_latestPrint_s {X : Nat × (Nat → Int32)} {l : List (Nat × Nat)} {r : am_R} {h : am_F} {j : am_J} {a : Nat} {x1 : Int32} {x2 : Int32} (ka : Dy_K l r a) {q : Int32} (e : Dy_latestPrint a x1 x2 h = some q) : Call X 12 [.ref a, .int x1, .int x2] (l, r, h, j) (some (.int q), (l, r, h, j)) := by
  unfold Dy_latestPrint at e
  refine ⟨Nat.le_of_ble_eq_true rfl, ?_⟩
  show Ev X 12 0 [some (.ref a), some (.int x1), some (.int x2)] [] (l, r, h, j) _
  refine g_run 1 1 [some (.ref a), some (.int x1), some (.int x2)] [.int x1] (fun _ => rfl) ?_
  refine g_if (p1 := 20) (L1 := [some (.ref a), some (.int x1), some (.int x2)]) (S1 := []) (s1 := (l, r, h, j)) (p2 := 4) (L2 := [some (.ref a), some (.int x1), some (.int x2)]) (S2 := []) (s2 := (l, r, h, j)) rfl (fun _ _ => rfl) e (fun c1 e => ?_) (fun c1 e => ?_)
  · refine g_run 1 21 [some (.ref a), some (.int x1), some (.int x2)] [.int (-1 : Int32)] (fun _ => rfl) ?_
    cases e
    exact g_ret rfl (fun _ _ => rfl)
  · refine g_run 2 7 [some (.ref a), some (.int x1), some (.int x2)] [.int (6 : Int32), .int x1] (fun _ => rfl) ?_
    refine g_if (p1 := 20) (L1 := [some (.ref a), some (.int x1), some (.int x2)]) (S1 := []) (s1 := (l, r, h, j)) (p2 := 10) (L2 := [some (.ref a), some (.int x1), some (.int x2)]) (S2 := []) (s2 := (l, r, h, j)) rfl (fun _ _ => rfl) e (fun c2 e => ?_) (fun c2 e => ?_)
    · refine g_run 1 21 [some (.ref a), some (.int x1), some (.int x2)] [.int (-1 : Int32)] (fun _ => rfl) ?_
      cases e
      exact g_ret rfl (fun _ _ => rfl)
    · refine g_run 1 11 [some (.ref a), some (.int x1), some (.int x2)] [.ref a] (fun _ => rfl) ?_
      refine g_getA 14 rfl rfl (Dy_l ka) (Dy_r9 ka) ?_
      refine g_run 1 15 [some (.ref a), some (.int x1), some (.int x2)] [.int x1, .ref (a + 5)] (fun _ => rfl) ?_
      obtain ⟨k3, ek3, e⟩ := g_bd e
      refine g_iald 16 rfl rfl (Dy_k9 ka) ek3 ?_
      refine g_run 1 17 [some (.ref a), some (.int x1), some (.int x2)] [.int (-1 : Int32), .int (h (a + 5) k3)] (fun _ => rfl) ?_
      refine g_if (p1 := 20) (L1 := [some (.ref a), some (.int x1), some (.int x2)]) (S1 := []) (s1 := (l, r, h, j)) (p2 := 22) (L2 := [some (.ref a), some (.int x1), some (.int x2)]) (S2 := []) (s2 := (l, r, h, j)) rfl (fun _ _ => rfl) e (fun c4 e => ?_) (fun c4 e => ?_)
      · refine g_run 1 21 [some (.ref a), some (.int x1), some (.int x2)] [.int (-1 : Int32)] (fun _ => rfl) ?_
        cases e
        exact g_ret rfl (fun _ _ => rfl)
      · refine g_run 2 24 [some (.ref a), some (.int x1), some (.int x2)] [.ref a, .int x2] (fun _ => rfl) ?_
        refine g_getA 27 rfl rfl (Dy_l ka) (Dy_r9 ka) ?_
        refine g_run 1 28 [some (.ref a), some (.int x1), some (.int x2)] [.int x1, .ref (a + 5), .int x2] (fun _ => rfl) ?_
        obtain ⟨k5, ek5, e⟩ := g_bd e
        refine g_iald 29 rfl rfl (Dy_k9 ka) ek5 ?_
        refine g_run 2 31 [some (.ref a), some (.int x1), some (.int x2)] [.int (3 : Int32), .int (x2 - (h (a + 5) k5))] (fun _ => rfl) ?_
        refine g_if (p1 := 38) (L1 := [some (.ref a), some (.int x1), some (.int x2)]) (S1 := []) (s1 := (l, r, h, j)) (p2 := 34) (L2 := [some (.ref a), some (.int x1), some (.int x2)]) (S2 := []) (s2 := (l, r, h, j)) rfl (fun _ _ => rfl) e (fun c6 e => ?_) (fun c6 e => ?_)
        · refine g_run 1 39 [some (.ref a), some (.int x1), some (.int x2)] [.ref a] (fun _ => rfl) ?_
          refine g_getA 42 rfl rfl (Dy_l ka) (Dy_r10 ka) ?_
          refine g_run 1 43 [some (.ref a), some (.int x1), some (.int x2)] [.int x1, .ref (a + 6)] (fun _ => rfl) ?_
          obtain ⟨k7, ek7, e⟩ := g_bd e
          refine g_iald 44 rfl rfl (Dy_k10 ka) ek7 ?_
          cases e
          exact g_ret rfl (fun _ _ => rfl)
        · refine g_run 2 44 [some (.ref a), some (.int x1), some (.int x2)] [.int (-1 : Int32)] (fun _ => rfl) ?_
          cases e
          exact g_ret rfl (fun _ _ => rfl)
def Dy_choose (l : List (Nat × Nat)) (r : am_R) (a : Nat) (x1 : Nat) (x2 : Int32) (x3 : Int32) (x4 : Int32) (h : am_F) : Option (Int32) :=
  (Rw_get l r (x1 + 11) x2 (2 : Int32) h).bind fun q1 =>
  (if x3 = 0 then
      some (2 : Int32)
    else
      some (1 : Int32) : Option (Int32)).bind fun q4 =>
  (Rw_get l r (x1 + 11) x2 (0 : Int32) h).bind fun q5 =>
  if q5 = (0 : Int32) then
    if x4 = 0 then
      some (3 : Int32)
    else
      some (0 : Int32)
  else if q5 = (1 : Int32) then
    some q4
  else if q5 = (2 : Int32) then
    (Rw_get l r (x1 + 11) x2 (1 : Int32) h).bind fun q9 =>
    (Dy_latestPrint a q1 q9 h).bind fun q10 =>
    if q10 = (-1 : Int32) then
      some (3 : Int32)
    else
      if q10 = (2 : Int32) then
        some (0 : Int32)
      else
        some q4
  else if q5 = (3 : Int32) then
    if (Pk_hasBench x1 q1 h) = 0 then
      some (0 : Int32)
    else
      (g_ix q1 6).bind fun k15 =>
      if (h (a + 7) k15) = (1 : Int32) then
        some (3 : Int32)
      else
        some (0 : Int32)
  else 
    (Rw_get l r (x1 + 11) x2 (3 : Int32) h).bind fun q18 =>
    (Rw_get l r (x1 + 11) x2 (4 : Int32) h).bind fun q19 =>
    (Wp_atStage q19 x3).bind fun q20 =>
    if q18 ≤ q20 then
      some (0 : Int32)
    else
      some (3 : Int32)
theorem Dy_choose_s {X : Nat × (Nat → Int32)} {l : List (Nat × Nat)} {r : am_R} {h : am_F} {j : am_J} {a : Nat} {x1 : Nat} {x2 : Int32} {x3 : Int32} {x4 : Int32} (ka : Dy_K l r a) (kx1 : Pk_K l r x1) {q : Int32} (e : Dy_choose l r a x1 x2 x3 x4 h = some q) : Call X 11 [.ref a, .ref x1, .int x2, .int x3, .int x4] (l, r, h, j) (some (.int q), (l, r, h, j)) := by
  unfold Dy_choose at e
  refine ⟨Nat.le_of_ble_eq_true rfl, ?_⟩
  show Ev X 11 0 [some (.ref a), some (.ref x1), some (.int x2), some (.int x3), some (.int x4), none, none, none] [] (l, r, h, j) _
  refine g_run 1 1 [some (.ref a), some (.ref x1), some (.int x2), some (.int x3), some (.int x4), none, none, none] [.ref x1] (fun _ => rfl) ?_
  refine g_getA 4 rfl rfl (Pk_l kx1) (Pk_r12 kx1) ?_
  refine g_run 2 6 [some (.ref a), some (.ref x1), some (.int x2), some (.int x3), some (.int x4), none, none, none] [.int (2 : Int32), .int x2, .ref (x1 + 11)] (fun _ => rfl) ?_
  obtain ⟨q1, eq1, e⟩ := g_bd e
  refine g_cV 9 rfl rfl rfl rfl rfl (Rw_l (Pk_k12 kx1)) (Rw_get_s (Pk_k12 kx1) eq1) ?_
  refine g_run 2 12 [some (.ref a), some (.ref x1), some (.int x2), some (.int x3), some (.int x4), some (.int q1), none, none] [.int x3] (fun _ => rfl) ?_
  obtain ⟨q4, eq4, e⟩ := g_bd e
  have hjq4 : ∀ (_ : True), Ev X 11 20 [some (.ref a), some (.ref x1), some (.int x2), some (.int x3), some (.int x4), some (.int q1), none, none] [.int q4] (l, r, h, j) (some (.int q), (l, r, h, j)) := by
    intro _
    refine g_run 2 23 [some (.ref a), some (.ref x1), some (.int x2), some (.int x3), some (.int x4), some (.int q1), some (.int q4), none] [.ref x1] (fun _ => rfl) ?_
    refine g_getA 26 rfl rfl (Pk_l kx1) (Pk_r12 kx1) ?_
    refine g_run 2 28 [some (.ref a), some (.ref x1), some (.int x2), some (.int x3), some (.int x4), some (.int q1), some (.int q4), none] [.int (0 : Int32), .int x2, .ref (x1 + 11)] (fun _ => rfl) ?_
    obtain ⟨q5, eq5, e⟩ := g_bd e
    refine g_cV 31 rfl rfl rfl rfl rfl (Rw_l (Pk_k12 kx1)) (Rw_get_s (Pk_k12 kx1) eq5) ?_
    by_cases c7 : q5 = (0 : Int32)
    · replace e := (if_pos c7).symm.trans e
      refine g_sw (p1 := 60) (L1 := [some (.ref a), some (.ref x1), some (.int x2), some (.int x3), some (.int x4), some (.int q1), some (.int q4), none]) (S1 := []) (s1 := (l, r, h, j)) rfl c7 (fun _ _ => rfl) ?_
      refine g_run 1 62 [some (.ref a), some (.ref x1), some (.int x2), some (.int x3), some (.int x4), some (.int q1), some (.int q4), none] [.int x4] (fun _ => rfl) ?_
      refine g_if (p1 := 69) (L1 := [some (.ref a), some (.ref x1), some (.int x2), some (.int x3), some (.int x4), some (.int q1), some (.int q4), none]) (S1 := []) (s1 := (l, r, h, j)) (p2 := 65) (L2 := [some (.ref a), some (.ref x1), some (.int x2), some (.int x3), some (.int x4), some (.int q1), some (.int q4), none]) (S2 := []) (s2 := (l, r, h, j)) rfl (fun _ _ => rfl) e (fun c6 e => ?_) (fun c6 e => ?_)
      · refine g_run 1 70 [some (.ref a), some (.ref x1), some (.int x2), some (.int x3), some (.int x4), some (.int q1), some (.int q4), none] [.int (3 : Int32)] (fun _ => rfl) ?_
        cases e
        exact g_ret rfl (fun _ _ => rfl)
      · refine g_run 2 70 [some (.ref a), some (.ref x1), some (.int x2), some (.int x3), some (.int x4), some (.int q1), some (.int q4), none] [.int (0 : Int32)] (fun _ => rfl) ?_
        cases e
        exact g_ret rfl (fun _ _ => rfl)
    replace e := (if_neg c7).symm.trans e
    by_cases c8 : q5 = (1 : Int32)
    · replace e := (if_pos c8).symm.trans e
      refine g_sw (p1 := 71) (L1 := [some (.ref a), some (.ref x1), some (.int x2), some (.int x3), some (.int x4), some (.int q1), some (.int q4), none]) (S1 := []) (s1 := (l, r, h, j)) rfl c8 (fun _ _ => rfl) ?_
      refine g_run 1 73 [some (.ref a), some (.ref x1), some (.int x2), some (.int x3), some (.int x4), some (.int q1), some (.int q4), none] [.int q4] (fun _ => rfl) ?_
      cases e
      exact g_ret rfl (fun _ _ => rfl)
    replace e := (if_neg c8).symm.trans e
    by_cases c13 : q5 = (2 : Int32)
    · replace e := (if_pos c13).symm.trans e
      refine g_sw (p1 := 74) (L1 := [some (.ref a), some (.ref x1), some (.int x2), some (.int x3), some (.int x4), some (.int q1), some (.int q4), none]) (S1 := []) (s1 := (l, r, h, j)) rfl c13 (fun _ _ => rfl) ?_
      refine g_run 4 138 [some (.ref a), some (.ref x1), some (.int x2), some (.int x3), some (.int x4), some (.int q1), some (.int q4), none] [.ref x1, .int q1, .ref a] (fun _ => rfl) ?_
      refine g_getA 141 rfl rfl (Pk_l kx1) (Pk_r12 kx1) ?_
      refine g_run 2 143 [some (.ref a), some (.ref x1), some (.int x2), some (.int x3), some (.int x4), some (.int q1), some (.int q4), none] [.int (1 : Int32), .int x2, .ref (x1 + 11), .int q1, .ref a] (fun _ => rfl) ?_
      obtain ⟨q9, eq9, e⟩ := g_bd e
      refine g_cV 146 rfl rfl rfl rfl rfl (Rw_l (Pk_k12 kx1)) (Rw_get_s (Pk_k12 kx1) eq9) ?_
      obtain ⟨q10, eq10, e⟩ := g_bd e
      refine g_cV 149 rfl rfl rfl rfl rfl (Dy_l ka) (Dy_latestPrint_s ka eq10) ?_
      refine g_run 3 154 [some (.ref a), some (.ref x1), some (.int x2), some (.int x3), some (.int x4), some (.int q1), some (.int q4), some (.int q10)] [.int (-1 : Int32), .int q10] (fun _ => rfl) ?_
      refine g_if (p1 := 157) (L1 := [some (.ref a), some (.ref x1), some (.int x2), some (.int x3), some (.int x4), some (.int q1), some (.int q4), some (.int q10)]) (S1 := []) (s1 := (l, r, h, j)) (p2 := 159) (L2 := [some (.ref a), some (.ref x1), some (.int x2), some (.int x3), some (.int x4), some (.int q1), some (.int q4), some (.int q10)]) (S2 := []) (s2 := (l, r, h, j)) rfl (fun _ _ => rfl) e (fun c11 e => ?_) (fun c11 e => ?_)
      · refine g_run 1 158 [some (.ref a), some (.ref x1), some (.int x2), some (.int x3), some (.int x4), some (.int q1), some (.int q4), some (.int q10)] [.int (3 : Int32)] (fun _ => rfl) ?_
        cases e
        exact g_ret rfl (fun _ _ => rfl)
      · refine g_run 2 162 [some (.ref a), some (.ref x1), some (.int x2), some (.int x3), some (.int x4), some (.int q1), some (.int q4), some (.int q10)] [.int (2 : Int32), .int q10] (fun _ => rfl) ?_
        refine g_if (p1 := 165) (L1 := [some (.ref a), some (.ref x1), some (.int x2), some (.int x3), some (.int x4), some (.int q1), some (.int q4), some (.int q10)]) (S1 := []) (s1 := (l, r, h, j)) (p2 := 169) (L2 := [some (.ref a), some (.ref x1), some (.int x2), some (.int x3), some (.int x4), some (.int q1), some (.int q4), some (.int q10)]) (S2 := []) (s2 := (l, r, h, j)) rfl (fun _ _ => rfl) e (fun c12 e => ?_) (fun c12 e => ?_)
        · refine g_run 2 171 [some (.ref a), some (.ref x1), some (.int x2), some (.int x3), some (.int x4), some (.int q1), some (.int q4), some (.int q10)] [.int (0 : Int32)] (fun _ => rfl) ?_
          cases e
          exact g_ret rfl (fun _ _ => rfl)
        · refine g_run 1 171 [some (.ref a), some (.ref x1), some (.int x2), some (.int x3), some (.int x4), some (.int q1), some (.int q4), some (.int q10)] [.int q4] (fun _ => rfl) ?_
          cases e
          exact g_ret rfl (fun _ _ => rfl)
    replace e := (if_neg c13).symm.trans e
    by_cases c17 : q5 = (3 : Int32)
    · replace e := (if_pos c17).symm.trans e
      refine g_sw (p1 := 77) (L1 := [some (.ref a), some (.ref x1), some (.int x2), some (.int x3), some (.int x4), some (.int q1), some (.int q4), none]) (S1 := []) (s1 := (l, r, h, j)) rfl c17 (fun _ _ => rfl) ?_
      refine g_run 2 80 [some (.ref a), some (.ref x1), some (.int x2), some (.int x3), some (.int x4), some (.int q1), some (.int q4), none] [.int q1, .ref x1] (fun _ => rfl) ?_
      refine g_cV 83 rfl rfl rfl rfl rfl (Pk_l kx1) (Pk_hasBench_s kx1) ?_
      refine g_if (p1 := 101) (L1 := [some (.ref a), some (.ref x1), some (.int x2), some (.int x3), some (.int x4), some (.int q1), some (.int q4), none]) (S1 := []) (s1 := (l, r, h, j)) (p2 := 86) (L2 := [some (.ref a), some (.ref x1), some (.int x2), some (.int x3), some (.int x4), some (.int q1), some (.int q4), none]) (S2 := []) (s2 := (l, r, h, j)) rfl (fun _ _ => rfl) e (fun c14 e => ?_) (fun c14 e => ?_)
      · refine g_run 1 102 [some (.ref a), some (.ref x1), some (.int x2), some (.int x3), some (.int x4), some (.int q1), some (.int q4), none] [.int (0 : Int32)] (fun _ => rfl) ?_
        cases e
        exact g_ret rfl (fun _ _ => rfl)
      · refine g_run 1 87 [some (.ref a), some (.ref x1), some (.int x2), some (.int x3), some (.int x4), some (.int q1), some (.int q4), none] [.ref a] (fun _ => rfl) ?_
        refine g_getA 90 rfl rfl (Dy_l ka) (Dy_r11 ka) ?_
        refine g_run 1 92 [some (.ref a), some (.ref x1), some (.int x2), some (.int x3), some (.int x4), some (.int q1), some (.int q4), none] [.int q1, .ref (a + 7)] (fun _ => rfl) ?_
        obtain ⟨k15, ek15, e⟩ := g_bd e
        refine g_iald 93 rfl rfl (Dy_k11 ka) ek15 ?_
        refine g_run 1 94 [some (.ref a), some (.ref x1), some (.int x2), some (.int x3), some (.int x4), some (.int q1), some (.int q4), none] [.int (1 : Int32), .int (h (a + 7) k15)] (fun _ => rfl) ?_
        refine g_if (p1 := 97) (L1 := [some (.ref a), some (.ref x1), some (.int x2), some (.int x3), some (.int x4), some (.int q1), some (.int q4), none]) (S1 := []) (s1 := (l, r, h, j)) (p2 := 101) (L2 := [some (.ref a), some (.ref x1), some (.int x2), some (.int x3), some (.int x4), some (.int q1), some (.int q4), none]) (S2 := []) (s2 := (l, r, h, j)) rfl (fun _ _ => rfl) e (fun c16 e => ?_) (fun c16 e => ?_)
        · refine g_run 2 102 [some (.ref a), some (.ref x1), some (.int x2), some (.int x3), some (.int x4), some (.int q1), some (.int q4), none] [.int (3 : Int32)] (fun _ => rfl) ?_
          cases e
          exact g_ret rfl (fun _ _ => rfl)
        · refine g_run 1 102 [some (.ref a), some (.ref x1), some (.int x2), some (.int x3), some (.int x4), some (.int q1), some (.int q4), none] [.int (0 : Int32)] (fun _ => rfl) ?_
          cases e
          exact g_ret rfl (fun _ _ => rfl)
    replace e := (if_neg c17).symm.trans e
    have ic7 : (Int32.toInt q5) ≠ 0 := g_ne c7
    have ic8 : (Int32.toInt q5) ≠ 1 := g_ne c8
    have ic13 : (Int32.toInt q5) ≠ 2 := g_ne c13
    have ic17 : (Int32.toInt q5) ≠ 3 := g_ne c17
    refine g_swd (p1 := 103) (L1 := [some (.ref a), some (.ref x1), some (.int x2), some (.int x3), some (.int x4), some (.int q1), some (.int q4), none]) (S1 := []) (s1 := (l, r, h, j)) (x := q5) (lo := 0) (hi := 3) rfl (fun _ _ => rfl) (by omega) ?_
    refine g_run 1 104 [some (.ref a), some (.ref x1), some (.int x2), some (.int x3), some (.int x4), some (.int q1), some (.int q4), none] [.ref x1] (fun _ => rfl) ?_
    refine g_getA 107 rfl rfl (Pk_l kx1) (Pk_r12 kx1) ?_
    refine g_run 2 109 [some (.ref a), some (.ref x1), some (.int x2), some (.int x3), some (.int x4), some (.int q1), some (.int q4), none] [.int (3 : Int32), .int x2, .ref (x1 + 11)] (fun _ => rfl) ?_
    obtain ⟨q18, eq18, e⟩ := g_bd e
    refine g_cV 112 rfl rfl rfl rfl rfl (Rw_l (Pk_k12 kx1)) (Rw_get_s (Pk_k12 kx1) eq18) ?_
    refine g_run 1 113 [some (.ref a), some (.ref x1), some (.int x2), some (.int x3), some (.int x4), some (.int q1), some (.int q4), none] [.ref x1, .int q18] (fun _ => rfl) ?_
    refine g_getA 116 rfl rfl (Pk_l kx1) (Pk_r12 kx1) ?_
    refine g_run 2 118 [some (.ref a), some (.ref x1), some (.int x2), some (.int x3), some (.int x4), some (.int q1), some (.int q4), none] [.int (4 : Int32), .int x2, .ref (x1 + 11), .int q18] (fun _ => rfl) ?_
    obtain ⟨q19, eq19, e⟩ := g_bd e
    refine g_cV 121 rfl rfl rfl rfl rfl (Rw_l (Pk_k12 kx1)) (Rw_get_s (Pk_k12 kx1) eq19) ?_
    refine g_run 1 122 [some (.ref a), some (.ref x1), some (.int x2), some (.int x3), some (.int x4), some (.int q1), some (.int q4), none] [.int x3, .int q19, .int q18] (fun _ => rfl) ?_
    obtain ⟨q20, eq20, e⟩ := g_bd e
    refine g_cS 125 rfl rfl (by decide) rfl rfl rfl (Wp_atStage_s eq20) ?_
    refine g_if (p1 := 132) (L1 := [some (.ref a), some (.ref x1), some (.int x2), some (.int x3), some (.int x4), some (.int q1), some (.int q4), none]) (S1 := []) (s1 := (l, r, h, j)) (p2 := 128) (L2 := [some (.ref a), some (.ref x1), some (.int x2), some (.int x3), some (.int x4), some (.int q1), some (.int q4), none]) (S2 := []) (s2 := (l, r, h, j)) rfl (fun _ _ => rfl) e (fun c21 e => ?_) (fun c21 e => ?_)
    · refine g_run 1 133 [some (.ref a), some (.ref x1), some (.int x2), some (.int x3), some (.int x4), some (.int q1), some (.int q4), none] [.int (0 : Int32)] (fun _ => rfl) ?_
      cases e
      exact g_ret rfl (fun _ _ => rfl)
    · refine g_run 2 133 [some (.ref a), some (.ref x1), some (.int x2), some (.int x3), some (.int x4), some (.int q1), some (.int q4), none] [.int (3 : Int32)] (fun _ => rfl) ?_
      cases e
      exact g_ret rfl (fun _ _ => rfl)
  replace e := eq4
  refine g_if (p1 := 15) (L1 := [some (.ref a), some (.ref x1), some (.int x2), some (.int x3), some (.int x4), some (.int q1), none, none]) (S1 := []) (s1 := (l, r, h, j)) (p2 := 19) (L2 := [some (.ref a), some (.ref x1), some (.int x2), some (.int x3), some (.int x4), some (.int q1), none, none]) (S2 := []) (s2 := (l, r, h, j)) rfl (fun _ _ => rfl) e (fun c2 e => ?_) (fun c2 e => ?_)
  · refine g_run 2 20 [some (.ref a), some (.ref x1), some (.int x2), some (.int x3), some (.int x4), some (.int q1), none, none] [.int (2 : Int32)] (fun _ => rfl) ?_
    cases e
    exact hjq4 trivial
  · refine g_run 1 20 [some (.ref a), some (.ref x1), some (.int x2), some (.int x3), some (.int x4), some (.int q1), none, none] [.int (1 : Int32)] (fun _ => rfl) ?_
    cases e
    exact hjq4 trivial
def Rw_has (a : Nat) (x1 : Int32) (x2 : Int32) (h : am_F) : Int32 :=
  if x1 < 0 then
    (0 : Int32)
  else
    if (h a 3) ≤ x1 then
      (0 : Int32)
    else
      if x2 < 0 then
        (0 : Int32)
      else
        if (h a 0) ≤ x2 then
          (0 : Int32)
        else
          (1 : Int32)
theorem Rw_has_s {X : Nat × (Nat → Int32)} {l : List (Nat × Nat)} {r : am_R} {h : am_F} {j : am_J} {a : Nat} {x1 : Int32} {x2 : Int32} (ka : Rw_K l r a) : Call X 78 [.ref a, .int x1, .int x2] (l, r, h, j) (some (.int (Rw_has a x1 x2 h)), (l, r, h, j)) := by
  generalize e : Rw_has a x1 x2 h = q
  unfold Rw_has at e
  refine ⟨Nat.le_of_ble_eq_true rfl, ?_⟩
  show Ev X 78 0 [some (.ref a), some (.int x1), some (.int x2)] [] (l, r, h, j) _
  refine g_run 1 1 [some (.ref a), some (.int x1), some (.int x2)] [.int x1] (fun _ => rfl) ?_
  refine g_if (p1 := 28) (L1 := [some (.ref a), some (.int x1), some (.int x2)]) (S1 := []) (s1 := (l, r, h, j)) (p2 := 4) (L2 := [some (.ref a), some (.int x1), some (.int x2)]) (S2 := []) (s2 := (l, r, h, j)) rfl (fun _ _ => rfl) e (fun c1 e => ?_) (fun c1 e => ?_)
  · refine g_run 1 29 [some (.ref a), some (.int x1), some (.int x2)] [.int (0 : Int32)] (fun _ => rfl) ?_
    cases e
    exact g_retZ rfl (y := (0 : Int32)) rfl rfl
  · refine g_run 2 6 [some (.ref a), some (.int x1), some (.int x2)] [.ref a, .int x1] (fun _ => rfl) ?_
    refine g_getI 9 rfl rfl (Rw_l ka) ?_
    refine g_if (p1 := 28) (L1 := [some (.ref a), some (.int x1), some (.int x2)]) (S1 := []) (s1 := (l, r, h, j)) (p2 := 12) (L2 := [some (.ref a), some (.int x1), some (.int x2)]) (S2 := []) (s2 := (l, r, h, j)) rfl (fun _ _ => rfl) e (fun c2 e => ?_) (fun c2 e => ?_)
    · refine g_run 1 29 [some (.ref a), some (.int x1), some (.int x2)] [.int (0 : Int32)] (fun _ => rfl) ?_
      cases e
      exact g_retZ rfl (y := (0 : Int32)) rfl rfl
    · refine g_run 1 13 [some (.ref a), some (.int x1), some (.int x2)] [.int x2] (fun _ => rfl) ?_
      refine g_if (p1 := 28) (L1 := [some (.ref a), some (.int x1), some (.int x2)]) (S1 := []) (s1 := (l, r, h, j)) (p2 := 16) (L2 := [some (.ref a), some (.int x1), some (.int x2)]) (S2 := []) (s2 := (l, r, h, j)) rfl (fun _ _ => rfl) e (fun c3 e => ?_) (fun c3 e => ?_)
      · refine g_run 1 29 [some (.ref a), some (.int x1), some (.int x2)] [.int (0 : Int32)] (fun _ => rfl) ?_
        cases e
        exact g_retZ rfl (y := (0 : Int32)) rfl rfl
      · refine g_run 2 18 [some (.ref a), some (.int x1), some (.int x2)] [.ref a, .int x2] (fun _ => rfl) ?_
        refine g_getI 21 rfl rfl (Rw_l ka) ?_
        refine g_if (p1 := 28) (L1 := [some (.ref a), some (.int x1), some (.int x2)]) (S1 := []) (s1 := (l, r, h, j)) (p2 := 24) (L2 := [some (.ref a), some (.int x1), some (.int x2)]) (S2 := []) (s2 := (l, r, h, j)) rfl (fun _ _ => rfl) e (fun c4 e => ?_) (fun c4 e => ?_)
        · refine g_run 1 29 [some (.ref a), some (.int x1), some (.int x2)] [.int (0 : Int32)] (fun _ => rfl) ?_
          cases e
          exact g_retZ rfl (y := (0 : Int32)) rfl rfl
        · refine g_run 2 29 [some (.ref a), some (.int x1), some (.int x2)] [.int (1 : Int32)] (fun _ => rfl) ?_
          cases e
          exact g_retZ rfl (y := (1 : Int32)) rfl rfl
def Rw_set (l : List (Nat × Nat)) (r : am_R) (a : Nat) (x1 : Int32) (x2 : Int32) (x3 : Int32) (h : am_F) : Option (am_F) :=
  if (Rw_has a x1 x2 h) = 0 then
    some h
  else
    (g_ix ((x1 * (h a 0)) + x2) (g_ln l (a + 1))).bind fun k2 =>
    some (am_up h (a + 1) k2 x3)
theorem Rw_set_s {X : Nat × (Nat → Int32)} {l : List (Nat × Nat)} {r : am_R} {h : am_F} {j : am_J} {a : Nat} {x1 : Int32} {x2 : Int32} {x3 : Int32} (ka : Rw_K l r a) {q : am_F} (e : Rw_set l r a x1 x2 x3 h = some q) : Call X 81 [.ref a, .int x1, .int x2, .int x3] (l, r, h, j) (none, (l, r, q, j)) := by
  unfold Rw_set at e
  refine ⟨Nat.le_of_ble_eq_true rfl, ?_⟩
  show Ev X 81 0 [some (.ref a), some (.int x1), some (.int x2), some (.int x3)] [] (l, r, h, j) _
  refine g_run 3 3 [some (.ref a), some (.int x1), some (.int x2), some (.int x3)] [.int x2, .int x1, .ref a] (fun _ => rfl) ?_
  refine g_cV 6 rfl rfl rfl rfl rfl (Rw_l ka) (Rw_has_s ka) ?_
  refine g_if (p1 := 23) (L1 := [some (.ref a), some (.int x1), some (.int x2), some (.int x3)]) (S1 := []) (s1 := (l, r, h, j)) (p2 := 9) (L2 := [some (.ref a), some (.int x1), some (.int x2), some (.int x3)]) (S2 := []) (s2 := (l, r, h, j)) rfl (fun _ _ => rfl) e (fun c1 e => ?_) (fun c1 e => ?_)
  · cases e
    exact g_ret rfl (fun _ _ => rfl)
  · refine g_run 1 10 [some (.ref a), some (.int x1), some (.int x2), some (.int x3)] [.ref a] (fun _ => rfl) ?_
    refine g_getA 13 rfl rfl (Rw_l ka) (Rw_r2 ka) ?_
    refine g_run 2 15 [some (.ref a), some (.int x1), some (.int x2), some (.int x3)] [.ref a, .int x1, .ref (a + 1)] (fun _ => rfl) ?_
    refine g_getI 18 rfl rfl (Rw_l ka) ?_
    refine g_run 4 22 [some (.ref a), some (.int x1), some (.int x2), some (.int x3)] [.int x3, .int ((x1 * (h a 0)) + x2), .ref (a + 1)] (fun _ => rfl) ?_
    obtain ⟨k2, ek2, e⟩ := g_bd e
    refine g_iast 23 rfl rfl (Rw_k2 ka) ek2 ?_
    cases e
    exact g_ret rfl (fun _ _ => rfl)
def Dy_print (a : Nat) (x1 : Int32) (x2 : Int32) (x3 : Int32) (h : am_F) : Option (am_F) :=
  if x3 = 0 then
    some h
  else
    if x1 < 0 then
      some h
    else
      if x1 < (6 : Int32) then
        (if x3 = (2 : Int32) then
            (g_ix x1 6).bind fun k6 =>
            (g_ix x1 6).bind fun k7 =>
            some (am_up h (a + 3) k7 ((h (a + 3) k6) + (1 : Int32)))
          else
            (g_ix x1 6).bind fun k8 =>
            (g_ix x1 6).bind fun k9 =>
            some (am_up h (a + 4) k9 ((h (a + 4) k8) + (1 : Int32))) : Option (am_F)).bind fun q10 =>
        (g_ix x1 6).bind fun k11 =>
        (g_ix x1 6).bind fun k12 =>
        some (am_up (am_up q10 (a + 5) k11 x2) (a + 6) k12 x3)
      else
        some h
theorem Dy_print_s {X : Nat × (Nat → Int32)} {l : List (Nat × Nat)} {r : am_R} {h : am_F} {j : am_J} {a : Nat} {x1 : Int32} {x2 : Int32} {x3 : Int32} (ka : Dy_K l r a) {q : am_F} (e : Dy_print a x1 x2 x3 h = some q) : Call X 7 [.ref a, .int x1, .int x2, .int x3] (l, r, h, j) (none, (l, r, q, j)) := by
  unfold Dy_print at e
  refine ⟨Nat.le_of_ble_eq_true rfl, ?_⟩
  show Ev X 7 0 [some (.ref a), some (.int x1), some (.int x2), some (.int x3)] [] (l, r, h, j) _
  refine g_run 1 1 [some (.ref a), some (.int x1), some (.int x2), some (.int x3)] [.int x3] (fun _ => rfl) ?_
  refine g_if (p1 := 14) (L1 := [some (.ref a), some (.int x1), some (.int x2), some (.int x3)]) (S1 := []) (s1 := (l, r, h, j)) (p2 := 4) (L2 := [some (.ref a), some (.int x1), some (.int x2), some (.int x3)]) (S2 := []) (s2 := (l, r, h, j)) rfl (fun _ _ => rfl) e (fun c1 e => ?_) (fun c1 e => ?_)
  · cases e
    exact g_ret rfl (fun _ _ => rfl)
  · refine g_run 1 5 [some (.ref a), some (.int x1), some (.int x2), some (.int x3)] [.int x1] (fun _ => rfl) ?_
    refine g_if (p1 := 14) (L1 := [some (.ref a), some (.int x1), some (.int x2), some (.int x3)]) (S1 := []) (s1 := (l, r, h, j)) (p2 := 8) (L2 := [some (.ref a), some (.int x1), some (.int x2), some (.int x3)]) (S2 := []) (s2 := (l, r, h, j)) rfl (fun _ _ => rfl) e (fun c2 e => ?_) (fun c2 e => ?_)
    · cases e
      exact g_ret rfl (fun _ _ => rfl)
    · refine g_run 2 11 [some (.ref a), some (.int x1), some (.int x2), some (.int x3)] [.int (6 : Int32), .int x1] (fun _ => rfl) ?_
      refine g_if (p1 := 15) (L1 := [some (.ref a), some (.int x1), some (.int x2), some (.int x3)]) (S1 := []) (s1 := (l, r, h, j)) (p2 := 14) (L2 := [some (.ref a), some (.int x1), some (.int x2), some (.int x3)]) (S2 := []) (s2 := (l, r, h, j)) rfl (fun _ _ => rfl) e (fun c3 e => ?_) (fun c3 e => ?_)
      · refine g_run 2 17 [some (.ref a), some (.int x1), some (.int x2), some (.int x3)] [.int (2 : Int32), .int x3] (fun _ => rfl) ?_
        obtain ⟨q10, eq10, e⟩ := g_bd e
        have hjq10 : ∀ (_ : True), Ev X 7 43 [some (.ref a), some (.int x1), some (.int x2), some (.int x3)] [] (l, r, q10, j) (none, (l, r, q, j)) := by
          intro _
          refine g_run 1 44 [some (.ref a), some (.int x1), some (.int x2), some (.int x3)] [.ref a] (fun _ => rfl) ?_
          refine g_getA 47 rfl rfl (Dy_l ka) (Dy_r9 ka) ?_
          refine g_run 2 49 [some (.ref a), some (.int x1), some (.int x2), some (.int x3)] [.int x2, .int x1, .ref (a + 5)] (fun _ => rfl) ?_
          obtain ⟨k11, ek11, e⟩ := g_bd e
          refine g_iast 50 rfl rfl (Dy_k9 ka) ek11 ?_
          refine g_run 1 51 [some (.ref a), some (.int x1), some (.int x2), some (.int x3)] [.ref a] (fun _ => rfl) ?_
          refine g_getA 54 rfl rfl (Dy_l ka) (Dy_r10 ka) ?_
          refine g_run 2 56 [some (.ref a), some (.int x1), some (.int x2), some (.int x3)] [.int x3, .int x1, .ref (a + 6)] (fun _ => rfl) ?_
          obtain ⟨k12, ek12, e⟩ := g_bd e
          refine g_iast 57 rfl rfl (Dy_k10 ka) ek12 ?_
          cases e
          exact g_ret rfl (fun _ _ => rfl)
        replace e := eq10
        refine g_if (p1 := 20) (L1 := [some (.ref a), some (.int x1), some (.int x2), some (.int x3)]) (S1 := []) (s1 := (l, r, h, j)) (p2 := 33) (L2 := [some (.ref a), some (.int x1), some (.int x2), some (.int x3)]) (S2 := []) (s2 := (l, r, h, j)) rfl (fun _ _ => rfl) e (fun c4 e => ?_) (fun c4 e => ?_)
        · refine g_run 1 21 [some (.ref a), some (.int x1), some (.int x2), some (.int x3)] [.ref a] (fun _ => rfl) ?_
          refine g_getA 24 rfl rfl (Dy_l ka) (Dy_r7 ka) ?_
          refine g_run 2 26 [some (.ref a), some (.int x1), some (.int x2), some (.int x3)] [.int x1, .ref (a + 3), .int x1, .ref (a + 3)] (fun _ => rfl) ?_
          obtain ⟨k6, ek6, e⟩ := g_bd e
          refine g_iald 27 rfl rfl (Dy_k7 ka) ek6 ?_
          refine g_run 2 29 [some (.ref a), some (.int x1), some (.int x2), some (.int x3)] [.int ((h (a + 3) k6) + (1 : Int32)), .int x1, .ref (a + 3)] (fun _ => rfl) ?_
          obtain ⟨k7, ek7, e⟩ := g_bd e
          refine g_iast 30 rfl rfl (Dy_k7 ka) ek7 ?_
          refine g_run 1 43 [some (.ref a), some (.int x1), some (.int x2), some (.int x3)] [] (fun _ => rfl) ?_
          cases e
          exact hjq10 trivial
        · refine g_run 1 34 [some (.ref a), some (.int x1), some (.int x2), some (.int x3)] [.ref a] (fun _ => rfl) ?_
          refine g_getA 37 rfl rfl (Dy_l ka) (Dy_r8 ka) ?_
          refine g_run 2 39 [some (.ref a), some (.int x1), some (.int x2), some (.int x3)] [.int x1, .ref (a + 4), .int x1, .ref (a + 4)] (fun _ => rfl) ?_
          obtain ⟨k8, ek8, e⟩ := g_bd e
          refine g_iald 40 rfl rfl (Dy_k8 ka) ek8 ?_
          refine g_run 2 42 [some (.ref a), some (.int x1), some (.int x2), some (.int x3)] [.int ((h (a + 4) k8) + (1 : Int32)), .int x1, .ref (a + 4)] (fun _ => rfl) ?_
          obtain ⟨k9, ek9, e⟩ := g_bd e
          refine g_iast 43 rfl rfl (Dy_k8 ka) ek9 ?_
          cases e
          exact hjq10 trivial
      · cases e
        exact g_ret rfl (fun _ _ => rfl)
def Dy_findOut (a : Nat) (x1 : Int32) (x2 : Int32) (h : am_F) : Option (am_F) :=
  if x1 = 0 then
    some h
  else
    (if x2 = 0 then
        some (0 : Int32)
      else
        some (1 : Int32) : Option (Int32)).bind fun q4 =>
    some (am_up (am_up h a 2 ((h a 2) + (1 : Int32))) a 1 (((am_up h a 2 ((h a 2) + (1 : Int32))) a 1) + q4))
theorem Dy_findOut_s {X : Nat × (Nat → Int32)} {l : List (Nat × Nat)} {r : am_R} {h : am_F} {j : am_J} {a : Nat} {x1 : Int32} {x2 : Int32} (ka : Dy_K l r a) {q : am_F} (e : Dy_findOut a x1 x2 h = some q) : Call X 9 [.ref a, .int x1, .int x2] (l, r, h, j) (none, (l, r, q, j)) := by
  unfold Dy_findOut at e
  refine ⟨Nat.le_of_ble_eq_true rfl, ?_⟩
  show Ev X 9 0 [some (.ref a), some (.int x1), some (.int x2)] [] (l, r, h, j) _
  refine g_run 1 1 [some (.ref a), some (.int x1), some (.int x2)] [.int x1] (fun _ => rfl) ?_
  refine g_if (p1 := 32) (L1 := [some (.ref a), some (.int x1), some (.int x2)]) (S1 := []) (s1 := (l, r, h, j)) (p2 := 4) (L2 := [some (.ref a), some (.int x1), some (.int x2)]) (S2 := []) (s2 := (l, r, h, j)) rfl (fun _ _ => rfl) e (fun c1 e => ?_) (fun c1 e => ?_)
  · cases e
    exact g_ret rfl (fun _ _ => rfl)
  · refine g_run 2 6 [some (.ref a), some (.int x1), some (.int x2)] [.ref a, .ref a] (fun _ => rfl) ?_
    refine g_getI 9 rfl rfl (Dy_l ka) ?_
    refine g_run 2 11 [some (.ref a), some (.int x1), some (.int x2)] [.int ((h a 2) + (1 : Int32)), .ref a] (fun _ => rfl) ?_
    refine g_putI 14 rfl rfl (Dy_l ka) ?_
    refine g_run 2 16 [some (.ref a), some (.int x1), some (.int x2)] [.ref a, .ref a] (fun _ => rfl) ?_
    refine g_getI 19 rfl rfl (Dy_l ka) ?_
    refine g_run 1 20 [some (.ref a), some (.int x1), some (.int x2)] [.int x2, .int ((am_up h a 2 ((h a 2) + (1 : Int32))) a 1), .ref a] (fun _ => rfl) ?_
    obtain ⟨q4, eq4, e⟩ := g_bd e
    have hjq4 : ∀ (_ : True), Ev X 9 28 [some (.ref a), some (.int x1), some (.int x2)] [.int q4, .int ((am_up h a 2 ((h a 2) + (1 : Int32))) a 1), .ref a] (l, r, (am_up h a 2 ((h a 2) + (1 : Int32))), j) (none, (l, r, q, j)) := by
      intro _
      refine g_run 1 29 [some (.ref a), some (.int x1), some (.int x2)] [.int (((am_up h a 2 ((h a 2) + (1 : Int32))) a 1) + q4), .ref a] (fun _ => rfl) ?_
      refine g_putI 32 rfl rfl (Dy_l ka) ?_
      cases e
      exact g_ret rfl (fun _ _ => rfl)
    replace e := eq4
    refine g_if (p1 := 23) (L1 := [some (.ref a), some (.int x1), some (.int x2)]) (S1 := [.int ((am_up h a 2 ((h a 2) + (1 : Int32))) a 1), .ref a]) (s1 := (l, r, (am_up h a 2 ((h a 2) + (1 : Int32))), j)) (p2 := 27) (L2 := [some (.ref a), some (.int x1), some (.int x2)]) (S2 := [.int ((am_up h a 2 ((h a 2) + (1 : Int32))) a 1), .ref a]) (s2 := (l, r, (am_up h a 2 ((h a 2) + (1 : Int32))), j)) rfl (fun _ _ => rfl) e (fun c2 e => ?_) (fun c2 e => ?_)
    · refine g_run 2 28 [some (.ref a), some (.int x1), some (.int x2)] [.int (0 : Int32), .int ((am_up h a 2 ((h a 2) + (1 : Int32))) a 1), .ref a] (fun _ => rfl) ?_
      cases e
      exact hjq4 trivial
    · refine g_run 1 28 [some (.ref a), some (.int x1), some (.int x2)] [.int (1 : Int32), .int ((am_up h a 2 ((h a 2) + (1 : Int32))) a 1), .ref a] (fun _ => rfl) ?_
      cases e
      exact hjq4 trivial
def Dy_sit (l : List (Nat × Nat)) (r : am_R) (a : Nat) (x1 : Nat) (x2 : Int32) (x3 : Int32) (h : am_F) : Option (am_F) :=
  (Rw_get l r (x1 + 11) x2 (2 : Int32) h).bind fun q1 =>
  if (Pk_hasBench x1 q1 h) = 0 then
    some h
  else
    (Rw_get l r (x1 + 11) x2 (3 : Int32) (am_up h a 6 ((h a 6) + (1 : Int32)))).bind fun q3 =>
    (if x3 = (2 : Int32) then
        (g_ix q1 6).bind fun k6 =>
        some (am_up (am_up (am_up h a 6 ((h a 6) + (1 : Int32))) a 4 (((am_up h a 6 ((h a 6) + (1 : Int32))) a 4) + q3)) a 5 (((am_up (am_up h a 6 ((h a 6) + (1 : Int32))) a 4 (((am_up h a 6 ((h a 6) + (1 : Int32))) a 4) + q3)) a 5) + ((am_up (am_up h a 6 ((h a 6) + (1 : Int32))) a 4 (((am_up h a 6 ((h a 6) + (1 : Int32))) a 4) + q3)) (x1 + 3) k6)))
      else
        some (am_up (am_up h a 6 ((h a 6) + (1 : Int32))) a 4 (((am_up h a 6 ((h a 6) + (1 : Int32))) a 4) + q3)) : Option (am_F)).bind fun q7 =>
    (Rw_get l r (x1 + 11) x2 (1 : Int32) q7).bind fun q8 =>
    (g_ix q1 6).bind fun k9 =>
    if q8 < (q7 (x1 + 4) k9) then
      some q7
    else
      (g_ix q1 6).bind fun k11 =>
      some (am_up q7 (a + 7) k11 (1 : Int32))
theorem Dy_sit_s {X : Nat × (Nat → Int32)} {l : List (Nat × Nat)} {r : am_R} {h : am_F} {j : am_J} {a : Nat} {x1 : Nat} {x2 : Int32} {x3 : Int32} (ka : Dy_K l r a) (kx1 : Pk_K l r x1) {q : am_F} (e : Dy_sit l r a x1 x2 x3 h = some q) : Call X 10 [.ref a, .ref x1, .int x2, .int x3] (l, r, h, j) (none, (l, r, q, j)) := by
  unfold Dy_sit at e
  refine ⟨Nat.le_of_ble_eq_true rfl, ?_⟩
  show Ev X 10 0 [some (.ref a), some (.ref x1), some (.int x2), some (.int x3), none] [] (l, r, h, j) _
  refine g_run 1 1 [some (.ref a), some (.ref x1), some (.int x2), some (.int x3), none] [.ref x1] (fun _ => rfl) ?_
  refine g_getA 4 rfl rfl (Pk_l kx1) (Pk_r12 kx1) ?_
  refine g_run 2 6 [some (.ref a), some (.ref x1), some (.int x2), some (.int x3), none] [.int (2 : Int32), .int x2, .ref (x1 + 11)] (fun _ => rfl) ?_
  obtain ⟨q1, eq1, e⟩ := g_bd e
  refine g_cV 9 rfl rfl rfl rfl rfl (Rw_l (Pk_k12 kx1)) (Rw_get_s (Pk_k12 kx1) eq1) ?_
  refine g_run 3 14 [some (.ref a), some (.ref x1), some (.int x2), some (.int x3), some (.int q1)] [.int q1, .ref x1] (fun _ => rfl) ?_
  refine g_cV 17 rfl rfl rfl rfl rfl (Pk_l kx1) (Pk_hasBench_s kx1) ?_
  refine g_if (p1 := 20) (L1 := [some (.ref a), some (.ref x1), some (.int x2), some (.int x3), some (.int q1)]) (S1 := []) (s1 := (l, r, h, j)) (p2 := 21) (L2 := [some (.ref a), some (.ref x1), some (.int x2), some (.int x3), some (.int q1)]) (S2 := []) (s2 := (l, r, h, j)) rfl (fun _ _ => rfl) e (fun c2 e => ?_) (fun c2 e => ?_)
  · cases e
    exact g_ret rfl (fun _ _ => rfl)
  · refine g_run 2 23 [some (.ref a), some (.ref x1), some (.int x2), some (.int x3), some (.int q1)] [.ref a, .ref a] (fun _ => rfl) ?_
    refine g_getI 26 rfl rfl (Dy_l ka) ?_
    refine g_run 2 28 [some (.ref a), some (.ref x1), some (.int x2), some (.int x3), some (.int q1)] [.int ((h a 6) + (1 : Int32)), .ref a] (fun _ => rfl) ?_
    refine g_putI 31 rfl rfl (Dy_l ka) ?_
    refine g_run 2 33 [some (.ref a), some (.ref x1), some (.int x2), some (.int x3), some (.int q1)] [.ref a, .ref a] (fun _ => rfl) ?_
    refine g_getI 36 rfl rfl (Dy_l ka) ?_
    refine g_run 1 37 [some (.ref a), some (.ref x1), some (.int x2), some (.int x3), some (.int q1)] [.ref x1, .int ((am_up h a 6 ((h a 6) + (1 : Int32))) a 4), .ref a] (fun _ => rfl) ?_
    refine g_getA 40 rfl rfl (Pk_l kx1) (Pk_r12 kx1) ?_
    refine g_run 2 42 [some (.ref a), some (.ref x1), some (.int x2), some (.int x3), some (.int q1)] [.int (3 : Int32), .int x2, .ref (x1 + 11), .int ((am_up h a 6 ((h a 6) + (1 : Int32))) a 4), .ref a] (fun _ => rfl) ?_
    obtain ⟨q3, eq3, e⟩ := g_bd e
    refine g_cV 45 rfl rfl rfl rfl rfl (Rw_l (Pk_k12 kx1)) (Rw_get_s (Pk_k12 kx1) eq3) ?_
    refine g_run 1 46 [some (.ref a), some (.ref x1), some (.int x2), some (.int x3), some (.int q1)] [.int (((am_up h a 6 ((h a 6) + (1 : Int32))) a 4) + q3), .ref a] (fun _ => rfl) ?_
    refine g_putI 49 rfl rfl (Dy_l ka) ?_
    refine g_run 2 51 [some (.ref a), some (.ref x1), some (.int x2), some (.int x3), some (.int q1)] [.int (2 : Int32), .int x3] (fun _ => rfl) ?_
    obtain ⟨q7, eq7, e⟩ := g_bd e
    have hjq7 : ∀ (_ : True), Ev X 10 70 [some (.ref a), some (.ref x1), some (.int x2), some (.int x3), some (.int q1)] [] (l, r, q7, j) (none, (l, r, q, j)) := by
      intro _
      refine g_run 1 71 [some (.ref a), some (.ref x1), some (.int x2), some (.int x3), some (.int q1)] [.ref x1] (fun _ => rfl) ?_
      refine g_getA 74 rfl rfl (Pk_l kx1) (Pk_r12 kx1) ?_
      refine g_run 2 76 [some (.ref a), some (.ref x1), some (.int x2), some (.int x3), some (.int q1)] [.int (1 : Int32), .int x2, .ref (x1 + 11)] (fun _ => rfl) ?_
      obtain ⟨q8, eq8, e⟩ := g_bd e
      refine g_cV 79 rfl rfl rfl rfl rfl (Rw_l (Pk_k12 kx1)) (Rw_get_s (Pk_k12 kx1) eq8) ?_
      refine g_run 1 80 [some (.ref a), some (.ref x1), some (.int x2), some (.int x3), some (.int q1)] [.ref x1, .int q8] (fun _ => rfl) ?_
      refine g_getA 83 rfl rfl (Pk_l kx1) (Pk_r7 kx1) ?_
      refine g_run 1 85 [some (.ref a), some (.ref x1), some (.int x2), some (.int x3), some (.int q1)] [.int q1, .ref (x1 + 4), .int q8] (fun _ => rfl) ?_
      obtain ⟨k9, ek9, e⟩ := g_bd e
      refine g_iald 86 rfl rfl (Pk_k7 kx1) ek9 ?_
      refine g_if (p1 := 97) (L1 := [some (.ref a), some (.ref x1), some (.int x2), some (.int x3), some (.int q1)]) (S1 := []) (s1 := (l, r, q7, j)) (p2 := 89) (L2 := [some (.ref a), some (.ref x1), some (.int x2), some (.int x3), some (.int q1)]) (S2 := []) (s2 := (l, r, q7, j)) rfl (fun _ _ => rfl) e (fun c10 e => ?_) (fun c10 e => ?_)
      · cases e
        exact g_ret rfl (fun _ _ => rfl)
      · refine g_run 1 90 [some (.ref a), some (.ref x1), some (.int x2), some (.int x3), some (.int q1)] [.ref a] (fun _ => rfl) ?_
        refine g_getA 93 rfl rfl (Dy_l ka) (Dy_r11 ka) ?_
        refine g_run 2 96 [some (.ref a), some (.ref x1), some (.int x2), some (.int x3), some (.int q1)] [.int (1 : Int32), .int q1, .ref (a + 7)] (fun _ => rfl) ?_
        obtain ⟨k11, ek11, e⟩ := g_bd e
        refine g_iast 97 rfl rfl (Dy_k11 ka) ek11 ?_
        cases e
        exact g_ret rfl (fun _ _ => rfl)
    replace e := eq7
    refine g_if (p1 := 54) (L1 := [some (.ref a), some (.ref x1), some (.int x2), some (.int x3), some (.int q1)]) (S1 := []) (s1 := (l, r, (am_up (am_up h a 6 ((h a 6) + (1 : Int32))) a 4 (((am_up h a 6 ((h a 6) + (1 : Int32))) a 4) + q3)), j)) (p2 := 70) (L2 := [some (.ref a), some (.ref x1), some (.int x2), some (.int x3), some (.int q1)]) (S2 := []) (s2 := (l, r, (am_up (am_up h a 6 ((h a 6) + (1 : Int32))) a 4 (((am_up h a 6 ((h a 6) + (1 : Int32))) a 4) + q3)), j)) rfl (fun _ _ => rfl) e (fun c4 e => ?_) (fun c4 e => ?_)
    · refine g_run 2 56 [some (.ref a), some (.ref x1), some (.int x2), some (.int x3), some (.int q1)] [.ref a, .ref a] (fun _ => rfl) ?_
      refine g_getI 59 rfl rfl (Dy_l ka) ?_
      refine g_run 1 60 [some (.ref a), some (.ref x1), some (.int x2), some (.int x3), some (.int q1)] [.ref x1, .int ((am_up (am_up h a 6 ((h a 6) + (1 : Int32))) a 4 (((am_up h a 6 ((h a 6) + (1 : Int32))) a 4) + q3)) a 5), .ref a] (fun _ => rfl) ?_
      refine g_getA 63 rfl rfl (Pk_l kx1) (Pk_r6 kx1) ?_
      refine g_run 1 65 [some (.ref a), some (.ref x1), some (.int x2), some (.int x3), some (.int q1)] [.int q1, .ref (x1 + 3), .int ((am_up (am_up h a 6 ((h a 6) + (1 : Int32))) a 4 (((am_up h a 6 ((h a 6) + (1 : Int32))) a 4) + q3)) a 5), .ref a] (fun _ => rfl) ?_
      obtain ⟨k6, ek6, e⟩ := g_bd e
      refine g_iald 66 rfl rfl (Pk_k6 kx1) ek6 ?_
      refine g_run 1 67 [some (.ref a), some (.ref x1), some (.int x2), some (.int x3), some (.int q1)] [.int (((am_up (am_up h a 6 ((h a 6) + (1 : Int32))) a 4 (((am_up h a 6 ((h a 6) + (1 : Int32))) a 4) + q3)) a 5) + ((am_up (am_up h a 6 ((h a 6) + (1 : Int32))) a 4 (((am_up h a 6 ((h a 6) + (1 : Int32))) a 4) + q3)) (x1 + 3) k6)), .ref a] (fun _ => rfl) ?_
      refine g_putI 70 rfl rfl (Dy_l ka) ?_
      cases e
      exact hjq7 trivial
    · cases e
      exact hjq7 trivial
def Dy_come (l : List (Nat × Nat)) (r : am_R) (a : Nat) (x1 : Nat) (x2 : Int32) (h : am_F) : Option (am_F) :=
  (Rw_get l r (x1 + 11) x2 (2 : Int32) h).bind fun q1 =>
  (Rw_get l r (x1 + 11) x2 (1 : Int32) h).bind fun q2 =>
  if (Pk_hasBench x1 q1 h) = 0 then
    some h
  else
    (Pk_stageOf x1 q1 q2 h).bind fun q4 =>
    (Pk_hasCard x1 q1 q2 h).bind fun q5 =>
    (if ((h a 1) * (100 : Int32)) < ((h x1 2) * (h a 2)) then
        some (0 : Int32)
      else
        some (1 : Int32) : Option (Int32)).bind fun q8 =>
    (if q5 = 0 then
        some (0 : Int32)
      else
        if q8 = 0 then
          some (0 : Int32)
        else
          some (1 : Int32) : Option (Int32)).bind fun q12 =>
    (Dy_choose l r a x1 x2 q4 q12 h).bind fun q13 =>
    (if q13 = (3 : Int32) then
        (Rw_get l r (x1 + 11) x2 (4 : Int32) h).bind fun q16 =>
        (Wp_atStage q16 q4).bind fun q17 =>
        some q17
      else
        if q13 = (1 : Int32) then
          (Rw_get l r (x1 + 11) x2 (5 : Int32) h).bind fun q19 =>
          (Wp_atStage q19 q4).bind fun q20 =>
          some q20
        else
          some (0 : Int32) : Option (Int32)).bind fun q21 =>
    (if q13 = 0 then
        if q4 = 0 then
          (Rw_get l r (x1 + 11) x2 (3 : Int32) h).bind fun q25 =>
          some q25
        else
          some (0 : Int32)
      else
        some (0 : Int32) : Option (Int32)).bind fun q26 =>
    (Rw_set l r (a + 1) x2 (0 : Int32) q13 (am_up h a 0 ((h a 0) + (q21 + q26)))).bind fun q27 =>
    (Rw_set l r (a + 1) x2 (1 : Int32) q4 q27).bind fun q28 =>
    (Rw_set l r (a + 1) x2 (2 : Int32) q21 q28).bind fun q29 =>
    (Rw_set l r (a + 1) x2 (3 : Int32) q26 q29).bind fun q30 =>
    (if q5 = 0 then
        some (0 : Int32)
      else
        some (1 : Int32) : Option (Int32)).bind fun q33 =>
    (Rw_set l r (a + 1) x2 (4 : Int32) q33 q30).bind fun q34 =>
    (if q8 = 0 then
        some (0 : Int32)
      else
        some (1 : Int32) : Option (Int32)).bind fun q37 =>
    (Rw_set l r (a + 1) x2 (5 : Int32) q37 q34).bind fun q38 =>
    (if q13 = 0 then
        some q38
      else
        (Dy_print a q1 q2 q4 q38).bind fun q41 =>
        (Dy_findOut a q5 q4 q41).bind fun q42 =>
        some q42 : Option (am_F)).bind fun q43 =>
    if q13 < (2 : Int32) then
      some q43
    else
      (Dy_sit l r a x1 x2 q4 q43).bind fun q45 =>
      some q45
theorem Dy_come_s {X : Nat × (Nat → Int32)} {l : List (Nat × Nat)} {r : am_R} {h : am_F} {j : am_J} {a : Nat} {x1 : Nat} {x2 : Int32} (ka : Dy_K l r a) (kx1 : Pk_K l r x1) {q : am_F} (e : Dy_come l r a x1 x2 h = some q) : Call X 8 [.ref a, .ref x1, .int x2] (l, r, h, j) (none, (l, r, q, j)) := by
  unfold Dy_come at e
  refine ⟨Nat.le_of_ble_eq_true rfl, ?_⟩
  show Ev X 8 0 [some (.ref a), some (.ref x1), some (.int x2), none, none, none, none, none, none, none, none] [] (l, r, h, j) _
  refine g_run 1 1 [some (.ref a), some (.ref x1), some (.int x2), none, none, none, none, none, none, none, none] [.ref x1] (fun _ => rfl) ?_
  refine g_getA 4 rfl rfl (Pk_l kx1) (Pk_r12 kx1) ?_
  refine g_run 2 6 [some (.ref a), some (.ref x1), some (.int x2), none, none, none, none, none, none, none, none] [.int (2 : Int32), .int x2, .ref (x1 + 11)] (fun _ => rfl) ?_
  obtain ⟨q1, eq1, e⟩ := g_bd e
  refine g_cV 9 rfl rfl rfl rfl rfl (Rw_l (Pk_k12 kx1)) (Rw_get_s (Pk_k12 kx1) eq1) ?_
  refine g_run 2 11 [some (.ref a), some (.ref x1), some (.int x2), some (.int q1), none, none, none, none, none, none, none] [.ref x1] (fun _ => rfl) ?_
  refine g_getA 14 rfl rfl (Pk_l kx1) (Pk_r12 kx1) ?_
  refine g_run 2 16 [some (.ref a), some (.ref x1), some (.int x2), some (.int q1), none, none, none, none, none, none, none] [.int (1 : Int32), .int x2, .ref (x1 + 11)] (fun _ => rfl) ?_
  obtain ⟨q2, eq2, e⟩ := g_bd e
  refine g_cV 19 rfl rfl rfl rfl rfl (Rw_l (Pk_k12 kx1)) (Rw_get_s (Pk_k12 kx1) eq2) ?_
  refine g_run 3 23 [some (.ref a), some (.ref x1), some (.int x2), some (.int q1), some (.int q2), none, none, none, none, none, none] [.int q1, .ref x1] (fun _ => rfl) ?_
  refine g_cV 26 rfl rfl rfl rfl rfl (Pk_l kx1) (Pk_hasBench_s kx1) ?_
  refine g_if (p1 := 29) (L1 := [some (.ref a), some (.ref x1), some (.int x2), some (.int q1), some (.int q2), none, none, none, none, none, none]) (S1 := []) (s1 := (l, r, h, j)) (p2 := 30) (L2 := [some (.ref a), some (.ref x1), some (.int x2), some (.int q1), some (.int q2), none, none, none, none, none, none]) (S2 := []) (s2 := (l, r, h, j)) rfl (fun _ _ => rfl) e (fun c3 e => ?_) (fun c3 e => ?_)
  · cases e
    exact g_ret rfl (fun _ _ => rfl)
  · refine g_run 3 34 [some (.ref a), some (.ref x1), some (.int x2), some (.int q1), some (.int q2), none, none, none, none, none, none] [.int q2, .int q1, .ref x1] (fun _ => rfl) ?_
    obtain ⟨q4, eq4, e⟩ := g_bd e
    refine g_cV 37 rfl rfl rfl rfl rfl (Pk_l kx1) (Pk_stageOf_s kx1 eq4) ?_
    refine g_run 4 43 [some (.ref a), some (.ref x1), some (.int x2), some (.int q1), some (.int q2), some (.int q4), none, none, none, none, none] [.int q2, .int q1, .ref x1] (fun _ => rfl) ?_
    obtain ⟨q5, eq5, e⟩ := g_bd e
    refine g_cV 46 rfl rfl rfl rfl rfl (Pk_l kx1) (Pk_hasCard_s kx1 eq5) ?_
    refine g_run 2 49 [some (.ref a), some (.ref x1), some (.int x2), some (.int q1), some (.int q2), some (.int q4), some (.int q5), none, none, none, none] [.ref a] (fun _ => rfl) ?_
    refine g_getI 52 rfl rfl (Dy_l ka) ?_
    refine g_run 3 56 [some (.ref a), some (.ref x1), some (.int x2), some (.int q1), some (.int q2), some (.int q4), some (.int q5), none, none, none, none] [.ref x1, .int ((h a 1) * (100 : Int32))] (fun _ => rfl) ?_
    refine g_getI 59 rfl rfl (Pk_l kx1) ?_
    refine g_run 1 60 [some (.ref a), some (.ref x1), some (.int x2), some (.int q1), some (.int q2), some (.int q4), some (.int q5), none, none, none, none] [.ref a, .int (h x1 2), .int ((h a 1) * (100 : Int32))] (fun _ => rfl) ?_
    refine g_getI 63 rfl rfl (Dy_l ka) ?_
    refine g_run 1 64 [some (.ref a), some (.ref x1), some (.int x2), some (.int q1), some (.int q2), some (.int q4), some (.int q5), none, none, none, none] [.int ((h x1 2) * (h a 2)), .int ((h a 1) * (100 : Int32))] (fun _ => rfl) ?_
    obtain ⟨q8, eq8, e⟩ := g_bd e
    have hjq8 : ∀ (_ : True), Ev X 8 72 [some (.ref a), some (.ref x1), some (.int x2), some (.int q1), some (.int q2), some (.int q4), some (.int q5), none, none, none, none] [.int q8] (l, r, h, j) (none, (l, r, q, j)) := by
      intro _
      refine g_run 6 81 [some (.ref a), some (.ref x1), some (.int x2), some (.int q1), some (.int q2), some (.int q4), some (.int q5), some (.int q8), none, none, none] [.int q5, .int q4, .int x2, .ref x1, .ref a] (fun _ => rfl) ?_
      obtain ⟨q12, eq12, e⟩ := g_bd e
      have hjq12 : ∀ (_ : True), Ev X 8 94 [some (.ref a), some (.ref x1), some (.int x2), some (.int q1), some (.int q2), some (.int q4), some (.int q5), some (.int q8), none, none, none] [.int q12, .int q4, .int x2, .ref x1, .ref a] (l, r, h, j) (none, (l, r, q, j)) := by
        intro _
        obtain ⟨q13, eq13, e⟩ := g_bd e
        refine g_cV 97 rfl rfl rfl rfl rfl (Dy_l ka) (Dy_choose_s ka kx1 eq13) ?_
        refine g_run 5 105 [some (.ref a), some (.ref x1), some (.int x2), some (.int q1), some (.int q2), some (.int q4), some (.int q5), some (.int q8), some (.int q13), some (.int (0 : Int32)), none] [.int (3 : Int32), .int q13] (fun _ => rfl) ?_
        obtain ⟨q21, eq21, e⟩ := g_bd e
        have hjq21 : ∀ (_ : True), Ev X 8 149 [some (.ref a), some (.ref x1), some (.int x2), some (.int q1), some (.int q2), some (.int q4), some (.int q5), some (.int q8), some (.int q13), some (.int q21), none] [] (l, r, h, j) (none, (l, r, q, j)) := by
          intro _
          refine g_run 1 151 [some (.ref a), some (.ref x1), some (.int x2), some (.int q1), some (.int q2), some (.int q4), some (.int q5), some (.int q8), some (.int q13), some (.int q21), none] [.int q13] (fun _ => rfl) ?_
          obtain ⟨q26, eq26, e⟩ := g_bd e
          have hjq26 : ∀ (_ : True), Ev X 8 172 [some (.ref a), some (.ref x1), some (.int x2), some (.int q1), some (.int q2), some (.int q4), some (.int q5), some (.int q8), some (.int q13), some (.int q21), none] [.int q26] (l, r, h, j) (none, (l, r, q, j)) := by
            intro _
            refine g_run 3 176 [some (.ref a), some (.ref x1), some (.int x2), some (.int q1), some (.int q2), some (.int q4), some (.int q5), some (.int q8), some (.int q13), some (.int q21), some (.int q26)] [.ref a, .ref a] (fun _ => rfl) ?_
            refine g_getI 179 rfl rfl (Dy_l ka) ?_
            refine g_run 4 185 [some (.ref a), some (.ref x1), some (.int x2), some (.int q1), some (.int q2), some (.int q4), some (.int q5), some (.int q8), some (.int q13), some (.int q21), some (.int q26)] [.int ((h a 0) + (q21 + q26)), .ref a] (fun _ => rfl) ?_
            refine g_putI 188 rfl rfl (Dy_l ka) ?_
            refine g_run 1 189 [some (.ref a), some (.ref x1), some (.int x2), some (.int q1), some (.int q2), some (.int q4), some (.int q5), some (.int q8), some (.int q13), some (.int q21), some (.int q26)] [.ref a] (fun _ => rfl) ?_
            refine g_getA 192 rfl rfl (Dy_l ka) (Dy_r3 ka) ?_
            refine g_run 3 196 [some (.ref a), some (.ref x1), some (.int x2), some (.int q1), some (.int q2), some (.int q4), some (.int q5), some (.int q8), some (.int q13), some (.int q21), some (.int q26)] [.int q13, .int (0 : Int32), .int x2, .ref (a + 1)] (fun _ => rfl) ?_
            obtain ⟨q27, eq27, e⟩ := g_bd e
            refine g_cVv 199 rfl rfl rfl rfl rfl (Rw_l (Dy_k3 ka)) (Rw_set_s (Dy_k3 ka) eq27) ?_
            refine g_run 1 200 [some (.ref a), some (.ref x1), some (.int x2), some (.int q1), some (.int q2), some (.int q4), some (.int q5), some (.int q8), some (.int q13), some (.int q21), some (.int q26)] [.ref a] (fun _ => rfl) ?_
            refine g_getA 203 rfl rfl (Dy_l ka) (Dy_r3 ka) ?_
            refine g_run 3 207 [some (.ref a), some (.ref x1), some (.int x2), some (.int q1), some (.int q2), some (.int q4), some (.int q5), some (.int q8), some (.int q13), some (.int q21), some (.int q26)] [.int q4, .int (1 : Int32), .int x2, .ref (a + 1)] (fun _ => rfl) ?_
            obtain ⟨q28, eq28, e⟩ := g_bd e
            refine g_cVv 210 rfl rfl rfl rfl rfl (Rw_l (Dy_k3 ka)) (Rw_set_s (Dy_k3 ka) eq28) ?_
            refine g_run 1 211 [some (.ref a), some (.ref x1), some (.int x2), some (.int q1), some (.int q2), some (.int q4), some (.int q5), some (.int q8), some (.int q13), some (.int q21), some (.int q26)] [.ref a] (fun _ => rfl) ?_
            refine g_getA 214 rfl rfl (Dy_l ka) (Dy_r3 ka) ?_
            refine g_run 3 218 [some (.ref a), some (.ref x1), some (.int x2), some (.int q1), some (.int q2), some (.int q4), some (.int q5), some (.int q8), some (.int q13), some (.int q21), some (.int q26)] [.int q21, .int (2 : Int32), .int x2, .ref (a + 1)] (fun _ => rfl) ?_
            obtain ⟨q29, eq29, e⟩ := g_bd e
            refine g_cVv 221 rfl rfl rfl rfl rfl (Rw_l (Dy_k3 ka)) (Rw_set_s (Dy_k3 ka) eq29) ?_
            refine g_run 1 222 [some (.ref a), some (.ref x1), some (.int x2), some (.int q1), some (.int q2), some (.int q4), some (.int q5), some (.int q8), some (.int q13), some (.int q21), some (.int q26)] [.ref a] (fun _ => rfl) ?_
            refine g_getA 225 rfl rfl (Dy_l ka) (Dy_r3 ka) ?_
            refine g_run 3 229 [some (.ref a), some (.ref x1), some (.int x2), some (.int q1), some (.int q2), some (.int q4), some (.int q5), some (.int q8), some (.int q13), some (.int q21), some (.int q26)] [.int q26, .int (3 : Int32), .int x2, .ref (a + 1)] (fun _ => rfl) ?_
            obtain ⟨q30, eq30, e⟩ := g_bd e
            refine g_cVv 232 rfl rfl rfl rfl rfl (Rw_l (Dy_k3 ka)) (Rw_set_s (Dy_k3 ka) eq30) ?_
            refine g_run 1 233 [some (.ref a), some (.ref x1), some (.int x2), some (.int q1), some (.int q2), some (.int q4), some (.int q5), some (.int q8), some (.int q13), some (.int q21), some (.int q26)] [.ref a] (fun _ => rfl) ?_
            refine g_getA 236 rfl rfl (Dy_l ka) (Dy_r3 ka) ?_
            refine g_run 3 240 [some (.ref a), some (.ref x1), some (.int x2), some (.int q1), some (.int q2), some (.int q4), some (.int q5), some (.int q8), some (.int q13), some (.int q21), some (.int q26)] [.int q5, .int (4 : Int32), .int x2, .ref (a + 1)] (fun _ => rfl) ?_
            obtain ⟨q33, eq33, e⟩ := g_bd e
            have hjq33 : ∀ (_ : True), Ev X 8 248 [some (.ref a), some (.ref x1), some (.int x2), some (.int q1), some (.int q2), some (.int q4), some (.int q5), some (.int q8), some (.int q13), some (.int q21), some (.int q26)] [.int q33, .int (4 : Int32), .int x2, .ref (a + 1)] (l, r, q30, j) (none, (l, r, q, j)) := by
              intro _
              obtain ⟨q34, eq34, e⟩ := g_bd e
              refine g_cVv 251 rfl rfl rfl rfl rfl (Rw_l (Dy_k3 ka)) (Rw_set_s (Dy_k3 ka) eq34) ?_
              refine g_run 1 252 [some (.ref a), some (.ref x1), some (.int x2), some (.int q1), some (.int q2), some (.int q4), some (.int q5), some (.int q8), some (.int q13), some (.int q21), some (.int q26)] [.ref a] (fun _ => rfl) ?_
              refine g_getA 255 rfl rfl (Dy_l ka) (Dy_r3 ka) ?_
              refine g_run 3 259 [some (.ref a), some (.ref x1), some (.int x2), some (.int q1), some (.int q2), some (.int q4), some (.int q5), some (.int q8), some (.int q13), some (.int q21), some (.int q26)] [.int q8, .int (5 : Int32), .int x2, .ref (a + 1)] (fun _ => rfl) ?_
              obtain ⟨q37, eq37, e⟩ := g_bd e
              have hjq37 : ∀ (_ : True), Ev X 8 267 [some (.ref a), some (.ref x1), some (.int x2), some (.int q1), some (.int q2), some (.int q4), some (.int q5), some (.int q8), some (.int q13), some (.int q21), some (.int q26)] [.int q37, .int (5 : Int32), .int x2, .ref (a + 1)] (l, r, q34, j) (none, (l, r, q, j)) := by
                intro _
                obtain ⟨q38, eq38, e⟩ := g_bd e
                refine g_cVv 270 rfl rfl rfl rfl rfl (Rw_l (Dy_k3 ka)) (Rw_set_s (Dy_k3 ka) eq38) ?_
                refine g_run 1 272 [some (.ref a), some (.ref x1), some (.int x2), some (.int q1), some (.int q2), some (.int q4), some (.int q5), some (.int q8), some (.int q13), some (.int q21), some (.int q26)] [.int q13] (fun _ => rfl) ?_
                obtain ⟨q43, eq43, e⟩ := g_bd e
                have hjq43 : ∀ (_ : True), Ev X 8 292 [some (.ref a), some (.ref x1), some (.int x2), some (.int q1), some (.int q2), some (.int q4), some (.int q5), some (.int q8), some (.int q13), some (.int q21), some (.int q26)] [] (l, r, q43, j) (none, (l, r, q, j)) := by
                  intro _
                  refine g_run 2 295 [some (.ref a), some (.ref x1), some (.int x2), some (.int q1), some (.int q2), some (.int q4), some (.int q5), some (.int q8), some (.int q13), some (.int q21), some (.int q26)] [.int (2 : Int32), .int q13] (fun _ => rfl) ?_
                  refine g_if (p1 := 306) (L1 := [some (.ref a), some (.ref x1), some (.int x2), some (.int q1), some (.int q2), some (.int q4), some (.int q5), some (.int q8), some (.int q13), some (.int q21), some (.int q26)]) (S1 := []) (s1 := (l, r, q43, j)) (p2 := 298) (L2 := [some (.ref a), some (.ref x1), some (.int x2), some (.int q1), some (.int q2), some (.int q4), some (.int q5), some (.int q8), some (.int q13), some (.int q21), some (.int q26)]) (S2 := []) (s2 := (l, r, q43, j)) rfl (fun _ _ => rfl) e (fun c44 e => ?_) (fun c44 e => ?_)
                  · cases e
                    exact g_ret rfl (fun _ _ => rfl)
                  · refine g_run 4 303 [some (.ref a), some (.ref x1), some (.int x2), some (.int q1), some (.int q2), some (.int q4), some (.int q5), some (.int q8), some (.int q13), some (.int q21), some (.int q26)] [.int q4, .int x2, .ref x1, .ref a] (fun _ => rfl) ?_
                    obtain ⟨q45, eq45, e⟩ := g_bd e
                    refine g_cVv 306 rfl rfl rfl rfl rfl (Dy_l ka) (Dy_sit_s ka kx1 eq45) ?_
                    cases e
                    exact g_ret rfl (fun _ _ => rfl)
                replace e := eq43
                refine g_if (p1 := 292) (L1 := [some (.ref a), some (.ref x1), some (.int x2), some (.int q1), some (.int q2), some (.int q4), some (.int q5), some (.int q8), some (.int q13), some (.int q21), some (.int q26)]) (S1 := []) (s1 := (l, r, q38, j)) (p2 := 275) (L2 := [some (.ref a), some (.ref x1), some (.int x2), some (.int q1), some (.int q2), some (.int q4), some (.int q5), some (.int q8), some (.int q13), some (.int q21), some (.int q26)]) (S2 := []) (s2 := (l, r, q38, j)) rfl (fun _ _ => rfl) e (fun c39 e => ?_) (fun c39 e => ?_)
                · cases e
                  exact hjq43 trivial
                · refine g_run 4 281 [some (.ref a), some (.ref x1), some (.int x2), some (.int q1), some (.int q2), some (.int q4), some (.int q5), some (.int q8), some (.int q13), some (.int q21), some (.int q26)] [.int q4, .int q2, .int q1, .ref a] (fun _ => rfl) ?_
                  obtain ⟨q41, eq41, e⟩ := g_bd e
                  refine g_cVv 284 rfl rfl rfl rfl rfl (Dy_l ka) (Dy_print_s ka eq41) ?_
                  refine g_run 3 289 [some (.ref a), some (.ref x1), some (.int x2), some (.int q1), some (.int q2), some (.int q4), some (.int q5), some (.int q8), some (.int q13), some (.int q21), some (.int q26)] [.int q4, .int q5, .ref a] (fun _ => rfl) ?_
                  obtain ⟨q42, eq42, e⟩ := g_bd e
                  refine g_cVv 292 rfl rfl rfl rfl rfl (Dy_l ka) (Dy_findOut_s ka eq42) ?_
                  cases e
                  exact hjq43 trivial
              replace e := eq37
              refine g_if (p1 := 266) (L1 := [some (.ref a), some (.ref x1), some (.int x2), some (.int q1), some (.int q2), some (.int q4), some (.int q5), some (.int q8), some (.int q13), some (.int q21), some (.int q26)]) (S1 := [.int (5 : Int32), .int x2, .ref (a + 1)]) (s1 := (l, r, q34, j)) (p2 := 262) (L2 := [some (.ref a), some (.ref x1), some (.int x2), some (.int q1), some (.int q2), some (.int q4), some (.int q5), some (.int q8), some (.int q13), some (.int q21), some (.int q26)]) (S2 := [.int (5 : Int32), .int x2, .ref (a + 1)]) (s2 := (l, r, q34, j)) rfl (fun _ _ => rfl) e (fun c35 e => ?_) (fun c35 e => ?_)
              · refine g_run 1 267 [some (.ref a), some (.ref x1), some (.int x2), some (.int q1), some (.int q2), some (.int q4), some (.int q5), some (.int q8), some (.int q13), some (.int q21), some (.int q26)] [.int (0 : Int32), .int (5 : Int32), .int x2, .ref (a + 1)] (fun _ => rfl) ?_
                cases e
                exact hjq37 trivial
              · refine g_run 2 267 [some (.ref a), some (.ref x1), some (.int x2), some (.int q1), some (.int q2), some (.int q4), some (.int q5), some (.int q8), some (.int q13), some (.int q21), some (.int q26)] [.int (1 : Int32), .int (5 : Int32), .int x2, .ref (a + 1)] (fun _ => rfl) ?_
                cases e
                exact hjq37 trivial
            replace e := eq33
            refine g_if (p1 := 247) (L1 := [some (.ref a), some (.ref x1), some (.int x2), some (.int q1), some (.int q2), some (.int q4), some (.int q5), some (.int q8), some (.int q13), some (.int q21), some (.int q26)]) (S1 := [.int (4 : Int32), .int x2, .ref (a + 1)]) (s1 := (l, r, q30, j)) (p2 := 243) (L2 := [some (.ref a), some (.ref x1), some (.int x2), some (.int q1), some (.int q2), some (.int q4), some (.int q5), some (.int q8), some (.int q13), some (.int q21), some (.int q26)]) (S2 := [.int (4 : Int32), .int x2, .ref (a + 1)]) (s2 := (l, r, q30, j)) rfl (fun _ _ => rfl) e (fun c31 e => ?_) (fun c31 e => ?_)
            · refine g_run 1 248 [some (.ref a), some (.ref x1), some (.int x2), some (.int q1), some (.int q2), some (.int q4), some (.int q5), some (.int q8), some (.int q13), some (.int q21), some (.int q26)] [.int (0 : Int32), .int (4 : Int32), .int x2, .ref (a + 1)] (fun _ => rfl) ?_
              cases e
              exact hjq33 trivial
            · refine g_run 2 248 [some (.ref a), some (.ref x1), some (.int x2), some (.int q1), some (.int q2), some (.int q4), some (.int q5), some (.int q8), some (.int q13), some (.int q21), some (.int q26)] [.int (1 : Int32), .int (4 : Int32), .int x2, .ref (a + 1)] (fun _ => rfl) ?_
              cases e
              exact hjq33 trivial
          replace e := eq26
          refine g_if (p1 := 154) (L1 := [some (.ref a), some (.ref x1), some (.int x2), some (.int q1), some (.int q2), some (.int q4), some (.int q5), some (.int q8), some (.int q13), some (.int q21), none]) (S1 := []) (s1 := (l, r, h, j)) (p2 := 171) (L2 := [some (.ref a), some (.ref x1), some (.int x2), some (.int q1), some (.int q2), some (.int q4), some (.int q5), some (.int q8), some (.int q13), some (.int q21), none]) (S2 := []) (s2 := (l, r, h, j)) rfl (fun _ _ => rfl) e (fun c22 e => ?_) (fun c22 e => ?_)
          · refine g_run 1 156 [some (.ref a), some (.ref x1), some (.int x2), some (.int q1), some (.int q2), some (.int q4), some (.int q5), some (.int q8), some (.int q13), some (.int q21), none] [.int q4] (fun _ => rfl) ?_
            refine g_if (p1 := 159) (L1 := [some (.ref a), some (.ref x1), some (.int x2), some (.int q1), some (.int q2), some (.int q4), some (.int q5), some (.int q8), some (.int q13), some (.int q21), none]) (S1 := []) (s1 := (l, r, h, j)) (p2 := 171) (L2 := [some (.ref a), some (.ref x1), some (.int x2), some (.int q1), some (.int q2), some (.int q4), some (.int q5), some (.int q8), some (.int q13), some (.int q21), none]) (S2 := []) (s2 := (l, r, h, j)) rfl (fun _ _ => rfl) e (fun c24 e => ?_) (fun c24 e => ?_)
            · refine g_run 1 160 [some (.ref a), some (.ref x1), some (.int x2), some (.int q1), some (.int q2), some (.int q4), some (.int q5), some (.int q8), some (.int q13), some (.int q21), none] [.ref x1] (fun _ => rfl) ?_
              refine g_getA 163 rfl rfl (Pk_l kx1) (Pk_r12 kx1) ?_
              refine g_run 2 165 [some (.ref a), some (.ref x1), some (.int x2), some (.int q1), some (.int q2), some (.int q4), some (.int q5), some (.int q8), some (.int q13), some (.int q21), none] [.int (3 : Int32), .int x2, .ref (x1 + 11)] (fun _ => rfl) ?_
              obtain ⟨q25, eq25, e⟩ := g_bd e
              refine g_cV 168 rfl rfl rfl rfl rfl (Rw_l (Pk_k12 kx1)) (Rw_get_s (Pk_k12 kx1) eq25) ?_
              refine g_run 1 172 [some (.ref a), some (.ref x1), some (.int x2), some (.int q1), some (.int q2), some (.int q4), some (.int q5), some (.int q8), some (.int q13), some (.int q21), none] [.int q25] (fun _ => rfl) ?_
              cases e
              exact hjq26 trivial
            · refine g_run 1 172 [some (.ref a), some (.ref x1), some (.int x2), some (.int q1), some (.int q2), some (.int q4), some (.int q5), some (.int q8), some (.int q13), some (.int q21), none] [.int (0 : Int32)] (fun _ => rfl) ?_
              cases e
              exact hjq26 trivial
          · refine g_run 1 172 [some (.ref a), some (.ref x1), some (.int x2), some (.int q1), some (.int q2), some (.int q4), some (.int q5), some (.int q8), some (.int q13), some (.int q21), none] [.int (0 : Int32)] (fun _ => rfl) ?_
            cases e
            exact hjq26 trivial
        replace e := eq21
        refine g_if (p1 := 108) (L1 := [some (.ref a), some (.ref x1), some (.int x2), some (.int q1), some (.int q2), some (.int q4), some (.int q5), some (.int q8), some (.int q13), some (.int (0 : Int32)), none]) (S1 := []) (s1 := (l, r, h, j)) (p2 := 127) (L2 := [some (.ref a), some (.ref x1), some (.int x2), some (.int q1), some (.int q2), some (.int q4), some (.int q5), some (.int q8), some (.int q13), some (.int (0 : Int32)), none]) (S2 := []) (s2 := (l, r, h, j)) rfl (fun _ _ => rfl) e (fun c14 e => ?_) (fun c14 e => ?_)
        · refine g_run 1 109 [some (.ref a), some (.ref x1), some (.int x2), some (.int q1), some (.int q2), some (.int q4), some (.int q5), some (.int q8), some (.int q13), some (.int (0 : Int32)), none] [.ref x1] (fun _ => rfl) ?_
          refine g_getA 112 rfl rfl (Pk_l kx1) (Pk_r12 kx1) ?_
          refine g_run 2 114 [some (.ref a), some (.ref x1), some (.int x2), some (.int q1), some (.int q2), some (.int q4), some (.int q5), some (.int q8), some (.int q13), some (.int (0 : Int32)), none] [.int (4 : Int32), .int x2, .ref (x1 + 11)] (fun _ => rfl) ?_
          obtain ⟨q16, eq16, e⟩ := g_bd e
          refine g_cV 117 rfl rfl rfl rfl rfl (Rw_l (Pk_k12 kx1)) (Rw_get_s (Pk_k12 kx1) eq16) ?_
          refine g_run 1 119 [some (.ref a), some (.ref x1), some (.int x2), some (.int q1), some (.int q2), some (.int q4), some (.int q5), some (.int q8), some (.int q13), some (.int (0 : Int32)), none] [.int q4, .int q16] (fun _ => rfl) ?_
          obtain ⟨q17, eq17, e⟩ := g_bd e
          refine g_cS 122 rfl rfl (by decide) rfl rfl rfl (Wp_atStage_s eq17) ?_
          refine g_run 2 149 [some (.ref a), some (.ref x1), some (.int x2), some (.int q1), some (.int q2), some (.int q4), some (.int q5), some (.int q8), some (.int q13), some (.int q17), none] [] (fun _ => rfl) ?_
          cases e
          exact hjq21 trivial
        · refine g_run 2 130 [some (.ref a), some (.ref x1), some (.int x2), some (.int q1), some (.int q2), some (.int q4), some (.int q5), some (.int q8), some (.int q13), some (.int (0 : Int32)), none] [.int (1 : Int32), .int q13] (fun _ => rfl) ?_
          refine g_if (p1 := 133) (L1 := [some (.ref a), some (.ref x1), some (.int x2), some (.int q1), some (.int q2), some (.int q4), some (.int q5), some (.int q8), some (.int q13), some (.int (0 : Int32)), none]) (S1 := []) (s1 := (l, r, h, j)) (p2 := 149) (L2 := [some (.ref a), some (.ref x1), some (.int x2), some (.int q1), some (.int q2), some (.int q4), some (.int q5), some (.int q8), some (.int q13), some (.int (0 : Int32)), none]) (S2 := []) (s2 := (l, r, h, j)) rfl (fun _ _ => rfl) e (fun c18 e => ?_) (fun c18 e => ?_)
          · refine g_run 1 134 [some (.ref a), some (.ref x1), some (.int x2), some (.int q1), some (.int q2), some (.int q4), some (.int q5), some (.int q8), some (.int q13), some (.int (0 : Int32)), none] [.ref x1] (fun _ => rfl) ?_
            refine g_getA 137 rfl rfl (Pk_l kx1) (Pk_r12 kx1) ?_
            refine g_run 2 139 [some (.ref a), some (.ref x1), some (.int x2), some (.int q1), some (.int q2), some (.int q4), some (.int q5), some (.int q8), some (.int q13), some (.int (0 : Int32)), none] [.int (5 : Int32), .int x2, .ref (x1 + 11)] (fun _ => rfl) ?_
            obtain ⟨q19, eq19, e⟩ := g_bd e
            refine g_cV 142 rfl rfl rfl rfl rfl (Rw_l (Pk_k12 kx1)) (Rw_get_s (Pk_k12 kx1) eq19) ?_
            refine g_run 1 144 [some (.ref a), some (.ref x1), some (.int x2), some (.int q1), some (.int q2), some (.int q4), some (.int q5), some (.int q8), some (.int q13), some (.int (0 : Int32)), none] [.int q4, .int q19] (fun _ => rfl) ?_
            obtain ⟨q20, eq20, e⟩ := g_bd e
            refine g_cS 147 rfl rfl (by decide) rfl rfl rfl (Wp_atStage_s eq20) ?_
            refine g_run 1 149 [some (.ref a), some (.ref x1), some (.int x2), some (.int q1), some (.int q2), some (.int q4), some (.int q5), some (.int q8), some (.int q13), some (.int q20), none] [] (fun _ => rfl) ?_
            cases e
            exact hjq21 trivial
          · cases e
            exact hjq21 trivial
      replace e := eq12
      refine g_if (p1 := 93) (L1 := [some (.ref a), some (.ref x1), some (.int x2), some (.int q1), some (.int q2), some (.int q4), some (.int q5), some (.int q8), none, none, none]) (S1 := [.int q4, .int x2, .ref x1, .ref a]) (s1 := (l, r, h, j)) (p2 := 84) (L2 := [some (.ref a), some (.ref x1), some (.int x2), some (.int q1), some (.int q2), some (.int q4), some (.int q5), some (.int q8), none, none, none]) (S2 := [.int q4, .int x2, .ref x1, .ref a]) (s2 := (l, r, h, j)) rfl (fun _ _ => rfl) e (fun c9 e => ?_) (fun c9 e => ?_)
      · refine g_run 1 94 [some (.ref a), some (.ref x1), some (.int x2), some (.int q1), some (.int q2), some (.int q4), some (.int q5), some (.int q8), none, none, none] [.int (0 : Int32), .int q4, .int x2, .ref x1, .ref a] (fun _ => rfl) ?_
        cases e
        exact hjq12 trivial
      · refine g_run 1 86 [some (.ref a), some (.ref x1), some (.int x2), some (.int q1), some (.int q2), some (.int q4), some (.int q5), some (.int q8), none, none, none] [.int q8, .int q4, .int x2, .ref x1, .ref a] (fun _ => rfl) ?_
        refine g_if (p1 := 93) (L1 := [some (.ref a), some (.ref x1), some (.int x2), some (.int q1), some (.int q2), some (.int q4), some (.int q5), some (.int q8), none, none, none]) (S1 := [.int q4, .int x2, .ref x1, .ref a]) (s1 := (l, r, h, j)) (p2 := 89) (L2 := [some (.ref a), some (.ref x1), some (.int x2), some (.int q1), some (.int q2), some (.int q4), some (.int q5), some (.int q8), none, none, none]) (S2 := [.int q4, .int x2, .ref x1, .ref a]) (s2 := (l, r, h, j)) rfl (fun _ _ => rfl) e (fun c11 e => ?_) (fun c11 e => ?_)
        · refine g_run 1 94 [some (.ref a), some (.ref x1), some (.int x2), some (.int q1), some (.int q2), some (.int q4), some (.int q5), some (.int q8), none, none, none] [.int (0 : Int32), .int q4, .int x2, .ref x1, .ref a] (fun _ => rfl) ?_
          cases e
          exact hjq12 trivial
        · refine g_run 2 94 [some (.ref a), some (.ref x1), some (.int x2), some (.int q1), some (.int q2), some (.int q4), some (.int q5), some (.int q8), none, none, none] [.int (1 : Int32), .int q4, .int x2, .ref x1, .ref a] (fun _ => rfl) ?_
          cases e
          exact hjq12 trivial
    replace e := eq8
    refine g_if (p1 := 71) (L1 := [some (.ref a), some (.ref x1), some (.int x2), some (.int q1), some (.int q2), some (.int q4), some (.int q5), none, none, none, none]) (S1 := []) (s1 := (l, r, h, j)) (p2 := 67) (L2 := [some (.ref a), some (.ref x1), some (.int x2), some (.int q1), some (.int q2), some (.int q4), some (.int q5), none, none, none, none]) (S2 := []) (s2 := (l, r, h, j)) rfl (fun _ _ => rfl) e (fun c6 e => ?_) (fun c6 e => ?_)
    · refine g_run 1 72 [some (.ref a), some (.ref x1), some (.int x2), some (.int q1), some (.int q2), some (.int q4), some (.int q5), none, none, none, none] [.int (0 : Int32)] (fun _ => rfl) ?_
      cases e
      exact hjq8 trivial
    · refine g_run 2 72 [some (.ref a), some (.ref x1), some (.int x2), some (.int q1), some (.int q2), some (.int q4), some (.int q5), none, none, none, none] [.int (1 : Int32)] (fun _ => rfl) ?_
      cases e
      exact hjq8 trivial
def Dy_goThrough_l18 (l : List (Nat × Nat)) (r : am_R) (x0 : Nat) (x1 : Nat) : Nat → Int32 → am_F → Option (am_F)
  | 0, _, _ => none
  | n + 1, x2, h =>
    if (h x0 14) ≤ x2 then
      some h
    else
      if (18 : Int32) ≤ x2 then
        some h
      else
        (g_ix x2 18).bind fun k5 =>
        (if (h (x0 + 8) k5) < (4 : Int32) then
            (Rw_get l r (x1 + 9) (h (x0 + 8) k5) (0 : Int32) h).bind fun q8 =>
            (Rw_get l r (x1 + 9) (h (x0 + 8) k5) (1 : Int32) h).bind fun q9 =>
            (Pk_stageOf x1 q8 q9 h).bind fun q10 =>
            (Dy_print x0 q8 q9 q10 h).bind fun q11 =>
            some q11
          else
            (Dy_come l r x0 x1 ((h (x0 + 8) k5) - (4 : Int32)) h).bind fun q12 =>
            some q12 : Option (am_F)).bind fun q13 =>
        Dy_goThrough_l18 l r x0 x1 n (x2 + (1 : Int32)) q13
def Dy_goThrough (l : List (Nat × Nat)) (r : am_R) (a : Nat) (x1 : Nat) (h : am_F) : Option (am_F) :=
  (Dy_clear l r a (h (x1 + 11) 3) h).bind fun q1 =>
  (Dy_lineUp l r a x1 q1).bind fun q2 =>
  (Dy_goThrough_l18 l r a x1 g_fu (0 : Int32) q2).bind fun q16 =>
  some q16
theorem Dy_goThrough_l18_s {X : Nat × (Nat → Int32)} {l : List (Nat × Nat)} {r : am_R} {x0 : Nat} {x1 : Nat} {j : am_J} {q : am_F} {R : Option Value × am_S} (kx0 : Dy_K l r x0) (kx1 : Pk_K l r x1) (hx : ∀ (d3 : Option Value) (d4 : Option Value) (d5 : Option Value) (y2 : Int32) , Ev X 3 102 [some (.ref x0), some (.ref x1), some (.int y2), d3, d4, d5] [] (l, r, q, j) R) : ∀ (n : Nat) (x2 : Int32) (h : am_F) (d3 : Option Value) (d4 : Option Value) (d5 : Option Value), Dy_goThrough_l18 l r x0 x1 n x2 h = some q → Ev X 3 18 [some (.ref x0), some (.ref x1), some (.int x2), d3, d4, d5] [] (l, r, h, j) R := by
  intro n
  induction n with
  | zero => intro x2 h d3 d4 d5 e; cases e
  | succ n ih =>
    intro x2 h d3 d4 d5 e
    unfold Dy_goThrough_l18 at e
    refine g_run 2 20 [some (.ref x0), some (.ref x1), some (.int x2), d3, d4, d5] [.ref x0, .int x2] (fun _ => rfl) ?_
    refine g_getI 23 rfl rfl (Dy_l kx0) ?_
    refine g_if (p1 := 102) (L1 := [some (.ref x0), some (.ref x1), some (.int x2), d3, d4, d5]) (S1 := []) (s1 := (l, r, h, j)) (p2 := 26) (L2 := [some (.ref x0), some (.ref x1), some (.int x2), d3, d4, d5]) (S2 := []) (s2 := (l, r, h, j)) rfl (fun _ _ => rfl) e (fun c3 e => ?_) (fun c3 e => ?_)
    · cases e
      exact hx _ _ _ _
    · refine g_run 2 28 [some (.ref x0), some (.ref x1), some (.int x2), d3, d4, d5] [.ref x0, .int x2] (fun _ => rfl) ?_
      refine g_getA 31 rfl rfl (Dy_l kx0) (Dy_r12 kx0) ?_
      refine g_alen 32 rfl rfl (Dy_k12 kx0) rfl ?_
      refine g_if (p1 := 102) (L1 := [some (.ref x0), some (.ref x1), some (.int x2), d3, d4, d5]) (S1 := []) (s1 := (l, r, h, j)) (p2 := 35) (L2 := [some (.ref x0), some (.ref x1), some (.int x2), d3, d4, d5]) (S2 := []) (s2 := (l, r, h, j)) rfl (fun _ _ => rfl) e (fun c4 e => ?_) (fun c4 e => ?_)
      · cases e
        exact hx _ _ _ _
      · refine g_run 1 36 [some (.ref x0), some (.ref x1), some (.int x2), d3, d4, d5] [.ref x0] (fun _ => rfl) ?_
        refine g_getA 39 rfl rfl (Dy_l kx0) (Dy_r12 kx0) ?_
        refine g_run 1 40 [some (.ref x0), some (.ref x1), some (.int x2), d3, d4, d5] [.int x2, .ref (x0 + 8)] (fun _ => rfl) ?_
        obtain ⟨k5, ek5, e⟩ := g_bd e
        refine g_iald 41 rfl rfl (Dy_k12 kx0) ek5 ?_
        refine g_run 3 44 [some (.ref x0), some (.ref x1), some (.int x2), some (.int (h (x0 + 8) k5)), d4, d5] [.int (4 : Int32), .int (h (x0 + 8) k5)] (fun _ => rfl) ?_
        obtain ⟨q13, eq13, e⟩ := g_bd e
        have hjq13 : ∀ (d14 d15 : Option Value), Ev X 3 96 [some (.ref x0), some (.ref x1), some (.int x2), some (.int (h (x0 + 8) k5)), d14, d15] [] (l, r, q13, j) R := by
          intro d14 d15
          refine g_run 2 18 [some (.ref x0), some (.ref x1), some (.int (x2 + (1 : Int32))), some (.int (h (x0 + 8) k5)), d14, d15] [] (fun _ => rfl) ?_
          exact ih _ _ _ _ _ e
        replace e := eq13
        refine g_if (p1 := 58) (L1 := [some (.ref x0), some (.ref x1), some (.int x2), some (.int (h (x0 + 8) k5)), d4, d5]) (S1 := []) (s1 := (l, r, h, j)) (p2 := 47) (L2 := [some (.ref x0), some (.ref x1), some (.int x2), some (.int (h (x0 + 8) k5)), d4, d5]) (S2 := []) (s2 := (l, r, h, j)) rfl (fun _ _ => rfl) e (fun c6 e => ?_) (fun c6 e => ?_)
        · refine g_run 1 59 [some (.ref x0), some (.ref x1), some (.int x2), some (.int (h (x0 + 8) k5)), d4, d5] [.ref x1] (fun _ => rfl) ?_
          refine g_getA 62 rfl rfl (Pk_l kx1) (Pk_r11 kx1) ?_
          refine g_run 2 64 [some (.ref x0), some (.ref x1), some (.int x2), some (.int (h (x0 + 8) k5)), d4, d5] [.int (0 : Int32), .int (h (x0 + 8) k5), .ref (x1 + 9)] (fun _ => rfl) ?_
          obtain ⟨q8, eq8, e⟩ := g_bd e
          refine g_cV 67 rfl rfl rfl rfl rfl (Rw_l (Pk_k11 kx1)) (Rw_get_s (Pk_k11 kx1) eq8) ?_
          refine g_run 2 70 [some (.ref x0), some (.ref x1), some (.int x2), some (.int (h (x0 + 8) k5)), some (.int q8), d5] [.ref x1] (fun _ => rfl) ?_
          refine g_getA 73 rfl rfl (Pk_l kx1) (Pk_r11 kx1) ?_
          refine g_run 2 75 [some (.ref x0), some (.ref x1), some (.int x2), some (.int (h (x0 + 8) k5)), some (.int q8), d5] [.int (1 : Int32), .int (h (x0 + 8) k5), .ref (x1 + 9)] (fun _ => rfl) ?_
          obtain ⟨q9, eq9, e⟩ := g_bd e
          refine g_cV 78 rfl rfl rfl rfl rfl (Rw_l (Pk_k11 kx1)) (Rw_get_s (Pk_k11 kx1) eq9) ?_
          refine g_run 7 90 [some (.ref x0), some (.ref x1), some (.int x2), some (.int (h (x0 + 8) k5)), some (.int q8), some (.int q9)] [.int q9, .int q8, .ref x1, .int q9, .int q8, .ref x0] (fun _ => rfl) ?_
          obtain ⟨q10, eq10, e⟩ := g_bd e
          refine g_cV 93 rfl rfl rfl rfl rfl (Pk_l kx1) (Pk_stageOf_s kx1 eq10) ?_
          obtain ⟨q11, eq11, e⟩ := g_bd e
          refine g_cVv 96 rfl rfl rfl rfl rfl (Dy_l kx0) (Dy_print_s kx0 eq11) ?_
          cases e
          exact hjq13 _ _
        · refine g_run 5 52 [some (.ref x0), some (.ref x1), some (.int x2), some (.int (h (x0 + 8) k5)), d4, d5] [.int ((h (x0 + 8) k5) - (4 : Int32)), .ref x1, .ref x0] (fun _ => rfl) ?_
          obtain ⟨q12, eq12, e⟩ := g_bd e
          refine g_cVv 55 rfl rfl rfl rfl rfl (Dy_l kx0) (Dy_come_s kx0 kx1 eq12) ?_
          refine g_run 1 96 [some (.ref x0), some (.ref x1), some (.int x2), some (.int (h (x0 + 8) k5)), d4, d5] [] (fun _ => rfl) ?_
          cases e
          exact hjq13 _ _
theorem Dy_goThrough_s {X : Nat × (Nat → Int32)} {l : List (Nat × Nat)} {r : am_R} {h : am_F} {j : am_J} {a : Nat} {x1 : Nat} (ka : Dy_K l r a) (kx1 : Pk_K l r x1) {q : am_F} (e : Dy_goThrough l r a x1 h = some q) : Call X 3 [.ref a, .ref x1] (l, r, h, j) (none, (l, r, q, j)) := by
  unfold Dy_goThrough at e
  refine ⟨Nat.le_of_ble_eq_true rfl, ?_⟩
  show Ev X 3 0 [some (.ref a), some (.ref x1), none, none, none, none] [] (l, r, h, j) _
  refine g_run 2 2 [some (.ref a), some (.ref x1), none, none, none, none] [.ref x1, .ref a] (fun _ => rfl) ?_
  refine g_getA 5 rfl rfl (Pk_l kx1) (Pk_r12 kx1) ?_
  refine g_getI 8 rfl rfl (Rw_l (Pk_k12 kx1)) ?_
  obtain ⟨q1, eq1, e⟩ := g_bd e
  refine g_cVv 11 rfl rfl rfl rfl rfl (Dy_l ka) (Dy_clear_s ka eq1) ?_
  refine g_run 2 13 [some (.ref a), some (.ref x1), none, none, none, none] [.ref x1, .ref a] (fun _ => rfl) ?_
  obtain ⟨q2, eq2, e⟩ := g_bd e
  refine g_cVv 16 rfl rfl rfl rfl rfl (Dy_l ka) (Dy_lineUp_s ka kx1 eq2) ?_
  refine g_run 2 18 [some (.ref a), some (.ref x1), some (.int (0 : Int32)), none, none, none] [] (fun _ => rfl) ?_
  obtain ⟨q16, eq16, e⟩ := g_bd e
  refine Dy_goThrough_l18_s ka kx1 (fun d17 d18 d19 y20 => ?_) _ _ _ _ _ _ eq16
  cases e
  exact g_ret rfl (fun _ _ => rfl)
def Dy_runDays_l12 (l : List (Nat × Nat)) (r : am_R) (x0 : Nat) (x1 : Nat) (x2 : Int32) : Nat → Int32 → Int32 → Int32 → am_F → Option (Int32 × am_F)
  | 0, _, _, _, _ => none
  | n + 1, x3, x4, x5, h =>
    if x2 ≤ x5 then
      some (x3, h)
    else
      (Dy_goThrough l r x0 x1 h).bind fun q3 =>
      (if x5 ≤ 0 then
          some x3
        else
          if (q3 x0 0) = x4 then
            some x3
          else
            some (x3 + (1 : Int32)) : Option (Int32)).bind fun q7 =>
      Dy_runDays_l12 l r x0 x1 x2 n q7 (q3 x0 0) (x5 + (1 : Int32)) q3
def Dy_runDays (l : List (Nat × Nat)) (r : am_R) (a : Nat) (x1 : Nat) (x2 : Int32) (h : am_F) : Option (Int32 × am_F) :=
  (Dy_forget a h).bind fun q1 =>
  (Dy_runDays_l12 l r a x1 x2 g_fu (0 : Int32) (0 : Int32) (0 : Int32) q1).bind fun q8 =>
  some (q8.1, q8.2)
theorem Dy_runDays_l12_s {X : Nat × (Nat → Int32)} {l : List (Nat × Nat)} {r : am_R} {x0 : Nat} {x1 : Nat} {x2 : Int32} {j : am_J} {q : Int32 × am_F} {R : Option Value × am_S} (kx0 : Dy_K l r x0) (kx1 : Pk_K l r x1) (hx : ∀ (y4 : Int32) (y5 : Int32) , Ev X 2 52 [some (.ref x0), some (.ref x1), some (.int x2), some (.int q.1), some (.int y4), some (.int y5)] [] (l, r, q.2, j) R) : ∀ (n : Nat) (x3 : Int32) (x4 : Int32) (x5 : Int32) (h : am_F), Dy_runDays_l12 l r x0 x1 x2 n x3 x4 x5 h = some q → Ev X 2 12 [some (.ref x0), some (.ref x1), some (.int x2), some (.int x3), some (.int x4), some (.int x5)] [] (l, r, h, j) R := by
  intro n
  induction n with
  | zero => intro x3 x4 x5 h e; cases e
  | succ n ih =>
    intro x3 x4 x5 h e
    unfold Dy_runDays_l12 at e
    refine g_run 2 15 [some (.ref x0), some (.ref x1), some (.int x2), some (.int x3), some (.int x4), some (.int x5)] [.int x2, .int x5] (fun _ => rfl) ?_
    refine g_if (p1 := 52) (L1 := [some (.ref x0), some (.ref x1), some (.int x2), some (.int x3), some (.int x4), some (.int x5)]) (S1 := []) (s1 := (l, r, h, j)) (p2 := 18) (L2 := [some (.ref x0), some (.ref x1), some (.int x2), some (.int x3), some (.int x4), some (.int x5)]) (S2 := []) (s2 := (l, r, h, j)) rfl (fun _ _ => rfl) e (fun c2 e => ?_) (fun c2 e => ?_)
    · cases e
      exact hx _ _
    · refine g_run 2 20 [some (.ref x0), some (.ref x1), some (.int x2), some (.int x3), some (.int x4), some (.int x5)] [.ref x1, .ref x0] (fun _ => rfl) ?_
      obtain ⟨q3, eq3, e⟩ := g_bd e
      refine g_cVv 23 rfl rfl rfl rfl rfl (Dy_l kx0) (Dy_goThrough_s kx0 kx1 eq3) ?_
      refine g_run 1 25 [some (.ref x0), some (.ref x1), some (.int x2), some (.int x3), some (.int x4), some (.int x5)] [.int x5] (fun _ => rfl) ?_
      obtain ⟨q7, eq7, e⟩ := g_bd e
      have hjq7 : ∀ (_ : True), Ev X 2 40 [some (.ref x0), some (.ref x1), some (.int x2), some (.int q7), some (.int x4), some (.int x5)] [] (l, r, q3, j) R := by
        intro _
        refine g_run 1 41 [some (.ref x0), some (.ref x1), some (.int x2), some (.int q7), some (.int x4), some (.int x5)] [.ref x0] (fun _ => rfl) ?_
        refine g_getI 44 rfl rfl (Dy_l kx0) ?_
        refine g_run 3 12 [some (.ref x0), some (.ref x1), some (.int x2), some (.int q7), some (.int (q3 x0 0)), some (.int (x5 + (1 : Int32)))] [] (fun _ => rfl) ?_
        exact ih _ _ _ _ e
      replace e := eq7
      refine g_if (p1 := 40) (L1 := [some (.ref x0), some (.ref x1), some (.int x2), some (.int x3), some (.int x4), some (.int x5)]) (S1 := []) (s1 := (l, r, q3, j)) (p2 := 28) (L2 := [some (.ref x0), some (.ref x1), some (.int x2), some (.int x3), some (.int x4), some (.int x5)]) (S2 := []) (s2 := (l, r, q3, j)) rfl (fun _ _ => rfl) e (fun c4 e => ?_) (fun c4 e => ?_)
      · cases e
        exact hjq7 trivial
      · refine g_run 1 29 [some (.ref x0), some (.ref x1), some (.int x2), some (.int x3), some (.int x4), some (.int x5)] [.ref x0] (fun _ => rfl) ?_
        refine g_getI 32 rfl rfl (Dy_l kx0) ?_
        refine g_run 1 34 [some (.ref x0), some (.ref x1), some (.int x2), some (.int x3), some (.int x4), some (.int x5)] [.int x4, .int (q3 x0 0)] (fun _ => rfl) ?_
        refine g_if (p1 := 40) (L1 := [some (.ref x0), some (.ref x1), some (.int x2), some (.int x3), some (.int x4), some (.int x5)]) (S1 := []) (s1 := (l, r, q3, j)) (p2 := 37) (L2 := [some (.ref x0), some (.ref x1), some (.int x2), some (.int x3), some (.int x4), some (.int x5)]) (S2 := []) (s2 := (l, r, q3, j)) rfl (fun _ _ => rfl) e (fun c6 e => ?_) (fun c6 e => ?_)
        · cases e
          exact hjq7 trivial
        · refine g_run 1 40 [some (.ref x0), some (.ref x1), some (.int x2), some (.int (x3 + (1 : Int32))), some (.int x4), some (.int x5)] [] (fun _ => rfl) ?_
          cases e
          exact hjq7 trivial
theorem Dy_runDays_s {X : Nat × (Nat → Int32)} {l : List (Nat × Nat)} {r : am_R} {h : am_F} {j : am_J} {a : Nat} {x1 : Nat} {x2 : Int32} (ka : Dy_K l r a) (kx1 : Pk_K l r x1) {q : Int32 × am_F} (e : Dy_runDays l r a x1 x2 h = some q) : Call X 2 [.ref a, .ref x1, .int x2] (l, r, h, j) (some (.int q.1), (l, r, q.2, j)) := by
  unfold Dy_runDays at e
  refine ⟨Nat.le_of_ble_eq_true rfl, ?_⟩
  show Ev X 2 0 [some (.ref a), some (.ref x1), some (.int x2), none, none, none] [] (l, r, h, j) _
  refine g_run 1 1 [some (.ref a), some (.ref x1), some (.int x2), none, none, none] [.ref a] (fun _ => rfl) ?_
  obtain ⟨q1, eq1, e⟩ := g_bd e
  refine g_cVv 4 rfl rfl rfl rfl rfl (Dy_l ka) (Dy_forget_s ka eq1) ?_
  refine g_run 6 12 [some (.ref a), some (.ref x1), some (.int x2), some (.int (0 : Int32)), some (.int (0 : Int32)), some (.int (0 : Int32))] [] (fun _ => rfl) ?_
  obtain ⟨q8, eq8, e⟩ := g_bd e
  refine Dy_runDays_l12_s ka kx1 (fun y9 y10 => ?_) _ _ _ _ _ eq8
  refine g_run 1 53 [some (.ref a), some (.ref x1), some (.int x2), some (.int q8.1), some (.int y9), some (.int y10)] [.int q8.1] (fun _ => rfl) ?_
  cases e
  exact g_ret rfl (fun _ _ => rfl)
