/-! methods as functions, and their runs -/
def Pk_setRates_l7 (x0 : Nat) (x2 : Int32) (x3 : Int32) : Nat → Int32 → am_F → Option (am_F)
  | 0, _, _ => none
  | n + 1, x4, h =>
    if x2 < x4 then
      some h
    else
      if (48 : Int32) ≤ x4 then
        some h
      else
        (g_ix x4 48).bind fun k3 =>
        Pk_setRates_l7 x0 x2 x3 n (x4 + (1 : Int32)) (am_up h (x0 + 1) k3 x3)
def Pk_setRates (a : Nat) (x1 : Int32) (x2 : Int32) (x3 : Int32) (h : am_F) : Option (am_F) :=
  (Pk_setRates_l7 a x2 x3 g_fu (if (0 : Int32) < x1 then x1 else (0 : Int32)) h).bind fun q4 =>
  some q4
theorem Pk_setRates_l7_s {X : Nat × (Nat → Int32)} {l : List (Nat × Nat)} {r : am_R} {x0 : Nat} {x2 : Int32} {x3 : Int32} {y1 : Int32} {j : am_J} {q : am_F} {R : Option Value × am_S} (kx0 : Pk_K l r x0) (hx : ∀ (y4 : Int32) , Ev X 42 34 [some (.ref x0), some (.int y1), some (.int x2), some (.int x3), some (.int y4)] [] (l, r, q, j) R) : ∀ (n : Nat) (x4 : Int32) (h : am_F), Pk_setRates_l7 x0 x2 x3 n x4 h = some q → Ev X 42 7 [some (.ref x0), some (.int y1), some (.int x2), some (.int x3), some (.int x4)] [] (l, r, h, j) R := by
  intro n
  induction n with
  | zero => intro x4 h e; cases e
  | succ n ih =>
    intro x4 h e
    unfold Pk_setRates_l7 at e
    refine g_run 2 10 [some (.ref x0), some (.int y1), some (.int x2), some (.int x3), some (.int x4)] [.int x2, .int x4] (fun _ => rfl) ?_
    refine g_if (p1 := 34) (L1 := [some (.ref x0), some (.int y1), some (.int x2), some (.int x3), some (.int x4)]) (S1 := []) (s1 := (l, r, h, j)) (p2 := 13) (L2 := [some (.ref x0), some (.int y1), some (.int x2), some (.int x3), some (.int x4)]) (S2 := []) (s2 := (l, r, h, j)) rfl (fun _ _ => rfl) e (fun c1 e => ?_) (fun c1 e => ?_)
    · cases e
      exact hx _
    · refine g_run 2 17 [some (.ref x0), some (.int y1), some (.int x2), some (.int x3), some (.int x4)] [.int (48 : Int32), .int x4] (fun _ => rfl) ?_
      refine g_if (p1 := 34) (L1 := [some (.ref x0), some (.int y1), some (.int x2), some (.int x3), some (.int x4)]) (S1 := []) (s1 := (l, r, h, j)) (p2 := 20) (L2 := [some (.ref x0), some (.int y1), some (.int x2), some (.int x3), some (.int x4)]) (S2 := []) (s2 := (l, r, h, j)) rfl (fun _ _ => rfl) e (fun c2 e => ?_) (fun c2 e => ?_)
      · cases e
        exact hx _
      · refine g_run 1 21 [some (.ref x0), some (.int y1), some (.int x2), some (.int x3), some (.int x4)] [.ref x0] (fun _ => rfl) ?_
        refine g_getA 24 rfl rfl (Pk_l kx0) (Pk_r4 kx0) ?_
        refine g_run 2 27 [some (.ref x0), some (.int y1), some (.int x2), some (.int x3), some (.int x4)] [.int x3, .int x4, .ref (x0 + 1)] (fun _ => rfl) ?_
        obtain ⟨k3, ek3, e⟩ := g_bd e
        refine g_iast 28 rfl rfl (Pk_k4 kx0) ek3 ?_
        refine g_run 2 7 [some (.ref x0), some (.int y1), some (.int x2), some (.int x3), some (.int (x4 + (1 : Int32)))] [] (fun _ => rfl) ?_
        exact ih _ _ e
theorem Pk_setRates_s {X : Nat × (Nat → Int32)} {l : List (Nat × Nat)} {r : am_R} {h : am_F} {j : am_J} {a : Nat} {x1 : Int32} {x2 : Int32} {x3 : Int32} (ka : Pk_K l r a) {q : am_F} (e : Pk_setRates a x1 x2 x3 h = some q) : Call X 42 [.ref a, .int x1, .int x2, .int x3] (l, r, h, j) (none, (l, r, q, j)) := by
  unfold Pk_setRates at e
  refine ⟨Nat.le_of_ble_eq_true rfl, ?_⟩
  show Ev X 42 0 [some (.ref a), some (.int x1), some (.int x2), some (.int x3), none] [] (l, r, h, j) _
  refine g_run 4 7 [some (.ref a), some (.int x1), some (.int x2), some (.int x3), some (.int (if (0 : Int32) < x1 then x1 else (0 : Int32)))] [] (fun _ => rfl) ?_
  obtain ⟨q4, eq4, e⟩ := g_bd e
  refine Pk_setRates_l7_s ka (fun y5 => ?_) _ _ _ eq4
  cases e
  exact g_ret rfl (fun _ _ => rfl)
def Pk_addBench (a : Nat) (x1 : Int32) (h : am_F) : Option (am_F) :=
  if (6 : Int32) ≤ (h a 3) then
    some h
  else
    (g_ix (h a 3) 6).bind fun k2 =>
    some (am_up (am_up h (a + 3) k2 x1) a 3 (((am_up h (a + 3) k2 x1) a 3) + (1 : Int32)))
theorem Pk_addBench_s {X : Nat × (Nat → Int32)} {l : List (Nat × Nat)} {r : am_R} {h : am_F} {j : am_J} {a : Nat} {x1 : Int32} (ka : Pk_K l r a) {q : am_F} (e : Pk_addBench a x1 h = some q) : Call X 43 [.ref a, .int x1] (l, r, h, j) (none, (l, r, q, j)) := by
  unfold Pk_addBench at e
  refine ⟨Nat.le_of_ble_eq_true rfl, ?_⟩
  show Ev X 43 0 [some (.ref a), some (.int x1)] [] (l, r, h, j) _
  refine g_run 1 1 [some (.ref a), some (.int x1)] [.ref a] (fun _ => rfl) ?_
  refine g_getI 4 rfl rfl (Pk_l ka) ?_
  refine g_run 1 6 [some (.ref a), some (.int x1)] [.int (6 : Int32), .int (h a 3)] (fun _ => rfl) ?_
  refine g_if (p1 := 29) (L1 := [some (.ref a), some (.int x1)]) (S1 := []) (s1 := (l, r, h, j)) (p2 := 9) (L2 := [some (.ref a), some (.int x1)]) (S2 := []) (s2 := (l, r, h, j)) rfl (fun _ _ => rfl) e (fun c1 e => ?_) (fun c1 e => ?_)
  · cases e
    exact g_ret rfl (fun _ _ => rfl)
  · refine g_run 1 10 [some (.ref a), some (.int x1)] [.ref a] (fun _ => rfl) ?_
    refine g_getA 13 rfl rfl (Pk_l ka) (Pk_r6 ka) ?_
    refine g_run 1 14 [some (.ref a), some (.int x1)] [.ref a, .ref (a + 3)] (fun _ => rfl) ?_
    refine g_getI 17 rfl rfl (Pk_l ka) ?_
    refine g_run 1 18 [some (.ref a), some (.int x1)] [.int x1, .int (h a 3), .ref (a + 3)] (fun _ => rfl) ?_
    obtain ⟨k2, ek2, e⟩ := g_bd e
    refine g_iast 19 rfl rfl (Pk_k6 ka) ek2 ?_
    refine g_run 2 21 [some (.ref a), some (.int x1)] [.ref a, .ref a] (fun _ => rfl) ?_
    refine g_getI 24 rfl rfl (Pk_l ka) ?_
    refine g_run 2 26 [some (.ref a), some (.int x1)] [.int (((am_up h (a + 3) k2 x1) a 3) + (1 : Int32)), .ref a] (fun _ => rfl) ?_
    refine g_putI 29 rfl rfl (Pk_l ka) ?_
    cases e
    exact g_ret rfl (fun _ _ => rfl)
def Pk_setPainted (a : Nat) (x1 : Int32) (x2 : Int32) (h : am_F) : Option (am_F) :=
  if x1 < 0 then
    some h
  else
    if (6 : Int32) ≤ x1 then
      some h
    else
      (g_ix x1 6).bind fun k3 =>
      some (am_up h (a + 4) k3 x2)
theorem Pk_setPainted_s {X : Nat × (Nat → Int32)} {l : List (Nat × Nat)} {r : am_R} {h : am_F} {j : am_J} {a : Nat} {x1 : Int32} {x2 : Int32} (ka : Pk_K l r a) {q : am_F} (e : Pk_setPainted a x1 x2 h = some q) : Call X 44 [.ref a, .int x1, .int x2] (l, r, h, j) (none, (l, r, q, j)) := by
  unfold Pk_setPainted at e
  refine ⟨Nat.le_of_ble_eq_true rfl, ?_⟩
  show Ev X 44 0 [some (.ref a), some (.int x1), some (.int x2)] [] (l, r, h, j) _
  refine g_run 1 1 [some (.ref a), some (.int x1), some (.int x2)] [.int x1] (fun _ => rfl) ?_
  refine g_if (p1 := 17) (L1 := [some (.ref a), some (.int x1), some (.int x2)]) (S1 := []) (s1 := (l, r, h, j)) (p2 := 4) (L2 := [some (.ref a), some (.int x1), some (.int x2)]) (S2 := []) (s2 := (l, r, h, j)) rfl (fun _ _ => rfl) e (fun c1 e => ?_) (fun c1 e => ?_)
  · cases e
    exact g_ret rfl (fun _ _ => rfl)
  · refine g_run 2 7 [some (.ref a), some (.int x1), some (.int x2)] [.int (6 : Int32), .int x1] (fun _ => rfl) ?_
    refine g_if (p1 := 17) (L1 := [some (.ref a), some (.int x1), some (.int x2)]) (S1 := []) (s1 := (l, r, h, j)) (p2 := 10) (L2 := [some (.ref a), some (.int x1), some (.int x2)]) (S2 := []) (s2 := (l, r, h, j)) rfl (fun _ _ => rfl) e (fun c2 e => ?_) (fun c2 e => ?_)
    · cases e
      exact g_ret rfl (fun _ _ => rfl)
    · refine g_run 1 11 [some (.ref a), some (.int x1), some (.int x2)] [.ref a] (fun _ => rfl) ?_
      refine g_getA 14 rfl rfl (Pk_l ka) (Pk_r7 ka) ?_
      refine g_run 2 16 [some (.ref a), some (.int x1), some (.int x2)] [.int x2, .int x1, .ref (a + 4)] (fun _ => rfl) ?_
      obtain ⟨k3, ek3, e⟩ := g_bd e
      refine g_iast 17 rfl rfl (Pk_k7 ka) ek3 ?_
      cases e
      exact g_ret rfl (fun _ _ => rfl)
def Pk_setCard (a : Nat) (x1 : Int32) (x2 : Int32) (x3 : Int32) (h : am_F) : Option (am_F) :=
  if x1 < 0 then
    some h
  else
    if (6 : Int32) ≤ x1 then
      some h
    else
      (g_ix x1 6).bind fun k3 =>
      (g_ix x1 6).bind fun k4 =>
      some (am_up (am_up h (a + 5) k3 x2) (a + 6) k4 x3)
theorem Pk_setCard_s {X : Nat × (Nat → Int32)} {l : List (Nat × Nat)} {r : am_R} {h : am_F} {j : am_J} {a : Nat} {x1 : Int32} {x2 : Int32} {x3 : Int32} (ka : Pk_K l r a) {q : am_F} (e : Pk_setCard a x1 x2 x3 h = some q) : Call X 45 [.ref a, .int x1, .int x2, .int x3] (l, r, h, j) (none, (l, r, q, j)) := by
  unfold Pk_setCard at e
  refine ⟨Nat.le_of_ble_eq_true rfl, ?_⟩
  show Ev X 45 0 [some (.ref a), some (.int x1), some (.int x2), some (.int x3)] [] (l, r, h, j) _
  refine g_run 1 1 [some (.ref a), some (.int x1), some (.int x2), some (.int x3)] [.int x1] (fun _ => rfl) ?_
  refine g_if (p1 := 24) (L1 := [some (.ref a), some (.int x1), some (.int x2), some (.int x3)]) (S1 := []) (s1 := (l, r, h, j)) (p2 := 4) (L2 := [some (.ref a), some (.int x1), some (.int x2), some (.int x3)]) (S2 := []) (s2 := (l, r, h, j)) rfl (fun _ _ => rfl) e (fun c1 e => ?_) (fun c1 e => ?_)
  · cases e
    exact g_ret rfl (fun _ _ => rfl)
  · refine g_run 2 7 [some (.ref a), some (.int x1), some (.int x2), some (.int x3)] [.int (6 : Int32), .int x1] (fun _ => rfl) ?_
    refine g_if (p1 := 24) (L1 := [some (.ref a), some (.int x1), some (.int x2), some (.int x3)]) (S1 := []) (s1 := (l, r, h, j)) (p2 := 10) (L2 := [some (.ref a), some (.int x1), some (.int x2), some (.int x3)]) (S2 := []) (s2 := (l, r, h, j)) rfl (fun _ _ => rfl) e (fun c2 e => ?_) (fun c2 e => ?_)
    · cases e
      exact g_ret rfl (fun _ _ => rfl)
    · refine g_run 1 11 [some (.ref a), some (.int x1), some (.int x2), some (.int x3)] [.ref a] (fun _ => rfl) ?_
      refine g_getA 14 rfl rfl (Pk_l ka) (Pk_r8 ka) ?_
      refine g_run 2 16 [some (.ref a), some (.int x1), some (.int x2), some (.int x3)] [.int x2, .int x1, .ref (a + 5)] (fun _ => rfl) ?_
      obtain ⟨k3, ek3, e⟩ := g_bd e
      refine g_iast 17 rfl rfl (Pk_k8 ka) ek3 ?_
      refine g_run 1 18 [some (.ref a), some (.int x1), some (.int x2), some (.int x3)] [.ref a] (fun _ => rfl) ?_
      refine g_getA 21 rfl rfl (Pk_l ka) (Pk_r9 ka) ?_
      refine g_run 2 23 [some (.ref a), some (.int x1), some (.int x2), some (.int x3)] [.int x3, .int x1, .ref (a + 6)] (fun _ => rfl) ?_
      obtain ⟨k4, ek4, e⟩ := g_bd e
      refine g_iast 24 rfl rfl (Pk_k9 ka) ek4 ?_
      cases e
      exact g_ret rfl (fun _ _ => rfl)
def Pk_dries_l6 (x0 : Nat) (x1 : Int32) (h : am_F) : Nat → Int32 → Option (Int32)
  | 0, _ => none
  | n + 1, x2 =>
    if (48 : Int32) ≤ x2 then
      some (48 : Int32)
    else
      (Pk_wetness x0 x1 x2 h).bind fun q2 =>
      if q2 = 0 then
        some x2
      else
        Pk_dries_l6 x0 x1 h n (x2 + (1 : Int32))
def Pk_dries (a : Nat) (x1 : Int32) (h : am_F) : Option (Int32) :=
  Pk_dries_l6 a x1 h g_fu (if (0 : Int32) < x1 then x1 else (0 : Int32))
theorem Pk_dries_l6_s {X : Nat × (Nat → Int32)} {l : List (Nat × Nat)} {r : am_R} {x0 : Nat} {x1 : Int32} {h : am_F} {j : am_J} {q : Int32} (kx0 : Pk_K l r x0) : ∀ (n : Nat) (x2 : Int32), Pk_dries_l6 x0 x1 h n x2 = some q → Ev X 46 6 [some (.ref x0), some (.int x1), some (.int x2)] [] (l, r, h, j) (some (.int q), (l, r, h, j)) := by
  intro n
  induction n with
  | zero => intro x2 e; cases e
  | succ n ih =>
    intro x2 e
    unfold Pk_dries_l6 at e
    refine g_run 2 9 [some (.ref x0), some (.int x1), some (.int x2)] [.int (48 : Int32), .int x2] (fun _ => rfl) ?_
    refine g_if (p1 := 29) (L1 := [some (.ref x0), some (.int x1), some (.int x2)]) (S1 := []) (s1 := (l, r, h, j)) (p2 := 12) (L2 := [some (.ref x0), some (.int x1), some (.int x2)]) (S2 := []) (s2 := (l, r, h, j)) rfl (fun _ _ => rfl) e (fun c1 e => ?_) (fun c1 e => ?_)
    · refine g_run 1 31 [some (.ref x0), some (.int x1), some (.int x2)] [.int (48 : Int32)] (fun _ => rfl) ?_
      cases e
      exact g_ret rfl (fun _ _ => rfl)
    · refine g_run 3 15 [some (.ref x0), some (.int x1), some (.int x2)] [.int x2, .int x1, .ref x0] (fun _ => rfl) ?_
      obtain ⟨q2, eq2, e⟩ := g_bd e
      refine g_cV 18 rfl rfl rfl rfl rfl (Pk_l kx0) (Pk_wetness_s kx0 eq2) ?_
      refine g_if (p1 := 21) (L1 := [some (.ref x0), some (.int x1), some (.int x2)]) (S1 := []) (s1 := (l, r, h, j)) (p2 := 23) (L2 := [some (.ref x0), some (.int x1), some (.int x2)]) (S2 := []) (s2 := (l, r, h, j)) rfl (fun _ _ => rfl) e (fun c3 e => ?_) (fun c3 e => ?_)
      · refine g_run 1 22 [some (.ref x0), some (.int x1), some (.int x2)] [.int x2] (fun _ => rfl) ?_
        cases e
        exact g_ret rfl (fun _ _ => rfl)
      · refine g_run 2 6 [some (.ref x0), some (.int x1), some (.int (x2 + (1 : Int32)))] [] (fun _ => rfl) ?_
        exact ih _ e
theorem Pk_dries_s {X : Nat × (Nat → Int32)} {l : List (Nat × Nat)} {r : am_R} {h : am_F} {j : am_J} {a : Nat} {x1 : Int32} (ka : Pk_K l r a) {q : Int32} (e : Pk_dries a x1 h = some q) : Call X 46 [.ref a, .int x1] (l, r, h, j) (some (.int q), (l, r, h, j)) := by
  unfold Pk_dries at e
  refine ⟨Nat.le_of_ble_eq_true rfl, ?_⟩
  show Ev X 46 0 [some (.ref a), some (.int x1), none] [] (l, r, h, j) _
  refine g_run 4 6 [some (.ref a), some (.int x1), some (.int (if (0 : Int32) < x1 then x1 else (0 : Int32)))] [] (fun _ => rfl) ?_
  exact Pk_dries_l6_s ka _ _ e
def Pk_late_l4 (l : List (Nat × Nat)) (r : am_R) (x0 : Nat) (x1 : Int32) (h : am_F) : Nat → Int32 → Int32 → Option (Int32)
  | 0, _, _ => none
  | n + 1, x2, x3 =>
    if (h (x0 + 11) 3) ≤ x3 then
      some x2
    else
      (Rw_get l r (x0 + 11) x3 (2 : Int32) h).bind fun q2 =>
      (if q2 = x1 then
          (Rw_get l r (x0 + 11) x3 (1 : Int32) h).bind fun q5 =>
          (Pk_stageOf x0 x1 q5 h).bind fun q6 =>
          if q6 = 0 then
            some x2
          else
            some (x2 + (1 : Int32))
        else
          some x2 : Option (Int32)).bind fun q8 =>
      Pk_late_l4 l r x0 x1 h n q8 (x3 + (1 : Int32))
def Pk_late (l : List (Nat × Nat)) (r : am_R) (a : Nat) (x1 : Int32) (h : am_F) : Option (Int32) :=
  (Pk_late_l4 l r a x1 h g_fu (0 : Int32) (0 : Int32)).bind fun q9 =>
  some q9
theorem Pk_late_l4_s {X : Nat × (Nat → Int32)} {l : List (Nat × Nat)} {r : am_R} {x0 : Nat} {x1 : Int32} {h : am_F} {j : am_J} {q : Int32} {R : Option Value × am_S} (kx0 : Pk_K l r x0) (hx : ∀ (y3 : Int32) , Ev X 48 54 [some (.ref x0), some (.int x1), some (.int q), some (.int y3)] [] (l, r, h, j) R) : ∀ (n : Nat) (x2 : Int32) (x3 : Int32), Pk_late_l4 l r x0 x1 h n x2 x3 = some q → Ev X 48 4 [some (.ref x0), some (.int x1), some (.int x2), some (.int x3)] [] (l, r, h, j) R := by
  intro n
  induction n with
  | zero => intro x2 x3 e; cases e
  | succ n ih =>
    intro x2 x3 e
    unfold Pk_late_l4 at e
    refine g_run 2 6 [some (.ref x0), some (.int x1), some (.int x2), some (.int x3)] [.ref x0, .int x3] (fun _ => rfl) ?_
    refine g_getA 9 rfl rfl (Pk_l kx0) (Pk_r12 kx0) ?_
    refine g_getI 12 rfl rfl (Rw_l (Pk_k12 kx0)) ?_
    refine g_if (p1 := 54) (L1 := [some (.ref x0), some (.int x1), some (.int x2), some (.int x3)]) (S1 := []) (s1 := (l, r, h, j)) (p2 := 15) (L2 := [some (.ref x0), some (.int x1), some (.int x2), some (.int x3)]) (S2 := []) (s2 := (l, r, h, j)) rfl (fun _ _ => rfl) e (fun c1 e => ?_) (fun c1 e => ?_)
    · cases e
      exact hx _
    · refine g_run 1 16 [some (.ref x0), some (.int x1), some (.int x2), some (.int x3)] [.ref x0] (fun _ => rfl) ?_
      refine g_getA 19 rfl rfl (Pk_l kx0) (Pk_r12 kx0) ?_
      refine g_run 2 21 [some (.ref x0), some (.int x1), some (.int x2), some (.int x3)] [.int (2 : Int32), .int x3, .ref (x0 + 11)] (fun _ => rfl) ?_
      obtain ⟨q2, eq2, e⟩ := g_bd e
      refine g_cV 24 rfl rfl rfl rfl rfl (Rw_l (Pk_k12 kx0)) (Rw_get_s (Pk_k12 kx0) eq2) ?_
      refine g_run 1 25 [some (.ref x0), some (.int x1), some (.int x2), some (.int x3)] [.int x1, .int q2] (fun _ => rfl) ?_
      obtain ⟨q8, eq8, e⟩ := g_bd e
      have hjq8 : ∀ (_ : True), Ev X 48 48 [some (.ref x0), some (.int x1), some (.int q8), some (.int x3)] [] (l, r, h, j) R := by
        intro _
        refine g_run 2 4 [some (.ref x0), some (.int x1), some (.int q8), some (.int (x3 + (1 : Int32)))] [] (fun _ => rfl) ?_
        exact ih _ _ e
      replace e := eq8
      refine g_if (p1 := 28) (L1 := [some (.ref x0), some (.int x1), some (.int x2), some (.int x3)]) (S1 := []) (s1 := (l, r, h, j)) (p2 := 48) (L2 := [some (.ref x0), some (.int x1), some (.int x2), some (.int x3)]) (S2 := []) (s2 := (l, r, h, j)) rfl (fun _ _ => rfl) e (fun c3 e => ?_) (fun c3 e => ?_)
      · refine g_run 3 31 [some (.ref x0), some (.int x1), some (.int x2), some (.int x3)] [.ref x0, .int x1, .ref x0] (fun _ => rfl) ?_
        refine g_getA 34 rfl rfl (Pk_l kx0) (Pk_r12 kx0) ?_
        refine g_run 2 36 [some (.ref x0), some (.int x1), some (.int x2), some (.int x3)] [.int (1 : Int32), .int x3, .ref (x0 + 11), .int x1, .ref x0] (fun _ => rfl) ?_
        obtain ⟨q5, eq5, e⟩ := g_bd e
        refine g_cV 39 rfl rfl rfl rfl rfl (Rw_l (Pk_k12 kx0)) (Rw_get_s (Pk_k12 kx0) eq5) ?_
        obtain ⟨q6, eq6, e⟩ := g_bd e
        refine g_cV 42 rfl rfl rfl rfl rfl (Pk_l kx0) (Pk_stageOf_s kx0 eq6) ?_
        refine g_if (p1 := 48) (L1 := [some (.ref x0), some (.int x1), some (.int x2), some (.int x3)]) (S1 := []) (s1 := (l, r, h, j)) (p2 := 45) (L2 := [some (.ref x0), some (.int x1), some (.int x2), some (.int x3)]) (S2 := []) (s2 := (l, r, h, j)) rfl (fun _ _ => rfl) e (fun c7 e => ?_) (fun c7 e => ?_)
        · cases e
          exact hjq8 trivial
        · refine g_run 1 48 [some (.ref x0), some (.int x1), some (.int (x2 + (1 : Int32))), some (.int x3)] [] (fun _ => rfl) ?_
          cases e
          exact hjq8 trivial
      · cases e
        exact hjq8 trivial
theorem Pk_late_s {X : Nat × (Nat → Int32)} {l : List (Nat × Nat)} {r : am_R} {h : am_F} {j : am_J} {a : Nat} {x1 : Int32} (ka : Pk_K l r a) {q : Int32} (e : Pk_late l r a x1 h = some q) : Call X 48 [.ref a, .int x1] (l, r, h, j) (some (.int q), (l, r, h, j)) := by
  unfold Pk_late at e
  refine ⟨Nat.le_of_ble_eq_true rfl, ?_⟩
  show Ev X 48 0 [some (.ref a), some (.int x1), none, none] [] (l, r, h, j) _
  refine g_run 4 4 [some (.ref a), some (.int x1), some (.int (0 : Int32)), some (.int (0 : Int32))] [] (fun _ => rfl) ?_
  obtain ⟨q9, eq9, e⟩ := g_bd e
  refine Pk_late_l4_s ka (fun y10 => ?_) _ _ _ eq9
  refine g_run 1 55 [some (.ref a), some (.int x1), some (.int q9), some (.int y10)] [.int q9] (fun _ => rfl) ?_
  cases e
  exact g_ret rfl (fun _ _ => rfl)
def Pk_longestDry_l7 (x0 : Nat) (x1 : Int32) (h : am_F) : Nat → Int32 → Int32 → Int32 → Option (Int32)
  | 0, _, _, _ => none
  | n + 1, x2, x3, x4 =>
    if (48 : Int32) ≤ x4 then
      some x2
    else
      (Pk_stageOf x0 x1 x4 h).bind fun q2 =>
      (if q2 = 0 then
          some (x3 + (1 : Int32))
        else
          some (0 : Int32) : Option (Int32)).bind fun q5 =>
      Pk_longestDry_l7 x0 x1 h n (if x2 < q5 then q5 else x2) q5 (x4 + (1 : Int32))
def Pk_longestDry (a : Nat) (x1 : Int32) (h : am_F) : Option (Int32) :=
  (Pk_longestDry_l7 a x1 h g_fu (0 : Int32) (0 : Int32) (0 : Int32)).bind fun q6 =>
  some q6
theorem Pk_longestDry_l7_s {X : Nat × (Nat → Int32)} {l : List (Nat × Nat)} {r : am_R} {x0 : Nat} {x1 : Int32} {h : am_F} {j : am_J} {q : Int32} {R : Option Value × am_S} (kx0 : Pk_K l r x0) (hx : ∀ (y3 : Int32) (y4 : Int32) , Ev X 49 44 [some (.ref x0), some (.int x1), some (.int q), some (.int y3), some (.int y4)] [] (l, r, h, j) R) : ∀ (n : Nat) (x2 : Int32) (x3 : Int32) (x4 : Int32), Pk_longestDry_l7 x0 x1 h n x2 x3 x4 = some q → Ev X 49 7 [some (.ref x0), some (.int x1), some (.int x2), some (.int x3), some (.int x4)] [] (l, r, h, j) R := by
  intro n
  induction n with
  | zero => intro x2 x3 x4 e; cases e
  | succ n ih =>
    intro x2 x3 x4 e
    unfold Pk_longestDry_l7 at e
    refine g_run 2 11 [some (.ref x0), some (.int x1), some (.int x2), some (.int x3), some (.int x4)] [.int (48 : Int32), .int x4] (fun _ => rfl) ?_
    refine g_if (p1 := 44) (L1 := [some (.ref x0), some (.int x1), some (.int x2), some (.int x3), some (.int x4)]) (S1 := []) (s1 := (l, r, h, j)) (p2 := 14) (L2 := [some (.ref x0), some (.int x1), some (.int x2), some (.int x3), some (.int x4)]) (S2 := []) (s2 := (l, r, h, j)) rfl (fun _ _ => rfl) e (fun c1 e => ?_) (fun c1 e => ?_)
    · cases e
      exact hx _ _
    · refine g_run 3 18 [some (.ref x0), some (.int x1), some (.int x2), some (.int x3), some (.int x4)] [.int x4, .int x1, .ref x0] (fun _ => rfl) ?_
      obtain ⟨q2, eq2, e⟩ := g_bd e
      refine g_cV 21 rfl rfl rfl rfl rfl (Pk_l kx0) (Pk_stageOf_s kx0 eq2) ?_
      obtain ⟨q5, eq5, e⟩ := g_bd e
      have hjq5 : ∀ (_ : True), Ev X 49 31 [some (.ref x0), some (.int x1), some (.int x2), some (.int x3), some (.int x4)] [.int q5] (l, r, h, j) R := by
        intro _
        refine g_run 7 7 [some (.ref x0), some (.int x1), some (.int (if x2 < q5 then q5 else x2)), some (.int q5), some (.int (x4 + (1 : Int32)))] [] (fun _ => rfl) ?_
        exact ih _ _ _ e
      replace e := eq5
      refine g_if (p1 := 24) (L1 := [some (.ref x0), some (.int x1), some (.int x2), some (.int x3), some (.int x4)]) (S1 := []) (s1 := (l, r, h, j)) (p2 := 30) (L2 := [some (.ref x0), some (.int x1), some (.int x2), some (.int x3), some (.int x4)]) (S2 := []) (s2 := (l, r, h, j)) rfl (fun _ _ => rfl) e (fun c3 e => ?_) (fun c3 e => ?_)
      · refine g_run 4 31 [some (.ref x0), some (.int x1), some (.int x2), some (.int x3), some (.int x4)] [.int (x3 + (1 : Int32))] (fun _ => rfl) ?_
        cases e
        exact hjq5 trivial
      · refine g_run 1 31 [some (.ref x0), some (.int x1), some (.int x2), some (.int x3), some (.int x4)] [.int (0 : Int32)] (fun _ => rfl) ?_
        cases e
        exact hjq5 trivial
theorem Pk_longestDry_s {X : Nat × (Nat → Int32)} {l : List (Nat × Nat)} {r : am_R} {h : am_F} {j : am_J} {a : Nat} {x1 : Int32} (ka : Pk_K l r a) {q : Int32} (e : Pk_longestDry a x1 h = some q) : Call X 49 [.ref a, .int x1] (l, r, h, j) (some (.int q), (l, r, h, j)) := by
  unfold Pk_longestDry at e
  refine ⟨Nat.le_of_ble_eq_true rfl, ?_⟩
  show Ev X 49 0 [some (.ref a), some (.int x1), none, none, none] [] (l, r, h, j) _
  refine g_run 6 7 [some (.ref a), some (.int x1), some (.int (0 : Int32)), some (.int (0 : Int32)), some (.int (0 : Int32))] [] (fun _ => rfl) ?_
  obtain ⟨q6, eq6, e⟩ := g_bd e
  refine Pk_longestDry_l7_s ka (fun y7 y8 => ?_) _ _ _ _ eq6
  refine g_run 1 45 [some (.ref a), some (.int x1), some (.int q6), some (.int y7), some (.int y8)] [.int q6] (fun _ => rfl) ?_
  cases e
  exact g_ret rfl (fun _ _ => rfl)
def Rd_rowsOf (a : Nat) (x1 : Int32) : Nat :=
  if x1 = (1 : Int32) then
    (a + 14)
  else
    if x1 = (2 : Int32) then
      (a + 16)
    else
      (a + 18)
theorem Rd_rowsOf_s {X : Nat × (Nat → Int32)} {l : List (Nat × Nat)} {r : am_R} {h : am_F} {j : am_J} {a : Nat} {x1 : Int32} (ka : Rd_K l r a) : Call X 52 [.ref a, .int x1] (l, r, h, j) (some (.ref (Rd_rowsOf a x1)), (l, r, h, j)) := by
  generalize e : Rd_rowsOf a x1 = q
  unfold Rd_rowsOf at e
  refine ⟨Nat.le_of_ble_eq_true rfl, ?_⟩
  show Ev X 52 0 [some (.ref a), some (.int x1)] [] (l, r, h, j) _
  refine g_run 2 2 [some (.ref a), some (.int x1)] [.int (1 : Int32), .int x1] (fun _ => rfl) ?_
  refine g_if (p1 := 5) (L1 := [some (.ref a), some (.int x1)]) (S1 := []) (s1 := (l, r, h, j)) (p2 := 10) (L2 := [some (.ref a), some (.int x1)]) (S2 := []) (s2 := (l, r, h, j)) rfl (fun _ _ => rfl) e (fun c1 e => ?_) (fun c1 e => ?_)
  · refine g_run 1 6 [some (.ref a), some (.int x1)] [.ref a] (fun _ => rfl) ?_
    refine g_getA 9 rfl rfl (Rd_l ka) (Rd_r1 ka) ?_
    cases e
    exact g_ret rfl (fun _ _ => rfl)
  · refine g_run 2 12 [some (.ref a), some (.int x1)] [.int (2 : Int32), .int x1] (fun _ => rfl) ?_
    refine g_if (p1 := 15) (L1 := [some (.ref a), some (.int x1)]) (S1 := []) (s1 := (l, r, h, j)) (p2 := 22) (L2 := [some (.ref a), some (.int x1)]) (S2 := []) (s2 := (l, r, h, j)) rfl (fun _ _ => rfl) e (fun c2 e => ?_) (fun c2 e => ?_)
    · refine g_run 1 16 [some (.ref a), some (.int x1)] [.ref a] (fun _ => rfl) ?_
      refine g_getA 19 rfl rfl (Rd_l ka) (Rd_r2 ka) ?_
      refine g_run 1 26 [some (.ref a), some (.int x1)] [.ref (a + 16)] (fun _ => rfl) ?_
      cases e
      exact g_ret rfl (fun _ _ => rfl)
    · refine g_run 1 23 [some (.ref a), some (.int x1)] [.ref a] (fun _ => rfl) ?_
      refine g_getA 26 rfl rfl (Rd_l ka) (Rd_r3 ka) ?_
      cases e
      exact g_ret rfl (fun _ _ => rfl)
theorem Rd_rowsOf_KR {l : List (Nat × Nat)} {r : am_R} {a : Nat} {x1 : Int32} (ka : Rd_K l r a) : Rw_K l r (Rd_rowsOf a x1) := by
  unfold Rd_rowsOf
  repeat' split
  · exact Rd_k1 ka
  · exact Rd_k2 ka
  · exact Rd_k3 ka
def Rd_byteAt (l : List (Nat × Nat)) (r : am_R) (a : Nat) (x1 : Int32) (h : am_F) : Option (Int32) :=
  g_on (r a 7) (
    some (0 : Int32)) (fun p1 =>
    if x1 < 0 then
      some (0 : Int32)
    else
      if (h a 8) ≤ x1 then
        some (0 : Int32)
      else
        (r a 7).bind fun p4 =>
        if x1 < (Int32.ofNat (g_ln l p4)) then
          (r a 7).bind fun p6 =>
          (g_ix x1 (g_ln l p6)).bind fun k7 =>
          some ((h p6 k7) &&& (255 : Int32))
        else
          some (0 : Int32))
theorem Rd_byteAt_s {X : Nat × (Nat → Int32)} {l : List (Nat × Nat)} {r : am_R} {h : am_F} {j : am_J} {a : Nat} {x1 : Int32} (ka : Rd_K l r a) {q : Int32} (e : Rd_byteAt l r a x1 h = some q) : Call X 73 [.ref a, .int x1] (l, r, h, j) (some (.int q), (l, r, h, j)) := by
  unfold Rd_byteAt at e
  refine ⟨Nat.le_of_ble_eq_true rfl, ?_⟩
  show Ev X 73 0 [some (.ref a), some (.int x1)] [] (l, r, h, j) _
  refine g_run 1 1 [some (.ref a), some (.int x1)] [.ref a] (fun _ => rfl) ?_
  refine g_getO 4 rfl rfl (Rd_l ka) ?_
  cases Hp1 : (r a 7) with
  | none =>
    replace e := g_onN2 Hp1 e
    refine g_run 1 28 [some (.ref a), some (.int x1)] [] (fun _ => rfl) ?_
    refine g_run 2 42 [some (.ref a), some (.int x1)] [.int (0 : Int32)] (fun _ => rfl) ?_
    cases e
    exact g_ret rfl (fun _ _ => rfl)
  | some p1 =>
    replace e := g_onS2 Hp1 e
    have kp1 := Rd_n7 ka _ Hp1
    refine g_run 1 7 [some (.ref a), some (.int x1)] [] (fun _ => rfl) ?_
    refine g_run 1 8 [some (.ref a), some (.int x1)] [.int x1] (fun _ => rfl) ?_
    refine g_if (p1 := 28) (L1 := [some (.ref a), some (.int x1)]) (S1 := []) (s1 := (l, r, h, j)) (p2 := 11) (L2 := [some (.ref a), some (.int x1)]) (S2 := []) (s2 := (l, r, h, j)) rfl (fun _ _ => rfl) e (fun c2 e => ?_) (fun c2 e => ?_)
    · refine g_run 2 42 [some (.ref a), some (.int x1)] [.int (0 : Int32)] (fun _ => rfl) ?_
      cases e
      exact g_ret rfl (fun _ _ => rfl)
    · refine g_run 2 13 [some (.ref a), some (.int x1)] [.ref a, .int x1] (fun _ => rfl) ?_
      refine g_getI 16 rfl rfl (Rd_l ka) ?_
      refine g_if (p1 := 28) (L1 := [some (.ref a), some (.int x1)]) (S1 := []) (s1 := (l, r, h, j)) (p2 := 19) (L2 := [some (.ref a), some (.int x1)]) (S2 := []) (s2 := (l, r, h, j)) rfl (fun _ _ => rfl) e (fun c3 e => ?_) (fun c3 e => ?_)
      · refine g_run 2 42 [some (.ref a), some (.int x1)] [.int (0 : Int32)] (fun _ => rfl) ?_
        cases e
        exact g_ret rfl (fun _ _ => rfl)
      · refine g_run 2 21 [some (.ref a), some (.int x1)] [.ref a, .int x1] (fun _ => rfl) ?_
        refine g_getO 24 rfl rfl (Rd_l ka) ?_
        obtain ⟨p4, ep4, e⟩ := g_bd e
        have kp4 := Rd_n7 ka _ ep4
        rw [ep4]
        refine g_alen 25 rfl rfl kp4 rfl ?_
        refine g_if (p1 := 32) (L1 := [some (.ref a), some (.int x1)]) (S1 := []) (s1 := (l, r, h, j)) (p2 := 28) (L2 := [some (.ref a), some (.int x1)]) (S2 := []) (s2 := (l, r, h, j)) rfl (fun _ _ => rfl) e (fun c5 e => ?_) (fun c5 e => ?_)
        · refine g_run 1 33 [some (.ref a), some (.int x1)] [.ref a] (fun _ => rfl) ?_
          refine g_getO 36 rfl rfl (Rd_l ka) ?_
          refine g_run 1 37 [some (.ref a), some (.int x1)] [.int x1, va_rf (r a 7)] (fun _ => rfl) ?_
          obtain ⟨p6, ep6, e⟩ := g_bd e
          have kp6 := Rd_n7 ka _ ep6
          rw [ep6]
          obtain ⟨k7, ek7, e⟩ := g_bd e
          refine g_bald 38 rfl rfl kp6 rfl ek7 ?_
          refine g_run 2 42 [some (.ref a), some (.int x1)] [.int ((h p6 k7) &&& (255 : Int32))] (fun _ => rfl) ?_
          cases e
          exact g_ret rfl (fun _ _ => rfl)
        · refine g_run 2 42 [some (.ref a), some (.int x1)] [.int (0 : Int32)] (fun _ => rfl) ?_
          cases e
          exact g_ret rfl (fun _ _ => rfl)
def Rd_isBlank (x0 : Int32) : Int32 :=
  if x0 = (10 : Int32) then
    (1 : Int32)
  else
    if x0 = (32 : Int32) then
      (1 : Int32)
    else
      (0 : Int32)
theorem Rd_isBlank_s {X : Nat × (Nat → Int32)} {l : List (Nat × Nat)} {r : am_R} {h : am_F} {j : am_J} {x0 : Int32}  : Call X 74 [.int x0] (l, r, h, j) (some (.int (Rd_isBlank x0)), (l, r, h, j)) := by
  generalize e : Rd_isBlank x0 = q
  unfold Rd_isBlank at e
  refine ⟨Nat.le_of_ble_eq_true rfl, ?_⟩
  show Ev X 74 0 [some (.int x0)] [] (l, r, h, j) _
  refine g_run 2 3 [some (.int x0)] [.int (10 : Int32), .int x0] (fun _ => rfl) ?_
  refine g_if (p1 := 12) (L1 := [some (.int x0)]) (S1 := []) (s1 := (l, r, h, j)) (p2 := 6) (L2 := [some (.int x0)]) (S2 := []) (s2 := (l, r, h, j)) rfl (fun _ _ => rfl) e (fun c1 e => ?_) (fun c1 e => ?_)
  · refine g_run 2 17 [some (.int x0)] [.int (1 : Int32)] (fun _ => rfl) ?_
    cases e
    exact g_retZ rfl (y := (1 : Int32)) rfl rfl
  · refine g_run 2 9 [some (.int x0)] [.int (32 : Int32), .int x0] (fun _ => rfl) ?_
    refine g_if (p1 := 12) (L1 := [some (.int x0)]) (S1 := []) (s1 := (l, r, h, j)) (p2 := 16) (L2 := [some (.int x0)]) (S2 := []) (s2 := (l, r, h, j)) rfl (fun _ _ => rfl) e (fun c2 e => ?_) (fun c2 e => ?_)
    · refine g_run 2 17 [some (.int x0)] [.int (1 : Int32)] (fun _ => rfl) ?_
      cases e
      exact g_retZ rfl (y := (1 : Int32)) rfl rfl
    · refine g_run 1 17 [some (.int x0)] [.int (0 : Int32)] (fun _ => rfl) ?_
      cases e
      exact g_retZ rfl (y := (0 : Int32)) rfl rfl
def Rd_isLetter (x0 : Int32) : Int32 :=
  if x0 < (97 : Int32) then
    (0 : Int32)
  else
    if (122 : Int32) < x0 then
      (0 : Int32)
    else
      (1 : Int32)
theorem Rd_isLetter_s {X : Nat × (Nat → Int32)} {l : List (Nat × Nat)} {r : am_R} {h : am_F} {j : am_J} {x0 : Int32}  : Call X 75 [.int x0] (l, r, h, j) (some (.int (Rd_isLetter x0)), (l, r, h, j)) := by
  generalize e : Rd_isLetter x0 = q
  unfold Rd_isLetter at e
  refine ⟨Nat.le_of_ble_eq_true rfl, ?_⟩
  show Ev X 75 0 [some (.int x0)] [] (l, r, h, j) _
  refine g_run 2 3 [some (.int x0)] [.int (97 : Int32), .int x0] (fun _ => rfl) ?_
  refine g_if (p1 := 16) (L1 := [some (.int x0)]) (S1 := []) (s1 := (l, r, h, j)) (p2 := 6) (L2 := [some (.int x0)]) (S2 := []) (s2 := (l, r, h, j)) rfl (fun _ _ => rfl) e (fun c1 e => ?_) (fun c1 e => ?_)
  · refine g_run 1 17 [some (.int x0)] [.int (0 : Int32)] (fun _ => rfl) ?_
    cases e
    exact g_retZ rfl (y := (0 : Int32)) rfl rfl
  · refine g_run 2 9 [some (.int x0)] [.int (122 : Int32), .int x0] (fun _ => rfl) ?_
    refine g_if (p1 := 16) (L1 := [some (.int x0)]) (S1 := []) (s1 := (l, r, h, j)) (p2 := 12) (L2 := [some (.int x0)]) (S2 := []) (s2 := (l, r, h, j)) rfl (fun _ _ => rfl) e (fun c2 e => ?_) (fun c2 e => ?_)
    · refine g_run 1 17 [some (.int x0)] [.int (0 : Int32)] (fun _ => rfl) ?_
      cases e
      exact g_retZ rfl (y := (0 : Int32)) rfl rfl
    · refine g_run 2 17 [some (.int x0)] [.int (1 : Int32)] (fun _ => rfl) ?_
      cases e
      exact g_retZ rfl (y := (1 : Int32)) rfl rfl
def Rd_isDigit (x0 : Int32) : Int32 :=
  if x0 < (48 : Int32) then
    (0 : Int32)
  else
    if (57 : Int32) < x0 then
      (0 : Int32)
    else
      (1 : Int32)
theorem Rd_isDigit_s {X : Nat × (Nat → Int32)} {l : List (Nat × Nat)} {r : am_R} {h : am_F} {j : am_J} {x0 : Int32}  : Call X 76 [.int x0] (l, r, h, j) (some (.int (Rd_isDigit x0)), (l, r, h, j)) := by
  generalize e : Rd_isDigit x0 = q
  unfold Rd_isDigit at e
  refine ⟨Nat.le_of_ble_eq_true rfl, ?_⟩
  show Ev X 76 0 [some (.int x0)] [] (l, r, h, j) _
  refine g_run 2 3 [some (.int x0)] [.int (48 : Int32), .int x0] (fun _ => rfl) ?_
  refine g_if (p1 := 16) (L1 := [some (.int x0)]) (S1 := []) (s1 := (l, r, h, j)) (p2 := 6) (L2 := [some (.int x0)]) (S2 := []) (s2 := (l, r, h, j)) rfl (fun _ _ => rfl) e (fun c1 e => ?_) (fun c1 e => ?_)
  · refine g_run 1 17 [some (.int x0)] [.int (0 : Int32)] (fun _ => rfl) ?_
    cases e
    exact g_retZ rfl (y := (0 : Int32)) rfl rfl
  · refine g_run 2 9 [some (.int x0)] [.int (57 : Int32), .int x0] (fun _ => rfl) ?_
    refine g_if (p1 := 16) (L1 := [some (.int x0)]) (S1 := []) (s1 := (l, r, h, j)) (p2 := 12) (L2 := [some (.int x0)]) (S2 := []) (s2 := (l, r, h, j)) rfl (fun _ _ => rfl) e (fun c2 e => ?_) (fun c2 e => ?_)
    · refine g_run 1 17 [some (.int x0)] [.int (0 : Int32)] (fun _ => rfl) ?_
      cases e
      exact g_retZ rfl (y := (0 : Int32)) rfl rfl
    · refine g_run 2 17 [some (.int x0)] [.int (1 : Int32)] (fun _ => rfl) ?_
      cases e
      exact g_retZ rfl (y := (1 : Int32)) rfl rfl
def Rd_takeDigits_l0 (l : List (Nat × Nat)) (r : am_R) (x0 : Nat) : Nat → am_F → Option (am_F)
  | 0, _ => none
  | n + 1, h =>
    if (h x0 8) ≤ (h x0 9) then
      some h
    else
      (Rd_byteAt l r x0 (h x0 9) h).bind fun q2 =>
      if (Rd_isDigit q2) = 0 then
        some h
      else
        (if (3 : Int32) ≤ ((h x0 9) - (h x0 11)) then
            some h
          else
            (Rd_byteAt l r x0 (h x0 9) h).bind fun q6 =>
            some (am_up h x0 12 ((((h x0 12) * (10 : Int32)) + q6) - (48 : Int32))) : Option (am_F)).bind fun q7 =>
        Rd_takeDigits_l0 l r x0 n (am_up q7 x0 9 ((q7 x0 9) + (1 : Int32)))
def Rd_takeDigits (l : List (Nat × Nat)) (r : am_R) (a : Nat) (h : am_F) : Option (am_F) :=
  (Rd_takeDigits_l0 l r a g_fu h).bind fun q8 =>
  (if ((q8 a 9) - (q8 a 11)) ≤ (3 : Int32) then
      some (2 : Int32)
    else
      some (4 : Int32) : Option (Int32)).bind fun q11 =>
  some (am_up q8 a 10 q11)
theorem Rd_takeDigits_l0_s {X : Nat × (Nat → Int32)} {l : List (Nat × Nat)} {r : am_R} {x0 : Nat} {j : am_J} {q : am_F} {R : Option Value × am_S} (kx0 : Rd_K l r x0) (hx : ∀ (_ : True), Ev X 72 74 [some (.ref x0)] [] (l, r, q, j) R) : ∀ (n : Nat) (h : am_F), Rd_takeDigits_l0 l r x0 n h = some q → Ev X 72 0 [some (.ref x0)] [] (l, r, h, j) R := by
  intro n
  induction n with
  | zero => intro h e; cases e
  | succ n ih =>
    intro h e
    unfold Rd_takeDigits_l0 at e
    refine g_run 1 1 [some (.ref x0)] [.ref x0] (fun _ => rfl) ?_
    refine g_getI 4 rfl rfl (Rd_l kx0) ?_
    refine g_run 1 5 [some (.ref x0)] [.ref x0, .int (h x0 9)] (fun _ => rfl) ?_
    refine g_getI 8 rfl rfl (Rd_l kx0) ?_
    refine g_if (p1 := 74) (L1 := [some (.ref x0)]) (S1 := []) (s1 := (l, r, h, j)) (p2 := 11) (L2 := [some (.ref x0)]) (S2 := []) (s2 := (l, r, h, j)) rfl (fun _ _ => rfl) e (fun c1 e => ?_) (fun c1 e => ?_)
    · cases e
      exact hx trivial
    · refine g_run 2 13 [some (.ref x0)] [.ref x0, .ref x0] (fun _ => rfl) ?_
      refine g_getI 16 rfl rfl (Rd_l kx0) ?_
      obtain ⟨q2, eq2, e⟩ := g_bd e
      refine g_cV 19 rfl rfl rfl rfl rfl (Rd_l kx0) (Rd_byteAt_s kx0 eq2) ?_
      refine g_cS 22 rfl rfl (by decide) rfl rfl rfl Rd_isDigit_s ?_
      refine g_if (p1 := 74) (L1 := [some (.ref x0)]) (S1 := []) (s1 := (l, r, h, j)) (p2 := 25) (L2 := [some (.ref x0)]) (S2 := []) (s2 := (l, r, h, j)) rfl (fun _ _ => rfl) e (fun c3 e => ?_) (fun c3 e => ?_)
      · cases e
        exact hx trivial
      · refine g_run 1 26 [some (.ref x0)] [.ref x0] (fun _ => rfl) ?_
        refine g_getI 29 rfl rfl (Rd_l kx0) ?_
        refine g_run 1 30 [some (.ref x0)] [.ref x0, .int (h x0 9)] (fun _ => rfl) ?_
        refine g_getI 33 rfl rfl (Rd_l kx0) ?_
        refine g_run 2 35 [some (.ref x0)] [.int (3 : Int32), .int ((h x0 9) - (h x0 11))] (fun _ => rfl) ?_
        obtain ⟨q7, eq7, e⟩ := g_bd e
        have hjq7 : ∀ (_ : True), Ev X 72 61 [some (.ref x0)] [] (l, r, q7, j) R := by
          intro _
          refine g_run 2 63 [some (.ref x0)] [.ref x0, .ref x0] (fun _ => rfl) ?_
          refine g_getI 66 rfl rfl (Rd_l kx0) ?_
          refine g_run 2 68 [some (.ref x0)] [.int ((q7 x0 9) + (1 : Int32)), .ref x0] (fun _ => rfl) ?_
          refine g_putI 71 rfl rfl (Rd_l kx0) ?_
          refine g_run 1 0 [some (.ref x0)] [] (fun _ => rfl) ?_
          exact ih _ e
        replace e := eq7
        refine g_if (p1 := 61) (L1 := [some (.ref x0)]) (S1 := []) (s1 := (l, r, h, j)) (p2 := 38) (L2 := [some (.ref x0)]) (S2 := []) (s2 := (l, r, h, j)) rfl (fun _ _ => rfl) e (fun c4 e => ?_) (fun c4 e => ?_)
        · cases e
          exact hjq7 trivial
        · refine g_run 2 40 [some (.ref x0)] [.ref x0, .ref x0] (fun _ => rfl) ?_
          refine g_getI 43 rfl rfl (Rd_l kx0) ?_
          refine g_run 4 48 [some (.ref x0)] [.ref x0, .ref x0, .int ((h x0 12) * (10 : Int32)), .ref x0] (fun _ => rfl) ?_
          refine g_getI 51 rfl rfl (Rd_l kx0) ?_
          obtain ⟨q6, eq6, e⟩ := g_bd e
          refine g_cV 54 rfl rfl rfl rfl rfl (Rd_l kx0) (Rd_byteAt_s kx0 eq6) ?_
          refine g_run 3 58 [some (.ref x0)] [.int ((((h x0 12) * (10 : Int32)) + q6) - (48 : Int32)), .ref x0] (fun _ => rfl) ?_
          refine g_putI 61 rfl rfl (Rd_l kx0) ?_
          cases e
          exact hjq7 trivial
theorem Rd_takeDigits_s {X : Nat × (Nat → Int32)} {l : List (Nat × Nat)} {r : am_R} {h : am_F} {j : am_J} {a : Nat} (ka : Rd_K l r a) {q : am_F} (e : Rd_takeDigits l r a h = some q) : Call X 72 [.ref a] (l, r, h, j) (none, (l, r, q, j)) := by
  unfold Rd_takeDigits at e
  refine ⟨Nat.le_of_ble_eq_true rfl, ?_⟩
  show Ev X 72 0 [some (.ref a)] [] (l, r, h, j) _
  obtain ⟨q8, eq8, e⟩ := g_bd e
  refine Rd_takeDigits_l0_s ka (fun _ => ?_) _ _ eq8
  refine g_run 2 76 [some (.ref a)] [.ref a, .ref a] (fun _ => rfl) ?_
  refine g_getI 79 rfl rfl (Rd_l ka) ?_
  refine g_run 1 80 [some (.ref a)] [.ref a, .int (q8 a 9), .ref a] (fun _ => rfl) ?_
  refine g_getI 83 rfl rfl (Rd_l ka) ?_
  refine g_run 2 85 [some (.ref a)] [.int (3 : Int32), .int ((q8 a 9) - (q8 a 11)), .ref a] (fun _ => rfl) ?_
  obtain ⟨q11, eq11, e⟩ := g_bd e
  have hjq11 : ∀ (_ : True), Ev X 72 93 [some (.ref a)] [.int q11, .ref a] (l, r, q8, j) (none, (l, r, q, j)) := by
    intro _
    refine g_putI 96 rfl rfl (Rd_l ka) ?_
    cases e
    exact g_ret rfl (fun _ _ => rfl)
  replace e := eq11
  refine g_if (p1 := 92) (L1 := [some (.ref a)]) (S1 := [.ref a]) (s1 := (l, r, q8, j)) (p2 := 88) (L2 := [some (.ref a)]) (S2 := [.ref a]) (s2 := (l, r, q8, j)) rfl (fun _ _ => rfl) e (fun c9 e => ?_) (fun c9 e => ?_)
  · refine g_run 1 93 [some (.ref a)] [.int (2 : Int32), .ref a] (fun _ => rfl) ?_
    cases e
    exact hjq11 trivial
  · refine g_run 2 93 [some (.ref a)] [.int (4 : Int32), .ref a] (fun _ => rfl) ?_
    cases e
    exact hjq11 trivial
def Rd_next_l0 (l : List (Nat × Nat)) (r : am_R) (x0 : Nat) : Nat → am_F → Option (am_F)
  | 0, _ => none
  | n + 1, h =>
    if (h x0 8) ≤ (h x0 9) then
      some h
    else
      (Rd_byteAt l r x0 (h x0 9) h).bind fun q2 =>
      if (Rd_isBlank q2) = 0 then
        some h
      else
        Rd_next_l0 l r x0 n (am_up h x0 9 ((h x0 9) + (1 : Int32)))
def Rd_next_l89 (l : List (Nat × Nat)) (r : am_R) (x0 : Nat) : Nat → am_F → Option (am_F)
  | 0, _ => none
  | n + 1, h =>
    if (h x0 8) ≤ (h x0 9) then
      some h
    else
      (Rd_byteAt l r x0 (h x0 9) h).bind fun q16 =>
      if (Rd_isLetter q16) = 0 then
        some h
      else
        Rd_next_l89 l r x0 n (am_up h x0 9 ((h x0 9) + (1 : Int32)))
def Rd_next (l : List (Nat × Nat)) (r : am_R) (a : Nat) (h : am_F) : Option (am_F) :=
  (Rd_next_l0 l r a g_fu h).bind fun q4 =>
  if ((am_up (am_up q4 a 11 (q4 a 9)) a 12 (0 : Int32)) a 9) < ((am_up (am_up q4 a 11 (q4 a 9)) a 12 (0 : Int32)) a 8) then
    (Rd_byteAt l r a ((am_up (am_up q4 a 11 (q4 a 9)) a 12 (0 : Int32)) a 9) (am_up (am_up q4 a 11 (q4 a 9)) a 12 (0 : Int32))).bind fun q6 =>
    if (Rd_isLetter q6) = 0 then
      (Rd_byteAt l r a ((am_up (am_up q4 a 11 (q4 a 9)) a 12 (0 : Int32)) a 9) (am_up (am_up q4 a 11 (q4 a 9)) a 12 (0 : Int32))).bind fun q8 =>
      if (Rd_isDigit q8) = 0 then
        (Rd_byteAt l r a ((am_up (am_up q4 a 11 (q4 a 9)) a 12 (0 : Int32)) a 9) (am_up (am_up q4 a 11 (q4 a 9)) a 12 (0 : Int32))).bind fun q10 =>
        (if q10 = (59 : Int32) then
            some (3 : Int32)
          else
            some (4 : Int32) : Option (Int32)).bind fun q13 =>
        some (am_up (am_up (am_up (am_up q4 a 11 (q4 a 9)) a 12 (0 : Int32)) a 10 q13) a 9 (((am_up (am_up (am_up q4 a 11 (q4 a 9)) a 12 (0 : Int32)) a 10 q13) a 9) + (1 : Int32)))
      else
        (Rd_takeDigits l r a (am_up (am_up q4 a 11 (q4 a 9)) a 12 (0 : Int32))).bind fun q14 =>
        some q14
    else
      (Rd_next_l89 l r a g_fu (am_up (am_up (am_up q4 a 11 (q4 a 9)) a 12 (0 : Int32)) a 10 (1 : Int32))).bind fun q18 =>
      some q18
  else
    some (am_up (am_up (am_up q4 a 11 (q4 a 9)) a 12 (0 : Int32)) a 10 (0 : Int32))
theorem Rd_next_l0_s {X : Nat × (Nat → Int32)} {l : List (Nat × Nat)} {r : am_R} {x0 : Nat} {j : am_J} {q : am_F} {R : Option Value × am_S} (kx0 : Rd_K l r x0) (hx : ∀ (_ : True), Ev X 71 38 [some (.ref x0)] [] (l, r, q, j) R) : ∀ (n : Nat) (h : am_F), Rd_next_l0 l r x0 n h = some q → Ev X 71 0 [some (.ref x0)] [] (l, r, h, j) R := by
  intro n
  induction n with
  | zero => intro h e; cases e
  | succ n ih =>
    intro h e
    unfold Rd_next_l0 at e
    refine g_run 1 1 [some (.ref x0)] [.ref x0] (fun _ => rfl) ?_
    refine g_getI 4 rfl rfl (Rd_l kx0) ?_
    refine g_run 1 5 [some (.ref x0)] [.ref x0, .int (h x0 9)] (fun _ => rfl) ?_
    refine g_getI 8 rfl rfl (Rd_l kx0) ?_
    refine g_if (p1 := 38) (L1 := [some (.ref x0)]) (S1 := []) (s1 := (l, r, h, j)) (p2 := 11) (L2 := [some (.ref x0)]) (S2 := []) (s2 := (l, r, h, j)) rfl (fun _ _ => rfl) e (fun c1 e => ?_) (fun c1 e => ?_)
    · cases e
      exact hx trivial
    · refine g_run 2 13 [some (.ref x0)] [.ref x0, .ref x0] (fun _ => rfl) ?_
      refine g_getI 16 rfl rfl (Rd_l kx0) ?_
      obtain ⟨q2, eq2, e⟩ := g_bd e
      refine g_cV 19 rfl rfl rfl rfl rfl (Rd_l kx0) (Rd_byteAt_s kx0 eq2) ?_
      refine g_cS 22 rfl rfl (by decide) rfl rfl rfl Rd_isBlank_s ?_
      refine g_if (p1 := 38) (L1 := [some (.ref x0)]) (S1 := []) (s1 := (l, r, h, j)) (p2 := 25) (L2 := [some (.ref x0)]) (S2 := []) (s2 := (l, r, h, j)) rfl (fun _ _ => rfl) e (fun c3 e => ?_) (fun c3 e => ?_)
      · cases e
        exact hx trivial
      · refine g_run 2 27 [some (.ref x0)] [.ref x0, .ref x0] (fun _ => rfl) ?_
        refine g_getI 30 rfl rfl (Rd_l kx0) ?_
        refine g_run 2 32 [some (.ref x0)] [.int ((h x0 9) + (1 : Int32)), .ref x0] (fun _ => rfl) ?_
        refine g_putI 35 rfl rfl (Rd_l kx0) ?_
        refine g_run 1 0 [some (.ref x0)] [] (fun _ => rfl) ?_
        exact ih _ e
theorem Rd_next_l89_s {X : Nat × (Nat → Int32)} {l : List (Nat × Nat)} {r : am_R} {x0 : Nat} {j : am_J} {q : am_F} {R : Option Value × am_S} (kx0 : Rd_K l r x0) (hx : ∀ (_ : True), Ev X 71 180 [some (.ref x0)] [] (l, r, q, j) R) : ∀ (n : Nat) (h : am_F), Rd_next_l89 l r x0 n h = some q → Ev X 71 89 [some (.ref x0)] [] (l, r, h, j) R := by
  intro n
  induction n with
  | zero => intro h e; cases e
  | succ n ih =>
    intro h e
    unfold Rd_next_l89 at e
    refine g_run 1 90 [some (.ref x0)] [.ref x0] (fun _ => rfl) ?_
    refine g_getI 93 rfl rfl (Rd_l kx0) ?_
    refine g_run 1 94 [some (.ref x0)] [.ref x0, .int (h x0 9)] (fun _ => rfl) ?_
    refine g_getI 97 rfl rfl (Rd_l kx0) ?_
    refine g_if (p1 := 180) (L1 := [some (.ref x0)]) (S1 := []) (s1 := (l, r, h, j)) (p2 := 100) (L2 := [some (.ref x0)]) (S2 := []) (s2 := (l, r, h, j)) rfl (fun _ _ => rfl) e (fun c15 e => ?_) (fun c15 e => ?_)
    · cases e
      exact hx trivial
    · refine g_run 2 102 [some (.ref x0)] [.ref x0, .ref x0] (fun _ => rfl) ?_
      refine g_getI 105 rfl rfl (Rd_l kx0) ?_
      obtain ⟨q16, eq16, e⟩ := g_bd e
      refine g_cV 108 rfl rfl rfl rfl rfl (Rd_l kx0) (Rd_byteAt_s kx0 eq16) ?_
      refine g_cS 111 rfl rfl (by decide) rfl rfl rfl Rd_isLetter_s ?_
      refine g_if (p1 := 180) (L1 := [some (.ref x0)]) (S1 := []) (s1 := (l, r, h, j)) (p2 := 114) (L2 := [some (.ref x0)]) (S2 := []) (s2 := (l, r, h, j)) rfl (fun _ _ => rfl) e (fun c17 e => ?_) (fun c17 e => ?_)
      · cases e
        exact hx trivial
      · refine g_run 2 116 [some (.ref x0)] [.ref x0, .ref x0] (fun _ => rfl) ?_
        refine g_getI 119 rfl rfl (Rd_l kx0) ?_
        refine g_run 2 121 [some (.ref x0)] [.int ((h x0 9) + (1 : Int32)), .ref x0] (fun _ => rfl) ?_
        refine g_putI 124 rfl rfl (Rd_l kx0) ?_
        refine g_run 1 89 [some (.ref x0)] [] (fun _ => rfl) ?_
        exact ih _ e
theorem Rd_next_s {X : Nat × (Nat → Int32)} {l : List (Nat × Nat)} {r : am_R} {h : am_F} {j : am_J} {a : Nat} (ka : Rd_K l r a) {q : am_F} (e : Rd_next l r a h = some q) : Call X 71 [.ref a] (l, r, h, j) (none, (l, r, q, j)) := by
  unfold Rd_next at e
  refine ⟨Nat.le_of_ble_eq_true rfl, ?_⟩
  show Ev X 71 0 [some (.ref a)] [] (l, r, h, j) _
  obtain ⟨q4, eq4, e⟩ := g_bd e
  refine Rd_next_l0_s ka (fun _ => ?_) _ _ eq4
  refine g_run 2 40 [some (.ref a)] [.ref a, .ref a] (fun _ => rfl) ?_
  refine g_getI 43 rfl rfl (Rd_l ka) ?_
  refine g_putI 46 rfl rfl (Rd_l ka) ?_
  refine g_run 2 48 [some (.ref a)] [.int (0 : Int32), .ref a] (fun _ => rfl) ?_
  refine g_putI 51 rfl rfl (Rd_l ka) ?_
  refine g_run 1 52 [some (.ref a)] [.ref a] (fun _ => rfl) ?_
  refine g_getI 55 rfl rfl (Rd_l ka) ?_
  refine g_run 1 56 [some (.ref a)] [.ref a, .int ((am_up (am_up q4 a 11 (q4 a 9)) a 12 (0 : Int32)) a 9)] (fun _ => rfl) ?_
  refine g_getI 59 rfl rfl (Rd_l ka) ?_
  refine g_if (p1 := 70) (L1 := [some (.ref a)]) (S1 := []) (s1 := (l, r, (am_up (am_up q4 a 11 (q4 a 9)) a 12 (0 : Int32)), j)) (p2 := 62) (L2 := [some (.ref a)]) (S2 := []) (s2 := (l, r, (am_up (am_up q4 a 11 (q4 a 9)) a 12 (0 : Int32)), j)) rfl (fun _ _ => rfl) e (fun c5 e => ?_) (fun c5 e => ?_)
  · refine g_run 2 72 [some (.ref a)] [.ref a, .ref a] (fun _ => rfl) ?_
    refine g_getI 75 rfl rfl (Rd_l ka) ?_
    obtain ⟨q6, eq6, e⟩ := g_bd e
    refine g_cV 78 rfl rfl rfl rfl rfl (Rd_l ka) (Rd_byteAt_s ka eq6) ?_
    refine g_cS 81 rfl rfl (by decide) rfl rfl rfl Rd_isLetter_s ?_
    refine g_if (p1 := 127) (L1 := [some (.ref a)]) (S1 := []) (s1 := (l, r, (am_up (am_up q4 a 11 (q4 a 9)) a 12 (0 : Int32)), j)) (p2 := 84) (L2 := [some (.ref a)]) (S2 := []) (s2 := (l, r, (am_up (am_up q4 a 11 (q4 a 9)) a 12 (0 : Int32)), j)) rfl (fun _ _ => rfl) e (fun c7 e => ?_) (fun c7 e => ?_)
    · refine g_run 2 129 [some (.ref a)] [.ref a, .ref a] (fun _ => rfl) ?_
      refine g_getI 132 rfl rfl (Rd_l ka) ?_
      obtain ⟨q8, eq8, e⟩ := g_bd e
      refine g_cV 135 rfl rfl rfl rfl rfl (Rd_l ka) (Rd_byteAt_s ka eq8) ?_
      refine g_cS 138 rfl rfl (by decide) rfl rfl rfl Rd_isDigit_s ?_
      refine g_if (p1 := 148) (L1 := [some (.ref a)]) (S1 := []) (s1 := (l, r, (am_up (am_up q4 a 11 (q4 a 9)) a 12 (0 : Int32)), j)) (p2 := 141) (L2 := [some (.ref a)]) (S2 := []) (s2 := (l, r, (am_up (am_up q4 a 11 (q4 a 9)) a 12 (0 : Int32)), j)) rfl (fun _ _ => rfl) e (fun c9 e => ?_) (fun c9 e => ?_)
      · refine g_run 3 151 [some (.ref a)] [.ref a, .ref a, .ref a] (fun _ => rfl) ?_
        refine g_getI 154 rfl rfl (Rd_l ka) ?_
        obtain ⟨q10, eq10, e⟩ := g_bd e
        refine g_cV 157 rfl rfl rfl rfl rfl (Rd_l ka) (Rd_byteAt_s ka eq10) ?_
        refine g_run 1 159 [some (.ref a)] [.int (59 : Int32), .int q10, .ref a] (fun _ => rfl) ?_
        obtain ⟨q13, eq13, e⟩ := g_bd e
        have hjq13 : ∀ (_ : True), Ev X 71 167 [some (.ref a)] [.int q13, .ref a] (l, r, (am_up (am_up q4 a 11 (q4 a 9)) a 12 (0 : Int32)), j) (none, (l, r, q, j)) := by
          intro _
          refine g_putI 170 rfl rfl (Rd_l ka) ?_
          refine g_run 2 172 [some (.ref a)] [.ref a, .ref a] (fun _ => rfl) ?_
          refine g_getI 175 rfl rfl (Rd_l ka) ?_
          refine g_run 2 177 [some (.ref a)] [.int (((am_up (am_up (am_up q4 a 11 (q4 a 9)) a 12 (0 : Int32)) a 10 q13) a 9) + (1 : Int32)), .ref a] (fun _ => rfl) ?_
          refine g_putI 180 rfl rfl (Rd_l ka) ?_
          cases e
          exact g_ret rfl (fun _ _ => rfl)
        replace e := eq13
        refine g_if (p1 := 162) (L1 := [some (.ref a)]) (S1 := [.ref a]) (s1 := (l, r, (am_up (am_up q4 a 11 (q4 a 9)) a 12 (0 : Int32)), j)) (p2 := 166) (L2 := [some (.ref a)]) (S2 := [.ref a]) (s2 := (l, r, (am_up (am_up q4 a 11 (q4 a 9)) a 12 (0 : Int32)), j)) rfl (fun _ _ => rfl) e (fun c11 e => ?_) (fun c11 e => ?_)
        · refine g_run 2 167 [some (.ref a)] [.int (3 : Int32), .ref a] (fun _ => rfl) ?_
          cases e
          exact hjq13 trivial
        · refine g_run 1 167 [some (.ref a)] [.int (4 : Int32), .ref a] (fun _ => rfl) ?_
          cases e
          exact hjq13 trivial
      · refine g_run 1 142 [some (.ref a)] [.ref a] (fun _ => rfl) ?_
        obtain ⟨q14, eq14, e⟩ := g_bd e
        refine g_cVv 145 rfl rfl rfl rfl rfl (Rd_l ka) (Rd_takeDigits_s ka eq14) ?_
        refine g_run 1 180 [some (.ref a)] [] (fun _ => rfl) ?_
        cases e
        exact g_ret rfl (fun _ _ => rfl)
    · refine g_run 2 86 [some (.ref a)] [.int (1 : Int32), .ref a] (fun _ => rfl) ?_
      refine g_putI 89 rfl rfl (Rd_l ka) ?_
      obtain ⟨q18, eq18, e⟩ := g_bd e
      refine Rd_next_l89_s ka (fun _ => ?_) _ _ eq18
      cases e
      exact g_ret rfl (fun _ _ => rfl)
  · refine g_run 2 64 [some (.ref a)] [.int (0 : Int32), .ref a] (fun _ => rfl) ?_
    refine g_putI 67 rfl rfl (Rd_l ka) ?_
    refine g_run 1 180 [some (.ref a)] [] (fun _ => rfl) ?_
    cases e
    exact g_ret rfl (fun _ _ => rfl)
def Rd_firstLine (x0 : Int32) : Int32 :=
  if x0 = (0 : Int32) then
    (0 : Int32)
  else if x0 = (1 : Int32) then
    (10 : Int32)
  else if x0 = (2 : Int32) then
    (13 : Int32)
  else if x0 = (3 : Int32) then
    (14 : Int32)
  else 
    (15 : Int32)
theorem Rd_firstLine_s {X : Nat × (Nat → Int32)} {l : List (Nat × Nat)} {r : am_R} {h : am_F} {j : am_J} {x0 : Int32}  : Call X 63 [.int x0] (l, r, h, j) (some (.int (Rd_firstLine x0)), (l, r, h, j)) := by
  generalize e : Rd_firstLine x0 = q
  unfold Rd_firstLine at e
  refine ⟨Nat.le_of_ble_eq_true rfl, ?_⟩
  show Ev X 63 0 [some (.int x0)] [] (l, r, h, j) _
  refine g_run 1 1 [some (.int x0)] [.int x0] (fun _ => rfl) ?_
  by_cases c1 : x0 = (0 : Int32)
  · replace e := (if_pos c1).symm.trans e
    refine g_sw (p1 := 32) (L1 := [some (.int x0)]) (S1 := []) (s1 := (l, r, h, j)) rfl c1 (fun _ _ => rfl) ?_
    refine g_run 1 33 [some (.int x0)] [.int (0 : Int32)] (fun _ => rfl) ?_
    cases e
    exact g_ret rfl (fun _ _ => rfl)
  replace e := (if_neg c1).symm.trans e
  by_cases c2 : x0 = (1 : Int32)
  · replace e := (if_pos c2).symm.trans e
    refine g_sw (p1 := 34) (L1 := [some (.int x0)]) (S1 := []) (s1 := (l, r, h, j)) rfl c2 (fun _ _ => rfl) ?_
    refine g_run 1 36 [some (.int x0)] [.int (10 : Int32)] (fun _ => rfl) ?_
    cases e
    exact g_ret rfl (fun _ _ => rfl)
  replace e := (if_neg c2).symm.trans e
  by_cases c3 : x0 = (2 : Int32)
  · replace e := (if_pos c3).symm.trans e
    refine g_sw (p1 := 37) (L1 := [some (.int x0)]) (S1 := []) (s1 := (l, r, h, j)) rfl c3 (fun _ _ => rfl) ?_
    refine g_run 1 39 [some (.int x0)] [.int (13 : Int32)] (fun _ => rfl) ?_
    cases e
    exact g_ret rfl (fun _ _ => rfl)
  replace e := (if_neg c3).symm.trans e
  by_cases c4 : x0 = (3 : Int32)
  · replace e := (if_pos c4).symm.trans e
    refine g_sw (p1 := 40) (L1 := [some (.int x0)]) (S1 := []) (s1 := (l, r, h, j)) rfl c4 (fun _ _ => rfl) ?_
    refine g_run 1 42 [some (.int x0)] [.int (14 : Int32)] (fun _ => rfl) ?_
    cases e
    exact g_ret rfl (fun _ _ => rfl)
  replace e := (if_neg c4).symm.trans e
  have ic1 : (Int32.toInt x0) ≠ 0 := g_ne c1
  have ic2 : (Int32.toInt x0) ≠ 1 := g_ne c2
  have ic3 : (Int32.toInt x0) ≠ 2 := g_ne c3
  have ic4 : (Int32.toInt x0) ≠ 3 := g_ne c4
  refine g_swd (p1 := 43) (L1 := [some (.int x0)]) (S1 := []) (s1 := (l, r, h, j)) (x := x0) (lo := 0) (hi := 3) rfl (fun _ _ => rfl) (by omega) ?_
  refine g_run 1 45 [some (.int x0)] [.int (15 : Int32)] (fun _ => rfl) ?_
  cases e
  exact g_ret rfl (fun _ _ => rfl)
def Rd_wordOf (x0 : Int32) : Nat :=
  if x0 = (0 : Int32) then
    0
  else if x0 = (1 : Int32) then
    1
  else if x0 = (2 : Int32) then
    2
  else if x0 = (3 : Int32) then
    3
  else if x0 = (4 : Int32) then
    4
  else if x0 = (5 : Int32) then
    5
  else if x0 = (6 : Int32) then
    6
  else if x0 = (7 : Int32) then
    7
  else if x0 = (8 : Int32) then
    8
  else if x0 = (9 : Int32) then
    9
  else if x0 = (10 : Int32) then
    10
  else if x0 = (11 : Int32) then
    11
  else if x0 = (12 : Int32) then
    12
  else if x0 = (13 : Int32) then
    13
  else 
    14
theorem Rd_wordOf_s {X : Nat × (Nat → Int32)} {l : List (Nat × Nat)} {r : am_R} {h : am_F} {j : am_J} {x0 : Int32}  : Call X 64 [.int x0] (l, r, h, j) (some (.retAddr (Rd_wordOf x0)), (l, r, h, j)) := by
  generalize e : Rd_wordOf x0 = q
  unfold Rd_wordOf at e
  refine ⟨Nat.le_of_ble_eq_true rfl, ?_⟩
  show Ev X 64 0 [some (.int x0)] [] (l, r, h, j) _
  refine g_run 1 1 [some (.int x0)] [.int x0] (fun _ => rfl) ?_
  by_cases c1 : x0 = (0 : Int32)
  · replace e := (if_pos c1).symm.trans e
    refine g_sw (p1 := 72) (L1 := [some (.int x0)]) (S1 := []) (s1 := (l, r, h, j)) rfl c1 (fun _ _ => rfl) ?_
    refine g_run 1 74 [some (.int x0)] [.retAddr 0] (fun _ => rfl) ?_
    cases e
    exact g_ret rfl (fun _ _ => rfl)
  replace e := (if_neg c1).symm.trans e
  by_cases c2 : x0 = (1 : Int32)
  · replace e := (if_pos c2).symm.trans e
    refine g_sw (p1 := 75) (L1 := [some (.int x0)]) (S1 := []) (s1 := (l, r, h, j)) rfl c2 (fun _ _ => rfl) ?_
    refine g_run 1 77 [some (.int x0)] [.retAddr 1] (fun _ => rfl) ?_
    cases e
    exact g_ret rfl (fun _ _ => rfl)
  replace e := (if_neg c2).symm.trans e
  by_cases c3 : x0 = (2 : Int32)
  · replace e := (if_pos c3).symm.trans e
    refine g_sw (p1 := 78) (L1 := [some (.int x0)]) (S1 := []) (s1 := (l, r, h, j)) rfl c3 (fun _ _ => rfl) ?_
    refine g_run 1 80 [some (.int x0)] [.retAddr 2] (fun _ => rfl) ?_
    cases e
    exact g_ret rfl (fun _ _ => rfl)
  replace e := (if_neg c3).symm.trans e
  by_cases c4 : x0 = (3 : Int32)
  · replace e := (if_pos c4).symm.trans e
    refine g_sw (p1 := 81) (L1 := [some (.int x0)]) (S1 := []) (s1 := (l, r, h, j)) rfl c4 (fun _ _ => rfl) ?_
    refine g_run 1 83 [some (.int x0)] [.retAddr 3] (fun _ => rfl) ?_
    cases e
    exact g_ret rfl (fun _ _ => rfl)
  replace e := (if_neg c4).symm.trans e
  by_cases c5 : x0 = (4 : Int32)
  · replace e := (if_pos c5).symm.trans e
    refine g_sw (p1 := 84) (L1 := [some (.int x0)]) (S1 := []) (s1 := (l, r, h, j)) rfl c5 (fun _ _ => rfl) ?_
    refine g_run 1 86 [some (.int x0)] [.retAddr 4] (fun _ => rfl) ?_
    cases e
    exact g_ret rfl (fun _ _ => rfl)
  replace e := (if_neg c5).symm.trans e
  by_cases c6 : x0 = (5 : Int32)
  · replace e := (if_pos c6).symm.trans e
    refine g_sw (p1 := 87) (L1 := [some (.int x0)]) (S1 := []) (s1 := (l, r, h, j)) rfl c6 (fun _ _ => rfl) ?_
    refine g_run 1 89 [some (.int x0)] [.retAddr 5] (fun _ => rfl) ?_
    cases e
    exact g_ret rfl (fun _ _ => rfl)
  replace e := (if_neg c6).symm.trans e
  by_cases c7 : x0 = (6 : Int32)
  · replace e := (if_pos c7).symm.trans e
    refine g_sw (p1 := 90) (L1 := [some (.int x0)]) (S1 := []) (s1 := (l, r, h, j)) rfl c7 (fun _ _ => rfl) ?_
    refine g_run 1 92 [some (.int x0)] [.retAddr 6] (fun _ => rfl) ?_
    cases e
    exact g_ret rfl (fun _ _ => rfl)
  replace e := (if_neg c7).symm.trans e
  by_cases c8 : x0 = (7 : Int32)
  · replace e := (if_pos c8).symm.trans e
    refine g_sw (p1 := 93) (L1 := [some (.int x0)]) (S1 := []) (s1 := (l, r, h, j)) rfl c8 (fun _ _ => rfl) ?_
    refine g_run 1 95 [some (.int x0)] [.retAddr 7] (fun _ => rfl) ?_
    cases e
    exact g_ret rfl (fun _ _ => rfl)
  replace e := (if_neg c8).symm.trans e
  by_cases c9 : x0 = (8 : Int32)
  · replace e := (if_pos c9).symm.trans e
    refine g_sw (p1 := 96) (L1 := [some (.int x0)]) (S1 := []) (s1 := (l, r, h, j)) rfl c9 (fun _ _ => rfl) ?_
    refine g_run 1 98 [some (.int x0)] [.retAddr 8] (fun _ => rfl) ?_
    cases e
    exact g_ret rfl (fun _ _ => rfl)
  replace e := (if_neg c9).symm.trans e
  by_cases c10 : x0 = (9 : Int32)
  · replace e := (if_pos c10).symm.trans e
    refine g_sw (p1 := 99) (L1 := [some (.int x0)]) (S1 := []) (s1 := (l, r, h, j)) rfl c10 (fun _ _ => rfl) ?_
    refine g_run 1 101 [some (.int x0)] [.retAddr 9] (fun _ => rfl) ?_
    cases e
    exact g_ret rfl (fun _ _ => rfl)
  replace e := (if_neg c10).symm.trans e
  by_cases c11 : x0 = (10 : Int32)
  · replace e := (if_pos c11).symm.trans e
    refine g_sw (p1 := 102) (L1 := [some (.int x0)]) (S1 := []) (s1 := (l, r, h, j)) rfl c11 (fun _ _ => rfl) ?_
    refine g_run 1 104 [some (.int x0)] [.retAddr 10] (fun _ => rfl) ?_
    cases e
    exact g_ret rfl (fun _ _ => rfl)
  replace e := (if_neg c11).symm.trans e
  by_cases c12 : x0 = (11 : Int32)
  · replace e := (if_pos c12).symm.trans e
    refine g_sw (p1 := 105) (L1 := [some (.int x0)]) (S1 := []) (s1 := (l, r, h, j)) rfl c12 (fun _ _ => rfl) ?_
    refine g_run 1 107 [some (.int x0)] [.retAddr 11] (fun _ => rfl) ?_
    cases e
    exact g_ret rfl (fun _ _ => rfl)
  replace e := (if_neg c12).symm.trans e
  by_cases c13 : x0 = (12 : Int32)
  · replace e := (if_pos c13).symm.trans e
    refine g_sw (p1 := 108) (L1 := [some (.int x0)]) (S1 := []) (s1 := (l, r, h, j)) rfl c13 (fun _ _ => rfl) ?_
    refine g_run 1 110 [some (.int x0)] [.retAddr 12] (fun _ => rfl) ?_
    cases e
    exact g_ret rfl (fun _ _ => rfl)
  replace e := (if_neg c13).symm.trans e
  by_cases c14 : x0 = (13 : Int32)
  · replace e := (if_pos c14).symm.trans e
    refine g_sw (p1 := 111) (L1 := [some (.int x0)]) (S1 := []) (s1 := (l, r, h, j)) rfl c14 (fun _ _ => rfl) ?_
    refine g_run 1 113 [some (.int x0)] [.retAddr 13] (fun _ => rfl) ?_
    cases e
    exact g_ret rfl (fun _ _ => rfl)
  replace e := (if_neg c14).symm.trans e
  have ic1 : (Int32.toInt x0) ≠ 0 := g_ne c1
  have ic2 : (Int32.toInt x0) ≠ 1 := g_ne c2
  have ic3 : (Int32.toInt x0) ≠ 2 := g_ne c3
  have ic4 : (Int32.toInt x0) ≠ 3 := g_ne c4
  have ic5 : (Int32.toInt x0) ≠ 4 := g_ne c5
  have ic6 : (Int32.toInt x0) ≠ 5 := g_ne c6
  have ic7 : (Int32.toInt x0) ≠ 6 := g_ne c7
  have ic8 : (Int32.toInt x0) ≠ 7 := g_ne c8
  have ic9 : (Int32.toInt x0) ≠ 8 := g_ne c9
  have ic10 : (Int32.toInt x0) ≠ 9 := g_ne c10
  have ic11 : (Int32.toInt x0) ≠ 10 := g_ne c11
  have ic12 : (Int32.toInt x0) ≠ 11 := g_ne c12
  have ic13 : (Int32.toInt x0) ≠ 12 := g_ne c13
  have ic14 : (Int32.toInt x0) ≠ 13 := g_ne c14
  refine g_swd (p1 := 114) (L1 := [some (.int x0)]) (S1 := []) (s1 := (l, r, h, j)) (x := x0) (lo := 0) (hi := 13) rfl (fun _ _ => rfl) (by omega) ?_
  refine g_run 1 116 [some (.int x0)] [.retAddr 14] (fun _ => rfl) ?_
  cases e
  exact g_ret rfl (fun _ _ => rfl)
def Rd_isWord_l28 (l : List (Nat × Nat)) (r : am_R) (x0 : Nat) (x1 : Nat) (h : am_F) : Nat → Int32 → Option (Int32)
  | 0, _ => none
  | n + 1, x2 =>
    (g_sx x1).bind fun _ =>
    if (nI (am_str x1).length) ≤ x2 then
      some (1 : Int32)
    else
      (Rd_byteAt l r x0 ((h x0 11) + x2) h).bind fun q6 =>
      (g_sx x1).bind fun _ =>
      (g_ix x2 (am_str x1).length).bind fun k8 =>
      if q6 = (nI ((am_str x1).getD k8 0)) then
        Rd_isWord_l28 l r x0 x1 h n (x2 + (1 : Int32))
      else
        some (0 : Int32)
def Rd_isWord (l : List (Nat × Nat)) (r : am_R) (a : Nat) (x1 : Nat) (h : am_F) : Option (Int32) :=
  if (h a 10) = (1 : Int32) then
    (g_sx x1).bind fun _ =>
    if ((h a 9) - (h a 11)) = (nI (am_str x1).length) then
      Rd_isWord_l28 l r a x1 h g_fu (0 : Int32)
    else
      some (0 : Int32)
  else
    some (0 : Int32)
theorem Rd_isWord_l28_s {X : Nat × (Nat → Int32)} {l : List (Nat × Nat)} {r : am_R} {x0 : Nat} {x1 : Nat} {h : am_F} {j : am_J} {q : Int32} (kx0 : Rd_K l r x0) : ∀ (n : Nat) (x2 : Int32), Rd_isWord_l28 l r x0 x1 h n x2 = some q → Ev X 70 28 [some (.ref x0), some (.retAddr x1), some (.int x2)] [] (l, r, h, j) (some (.int q), (l, r, h, j)) := by
  intro n
  induction n with
  | zero => intro x2 e; cases e
  | succ n ih =>
    intro x2 e
    unfold Rd_isWord_l28 at e
    refine g_run 2 30 [some (.ref x0), some (.retAddr x1), some (.int x2)] [.retAddr x1, .int x2] (fun _ => rfl) ?_
    obtain ⟨s4, es4, e⟩ := g_bd e
    have e9 : g_sx x1 = some x1 := by rw [es4, g_sxs es4]
    refine g_slen 33 rfl rfl e9 rfl ?_
    refine g_if (p1 := 62) (L1 := [some (.ref x0), some (.retAddr x1), some (.int x2)]) (S1 := []) (s1 := (l, r, h, j)) (p2 := 36) (L2 := [some (.ref x0), some (.retAddr x1), some (.int x2)]) (S2 := []) (s2 := (l, r, h, j)) rfl (fun _ _ => rfl) e (fun c5 e => ?_) (fun c5 e => ?_)
    · refine g_run 1 63 [some (.ref x0), some (.retAddr x1), some (.int x2)] [.int (1 : Int32)] (fun _ => rfl) ?_
      cases e
      exact g_retZ rfl (y := (1 : Int32)) rfl rfl
    · refine g_run 2 38 [some (.ref x0), some (.retAddr x1), some (.int x2)] [.ref x0, .ref x0] (fun _ => rfl) ?_
      refine g_getI 41 rfl rfl (Rd_l kx0) ?_
      refine g_run 2 43 [some (.ref x0), some (.retAddr x1), some (.int x2)] [.int ((h x0 11) + x2), .ref x0] (fun _ => rfl) ?_
      obtain ⟨q6, eq6, e⟩ := g_bd e
      refine g_cV 46 rfl rfl rfl rfl rfl (Rd_l kx0) (Rd_byteAt_s kx0 eq6) ?_
      refine g_run 2 48 [some (.ref x0), some (.retAddr x1), some (.int x2)] [.int x2, .retAddr x1, .int q6] (fun _ => rfl) ?_
      obtain ⟨s7, es7, e⟩ := g_bd e
      have e9 : g_sx x1 = some x1 := by rw [es7, g_sxs es7]
      obtain ⟨k8, ek8, e⟩ := g_bd e
      refine g_char 51 rfl rfl e9 ek8 rfl ?_
      refine g_if (p1 := 56) (L1 := [some (.ref x0), some (.retAddr x1), some (.int x2)]) (S1 := []) (s1 := (l, r, h, j)) (p2 := 54) (L2 := [some (.ref x0), some (.retAddr x1), some (.int x2)]) (S2 := []) (s2 := (l, r, h, j)) rfl (fun _ _ => rfl) e (fun c9 e => ?_) (fun c9 e => ?_)
      · refine g_run 2 28 [some (.ref x0), some (.retAddr x1), some (.int (x2 + (1 : Int32)))] [] (fun _ => rfl) ?_
        exact ih _ e
      · refine g_run 1 55 [some (.ref x0), some (.retAddr x1), some (.int x2)] [.int (0 : Int32)] (fun _ => rfl) ?_
        cases e
        exact g_retZ rfl (y := (0 : Int32)) rfl rfl
theorem Rd_isWord_s {X : Nat × (Nat → Int32)} {l : List (Nat × Nat)} {r : am_R} {h : am_F} {j : am_J} {a : Nat} {x1 : Nat} (ka : Rd_K l r a) {q : Int32} (e : Rd_isWord l r a x1 h = some q) : Call X 70 [.ref a, .retAddr x1] (l, r, h, j) (some (.int q), (l, r, h, j)) := by
  unfold Rd_isWord at e
  refine ⟨Nat.le_of_ble_eq_true rfl, ?_⟩
  show Ev X 70 0 [some (.ref a), some (.retAddr x1), none] [] (l, r, h, j) _
  refine g_run 1 1 [some (.ref a), some (.retAddr x1), none] [.ref a] (fun _ => rfl) ?_
  refine g_getI 4 rfl rfl (Rd_l ka) ?_
  refine g_run 1 5 [some (.ref a), some (.retAddr x1), none] [.int (1 : Int32), .int (h a 10)] (fun _ => rfl) ?_
  refine g_if (p1 := 8) (L1 := [some (.ref a), some (.retAddr x1), none]) (S1 := []) (s1 := (l, r, h, j)) (p2 := 24) (L2 := [some (.ref a), some (.retAddr x1), none]) (S2 := []) (s2 := (l, r, h, j)) rfl (fun _ _ => rfl) e (fun c1 e => ?_) (fun c1 e => ?_)
  · refine g_run 1 9 [some (.ref a), some (.retAddr x1), none] [.ref a] (fun _ => rfl) ?_
    refine g_getI 12 rfl rfl (Rd_l ka) ?_
    refine g_run 1 13 [some (.ref a), some (.retAddr x1), none] [.ref a, .int (h a 9)] (fun _ => rfl) ?_
    refine g_getI 16 rfl rfl (Rd_l ka) ?_
    refine g_run 2 18 [some (.ref a), some (.retAddr x1), none] [.retAddr x1, .int ((h a 9) - (h a 11))] (fun _ => rfl) ?_
    obtain ⟨s2, es2, e⟩ := g_bd e
    have e9 : g_sx x1 = some x1 := by rw [es2, g_sxs es2]
    refine g_slen 21 rfl rfl e9 rfl ?_
    refine g_if (p1 := 26) (L1 := [some (.ref a), some (.retAddr x1), none]) (S1 := []) (s1 := (l, r, h, j)) (p2 := 24) (L2 := [some (.ref a), some (.retAddr x1), none]) (S2 := []) (s2 := (l, r, h, j)) rfl (fun _ _ => rfl) e (fun c3 e => ?_) (fun c3 e => ?_)
    · refine g_run 2 28 [some (.ref a), some (.retAddr x1), some (.int (0 : Int32))] [] (fun _ => rfl) ?_
      exact Rd_isWord_l28_s ka _ _ e
    · refine g_run 1 25 [some (.ref a), some (.retAddr x1), none] [.int (0 : Int32)] (fun _ => rfl) ?_
      cases e
      exact g_retZ rfl (y := (0 : Int32)) rfl rfl
  · refine g_run 1 25 [some (.ref a), some (.retAddr x1), none] [.int (0 : Int32)] (fun _ => rfl) ?_
    cases e
    exact g_retZ rfl (y := (0 : Int32)) rfl rfl
def Rd_lineHere_l15 (l : List (Nat × Nat)) (r : am_R) (x0 : Nat) (x3 : Int32) (h : am_F) : Nat → Int32 → Option (Int32)
  | 0, _ => none
  | n + 1, x4 =>
    if x3 ≤ x4 then
      some (-1 : Int32)
    else
      (Rd_isWord l r x0 (Rd_wordOf x4) h).bind fun q2 =>
      if q2 = 0 then
        Rd_lineHere_l15 l r x0 x3 h n (x4 + (1 : Int32))
      else
        some x4
def Rd_lineHere (l : List (Nat × Nat)) (r : am_R) (a : Nat) (x1 : Int32) (h : am_F) : Option (Int32) :=
  Rd_lineHere_l15 l r a (Rd_firstLine (x1 + (1 : Int32))) h g_fu (Rd_firstLine x1)
theorem Rd_lineHere_l15_s {X : Nat × (Nat → Int32)} {l : List (Nat × Nat)} {r : am_R} {x0 : Nat} {x3 : Int32} {y1 : Int32} {y2 : Int32} {h : am_F} {j : am_J} {q : Int32} (kx0 : Rd_K l r x0) : ∀ (n : Nat) (x4 : Int32), Rd_lineHere_l15 l r x0 x3 h n x4 = some q → Ev X 62 15 [some (.ref x0), some (.int y1), some (.int y2), some (.int x3), some (.int x4)] [] (l, r, h, j) (some (.int q), (l, r, h, j)) := by
  intro n
  induction n with
  | zero => intro x4 e; cases e
  | succ n ih =>
    intro x4 e
    unfold Rd_lineHere_l15 at e
    refine g_run 2 18 [some (.ref x0), some (.int y1), some (.int y2), some (.int x3), some (.int x4)] [.int x3, .int x4] (fun _ => rfl) ?_
    refine g_if (p1 := 42) (L1 := [some (.ref x0), some (.int y1), some (.int y2), some (.int x3), some (.int x4)]) (S1 := []) (s1 := (l, r, h, j)) (p2 := 21) (L2 := [some (.ref x0), some (.int y1), some (.int y2), some (.int x3), some (.int x4)]) (S2 := []) (s2 := (l, r, h, j)) rfl (fun _ _ => rfl) e (fun c1 e => ?_) (fun c1 e => ?_)
    · refine g_run 1 43 [some (.ref x0), some (.int y1), some (.int y2), some (.int x3), some (.int x4)] [.int (-1 : Int32)] (fun _ => rfl) ?_
      cases e
      exact g_ret rfl (fun _ _ => rfl)
    · refine g_run 2 24 [some (.ref x0), some (.int y1), some (.int y2), some (.int x3), some (.int x4)] [.int x4, .ref x0] (fun _ => rfl) ?_
      refine g_cS 27 rfl rfl (by decide) rfl rfl rfl Rd_wordOf_s ?_
      obtain ⟨q2, eq2, e⟩ := g_bd e
      refine g_cV 30 rfl rfl rfl rfl rfl (Rd_l kx0) (Rd_isWord_s kx0 eq2) ?_
      refine g_if (p1 := 36) (L1 := [some (.ref x0), some (.int y1), some (.int y2), some (.int x3), some (.int x4)]) (S1 := []) (s1 := (l, r, h, j)) (p2 := 33) (L2 := [some (.ref x0), some (.int y1), some (.int y2), some (.int x3), some (.int x4)]) (S2 := []) (s2 := (l, r, h, j)) rfl (fun _ _ => rfl) e (fun c3 e => ?_) (fun c3 e => ?_)
      · refine g_run 2 15 [some (.ref x0), some (.int y1), some (.int y2), some (.int x3), some (.int (x4 + (1 : Int32)))] [] (fun _ => rfl) ?_
        exact ih _ e
      · refine g_run 1 35 [some (.ref x0), some (.int y1), some (.int y2), some (.int x3), some (.int x4)] [.int x4] (fun _ => rfl) ?_
        cases e
        exact g_ret rfl (fun _ _ => rfl)
theorem Rd_lineHere_s {X : Nat × (Nat → Int32)} {l : List (Nat × Nat)} {r : am_R} {h : am_F} {j : am_J} {a : Nat} {x1 : Int32} (ka : Rd_K l r a) {q : Int32} (e : Rd_lineHere l r a x1 h = some q) : Call X 62 [.ref a, .int x1] (l, r, h, j) (some (.int q), (l, r, h, j)) := by
  unfold Rd_lineHere at e
  refine ⟨Nat.le_of_ble_eq_true rfl, ?_⟩
  show Ev X 62 0 [some (.ref a), some (.int x1), none, none, none] [] (l, r, h, j) _
  refine g_run 1 1 [some (.ref a), some (.int x1), none, none, none] [.int x1] (fun _ => rfl) ?_
  refine g_cS 4 rfl rfl (by decide) rfl rfl rfl Rd_firstLine_s ?_
  refine g_run 4 8 [some (.ref a), some (.int x1), some (.int (Rd_firstLine x1)), none, none] [.int (x1 + (1 : Int32))] (fun _ => rfl) ?_
  refine g_cS 11 rfl rfl (by decide) rfl rfl rfl Rd_firstLine_s ?_
  refine g_run 3 15 [some (.ref a), some (.int x1), some (.int (Rd_firstLine x1)), some (.int (Rd_firstLine (x1 + (1 : Int32)))), some (.int (Rd_firstLine x1))] [] (fun _ => rfl) ?_
  exact Rd_lineHere_l15_s ka _ _ e
def Rd_breakOff (a : Nat) (h : am_F) : Option (am_F) :=
  some (am_up (am_up h a 4 (1 : Int32)) a 5 ((am_up h a 4 (1 : Int32)) a 11))
theorem Rd_breakOff_s {X : Nat × (Nat → Int32)} {l : List (Nat × Nat)} {r : am_R} {h : am_F} {j : am_J} {a : Nat} (ka : Rd_K l r a) {q : am_F} (e : Rd_breakOff a h = some q) : Call X 56 [.ref a] (l, r, h, j) (none, (l, r, q, j)) := by
  unfold Rd_breakOff at e
  refine ⟨Nat.le_of_ble_eq_true rfl, ?_⟩
  show Ev X 56 0 [some (.ref a)] [] (l, r, h, j) _
  refine g_run 2 2 [some (.ref a)] [.int (1 : Int32), .ref a] (fun _ => rfl) ?_
  refine g_putI 5 rfl rfl (Rd_l ka) ?_
  refine g_run 2 7 [some (.ref a)] [.ref a, .ref a] (fun _ => rfl) ?_
  refine g_getI 10 rfl rfl (Rd_l ka) ?_
  refine g_putI 13 rfl rfl (Rd_l ka) ?_
  cases e
  exact g_ret rfl (fun _ _ => rfl)
def Rd_isFull (a : Nat) (x1 : Int32) (h : am_F) : Option (Int32) :=
  if x1 = (4 : Int32) then
    if (h (a + 1) 3) < (6 : Int32) then
      some (0 : Int32)
    else
      some (1 : Int32)
  else if x1 = (5 : Int32) then
    some (0 : Int32)
  else if x1 = (6 : Int32) then
    some (0 : Int32)
  else if x1 = (7 : Int32) then
    (g_bz (Rw_isFull ((a + 1) + 7) h)).bind fun z9 =>
    some z9
  else if x1 = (8 : Int32) then
    (g_bz (Rw_isFull ((a + 1) + 9) h)).bind fun z9 =>
    some z9
  else if x1 = (9 : Int32) then
    (g_bz (Rw_isFull ((a + 1) + 11) h)).bind fun z9 =>
    some z9
  else if x1 = (10 : Int32) then
    (g_bz (Rw_isFull (a + 14) h)).bind fun z9 =>
    some z9
  else if x1 = (11 : Int32) then
    (g_bz (Rw_isFull (a + 14) h)).bind fun z9 =>
    some z9
  else if x1 = (12 : Int32) then
    (g_bz (Rw_isFull (a + 14) h)).bind fun z9 =>
    some z9
  else if x1 = (13 : Int32) then
    (g_bz (Rw_isFull (a + 16) h)).bind fun z9 =>
    some z9
  else if x1 = (14 : Int32) then
    (g_bz (Rw_isFull (a + 18) h)).bind fun z9 =>
    some z9
  else 
    some (0 : Int32)
theorem Rd_isFull_s {X : Nat × (Nat → Int32)} {l : List (Nat × Nat)} {r : am_R} {h : am_F} {j : am_J} {a : Nat} {x1 : Int32} (ka : Rd_K l r a) {q : Int32} (e : Rd_isFull a x1 h = some q) : Call X 61 [.ref a, .int x1] (l, r, h, j) (some (.int q), (l, r, h, j)) := by
  unfold Rd_isFull at e
  refine ⟨Nat.le_of_ble_eq_true rfl, ?_⟩
  show Ev X 61 0 [some (.ref a), some (.int x1)] [] (l, r, h, j) _
  refine g_run 1 1 [some (.ref a), some (.int x1)] [.int x1] (fun _ => rfl) ?_
  by_cases c2 : x1 = (4 : Int32)
  · replace e := (if_pos c2).symm.trans e
    refine g_sw (p1 := 60) (L1 := [some (.ref a), some (.int x1)]) (S1 := []) (s1 := (l, r, h, j)) rfl c2 (fun _ _ => rfl) ?_
    refine g_run 1 61 [some (.ref a), some (.int x1)] [.ref a] (fun _ => rfl) ?_
    refine g_getA 64 rfl rfl (Rd_l ka) (Rd_r0 ka) ?_
    refine g_getI 67 rfl rfl (Pk_l (Rd_k0 ka)) ?_
    refine g_run 1 69 [some (.ref a), some (.int x1)] [.int (6 : Int32), .int (h (a + 1) 3)] (fun _ => rfl) ?_
    refine g_if (p1 := 76) (L1 := [some (.ref a), some (.int x1)]) (S1 := []) (s1 := (l, r, h, j)) (p2 := 72) (L2 := [some (.ref a), some (.int x1)]) (S2 := []) (s2 := (l, r, h, j)) rfl (fun _ _ => rfl) e (fun c1 e => ?_) (fun c1 e => ?_)
    · refine g_run 1 77 [some (.ref a), some (.int x1)] [.int (0 : Int32)] (fun _ => rfl) ?_
      cases e
      exact g_retZ rfl (y := (0 : Int32)) rfl rfl
    · refine g_run 2 77 [some (.ref a), some (.int x1)] [.int (1 : Int32)] (fun _ => rfl) ?_
      cases e
      exact g_retZ rfl (y := (1 : Int32)) rfl rfl
  replace e := (if_neg c2).symm.trans e
  by_cases c3 : x1 = (5 : Int32)
  · replace e := (if_pos c3).symm.trans e
    refine g_sw (p1 := 135) (L1 := [some (.ref a), some (.int x1)]) (S1 := []) (s1 := (l, r, h, j)) rfl c3 (fun _ _ => rfl) ?_
    refine g_run 1 136 [some (.ref a), some (.int x1)] [.int (0 : Int32)] (fun _ => rfl) ?_
    cases e
    exact g_retZ rfl (y := (0 : Int32)) rfl rfl
  replace e := (if_neg c3).symm.trans e
  by_cases c4 : x1 = (6 : Int32)
  · replace e := (if_pos c4).symm.trans e
    refine g_sw (p1 := 135) (L1 := [some (.ref a), some (.int x1)]) (S1 := []) (s1 := (l, r, h, j)) rfl c4 (fun _ _ => rfl) ?_
    refine g_run 1 136 [some (.ref a), some (.int x1)] [.int (0 : Int32)] (fun _ => rfl) ?_
    cases e
    exact g_retZ rfl (y := (0 : Int32)) rfl rfl
  replace e := (if_neg c4).symm.trans e
  by_cases c5 : x1 = (7 : Int32)
  · replace e := (if_pos c5).symm.trans e
    refine g_sw (p1 := 78) (L1 := [some (.ref a), some (.int x1)]) (S1 := []) (s1 := (l, r, h, j)) rfl c5 (fun _ _ => rfl) ?_
    refine g_run 1 79 [some (.ref a), some (.int x1)] [.ref a] (fun _ => rfl) ?_
    refine g_getA 82 rfl rfl (Rd_l ka) (Rd_r0 ka) ?_
    refine g_getA 85 rfl rfl (Pk_l (Rd_k0 ka)) (Pk_r10 (Rd_k0 ka)) ?_
    refine g_cV 88 rfl rfl rfl rfl rfl (Rw_l (Pk_k10 (Rd_k0 ka))) (Rw_isFull_s (Pk_k10 (Rd_k0 ka))) ?_
    obtain ⟨z9, ez9, e⟩ := g_bd e
    cases e
    exact g_retZ rfl ez9 rfl
  replace e := (if_neg c5).symm.trans e
  by_cases c6 : x1 = (8 : Int32)
  · replace e := (if_pos c6).symm.trans e
    refine g_sw (p1 := 89) (L1 := [some (.ref a), some (.int x1)]) (S1 := []) (s1 := (l, r, h, j)) rfl c6 (fun _ _ => rfl) ?_
    refine g_run 1 90 [some (.ref a), some (.int x1)] [.ref a] (fun _ => rfl) ?_
    refine g_getA 93 rfl rfl (Rd_l ka) (Rd_r0 ka) ?_
    refine g_getA 96 rfl rfl (Pk_l (Rd_k0 ka)) (Pk_r11 (Rd_k0 ka)) ?_
    refine g_cV 99 rfl rfl rfl rfl rfl (Rw_l (Pk_k11 (Rd_k0 ka))) (Rw_isFull_s (Pk_k11 (Rd_k0 ka))) ?_
    obtain ⟨z9, ez9, e⟩ := g_bd e
    cases e
    exact g_retZ rfl ez9 rfl
  replace e := (if_neg c6).symm.trans e
  by_cases c7 : x1 = (9 : Int32)
  · replace e := (if_pos c7).symm.trans e
    refine g_sw (p1 := 100) (L1 := [some (.ref a), some (.int x1)]) (S1 := []) (s1 := (l, r, h, j)) rfl c7 (fun _ _ => rfl) ?_
    refine g_run 1 101 [some (.ref a), some (.int x1)] [.ref a] (fun _ => rfl) ?_
    refine g_getA 104 rfl rfl (Rd_l ka) (Rd_r0 ka) ?_
    refine g_getA 107 rfl rfl (Pk_l (Rd_k0 ka)) (Pk_r12 (Rd_k0 ka)) ?_
    refine g_cV 110 rfl rfl rfl rfl rfl (Rw_l (Pk_k12 (Rd_k0 ka))) (Rw_isFull_s (Pk_k12 (Rd_k0 ka))) ?_
    obtain ⟨z9, ez9, e⟩ := g_bd e
    cases e
    exact g_retZ rfl ez9 rfl
  replace e := (if_neg c7).symm.trans e
  by_cases c8 : x1 = (10 : Int32)
  · replace e := (if_pos c8).symm.trans e
    refine g_sw (p1 := 111) (L1 := [some (.ref a), some (.int x1)]) (S1 := []) (s1 := (l, r, h, j)) rfl c8 (fun _ _ => rfl) ?_
    refine g_run 1 112 [some (.ref a), some (.int x1)] [.ref a] (fun _ => rfl) ?_
    refine g_getA 115 rfl rfl (Rd_l ka) (Rd_r1 ka) ?_
    refine g_cV 118 rfl rfl rfl rfl rfl (Rw_l (Rd_k1 ka)) (Rw_isFull_s (Rd_k1 ka)) ?_
    obtain ⟨z9, ez9, e⟩ := g_bd e
    cases e
    exact g_retZ rfl ez9 rfl
  replace e := (if_neg c8).symm.trans e
  by_cases c9 : x1 = (11 : Int32)
  · replace e := (if_pos c9).symm.trans e
    refine g_sw (p1 := 111) (L1 := [some (.ref a), some (.int x1)]) (S1 := []) (s1 := (l, r, h, j)) rfl c9 (fun _ _ => rfl) ?_
    refine g_run 1 112 [some (.ref a), some (.int x1)] [.ref a] (fun _ => rfl) ?_
    refine g_getA 115 rfl rfl (Rd_l ka) (Rd_r1 ka) ?_
    refine g_cV 118 rfl rfl rfl rfl rfl (Rw_l (Rd_k1 ka)) (Rw_isFull_s (Rd_k1 ka)) ?_
    obtain ⟨z9, ez9, e⟩ := g_bd e
    cases e
    exact g_retZ rfl ez9 rfl
  replace e := (if_neg c9).symm.trans e
  by_cases c10 : x1 = (12 : Int32)
  · replace e := (if_pos c10).symm.trans e
    refine g_sw (p1 := 111) (L1 := [some (.ref a), some (.int x1)]) (S1 := []) (s1 := (l, r, h, j)) rfl c10 (fun _ _ => rfl) ?_
    refine g_run 1 112 [some (.ref a), some (.int x1)] [.ref a] (fun _ => rfl) ?_
    refine g_getA 115 rfl rfl (Rd_l ka) (Rd_r1 ka) ?_
    refine g_cV 118 rfl rfl rfl rfl rfl (Rw_l (Rd_k1 ka)) (Rw_isFull_s (Rd_k1 ka)) ?_
    obtain ⟨z9, ez9, e⟩ := g_bd e
    cases e
    exact g_retZ rfl ez9 rfl
  replace e := (if_neg c10).symm.trans e
  by_cases c11 : x1 = (13 : Int32)
  · replace e := (if_pos c11).symm.trans e
    refine g_sw (p1 := 119) (L1 := [some (.ref a), some (.int x1)]) (S1 := []) (s1 := (l, r, h, j)) rfl c11 (fun _ _ => rfl) ?_
    refine g_run 1 120 [some (.ref a), some (.int x1)] [.ref a] (fun _ => rfl) ?_
    refine g_getA 123 rfl rfl (Rd_l ka) (Rd_r2 ka) ?_
    refine g_cV 126 rfl rfl rfl rfl rfl (Rw_l (Rd_k2 ka)) (Rw_isFull_s (Rd_k2 ka)) ?_
    obtain ⟨z9, ez9, e⟩ := g_bd e
    cases e
    exact g_retZ rfl ez9 rfl
  replace e := (if_neg c11).symm.trans e
  by_cases c12 : x1 = (14 : Int32)
  · replace e := (if_pos c12).symm.trans e
    refine g_sw (p1 := 127) (L1 := [some (.ref a), some (.int x1)]) (S1 := []) (s1 := (l, r, h, j)) rfl c12 (fun _ _ => rfl) ?_
    refine g_run 1 128 [some (.ref a), some (.int x1)] [.ref a] (fun _ => rfl) ?_
    refine g_getA 131 rfl rfl (Rd_l ka) (Rd_r3 ka) ?_
    refine g_cV 134 rfl rfl rfl rfl rfl (Rw_l (Rd_k3 ka)) (Rw_isFull_s (Rd_k3 ka)) ?_
    obtain ⟨z9, ez9, e⟩ := g_bd e
    cases e
    exact g_retZ rfl ez9 rfl
  replace e := (if_neg c12).symm.trans e
  have ic2 : (Int32.toInt x1) ≠ 4 := g_ne c2
  have ic3 : (Int32.toInt x1) ≠ 5 := g_ne c3
  have ic4 : (Int32.toInt x1) ≠ 6 := g_ne c4
  have ic5 : (Int32.toInt x1) ≠ 7 := g_ne c5
  have ic6 : (Int32.toInt x1) ≠ 8 := g_ne c6
  have ic7 : (Int32.toInt x1) ≠ 9 := g_ne c7
  have ic8 : (Int32.toInt x1) ≠ 10 := g_ne c8
  have ic9 : (Int32.toInt x1) ≠ 11 := g_ne c9
  have ic10 : (Int32.toInt x1) ≠ 12 := g_ne c10
  have ic11 : (Int32.toInt x1) ≠ 13 := g_ne c11
  have ic12 : (Int32.toInt x1) ≠ 14 := g_ne c12
  refine g_swd (p1 := 135) (L1 := [some (.ref a), some (.int x1)]) (S1 := []) (s1 := (l, r, h, j)) (x := x1) (lo := 4) (hi := 14) rfl (fun _ _ => rfl) (by omega) ?_
  refine g_run 1 136 [some (.ref a), some (.int x1)] [.int (0 : Int32)] (fun _ => rfl) ?_
  cases e
  exact g_retZ rfl (y := (0 : Int32)) rfl rfl
def Rd_noteFault (a : Nat) (x1 : Int32) (x2 : Int32) (h : am_F) : Option (am_F) :=
  if (h a 4) = 0 then
    some (am_up (am_up h a 4 x1) a 5 x2)
  else
    some h
theorem Rd_noteFault_s {X : Nat × (Nat → Int32)} {l : List (Nat × Nat)} {r : am_R} {h : am_F} {j : am_J} {a : Nat} {x1 : Int32} {x2 : Int32} (ka : Rd_K l r a) {q : am_F} (e : Rd_noteFault a x1 x2 h = some q) : Call X 55 [.ref a, .int x1, .int x2] (l, r, h, j) (none, (l, r, q, j)) := by
  unfold Rd_noteFault at e
  refine ⟨Nat.le_of_ble_eq_true rfl, ?_⟩
  show Ev X 55 0 [some (.ref a), some (.int x1), some (.int x2)] [] (l, r, h, j) _
  refine g_run 1 1 [some (.ref a), some (.int x1), some (.int x2)] [.ref a] (fun _ => rfl) ?_
  refine g_getI 4 rfl rfl (Rd_l ka) ?_
  refine g_if (p1 := 7) (L1 := [some (.ref a), some (.int x1), some (.int x2)]) (S1 := []) (s1 := (l, r, h, j)) (p2 := 17) (L2 := [some (.ref a), some (.int x1), some (.int x2)]) (S2 := []) (s2 := (l, r, h, j)) rfl (fun _ _ => rfl) e (fun c1 e => ?_) (fun c1 e => ?_)
  · refine g_run 2 9 [some (.ref a), some (.int x1), some (.int x2)] [.int x1, .ref a] (fun _ => rfl) ?_
    refine g_putI 12 rfl rfl (Rd_l ka) ?_
    refine g_run 2 14 [some (.ref a), some (.int x1), some (.int x2)] [.int x2, .ref a] (fun _ => rfl) ?_
    refine g_putI 17 rfl rfl (Rd_l ka) ?_
    cases e
    exact g_ret rfl (fun _ _ => rfl)
  · cases e
    exact g_ret rfl (fun _ _ => rfl)
def Rd_shapeOf (x0 : Int32) : Nat :=
  if x0 = (0 : Int32) then
    15
  else if x0 = (1 : Int32) then
    16
  else if x0 = (2 : Int32) then
    17
  else if x0 = (3 : Int32) then
    18
  else if x0 = (4 : Int32) then
    19
  else if x0 = (5 : Int32) then
    20
  else if x0 = (6 : Int32) then
    21
  else if x0 = (7 : Int32) then
    22
  else if x0 = (8 : Int32) then
    20
  else if x0 = (9 : Int32) then
    23
  else if x0 = (10 : Int32) then
    20
  else if x0 = (11 : Int32) then
    20
  else if x0 = (12 : Int32) then
    20
  else if x0 = (13 : Int32) then
    24
  else if x0 = (14 : Int32) then
    25
  else 
    20
theorem Rd_shapeOf_s {X : Nat × (Nat → Int32)} {l : List (Nat × Nat)} {r : am_R} {h : am_F} {j : am_J} {x0 : Int32}  : Call X 65 [.int x0] (l, r, h, j) (some (.retAddr (Rd_shapeOf x0)), (l, r, h, j)) := by
  generalize e : Rd_shapeOf x0 = q
  unfold Rd_shapeOf at e
  refine ⟨Nat.le_of_ble_eq_true rfl, ?_⟩
  show Ev X 65 0 [some (.int x0)] [] (l, r, h, j) _
  refine g_run 1 1 [some (.int x0)] [.int x0] (fun _ => rfl) ?_
  by_cases c1 : x0 = (0 : Int32)
  · replace e := (if_pos c1).symm.trans e
    refine g_sw (p1 := 76) (L1 := [some (.int x0)]) (S1 := []) (s1 := (l, r, h, j)) rfl c1 (fun _ _ => rfl) ?_
    refine g_run 1 78 [some (.int x0)] [.retAddr 15] (fun _ => rfl) ?_
    cases e
    exact g_ret rfl (fun _ _ => rfl)
  replace e := (if_neg c1).symm.trans e
  by_cases c2 : x0 = (1 : Int32)
  · replace e := (if_pos c2).symm.trans e
    refine g_sw (p1 := 79) (L1 := [some (.int x0)]) (S1 := []) (s1 := (l, r, h, j)) rfl c2 (fun _ _ => rfl) ?_
    refine g_run 1 81 [some (.int x0)] [.retAddr 16] (fun _ => rfl) ?_
    cases e
    exact g_ret rfl (fun _ _ => rfl)
  replace e := (if_neg c2).symm.trans e
  by_cases c3 : x0 = (2 : Int32)
  · replace e := (if_pos c3).symm.trans e
    refine g_sw (p1 := 82) (L1 := [some (.int x0)]) (S1 := []) (s1 := (l, r, h, j)) rfl c3 (fun _ _ => rfl) ?_
    refine g_run 1 84 [some (.int x0)] [.retAddr 17] (fun _ => rfl) ?_
    cases e
    exact g_ret rfl (fun _ _ => rfl)
  replace e := (if_neg c3).symm.trans e
  by_cases c4 : x0 = (3 : Int32)
  · replace e := (if_pos c4).symm.trans e
    refine g_sw (p1 := 85) (L1 := [some (.int x0)]) (S1 := []) (s1 := (l, r, h, j)) rfl c4 (fun _ _ => rfl) ?_
    refine g_run 1 87 [some (.int x0)] [.retAddr 18] (fun _ => rfl) ?_
    cases e
    exact g_ret rfl (fun _ _ => rfl)
  replace e := (if_neg c4).symm.trans e
  by_cases c5 : x0 = (4 : Int32)
  · replace e := (if_pos c5).symm.trans e
    refine g_sw (p1 := 88) (L1 := [some (.int x0)]) (S1 := []) (s1 := (l, r, h, j)) rfl c5 (fun _ _ => rfl) ?_
    refine g_run 1 90 [some (.int x0)] [.retAddr 19] (fun _ => rfl) ?_
    cases e
    exact g_ret rfl (fun _ _ => rfl)
  replace e := (if_neg c5).symm.trans e
  by_cases c6 : x0 = (5 : Int32)
  · replace e := (if_pos c6).symm.trans e
    refine g_sw (p1 := 91) (L1 := [some (.int x0)]) (S1 := []) (s1 := (l, r, h, j)) rfl c6 (fun _ _ => rfl) ?_
    refine g_run 1 93 [some (.int x0)] [.retAddr 20] (fun _ => rfl) ?_
    cases e
    exact g_ret rfl (fun _ _ => rfl)
  replace e := (if_neg c6).symm.trans e
  by_cases c7 : x0 = (6 : Int32)
  · replace e := (if_pos c7).symm.trans e
    refine g_sw (p1 := 94) (L1 := [some (.int x0)]) (S1 := []) (s1 := (l, r, h, j)) rfl c7 (fun _ _ => rfl) ?_
    refine g_run 1 96 [some (.int x0)] [.retAddr 21] (fun _ => rfl) ?_
    cases e
    exact g_ret rfl (fun _ _ => rfl)
  replace e := (if_neg c7).symm.trans e
  by_cases c8 : x0 = (7 : Int32)
  · replace e := (if_pos c8).symm.trans e
    refine g_sw (p1 := 97) (L1 := [some (.int x0)]) (S1 := []) (s1 := (l, r, h, j)) rfl c8 (fun _ _ => rfl) ?_
    refine g_run 1 99 [some (.int x0)] [.retAddr 22] (fun _ => rfl) ?_
    cases e
    exact g_ret rfl (fun _ _ => rfl)
  replace e := (if_neg c8).symm.trans e
  by_cases c9 : x0 = (8 : Int32)
  · replace e := (if_pos c9).symm.trans e
    refine g_sw (p1 := 100) (L1 := [some (.int x0)]) (S1 := []) (s1 := (l, r, h, j)) rfl c9 (fun _ _ => rfl) ?_
    refine g_run 1 102 [some (.int x0)] [.retAddr 20] (fun _ => rfl) ?_
    cases e
    exact g_ret rfl (fun _ _ => rfl)
  replace e := (if_neg c9).symm.trans e
  by_cases c10 : x0 = (9 : Int32)
  · replace e := (if_pos c10).symm.trans e
    refine g_sw (p1 := 103) (L1 := [some (.int x0)]) (S1 := []) (s1 := (l, r, h, j)) rfl c10 (fun _ _ => rfl) ?_
    refine g_run 1 105 [some (.int x0)] [.retAddr 23] (fun _ => rfl) ?_
    cases e
    exact g_ret rfl (fun _ _ => rfl)
  replace e := (if_neg c10).symm.trans e
  by_cases c11 : x0 = (10 : Int32)
  · replace e := (if_pos c11).symm.trans e
    refine g_sw (p1 := 112) (L1 := [some (.int x0)]) (S1 := []) (s1 := (l, r, h, j)) rfl c11 (fun _ _ => rfl) ?_
    refine g_run 1 114 [some (.int x0)] [.retAddr 20] (fun _ => rfl) ?_
    cases e
    exact g_ret rfl (fun _ _ => rfl)
  replace e := (if_neg c11).symm.trans e
  by_cases c12 : x0 = (11 : Int32)
  · replace e := (if_pos c12).symm.trans e
    refine g_sw (p1 := 112) (L1 := [some (.int x0)]) (S1 := []) (s1 := (l, r, h, j)) rfl c12 (fun _ _ => rfl) ?_
    refine g_run 1 114 [some (.int x0)] [.retAddr 20] (fun _ => rfl) ?_
    cases e
    exact g_ret rfl (fun _ _ => rfl)
  replace e := (if_neg c12).symm.trans e
  by_cases c13 : x0 = (12 : Int32)
  · replace e := (if_pos c13).symm.trans e
    refine g_sw (p1 := 112) (L1 := [some (.int x0)]) (S1 := []) (s1 := (l, r, h, j)) rfl c13 (fun _ _ => rfl) ?_
    refine g_run 1 114 [some (.int x0)] [.retAddr 20] (fun _ => rfl) ?_
    cases e
    exact g_ret rfl (fun _ _ => rfl)
  replace e := (if_neg c13).symm.trans e
  by_cases c14 : x0 = (13 : Int32)
  · replace e := (if_pos c14).symm.trans e
    refine g_sw (p1 := 106) (L1 := [some (.int x0)]) (S1 := []) (s1 := (l, r, h, j)) rfl c14 (fun _ _ => rfl) ?_
    refine g_run 1 108 [some (.int x0)] [.retAddr 24] (fun _ => rfl) ?_
    cases e
    exact g_ret rfl (fun _ _ => rfl)
  replace e := (if_neg c14).symm.trans e
  by_cases c15 : x0 = (14 : Int32)
  · replace e := (if_pos c15).symm.trans e
    refine g_sw (p1 := 109) (L1 := [some (.int x0)]) (S1 := []) (s1 := (l, r, h, j)) rfl c15 (fun _ _ => rfl) ?_
    refine g_run 1 111 [some (.int x0)] [.retAddr 25] (fun _ => rfl) ?_
    cases e
    exact g_ret rfl (fun _ _ => rfl)
  replace e := (if_neg c15).symm.trans e
  have ic1 : (Int32.toInt x0) ≠ 0 := g_ne c1
  have ic2 : (Int32.toInt x0) ≠ 1 := g_ne c2
  have ic3 : (Int32.toInt x0) ≠ 2 := g_ne c3
  have ic4 : (Int32.toInt x0) ≠ 3 := g_ne c4
  have ic5 : (Int32.toInt x0) ≠ 4 := g_ne c5
  have ic6 : (Int32.toInt x0) ≠ 5 := g_ne c6
  have ic7 : (Int32.toInt x0) ≠ 6 := g_ne c7
  have ic8 : (Int32.toInt x0) ≠ 7 := g_ne c8
  have ic9 : (Int32.toInt x0) ≠ 8 := g_ne c9
  have ic10 : (Int32.toInt x0) ≠ 9 := g_ne c10
  have ic11 : (Int32.toInt x0) ≠ 10 := g_ne c11
  have ic12 : (Int32.toInt x0) ≠ 11 := g_ne c12
  have ic13 : (Int32.toInt x0) ≠ 12 := g_ne c13
  have ic14 : (Int32.toInt x0) ≠ 13 := g_ne c14
  have ic15 : (Int32.toInt x0) ≠ 14 := g_ne c15
  refine g_swd (p1 := 112) (L1 := [some (.int x0)]) (S1 := []) (s1 := (l, r, h, j)) (x := x0) (lo := 0) (hi := 14) rfl (fun _ _ => rfl) (by omega) ?_
  refine g_run 1 114 [some (.int x0)] [.retAddr 20] (fun _ => rfl) ?_
  cases e
  exact g_ret rfl (fun _ _ => rfl)
def Rd_habitWord (x0 : Int32) : Nat :=
  if x0 = (0 : Int32) then
    6
  else if x0 = (1 : Int32) then
    26
  else if x0 = (2 : Int32) then
    27
  else if x0 = (3 : Int32) then
    28
  else 
    29
theorem Rd_habitWord_s {X : Nat × (Nat → Int32)} {l : List (Nat × Nat)} {r : am_R} {h : am_F} {j : am_J} {x0 : Int32}  : Call X 69 [.int x0] (l, r, h, j) (some (.retAddr (Rd_habitWord x0)), (l, r, h, j)) := by
  generalize e : Rd_habitWord x0 = q
  unfold Rd_habitWord at e
  refine ⟨Nat.le_of_ble_eq_true rfl, ?_⟩
  show Ev X 69 0 [some (.int x0)] [] (l, r, h, j) _
  refine g_run 1 1 [some (.int x0)] [.int x0] (fun _ => rfl) ?_
  by_cases c1 : x0 = (0 : Int32)
  · replace e := (if_pos c1).symm.trans e
    refine g_sw (p1 := 32) (L1 := [some (.int x0)]) (S1 := []) (s1 := (l, r, h, j)) rfl c1 (fun _ _ => rfl) ?_
    refine g_run 1 34 [some (.int x0)] [.retAddr 6] (fun _ => rfl) ?_
    cases e
    exact g_ret rfl (fun _ _ => rfl)
  replace e := (if_neg c1).symm.trans e
  by_cases c2 : x0 = (1 : Int32)
  · replace e := (if_pos c2).symm.trans e
    refine g_sw (p1 := 35) (L1 := [some (.int x0)]) (S1 := []) (s1 := (l, r, h, j)) rfl c2 (fun _ _ => rfl) ?_
    refine g_run 1 37 [some (.int x0)] [.retAddr 26] (fun _ => rfl) ?_
    cases e
    exact g_ret rfl (fun _ _ => rfl)
  replace e := (if_neg c2).symm.trans e
  by_cases c3 : x0 = (2 : Int32)
  · replace e := (if_pos c3).symm.trans e
    refine g_sw (p1 := 38) (L1 := [some (.int x0)]) (S1 := []) (s1 := (l, r, h, j)) rfl c3 (fun _ _ => rfl) ?_
    refine g_run 1 40 [some (.int x0)] [.retAddr 27] (fun _ => rfl) ?_
    cases e
    exact g_ret rfl (fun _ _ => rfl)
  replace e := (if_neg c3).symm.trans e
  by_cases c4 : x0 = (3 : Int32)
  · replace e := (if_pos c4).symm.trans e
    refine g_sw (p1 := 41) (L1 := [some (.int x0)]) (S1 := []) (s1 := (l, r, h, j)) rfl c4 (fun _ _ => rfl) ?_
    refine g_run 1 43 [some (.int x0)] [.retAddr 28] (fun _ => rfl) ?_
    cases e
    exact g_ret rfl (fun _ _ => rfl)
  replace e := (if_neg c4).symm.trans e
  have ic1 : (Int32.toInt x0) ≠ 0 := g_ne c1
  have ic2 : (Int32.toInt x0) ≠ 1 := g_ne c2
  have ic3 : (Int32.toInt x0) ≠ 2 := g_ne c3
  have ic4 : (Int32.toInt x0) ≠ 3 := g_ne c4
  refine g_swd (p1 := 44) (L1 := [some (.int x0)]) (S1 := []) (s1 := (l, r, h, j)) (x := x0) (lo := 0) (hi := 3) rfl (fun _ _ => rfl) (by omega) ?_
  refine g_run 1 46 [some (.int x0)] [.retAddr 29] (fun _ => rfl) ?_
  cases e
  exact g_ret rfl (fun _ _ => rfl)
def Rd_habitHere_l2 (l : List (Nat × Nat)) (r : am_R) (x0 : Nat) (h : am_F) : Nat → Int32 → Option (Int32)
  | 0, _ => none
  | n + 1, x1 =>
    if (5 : Int32) ≤ x1 then
      some (-1 : Int32)
    else
      (Rd_isWord l r x0 (Rd_habitWord x1) h).bind fun q2 =>
      if q2 = 0 then
        Rd_habitHere_l2 l r x0 h n (x1 + (1 : Int32))
      else
        some x1
def Rd_habitHere (l : List (Nat × Nat)) (r : am_R) (a : Nat) (h : am_F) : Option (Int32) :=
  Rd_habitHere_l2 l r a h g_fu (0 : Int32)
theorem Rd_habitHere_l2_s {X : Nat × (Nat → Int32)} {l : List (Nat × Nat)} {r : am_R} {x0 : Nat} {h : am_F} {j : am_J} {q : Int32} (kx0 : Rd_K l r x0) : ∀ (n : Nat) (x1 : Int32), Rd_habitHere_l2 l r x0 h n x1 = some q → Ev X 68 2 [some (.ref x0), some (.int x1)] [] (l, r, h, j) (some (.int q), (l, r, h, j)) := by
  intro n
  induction n with
  | zero => intro x1 e; cases e
  | succ n ih =>
    intro x1 e
    unfold Rd_habitHere_l2 at e
    refine g_run 2 4 [some (.ref x0), some (.int x1)] [.int (5 : Int32), .int x1] (fun _ => rfl) ?_
    refine g_if (p1 := 26) (L1 := [some (.ref x0), some (.int x1)]) (S1 := []) (s1 := (l, r, h, j)) (p2 := 7) (L2 := [some (.ref x0), some (.int x1)]) (S2 := []) (s2 := (l, r, h, j)) rfl (fun _ _ => rfl) e (fun c1 e => ?_) (fun c1 e => ?_)
    · refine g_run 1 27 [some (.ref x0), some (.int x1)] [.int (-1 : Int32)] (fun _ => rfl) ?_
      cases e
      exact g_ret rfl (fun _ _ => rfl)
    · refine g_run 2 9 [some (.ref x0), some (.int x1)] [.int x1, .ref x0] (fun _ => rfl) ?_
      refine g_cS 12 rfl rfl (by decide) rfl rfl rfl Rd_habitWord_s ?_
      obtain ⟨q2, eq2, e⟩ := g_bd e
      refine g_cV 15 rfl rfl rfl rfl rfl (Rd_l kx0) (Rd_isWord_s kx0 eq2) ?_
      refine g_if (p1 := 20) (L1 := [some (.ref x0), some (.int x1)]) (S1 := []) (s1 := (l, r, h, j)) (p2 := 18) (L2 := [some (.ref x0), some (.int x1)]) (S2 := []) (s2 := (l, r, h, j)) rfl (fun _ _ => rfl) e (fun c3 e => ?_) (fun c3 e => ?_)
      · refine g_run 2 2 [some (.ref x0), some (.int (x1 + (1 : Int32)))] [] (fun _ => rfl) ?_
        exact ih _ e
      · refine g_run 1 19 [some (.ref x0), some (.int x1)] [.int x1] (fun _ => rfl) ?_
        cases e
        exact g_ret rfl (fun _ _ => rfl)
theorem Rd_habitHere_s {X : Nat × (Nat → Int32)} {l : List (Nat × Nat)} {r : am_R} {h : am_F} {j : am_J} {a : Nat} (ka : Rd_K l r a) {q : Int32} (e : Rd_habitHere l r a h = some q) : Call X 68 [.ref a] (l, r, h, j) (some (.int q), (l, r, h, j)) := by
  unfold Rd_habitHere at e
  refine ⟨Nat.le_of_ble_eq_true rfl, ?_⟩
  show Ev X 68 0 [some (.ref a), none] [] (l, r, h, j) _
  refine g_run 2 2 [some (.ref a), some (.int (0 : Int32))] [] (fun _ => rfl) ?_
  exact Rd_habitHere_l2_s ka _ _ e
def Rd_leastOf (x0 : Int32) : Int32 :=
  if x0 = (102 : Int32) then
    (1 : Int32)
  else
    if x0 = (110 : Int32) then
      (1 : Int32)
    else
      if x0 = (111 : Int32) then
        (1 : Int32)
      else
        (0 : Int32)
theorem Rd_leastOf_s {X : Nat × (Nat → Int32)} {l : List (Nat × Nat)} {r : am_R} {h : am_F} {j : am_J} {x0 : Int32}  : Call X 66 [.int x0] (l, r, h, j) (some (.int (Rd_leastOf x0)), (l, r, h, j)) := by
  generalize e : Rd_leastOf x0 = q
  unfold Rd_leastOf at e
  refine ⟨Nat.le_of_ble_eq_true rfl, ?_⟩
  show Ev X 66 0 [some (.int x0)] [] (l, r, h, j) _
  refine g_run 2 3 [some (.int x0)] [.int (102 : Int32), .int x0] (fun _ => rfl) ?_
  refine g_if (p1 := 18) (L1 := [some (.int x0)]) (S1 := []) (s1 := (l, r, h, j)) (p2 := 6) (L2 := [some (.int x0)]) (S2 := []) (s2 := (l, r, h, j)) rfl (fun _ _ => rfl) e (fun c1 e => ?_) (fun c1 e => ?_)
  · refine g_run 2 23 [some (.int x0)] [.int (1 : Int32)] (fun _ => rfl) ?_
    cases e
    exact g_ret rfl (fun _ _ => rfl)
  · refine g_run 2 9 [some (.int x0)] [.int (110 : Int32), .int x0] (fun _ => rfl) ?_
    refine g_if (p1 := 18) (L1 := [some (.int x0)]) (S1 := []) (s1 := (l, r, h, j)) (p2 := 12) (L2 := [some (.int x0)]) (S2 := []) (s2 := (l, r, h, j)) rfl (fun _ _ => rfl) e (fun c2 e => ?_) (fun c2 e => ?_)
    · refine g_run 2 23 [some (.int x0)] [.int (1 : Int32)] (fun _ => rfl) ?_
      cases e
      exact g_ret rfl (fun _ _ => rfl)
    · refine g_run 2 15 [some (.int x0)] [.int (111 : Int32), .int x0] (fun _ => rfl) ?_
      refine g_if (p1 := 18) (L1 := [some (.int x0)]) (S1 := []) (s1 := (l, r, h, j)) (p2 := 22) (L2 := [some (.int x0)]) (S2 := []) (s2 := (l, r, h, j)) rfl (fun _ _ => rfl) e (fun c3 e => ?_) (fun c3 e => ?_)
      · refine g_run 2 23 [some (.int x0)] [.int (1 : Int32)] (fun _ => rfl) ?_
        cases e
        exact g_ret rfl (fun _ _ => rfl)
      · refine g_run 1 23 [some (.int x0)] [.int (0 : Int32)] (fun _ => rfl) ?_
        cases e
        exact g_ret rfl (fun _ _ => rfl)
def Rd_mostOf (x0 : Int32) : Int32 :=
  if x0 = (98 : Int32) then
    (5 : Int32)
  else if x0 = (99 : Int32) then
    (9 : Int32)
  else if x0 = (100 : Int32) then
    (9 : Int32)
  else if x0 = (101 : Int32) then
    (9 : Int32)
  else if x0 = (102 : Int32) then
    (60 : Int32)
  else if x0 = (103 : Int32) then
    (9 : Int32)
  else if x0 = (104 : Int32) then
    (47 : Int32)
  else if x0 = (105 : Int32) then
    (9 : Int32)
  else if x0 = (106 : Int32) then
    (9 : Int32)
  else if x0 = (107 : Int32) then
    (9 : Int32)
  else if x0 = (108 : Int32) then
    (99 : Int32)
  else if x0 = (109 : Int32) then
    (9 : Int32)
  else if x0 = (110 : Int32) then
    (9 : Int32)
  else if x0 = (111 : Int32) then
    (20 : Int32)
  else if x0 = (112 : Int32) then
    (100 : Int32)
  else if x0 = (113 : Int32) then
    (9 : Int32)
  else if x0 = (114 : Int32) then
    (9 : Int32)
  else if x0 = (115 : Int32) then
    (60 : Int32)
  else if x0 = (116 : Int32) then
    (20 : Int32)
  else if x0 = (117 : Int32) then
    (47 : Int32)
  else 
    (9 : Int32)
theorem Rd_mostOf_s {X : Nat × (Nat → Int32)} {l : List (Nat × Nat)} {r : am_R} {h : am_F} {j : am_J} {x0 : Int32}  : Call X 67 [.int x0] (l, r, h, j) (some (.int (Rd_mostOf x0)), (l, r, h, j)) := by
  generalize e : Rd_mostOf x0 = q
  unfold Rd_mostOf at e
  refine ⟨Nat.le_of_ble_eq_true rfl, ?_⟩
  show Ev X 67 0 [some (.int x0)] [] (l, r, h, j) _
  refine g_run 1 1 [some (.int x0)] [.int x0] (fun _ => rfl) ?_
  by_cases c1 : x0 = (98 : Int32)
  · replace e := (if_pos c1).symm.trans e
    refine g_sw (p1 := 105) (L1 := [some (.int x0)]) (S1 := []) (s1 := (l, r, h, j)) rfl c1 (fun _ _ => rfl) ?_
    refine g_run 1 106 [some (.int x0)] [.int (5 : Int32)] (fun _ => rfl) ?_
    cases e
    exact g_ret rfl (fun _ _ => rfl)
  replace e := (if_neg c1).symm.trans e
  by_cases c2 : x0 = (99 : Int32)
  · replace e := (if_pos c2).symm.trans e
    refine g_sw (p1 := 113) (L1 := [some (.int x0)]) (S1 := []) (s1 := (l, r, h, j)) rfl c2 (fun _ _ => rfl) ?_
    refine g_run 1 115 [some (.int x0)] [.int (9 : Int32)] (fun _ => rfl) ?_
    cases e
    exact g_ret rfl (fun _ _ => rfl)
  replace e := (if_neg c2).symm.trans e
  by_cases c3 : x0 = (100 : Int32)
  · replace e := (if_pos c3).symm.trans e
    refine g_sw (p1 := 113) (L1 := [some (.int x0)]) (S1 := []) (s1 := (l, r, h, j)) rfl c3 (fun _ _ => rfl) ?_
    refine g_run 1 115 [some (.int x0)] [.int (9 : Int32)] (fun _ => rfl) ?_
    cases e
    exact g_ret rfl (fun _ _ => rfl)
  replace e := (if_neg c3).symm.trans e
  by_cases c4 : x0 = (101 : Int32)
  · replace e := (if_pos c4).symm.trans e
    refine g_sw (p1 := 113) (L1 := [some (.int x0)]) (S1 := []) (s1 := (l, r, h, j)) rfl c4 (fun _ _ => rfl) ?_
    refine g_run 1 115 [some (.int x0)] [.int (9 : Int32)] (fun _ => rfl) ?_
    cases e
    exact g_ret rfl (fun _ _ => rfl)
  replace e := (if_neg c4).symm.trans e
  by_cases c5 : x0 = (102 : Int32)
  · replace e := (if_pos c5).symm.trans e
    refine g_sw (p1 := 99) (L1 := [some (.int x0)]) (S1 := []) (s1 := (l, r, h, j)) rfl c5 (fun _ _ => rfl) ?_
    refine g_run 1 101 [some (.int x0)] [.int (60 : Int32)] (fun _ => rfl) ?_
    cases e
    exact g_ret rfl (fun _ _ => rfl)
  replace e := (if_neg c5).symm.trans e
  by_cases c6 : x0 = (103 : Int32)
  · replace e := (if_pos c6).symm.trans e
    refine g_sw (p1 := 113) (L1 := [some (.int x0)]) (S1 := []) (s1 := (l, r, h, j)) rfl c6 (fun _ _ => rfl) ?_
    refine g_run 1 115 [some (.int x0)] [.int (9 : Int32)] (fun _ => rfl) ?_
    cases e
    exact g_ret rfl (fun _ _ => rfl)
  replace e := (if_neg c6).symm.trans e
  by_cases c7 : x0 = (104 : Int32)
  · replace e := (if_pos c7).symm.trans e
    refine g_sw (p1 := 96) (L1 := [some (.int x0)]) (S1 := []) (s1 := (l, r, h, j)) rfl c7 (fun _ _ => rfl) ?_
    refine g_run 1 98 [some (.int x0)] [.int (47 : Int32)] (fun _ => rfl) ?_
    cases e
    exact g_ret rfl (fun _ _ => rfl)
  replace e := (if_neg c7).symm.trans e
  by_cases c8 : x0 = (105 : Int32)
  · replace e := (if_pos c8).symm.trans e
    refine g_sw (p1 := 113) (L1 := [some (.int x0)]) (S1 := []) (s1 := (l, r, h, j)) rfl c8 (fun _ _ => rfl) ?_
    refine g_run 1 115 [some (.int x0)] [.int (9 : Int32)] (fun _ => rfl) ?_
    cases e
    exact g_ret rfl (fun _ _ => rfl)
  replace e := (if_neg c8).symm.trans e
  by_cases c9 : x0 = (106 : Int32)
  · replace e := (if_pos c9).symm.trans e
    refine g_sw (p1 := 113) (L1 := [some (.int x0)]) (S1 := []) (s1 := (l, r, h, j)) rfl c9 (fun _ _ => rfl) ?_
    refine g_run 1 115 [some (.int x0)] [.int (9 : Int32)] (fun _ => rfl) ?_
    cases e
    exact g_ret rfl (fun _ _ => rfl)
  replace e := (if_neg c9).symm.trans e
  by_cases c10 : x0 = (107 : Int32)
  · replace e := (if_pos c10).symm.trans e
    refine g_sw (p1 := 113) (L1 := [some (.int x0)]) (S1 := []) (s1 := (l, r, h, j)) rfl c10 (fun _ _ => rfl) ?_
    refine g_run 1 115 [some (.int x0)] [.int (9 : Int32)] (fun _ => rfl) ?_
    cases e
    exact g_ret rfl (fun _ _ => rfl)
  replace e := (if_neg c10).symm.trans e
  by_cases c11 : x0 = (108 : Int32)
  · replace e := (if_pos c11).symm.trans e
    refine g_sw (p1 := 110) (L1 := [some (.int x0)]) (S1 := []) (s1 := (l, r, h, j)) rfl c11 (fun _ _ => rfl) ?_
    refine g_run 1 112 [some (.int x0)] [.int (99 : Int32)] (fun _ => rfl) ?_
    cases e
    exact g_ret rfl (fun _ _ => rfl)
  replace e := (if_neg c11).symm.trans e
  by_cases c12 : x0 = (109 : Int32)
  · replace e := (if_pos c12).symm.trans e
    refine g_sw (p1 := 113) (L1 := [some (.int x0)]) (S1 := []) (s1 := (l, r, h, j)) rfl c12 (fun _ _ => rfl) ?_
    refine g_run 1 115 [some (.int x0)] [.int (9 : Int32)] (fun _ => rfl) ?_
    cases e
    exact g_ret rfl (fun _ _ => rfl)
  replace e := (if_neg c12).symm.trans e
  by_cases c13 : x0 = (110 : Int32)
  · replace e := (if_pos c13).symm.trans e
    refine g_sw (p1 := 113) (L1 := [some (.int x0)]) (S1 := []) (s1 := (l, r, h, j)) rfl c13 (fun _ _ => rfl) ?_
    refine g_run 1 115 [some (.int x0)] [.int (9 : Int32)] (fun _ => rfl) ?_
    cases e
    exact g_ret rfl (fun _ _ => rfl)
  replace e := (if_neg c13).symm.trans e
  by_cases c14 : x0 = (111 : Int32)
  · replace e := (if_pos c14).symm.trans e
    refine g_sw (p1 := 107) (L1 := [some (.int x0)]) (S1 := []) (s1 := (l, r, h, j)) rfl c14 (fun _ _ => rfl) ?_
    refine g_run 1 109 [some (.int x0)] [.int (20 : Int32)] (fun _ => rfl) ?_
    cases e
    exact g_ret rfl (fun _ _ => rfl)
  replace e := (if_neg c14).symm.trans e
  by_cases c15 : x0 = (112 : Int32)
  · replace e := (if_pos c15).symm.trans e
    refine g_sw (p1 := 102) (L1 := [some (.int x0)]) (S1 := []) (s1 := (l, r, h, j)) rfl c15 (fun _ _ => rfl) ?_
    refine g_run 1 104 [some (.int x0)] [.int (100 : Int32)] (fun _ => rfl) ?_
    cases e
    exact g_ret rfl (fun _ _ => rfl)
  replace e := (if_neg c15).symm.trans e
  by_cases c16 : x0 = (113 : Int32)
  · replace e := (if_pos c16).symm.trans e
    refine g_sw (p1 := 113) (L1 := [some (.int x0)]) (S1 := []) (s1 := (l, r, h, j)) rfl c16 (fun _ _ => rfl) ?_
    refine g_run 1 115 [some (.int x0)] [.int (9 : Int32)] (fun _ => rfl) ?_
    cases e
    exact g_ret rfl (fun _ _ => rfl)
  replace e := (if_neg c16).symm.trans e
  by_cases c17 : x0 = (114 : Int32)
  · replace e := (if_pos c17).symm.trans e
    refine g_sw (p1 := 113) (L1 := [some (.int x0)]) (S1 := []) (s1 := (l, r, h, j)) rfl c17 (fun _ _ => rfl) ?_
    refine g_run 1 115 [some (.int x0)] [.int (9 : Int32)] (fun _ => rfl) ?_
    cases e
    exact g_ret rfl (fun _ _ => rfl)
  replace e := (if_neg c17).symm.trans e
  by_cases c18 : x0 = (115 : Int32)
  · replace e := (if_pos c18).symm.trans e
    refine g_sw (p1 := 99) (L1 := [some (.int x0)]) (S1 := []) (s1 := (l, r, h, j)) rfl c18 (fun _ _ => rfl) ?_
    refine g_run 1 101 [some (.int x0)] [.int (60 : Int32)] (fun _ => rfl) ?_
    cases e
    exact g_ret rfl (fun _ _ => rfl)
  replace e := (if_neg c18).symm.trans e
  by_cases c19 : x0 = (116 : Int32)
  · replace e := (if_pos c19).symm.trans e
    refine g_sw (p1 := 107) (L1 := [some (.int x0)]) (S1 := []) (s1 := (l, r, h, j)) rfl c19 (fun _ _ => rfl) ?_
    refine g_run 1 109 [some (.int x0)] [.int (20 : Int32)] (fun _ => rfl) ?_
    cases e
    exact g_ret rfl (fun _ _ => rfl)
  replace e := (if_neg c19).symm.trans e
  by_cases c20 : x0 = (117 : Int32)
  · replace e := (if_pos c20).symm.trans e
    refine g_sw (p1 := 96) (L1 := [some (.int x0)]) (S1 := []) (s1 := (l, r, h, j)) rfl c20 (fun _ _ => rfl) ?_
    refine g_run 1 98 [some (.int x0)] [.int (47 : Int32)] (fun _ => rfl) ?_
    cases e
    exact g_ret rfl (fun _ _ => rfl)
  replace e := (if_neg c20).symm.trans e
  have ic1 : (Int32.toInt x0) ≠ 98 := g_ne c1
  have ic2 : (Int32.toInt x0) ≠ 99 := g_ne c2
  have ic3 : (Int32.toInt x0) ≠ 100 := g_ne c3
  have ic4 : (Int32.toInt x0) ≠ 101 := g_ne c4
  have ic5 : (Int32.toInt x0) ≠ 102 := g_ne c5
  have ic6 : (Int32.toInt x0) ≠ 103 := g_ne c6
  have ic7 : (Int32.toInt x0) ≠ 104 := g_ne c7
  have ic8 : (Int32.toInt x0) ≠ 105 := g_ne c8
  have ic9 : (Int32.toInt x0) ≠ 106 := g_ne c9
  have ic10 : (Int32.toInt x0) ≠ 107 := g_ne c10
  have ic11 : (Int32.toInt x0) ≠ 108 := g_ne c11
  have ic12 : (Int32.toInt x0) ≠ 109 := g_ne c12
  have ic13 : (Int32.toInt x0) ≠ 110 := g_ne c13
  have ic14 : (Int32.toInt x0) ≠ 111 := g_ne c14
  have ic15 : (Int32.toInt x0) ≠ 112 := g_ne c15
  have ic16 : (Int32.toInt x0) ≠ 113 := g_ne c16
  have ic17 : (Int32.toInt x0) ≠ 114 := g_ne c17
  have ic18 : (Int32.toInt x0) ≠ 115 := g_ne c18
  have ic19 : (Int32.toInt x0) ≠ 116 := g_ne c19
  have ic20 : (Int32.toInt x0) ≠ 117 := g_ne c20
  refine g_swd (p1 := 113) (L1 := [some (.int x0)]) (S1 := []) (s1 := (l, r, h, j)) (x := x0) (lo := 98) (hi := 117) rfl (fun _ _ => rfl) (by omega) ?_
  refine g_run 1 115 [some (.int x0)] [.int (9 : Int32)] (fun _ => rfl) ?_
  cases e
  exact g_ret rfl (fun _ _ => rfl)
def Rd_takeNumber (l : List (Nat × Nat)) (r : am_R) (a : Nat) (x1 : Int32) (x2 : Int32) (h : am_F) : Option (Int32 × am_F) :=
  if x2 < 0 then
    some ((0 : Int32), h)
  else
    if x2 < (6 : Int32) then
      if x1 = (119 : Int32) then
        (Rd_habitHere l r a h).bind fun q4 =>
        (g_ix x2 6).bind fun k5 =>
        (g_ix x2 6).bind fun k6 =>
        if ((am_up h (a + 20) k5 q4) (a + 20) k6) = (-1 : Int32) then
          some ((0 : Int32), (am_up h (a + 20) k5 q4))
        else
          some ((1 : Int32), (am_up h (a + 20) k5 q4))
      else
        if (h a 10) = (2 : Int32) then
          (g_ix x2 6).bind fun k9 =>
          (if x1 = (117 : Int32) then
              some (1 : Int32)
            else
              if x1 = (111 : Int32) then
                some (1 : Int32)
              else
                some (0 : Int32) : Option (Int32)).bind fun q13 =>
          (if q13 = 0 then
              some (Rd_leastOf x1)
            else
              if x2 ≤ 0 then
                some (Rd_leastOf x1)
              else
                (g_ix (x2 - (1 : Int32)) 6).bind fun k17 =>
                some (if (Rd_leastOf x1) < ((am_up h (a + 20) k9 (h a 12)) (a + 20) k17) then ((am_up h (a + 20) k9 (h a 12)) (a + 20) k17) else (Rd_leastOf x1)) : Option (Int32)).bind fun q18 =>
          (if ((am_up h (a + 20) k9 (h a 12)) a 12) < q18 then
              (Rd_noteFault a (2 : Int32) ((am_up h (a + 20) k9 (h a 12)) a 11) (am_up h (a + 20) k9 (h a 12))).bind fun q21 =>
              some q21
            else
              if ((am_up h (a + 20) k9 (h a 12)) a 12) ≤ (Rd_mostOf x1) then
                if x1 = (98 : Int32) then
                  some (am_up (am_up h (a + 20) k9 (h a 12)) a 13 (if ((am_up h (a + 20) k9 (h a 12)) a 13) < ((am_up h (a + 20) k9 (h a 12)) a 12) then ((am_up h (a + 20) k9 (h a 12)) a 12) else ((am_up h (a + 20) k9 (h a 12)) a 13)))
                else
                  some (am_up h (a + 20) k9 (h a 12))
              else
                (Rd_noteFault a (2 : Int32) ((am_up h (a + 20) k9 (h a 12)) a 11) (am_up h (a + 20) k9 (h a 12))).bind fun q24 =>
                some q24 : Option (am_F)).bind fun q25 =>
          some ((1 : Int32), q25)
        else
          some ((0 : Int32), h)
    else
      some ((0 : Int32), h)
theorem Rd_takeNumber_s {X : Nat × (Nat → Int32)} {l : List (Nat × Nat)} {r : am_R} {h : am_F} {j : am_J} {a : Nat} {x1 : Int32} {x2 : Int32} (ka : Rd_K l r a) {q : Int32 × am_F} (e : Rd_takeNumber l r a x1 x2 h = some q) : Call X 58 [.ref a, .int x1, .int x2] (l, r, h, j) (some (.int q.1), (l, r, q.2, j)) := by
  unfold Rd_takeNumber at e
  refine ⟨Nat.le_of_ble_eq_true rfl, ?_⟩
  show Ev X 58 0 [some (.ref a), some (.int x1), some (.int x2), none, none] [] (l, r, h, j) _
  refine g_run 1 1 [some (.ref a), some (.int x1), some (.int x2), none, none] [.int x2] (fun _ => rfl) ?_
  refine g_if (p1 := 13) (L1 := [some (.ref a), some (.int x1), some (.int x2), none, none]) (S1 := []) (s1 := (l, r, h, j)) (p2 := 4) (L2 := [some (.ref a), some (.int x1), some (.int x2), none, none]) (S2 := []) (s2 := (l, r, h, j)) rfl (fun _ _ => rfl) e (fun c1 e => ?_) (fun c1 e => ?_)
  · refine g_run 1 14 [some (.ref a), some (.int x1), some (.int x2), none, none] [.int (0 : Int32)] (fun _ => rfl) ?_
    cases e
    exact g_retZ rfl (y := (0 : Int32)) rfl rfl
  · refine g_run 2 6 [some (.ref a), some (.int x1), some (.int x2), none, none] [.ref a, .int x2] (fun _ => rfl) ?_
    refine g_getA 9 rfl rfl (Rd_l ka) (Rd_r6 ka) ?_
    refine g_alen 10 rfl rfl (Rd_k6 ka) rfl ?_
    refine g_if (p1 := 15) (L1 := [some (.ref a), some (.int x1), some (.int x2), none, none]) (S1 := []) (s1 := (l, r, h, j)) (p2 := 13) (L2 := [some (.ref a), some (.int x1), some (.int x2), none, none]) (S2 := []) (s2 := (l, r, h, j)) rfl (fun _ _ => rfl) e (fun c2 e => ?_) (fun c2 e => ?_)
    · refine g_run 2 18 [some (.ref a), some (.int x1), some (.int x2), none, none] [.int (119 : Int32), .int x1] (fun _ => rfl) ?_
      refine g_if (p1 := 21) (L1 := [some (.ref a), some (.int x1), some (.int x2), none, none]) (S1 := []) (s1 := (l, r, h, j)) (p2 := 47) (L2 := [some (.ref a), some (.int x1), some (.int x2), none, none]) (S2 := []) (s2 := (l, r, h, j)) rfl (fun _ _ => rfl) e (fun c3 e => ?_) (fun c3 e => ?_)
      · refine g_run 1 22 [some (.ref a), some (.int x1), some (.int x2), none, none] [.ref a] (fun _ => rfl) ?_
        refine g_getA 25 rfl rfl (Rd_l ka) (Rd_r6 ka) ?_
        refine g_run 2 27 [some (.ref a), some (.int x1), some (.int x2), none, none] [.ref a, .int x2, .ref (a + 20)] (fun _ => rfl) ?_
        obtain ⟨q4, eq4, e⟩ := g_bd e
        refine g_cV 30 rfl rfl rfl rfl rfl (Rd_l ka) (Rd_habitHere_s ka eq4) ?_
        obtain ⟨k5, ek5, e⟩ := g_bd e
        refine g_iast 31 rfl rfl (Rd_k6 ka) ek5 ?_
        refine g_run 1 32 [some (.ref a), some (.int x1), some (.int x2), none, none] [.ref a] (fun _ => rfl) ?_
        refine g_getA 35 rfl rfl (Rd_l ka) (Rd_r6 ka) ?_
        refine g_run 1 36 [some (.ref a), some (.int x1), some (.int x2), none, none] [.int x2, .ref (a + 20)] (fun _ => rfl) ?_
        obtain ⟨k6, ek6, e⟩ := g_bd e
        refine g_iald 37 rfl rfl (Rd_k6 ka) ek6 ?_
        refine g_run 1 38 [some (.ref a), some (.int x1), some (.int x2), none, none] [.int (-1 : Int32), .int ((am_up h (a + 20) k5 q4) (a + 20) k6)] (fun _ => rfl) ?_
        refine g_if (p1 := 45) (L1 := [some (.ref a), some (.int x1), some (.int x2), none, none]) (S1 := []) (s1 := (l, r, (am_up h (a + 20) k5 q4), j)) (p2 := 41) (L2 := [some (.ref a), some (.int x1), some (.int x2), none, none]) (S2 := []) (s2 := (l, r, (am_up h (a + 20) k5 q4), j)) rfl (fun _ _ => rfl) e (fun c7 e => ?_) (fun c7 e => ?_)
        · refine g_run 1 46 [some (.ref a), some (.int x1), some (.int x2), none, none] [.int (0 : Int32)] (fun _ => rfl) ?_
          cases e
          exact g_retZ rfl (y := (0 : Int32)) rfl rfl
        · refine g_run 2 46 [some (.ref a), some (.int x1), some (.int x2), none, none] [.int (1 : Int32)] (fun _ => rfl) ?_
          cases e
          exact g_retZ rfl (y := (1 : Int32)) rfl rfl
      · refine g_run 1 48 [some (.ref a), some (.int x1), some (.int x2), none, none] [.ref a] (fun _ => rfl) ?_
        refine g_getI 51 rfl rfl (Rd_l ka) ?_
        refine g_run 1 52 [some (.ref a), some (.int x1), some (.int x2), none, none] [.int (2 : Int32), .int (h a 10)] (fun _ => rfl) ?_
        refine g_if (p1 := 57) (L1 := [some (.ref a), some (.int x1), some (.int x2), none, none]) (S1 := []) (s1 := (l, r, h, j)) (p2 := 55) (L2 := [some (.ref a), some (.int x1), some (.int x2), none, none]) (S2 := []) (s2 := (l, r, h, j)) rfl (fun _ _ => rfl) e (fun c8 e => ?_) (fun c8 e => ?_)
        · refine g_run 1 58 [some (.ref a), some (.int x1), some (.int x2), none, none] [.ref a] (fun _ => rfl) ?_
          refine g_getA 61 rfl rfl (Rd_l ka) (Rd_r6 ka) ?_
          refine g_run 2 63 [some (.ref a), some (.int x1), some (.int x2), none, none] [.ref a, .int x2, .ref (a + 20)] (fun _ => rfl) ?_
          refine g_getI 66 rfl rfl (Rd_l ka) ?_
          obtain ⟨k9, ek9, e⟩ := g_bd e
          refine g_iast 67 rfl rfl (Rd_k6 ka) ek9 ?_
          refine g_run 2 70 [some (.ref a), some (.int x1), some (.int x2), none, none] [.int (117 : Int32), .int x1] (fun _ => rfl) ?_
          obtain ⟨q13, eq13, e⟩ := g_bd e
          have hjq13 : ∀ (_ : True), Ev X 58 84 [some (.ref a), some (.int x1), some (.int x2), none, none] [.int q13] (l, r, (am_up h (a + 20) k9 (h a 12)), j) (some (.int q.1), (l, r, q.2, j)) := by
            intro _
            refine g_run 2 86 [some (.ref a), some (.int x1), some (.int x2), some (.int q13), none] [.int q13] (fun _ => rfl) ?_
            obtain ⟨q18, eq18, e⟩ := g_bd e
            have hjq18 : ∀ (_ : True), Ev X 58 115 [some (.ref a), some (.int x1), some (.int x2), some (.int q13), none] [.int q18] (l, r, (am_up h (a + 20) k9 (h a 12)), j) (some (.int q.1), (l, r, q.2, j)) := by
              intro _
              refine g_run 2 118 [some (.ref a), some (.int x1), some (.int x2), some (.int q13), some (.int q18)] [.ref a] (fun _ => rfl) ?_
              refine g_getI 121 rfl rfl (Rd_l ka) ?_
              refine g_run 1 123 [some (.ref a), some (.int x1), some (.int x2), some (.int q13), some (.int q18)] [.int q18, .int ((am_up h (a + 20) k9 (h a 12)) a 12)] (fun _ => rfl) ?_
              obtain ⟨q25, eq25, e⟩ := g_bd e
              have hjq25 : ∀ (_ : True), Ev X 58 170 [some (.ref a), some (.int x1), some (.int x2), some (.int q13), some (.int q18)] [] (l, r, q25, j) (some (.int q.1), (l, r, q.2, j)) := by
                intro _
                refine g_run 1 171 [some (.ref a), some (.int x1), some (.int x2), some (.int q13), some (.int q18)] [.int (1 : Int32)] (fun _ => rfl) ?_
                cases e
                exact g_retZ rfl (y := (1 : Int32)) rfl rfl
              replace e := eq25
              refine g_if (p1 := 137) (L1 := [some (.ref a), some (.int x1), some (.int x2), some (.int q13), some (.int q18)]) (S1 := []) (s1 := (l, r, (am_up h (a + 20) k9 (h a 12)), j)) (p2 := 126) (L2 := [some (.ref a), some (.int x1), some (.int x2), some (.int q13), some (.int q18)]) (S2 := []) (s2 := (l, r, (am_up h (a + 20) k9 (h a 12)), j)) rfl (fun _ _ => rfl) e (fun c19 e => ?_) (fun c19 e => ?_)
              · refine g_run 3 140 [some (.ref a), some (.int x1), some (.int x2), some (.int q13), some (.int q18)] [.ref a, .int (2 : Int32), .ref a] (fun _ => rfl) ?_
                refine g_getI 143 rfl rfl (Rd_l ka) ?_
                obtain ⟨q21, eq21, e⟩ := g_bd e
                refine g_cVv 146 rfl rfl rfl rfl rfl (Rd_l ka) (Rd_noteFault_s ka eq21) ?_
                refine g_run 1 170 [some (.ref a), some (.int x1), some (.int x2), some (.int q13), some (.int q18)] [] (fun _ => rfl) ?_
                cases e
                exact hjq25 trivial
              · refine g_run 1 127 [some (.ref a), some (.int x1), some (.int x2), some (.int q13), some (.int q18)] [.ref a] (fun _ => rfl) ?_
                refine g_getI 130 rfl rfl (Rd_l ka) ?_
                refine g_run 1 131 [some (.ref a), some (.int x1), some (.int x2), some (.int q13), some (.int q18)] [.int x1, .int ((am_up h (a + 20) k9 (h a 12)) a 12)] (fun _ => rfl) ?_
                refine g_cS 134 rfl rfl (by decide) rfl rfl rfl Rd_mostOf_s ?_
                refine g_if (p1 := 149) (L1 := [some (.ref a), some (.int x1), some (.int x2), some (.int q13), some (.int q18)]) (S1 := []) (s1 := (l, r, (am_up h (a + 20) k9 (h a 12)), j)) (p2 := 137) (L2 := [some (.ref a), some (.int x1), some (.int x2), some (.int q13), some (.int q18)]) (S2 := []) (s2 := (l, r, (am_up h (a + 20) k9 (h a 12)), j)) rfl (fun _ _ => rfl) e (fun c22 e => ?_) (fun c22 e => ?_)
                · refine g_run 2 152 [some (.ref a), some (.int x1), some (.int x2), some (.int q13), some (.int q18)] [.int (98 : Int32), .int x1] (fun _ => rfl) ?_
                  refine g_if (p1 := 155) (L1 := [some (.ref a), some (.int x1), some (.int x2), some (.int q13), some (.int q18)]) (S1 := []) (s1 := (l, r, (am_up h (a + 20) k9 (h a 12)), j)) (p2 := 170) (L2 := [some (.ref a), some (.int x1), some (.int x2), some (.int q13), some (.int q18)]) (S2 := []) (s2 := (l, r, (am_up h (a + 20) k9 (h a 12)), j)) rfl (fun _ _ => rfl) e (fun c23 e => ?_) (fun c23 e => ?_)
                  · refine g_run 2 157 [some (.ref a), some (.int x1), some (.int x2), some (.int q13), some (.int q18)] [.ref a, .ref a] (fun _ => rfl) ?_
                    refine g_getI 160 rfl rfl (Rd_l ka) ?_
                    refine g_run 1 161 [some (.ref a), some (.int x1), some (.int x2), some (.int q13), some (.int q18)] [.ref a, .int ((am_up h (a + 20) k9 (h a 12)) a 13), .ref a] (fun _ => rfl) ?_
                    refine g_getI 164 rfl rfl (Rd_l ka) ?_
                    refine g_run 1 167 [some (.ref a), some (.int x1), some (.int x2), some (.int q13), some (.int q18)] [.int (if ((am_up h (a + 20) k9 (h a 12)) a 13) < ((am_up h (a + 20) k9 (h a 12)) a 12) then ((am_up h (a + 20) k9 (h a 12)) a 12) else ((am_up h (a + 20) k9 (h a 12)) a 13)), .ref a] (fun _ => rfl) ?_
                    refine g_putI 170 rfl rfl (Rd_l ka) ?_
                    cases e
                    exact hjq25 trivial
                  · cases e
                    exact hjq25 trivial
                · refine g_run 3 140 [some (.ref a), some (.int x1), some (.int x2), some (.int q13), some (.int q18)] [.ref a, .int (2 : Int32), .ref a] (fun _ => rfl) ?_
                  refine g_getI 143 rfl rfl (Rd_l ka) ?_
                  obtain ⟨q24, eq24, e⟩ := g_bd e
                  refine g_cVv 146 rfl rfl rfl rfl rfl (Rd_l ka) (Rd_noteFault_s ka eq24) ?_
                  refine g_run 1 170 [some (.ref a), some (.int x1), some (.int x2), some (.int q13), some (.int q18)] [] (fun _ => rfl) ?_
                  cases e
                  exact hjq25 trivial
            replace e := eq18
            refine g_if (p1 := 111) (L1 := [some (.ref a), some (.int x1), some (.int x2), some (.int q13), none]) (S1 := []) (s1 := (l, r, (am_up h (a + 20) k9 (h a 12)), j)) (p2 := 89) (L2 := [some (.ref a), some (.int x1), some (.int x2), some (.int q13), none]) (S2 := []) (s2 := (l, r, (am_up h (a + 20) k9 (h a 12)), j)) rfl (fun _ _ => rfl) e (fun c14 e => ?_) (fun c14 e => ?_)
            · refine g_run 1 112 [some (.ref a), some (.int x1), some (.int x2), some (.int q13), none] [.int x1] (fun _ => rfl) ?_
              refine g_cS 115 rfl rfl (by decide) rfl rfl rfl Rd_leastOf_s ?_
              cases e
              exact hjq18 trivial
            · refine g_run 1 90 [some (.ref a), some (.int x1), some (.int x2), some (.int q13), none] [.int x2] (fun _ => rfl) ?_
              refine g_if (p1 := 111) (L1 := [some (.ref a), some (.int x1), some (.int x2), some (.int q13), none]) (S1 := []) (s1 := (l, r, (am_up h (a + 20) k9 (h a 12)), j)) (p2 := 93) (L2 := [some (.ref a), some (.int x1), some (.int x2), some (.int q13), none]) (S2 := []) (s2 := (l, r, (am_up h (a + 20) k9 (h a 12)), j)) rfl (fun _ _ => rfl) e (fun c16 e => ?_) (fun c16 e => ?_)
              · refine g_run 1 112 [some (.ref a), some (.int x1), some (.int x2), some (.int q13), none] [.int x1] (fun _ => rfl) ?_
                refine g_cS 115 rfl rfl (by decide) rfl rfl rfl Rd_leastOf_s ?_
                cases e
                exact hjq18 trivial
              · refine g_run 1 94 [some (.ref a), some (.int x1), some (.int x2), some (.int q13), none] [.int x1] (fun _ => rfl) ?_
                refine g_cS 97 rfl rfl (by decide) rfl rfl rfl Rd_leastOf_s ?_
                refine g_run 1 98 [some (.ref a), some (.int x1), some (.int x2), some (.int q13), none] [.ref a, .int (Rd_leastOf x1)] (fun _ => rfl) ?_
                refine g_getA 101 rfl rfl (Rd_l ka) (Rd_r6 ka) ?_
                refine g_run 3 104 [some (.ref a), some (.int x1), some (.int x2), some (.int q13), none] [.int (x2 - (1 : Int32)), .ref (a + 20), .int (Rd_leastOf x1)] (fun _ => rfl) ?_
                obtain ⟨k17, ek17, e⟩ := g_bd e
                refine g_iald 105 rfl rfl (Rd_k6 ka) ek17 ?_
                refine g_run 2 115 [some (.ref a), some (.int x1), some (.int x2), some (.int q13), none] [.int (if (Rd_leastOf x1) < ((am_up h (a + 20) k9 (h a 12)) (a + 20) k17) then ((am_up h (a + 20) k9 (h a 12)) (a + 20) k17) else (Rd_leastOf x1))] (fun _ => rfl) ?_
                cases e
                exact hjq18 trivial
          replace e := eq13
          refine g_if (p1 := 79) (L1 := [some (.ref a), some (.int x1), some (.int x2), none, none]) (S1 := []) (s1 := (l, r, (am_up h (a + 20) k9 (h a 12)), j)) (p2 := 73) (L2 := [some (.ref a), some (.int x1), some (.int x2), none, none]) (S2 := []) (s2 := (l, r, (am_up h (a + 20) k9 (h a 12)), j)) rfl (fun _ _ => rfl) e (fun c10 e => ?_) (fun c10 e => ?_)
          · refine g_run 2 84 [some (.ref a), some (.int x1), some (.int x2), none, none] [.int (1 : Int32)] (fun _ => rfl) ?_
            cases e
            exact hjq13 trivial
          · refine g_run 2 76 [some (.ref a), some (.int x1), some (.int x2), none, none] [.int (111 : Int32), .int x1] (fun _ => rfl) ?_
            refine g_if (p1 := 79) (L1 := [some (.ref a), some (.int x1), some (.int x2), none, none]) (S1 := []) (s1 := (l, r, (am_up h (a + 20) k9 (h a 12)), j)) (p2 := 83) (L2 := [some (.ref a), some (.int x1), some (.int x2), none, none]) (S2 := []) (s2 := (l, r, (am_up h (a + 20) k9 (h a 12)), j)) rfl (fun _ _ => rfl) e (fun c12 e => ?_) (fun c12 e => ?_)
            · refine g_run 2 84 [some (.ref a), some (.int x1), some (.int x2), none, none] [.int (1 : Int32)] (fun _ => rfl) ?_
              cases e
              exact hjq13 trivial
            · refine g_run 1 84 [some (.ref a), some (.int x1), some (.int x2), none, none] [.int (0 : Int32)] (fun _ => rfl) ?_
              cases e
              exact hjq13 trivial
        · refine g_run 1 56 [some (.ref a), some (.int x1), some (.int x2), none, none] [.int (0 : Int32)] (fun _ => rfl) ?_
          cases e
          exact g_retZ rfl (y := (0 : Int32)) rfl rfl
    · refine g_run 1 14 [some (.ref a), some (.int x1), some (.int x2), none, none] [.int (0 : Int32)] (fun _ => rfl) ?_
      cases e
      exact g_retZ rfl (y := (0 : Int32)) rfl rfl
def Rw_add_l7 (l : List (Nat × Nat)) (r : am_R) (x0 : Nat) (x1 : Nat) (x2 : Int32) : Nat → Int32 → am_F → Option (am_F)
  | 0, _, _ => none
  | n + 1, x3, h =>
    if (h x0 0) ≤ x3 then
      some h
    else
      if (Int32.ofNat (g_ln l x1)) ≤ x3 then
        some h
      else
        (g_ix x3 (g_ln l x1)).bind fun k4 =>
        (Rw_set l r x0 x2 x3 (h x1 k4) h).bind fun q5 =>
        Rw_add_l7 l r x0 x1 x2 n (x3 + (1 : Int32)) q5
def Rw_add (l : List (Nat × Nat)) (r : am_R) (a : Nat) (x1 : Nat) (h : am_F) : Option (am_F) :=
  (Rw_open l r a h).bind fun q1 =>
  (Rw_add_l7 l r a x1 q1.1 g_fu (0 : Int32) q1.2).bind fun q6 =>
  some q6
theorem Rw_add_l7_s {X : Nat × (Nat → Int32)} {l : List (Nat × Nat)} {r : am_R} {x0 : Nat} {x1 : Nat} {x2 : Int32} {j : am_J} {q : am_F} {R : Option Value × am_S} (kx0 : Rw_K l r x0) (kx1 : l[x1]? = some (10, (g_ln l x1))) (hx : ∀ (y3 : Int32) , Ev X 83 36 [some (.ref x0), some (.ref x1), some (.int x2), some (.int y3)] [] (l, r, q, j) R) : ∀ (n : Nat) (x3 : Int32) (h : am_F), Rw_add_l7 l r x0 x1 x2 n x3 h = some q → Ev X 83 7 [some (.ref x0), some (.ref x1), some (.int x2), some (.int x3)] [] (l, r, h, j) R := by
  intro n
  induction n with
  | zero => intro x3 h e; cases e
  | succ n ih =>
    intro x3 h e
    unfold Rw_add_l7 at e
    refine g_run 2 9 [some (.ref x0), some (.ref x1), some (.int x2), some (.int x3)] [.ref x0, .int x3] (fun _ => rfl) ?_
    refine g_getI 12 rfl rfl (Rw_l kx0) ?_
    refine g_if (p1 := 36) (L1 := [some (.ref x0), some (.ref x1), some (.int x2), some (.int x3)]) (S1 := []) (s1 := (l, r, h, j)) (p2 := 15) (L2 := [some (.ref x0), some (.ref x1), some (.int x2), some (.int x3)]) (S2 := []) (s2 := (l, r, h, j)) rfl (fun _ _ => rfl) e (fun c2 e => ?_) (fun c2 e => ?_)
    · cases e
      exact hx _
    · refine g_run 2 17 [some (.ref x0), some (.ref x1), some (.int x2), some (.int x3)] [.ref x1, .int x3] (fun _ => rfl) ?_
      refine g_alen 18 rfl rfl kx1 rfl ?_
      refine g_if (p1 := 36) (L1 := [some (.ref x0), some (.ref x1), some (.int x2), some (.int x3)]) (S1 := []) (s1 := (l, r, h, j)) (p2 := 21) (L2 := [some (.ref x0), some (.ref x1), some (.int x2), some (.int x3)]) (S2 := []) (s2 := (l, r, h, j)) rfl (fun _ _ => rfl) e (fun c3 e => ?_) (fun c3 e => ?_)
      · cases e
        exact hx _
      · refine g_run 5 26 [some (.ref x0), some (.ref x1), some (.int x2), some (.int x3)] [.int x3, .ref x1, .int x3, .int x2, .ref x0] (fun _ => rfl) ?_
        obtain ⟨k4, ek4, e⟩ := g_bd e
        refine g_iald 27 rfl rfl kx1 ek4 ?_
        obtain ⟨q5, eq5, e⟩ := g_bd e
        refine g_cVv 30 rfl rfl rfl rfl rfl (Rw_l kx0) (Rw_set_s kx0 eq5) ?_
        refine g_run 2 7 [some (.ref x0), some (.ref x1), some (.int x2), some (.int (x3 + (1 : Int32)))] [] (fun _ => rfl) ?_
        exact ih _ _ e
theorem Rw_add_s {X : Nat × (Nat → Int32)} {l : List (Nat × Nat)} {r : am_R} {h : am_F} {j : am_J} {a : Nat} {x1 : Nat} (ka : Rw_K l r a) (kx1 : l[x1]? = some (10, g_ln l x1)) {q : am_F} (e : Rw_add l r a x1 h = some q) : Call X 83 [.ref a, .ref x1] (l, r, h, j) (none, (l, r, q, j)) := by
  unfold Rw_add at e
  refine ⟨Nat.le_of_ble_eq_true rfl, ?_⟩
  show Ev X 83 0 [some (.ref a), some (.ref x1), none, none] [] (l, r, h, j) _
  refine g_run 1 1 [some (.ref a), some (.ref x1), none, none] [.ref a] (fun _ => rfl) ?_
  obtain ⟨q1, eq1, e⟩ := g_bd e
  refine g_cV 4 rfl rfl rfl rfl rfl (Rw_l ka) (Rw_open_s ka eq1) ?_
  refine g_run 3 7 [some (.ref a), some (.ref x1), some (.int q1.1), some (.int (0 : Int32))] [] (fun _ => rfl) ?_
  obtain ⟨q6, eq6, e⟩ := g_bd e
  refine Rw_add_l7_s ka kx1 (fun y7 => ?_) _ _ _ eq6
  cases e
  exact g_ret rfl (fun _ _ => rfl)
def Rd_tellPrint (l : List (Nat × Nat)) (r : am_R) (a : Nat) (x1 : Int32) (h : am_F) : Option (am_F) :=
  (Rw_open l r (a + 14) h).bind fun q1 =>
  (Rw_set l r (a + 14) q1.1 (0 : Int32) x1 q1.2).bind fun q2 =>
  (Rw_set l r (a + 14) q1.1 (1 : Int32) (q2 (a + 20) 0) q2).bind fun q3 =>
  (Rw_set l r (a + 14) q1.1 (2 : Int32) (q3 (a + 20) 1) q3).bind fun q4 =>
  some q4
theorem Rd_tellPrint_s {X : Nat × (Nat → Int32)} {l : List (Nat × Nat)} {r : am_R} {h : am_F} {j : am_J} {a : Nat} {x1 : Int32} (ka : Rd_K l r a) {q : am_F} (e : Rd_tellPrint l r a x1 h = some q) : Call X 60 [.ref a, .int x1] (l, r, h, j) (none, (l, r, q, j)) := by
  unfold Rd_tellPrint at e
  refine ⟨Nat.le_of_ble_eq_true rfl, ?_⟩
  show Ev X 60 0 [some (.ref a), some (.int x1), none] [] (l, r, h, j) _
  refine g_run 1 1 [some (.ref a), some (.int x1), none] [.ref a] (fun _ => rfl) ?_
  refine g_getA 4 rfl rfl (Rd_l ka) (Rd_r1 ka) ?_
  obtain ⟨q1, eq1, e⟩ := g_bd e
  refine g_cV 7 rfl rfl rfl rfl rfl (Rw_l (Rd_k1 ka)) (Rw_open_s (Rd_k1 ka) eq1) ?_
  refine g_run 2 9 [some (.ref a), some (.int x1), some (.int q1.1)] [.ref a] (fun _ => rfl) ?_
  refine g_getA 12 rfl rfl (Rd_l ka) (Rd_r1 ka) ?_
  refine g_run 3 15 [some (.ref a), some (.int x1), some (.int q1.1)] [.int x1, .int (0 : Int32), .int q1.1, .ref (a + 14)] (fun _ => rfl) ?_
  obtain ⟨q2, eq2, e⟩ := g_bd e
  refine g_cVv 18 rfl rfl rfl rfl rfl (Rw_l (Rd_k1 ka)) (Rw_set_s (Rd_k1 ka) eq2) ?_
  refine g_run 1 19 [some (.ref a), some (.int x1), some (.int q1.1)] [.ref a] (fun _ => rfl) ?_
  refine g_getA 22 rfl rfl (Rd_l ka) (Rd_r1 ka) ?_
  refine g_run 3 25 [some (.ref a), some (.int x1), some (.int q1.1)] [.ref a, .int (1 : Int32), .int q1.1, .ref (a + 14)] (fun _ => rfl) ?_
  refine g_getA 28 rfl rfl (Rd_l ka) (Rd_r6 ka) ?_
  refine g_run 1 29 [some (.ref a), some (.int x1), some (.int q1.1)] [.int (0 : Int32), .ref (a + 20), .int (1 : Int32), .int q1.1, .ref (a + 14)] (fun _ => rfl) ?_
  refine g_iald 30 rfl rfl (Rd_k6 ka) (kx := 0) rfl ?_
  obtain ⟨q3, eq3, e⟩ := g_bd e
  refine g_cVv 33 rfl rfl rfl rfl rfl (Rw_l (Rd_k1 ka)) (Rw_set_s (Rd_k1 ka) eq3) ?_
  refine g_run 1 34 [some (.ref a), some (.int x1), some (.int q1.1)] [.ref a] (fun _ => rfl) ?_
  refine g_getA 37 rfl rfl (Rd_l ka) (Rd_r1 ka) ?_
  refine g_run 3 40 [some (.ref a), some (.int x1), some (.int q1.1)] [.ref a, .int (2 : Int32), .int q1.1, .ref (a + 14)] (fun _ => rfl) ?_
  refine g_getA 43 rfl rfl (Rd_l ka) (Rd_r6 ka) ?_
  refine g_run 1 44 [some (.ref a), some (.int x1), some (.int q1.1)] [.int (1 : Int32), .ref (a + 20), .int (2 : Int32), .int q1.1, .ref (a + 14)] (fun _ => rfl) ?_
  refine g_iald 45 rfl rfl (Rd_k6 ka) (kx := 1) rfl ?_
  obtain ⟨q4, eq4, e⟩ := g_bd e
  refine g_cVv 48 rfl rfl rfl rfl rfl (Rw_l (Rd_k1 ka)) (Rw_set_s (Rd_k1 ka) eq4) ?_
  cases e
  exact g_ret rfl (fun _ _ => rfl)
def Rd_tell (l : List (Nat × Nat)) (r : am_R) (a : Nat) (x1 : Int32) (h : am_F) : Option (am_F) :=
  if x1 = (0 : Int32) then
    (Pk_setRates (a + 1) (h (a + 20) 0) (h (a + 20) 1) (h (a + 20) 2) h).bind fun q1 =>
    some q1
  else if x1 = (1 : Int32) then
    some (am_up h (a + 1) 0 (h (a + 20) 0))
  else if x1 = (2 : Int32) then
    some (am_up h (a + 1) 1 (h (a + 20) 0))
  else if x1 = (3 : Int32) then
    some (am_up h (a + 1) 2 (h (a + 20) 0))
  else if x1 = (4 : Int32) then
    (Pk_addBench (a + 1) (h (a + 20) 0) h).bind fun q6 =>
    some q6
  else if x1 = (5 : Int32) then
    (Pk_setPainted (a + 1) (h (a + 20) 0) (h (a + 20) 1) h).bind fun q8 =>
    some q8
  else if x1 = (6 : Int32) then
    (Pk_setCard (a + 1) (h (a + 20) 0) (h (a + 20) 1) (h (a + 20) 2) h).bind fun q10 =>
    some q10
  else if x1 = (7 : Int32) then
    (Rw_add l r ((a + 1) + 7) (a + 20) h).bind fun q12 =>
    some q12
  else if x1 = (8 : Int32) then
    (Rw_add l r ((a + 1) + 9) (a + 20) h).bind fun q14 =>
    some q14
  else if x1 = (9 : Int32) then
    (Rw_add l r ((a + 1) + 11) (a + 20) h).bind fun q16 =>
    some q16
  else if x1 = (10 : Int32) then
    (Rd_tellPrint l r a (x1 - (10 : Int32)) h).bind fun q18 =>
    some q18
  else if x1 = (11 : Int32) then
    (Rd_tellPrint l r a (x1 - (10 : Int32)) h).bind fun q20 =>
    some q20
  else if x1 = (12 : Int32) then
    (Rd_tellPrint l r a (x1 - (10 : Int32)) h).bind fun q22 =>
    some q22
  else if x1 = (13 : Int32) then
    (Rw_add l r (a + 16) (a + 20) h).bind fun q24 =>
    some q24
  else if x1 = (14 : Int32) then
    (Rw_add l r (a + 18) (a + 20) h).bind fun q26 =>
    some q26
  else 
    (Rd_tellPrint l r a (x1 - (10 : Int32)) h).bind fun q28 =>
    some q28
theorem Rd_tell_s {X : Nat × (Nat → Int32)} {l : List (Nat × Nat)} {r : am_R} {h : am_F} {j : am_J} {a : Nat} {x1 : Int32} (ka : Rd_K l r a) {q : am_F} (e : Rd_tell l r a x1 h = some q) : Call X 59 [.ref a, .int x1] (l, r, h, j) (none, (l, r, q, j)) := by
  unfold Rd_tell at e
  refine ⟨Nat.le_of_ble_eq_true rfl, ?_⟩
  show Ev X 59 0 [some (.ref a), some (.int x1)] [] (l, r, h, j) _
  refine g_run 1 1 [some (.ref a), some (.int x1)] [.int x1] (fun _ => rfl) ?_
  by_cases c2 : x1 = (0 : Int32)
  · replace e := (if_pos c2).symm.trans e
    refine g_sw (p1 := 76) (L1 := [some (.ref a), some (.int x1)]) (S1 := []) (s1 := (l, r, h, j)) rfl c2 (fun _ _ => rfl) ?_
    refine g_run 1 77 [some (.ref a), some (.int x1)] [.ref a] (fun _ => rfl) ?_
    refine g_getA 80 rfl rfl (Rd_l ka) (Rd_r0 ka) ?_
    refine g_run 1 81 [some (.ref a), some (.int x1)] [.ref a, .ref (a + 1)] (fun _ => rfl) ?_
    refine g_getA 84 rfl rfl (Rd_l ka) (Rd_r6 ka) ?_
    refine g_run 1 85 [some (.ref a), some (.int x1)] [.int (0 : Int32), .ref (a + 20), .ref (a + 1)] (fun _ => rfl) ?_
    refine g_iald 86 rfl rfl (Rd_k6 ka) (kx := 0) rfl ?_
    refine g_run 1 87 [some (.ref a), some (.int x1)] [.ref a, .int (h (a + 20) 0), .ref (a + 1)] (fun _ => rfl) ?_
    refine g_getA 90 rfl rfl (Rd_l ka) (Rd_r6 ka) ?_
    refine g_run 1 91 [some (.ref a), some (.int x1)] [.int (1 : Int32), .ref (a + 20), .int (h (a + 20) 0), .ref (a + 1)] (fun _ => rfl) ?_
    refine g_iald 92 rfl rfl (Rd_k6 ka) (kx := 1) rfl ?_
    refine g_run 1 93 [some (.ref a), some (.int x1)] [.ref a, .int (h (a + 20) 1), .int (h (a + 20) 0), .ref (a + 1)] (fun _ => rfl) ?_
    refine g_getA 96 rfl rfl (Rd_l ka) (Rd_r6 ka) ?_
    refine g_run 1 97 [some (.ref a), some (.int x1)] [.int (2 : Int32), .ref (a + 20), .int (h (a + 20) 1), .int (h (a + 20) 0), .ref (a + 1)] (fun _ => rfl) ?_
    refine g_iald 98 rfl rfl (Rd_k6 ka) (kx := 2) rfl ?_
    obtain ⟨q1, eq1, e⟩ := g_bd e
    refine g_cVv 101 rfl rfl rfl rfl rfl (Pk_l (Rd_k0 ka)) (Pk_setRates_s (Rd_k0 ka) eq1) ?_
    refine g_run 1 305 [some (.ref a), some (.int x1)] [] (fun _ => rfl) ?_
    cases e
    exact g_ret rfl (fun _ _ => rfl)
  replace e := (if_neg c2).symm.trans e
  by_cases c3 : x1 = (1 : Int32)
  · replace e := (if_pos c3).symm.trans e
    refine g_sw (p1 := 104) (L1 := [some (.ref a), some (.int x1)]) (S1 := []) (s1 := (l, r, h, j)) rfl c3 (fun _ _ => rfl) ?_
    refine g_run 1 105 [some (.ref a), some (.int x1)] [.ref a] (fun _ => rfl) ?_
    refine g_getA 108 rfl rfl (Rd_l ka) (Rd_r0 ka) ?_
    refine g_run 1 109 [some (.ref a), some (.int x1)] [.ref a, .ref (a + 1)] (fun _ => rfl) ?_
    refine g_getA 112 rfl rfl (Rd_l ka) (Rd_r6 ka) ?_
    refine g_run 1 113 [some (.ref a), some (.int x1)] [.int (0 : Int32), .ref (a + 20), .ref (a + 1)] (fun _ => rfl) ?_
    refine g_iald 114 rfl rfl (Rd_k6 ka) (kx := 0) rfl ?_
    refine g_putI 117 rfl rfl (Pk_l (Rd_k0 ka)) ?_
    refine g_run 1 305 [some (.ref a), some (.int x1)] [] (fun _ => rfl) ?_
    cases e
    exact g_ret rfl (fun _ _ => rfl)
  replace e := (if_neg c3).symm.trans e
  by_cases c4 : x1 = (2 : Int32)
  · replace e := (if_pos c4).symm.trans e
    refine g_sw (p1 := 120) (L1 := [some (.ref a), some (.int x1)]) (S1 := []) (s1 := (l, r, h, j)) rfl c4 (fun _ _ => rfl) ?_
    refine g_run 1 121 [some (.ref a), some (.int x1)] [.ref a] (fun _ => rfl) ?_
    refine g_getA 124 rfl rfl (Rd_l ka) (Rd_r0 ka) ?_
    refine g_run 1 125 [some (.ref a), some (.int x1)] [.ref a, .ref (a + 1)] (fun _ => rfl) ?_
    refine g_getA 128 rfl rfl (Rd_l ka) (Rd_r6 ka) ?_
    refine g_run 1 129 [some (.ref a), some (.int x1)] [.int (0 : Int32), .ref (a + 20), .ref (a + 1)] (fun _ => rfl) ?_
    refine g_iald 130 rfl rfl (Rd_k6 ka) (kx := 0) rfl ?_
    refine g_putI 133 rfl rfl (Pk_l (Rd_k0 ka)) ?_
    refine g_run 1 305 [some (.ref a), some (.int x1)] [] (fun _ => rfl) ?_
    cases e
    exact g_ret rfl (fun _ _ => rfl)
  replace e := (if_neg c4).symm.trans e
  by_cases c5 : x1 = (3 : Int32)
  · replace e := (if_pos c5).symm.trans e
    refine g_sw (p1 := 136) (L1 := [some (.ref a), some (.int x1)]) (S1 := []) (s1 := (l, r, h, j)) rfl c5 (fun _ _ => rfl) ?_
    refine g_run 1 137 [some (.ref a), some (.int x1)] [.ref a] (fun _ => rfl) ?_
    refine g_getA 140 rfl rfl (Rd_l ka) (Rd_r0 ka) ?_
    refine g_run 1 141 [some (.ref a), some (.int x1)] [.ref a, .ref (a + 1)] (fun _ => rfl) ?_
    refine g_getA 144 rfl rfl (Rd_l ka) (Rd_r6 ka) ?_
    refine g_run 1 145 [some (.ref a), some (.int x1)] [.int (0 : Int32), .ref (a + 20), .ref (a + 1)] (fun _ => rfl) ?_
    refine g_iald 146 rfl rfl (Rd_k6 ka) (kx := 0) rfl ?_
    refine g_putI 149 rfl rfl (Pk_l (Rd_k0 ka)) ?_
    refine g_run 1 305 [some (.ref a), some (.int x1)] [] (fun _ => rfl) ?_
    cases e
    exact g_ret rfl (fun _ _ => rfl)
  replace e := (if_neg c5).symm.trans e
  by_cases c7 : x1 = (4 : Int32)
  · replace e := (if_pos c7).symm.trans e
    refine g_sw (p1 := 152) (L1 := [some (.ref a), some (.int x1)]) (S1 := []) (s1 := (l, r, h, j)) rfl c7 (fun _ _ => rfl) ?_
    refine g_run 1 153 [some (.ref a), some (.int x1)] [.ref a] (fun _ => rfl) ?_
    refine g_getA 156 rfl rfl (Rd_l ka) (Rd_r0 ka) ?_
    refine g_run 1 157 [some (.ref a), some (.int x1)] [.ref a, .ref (a + 1)] (fun _ => rfl) ?_
    refine g_getA 160 rfl rfl (Rd_l ka) (Rd_r6 ka) ?_
    refine g_run 1 161 [some (.ref a), some (.int x1)] [.int (0 : Int32), .ref (a + 20), .ref (a + 1)] (fun _ => rfl) ?_
    refine g_iald 162 rfl rfl (Rd_k6 ka) (kx := 0) rfl ?_
    obtain ⟨q6, eq6, e⟩ := g_bd e
    refine g_cVv 165 rfl rfl rfl rfl rfl (Pk_l (Rd_k0 ka)) (Pk_addBench_s (Rd_k0 ka) eq6) ?_
    refine g_run 1 305 [some (.ref a), some (.int x1)] [] (fun _ => rfl) ?_
    cases e
    exact g_ret rfl (fun _ _ => rfl)
  replace e := (if_neg c7).symm.trans e
  by_cases c9 : x1 = (5 : Int32)
  · replace e := (if_pos c9).symm.trans e
    refine g_sw (p1 := 168) (L1 := [some (.ref a), some (.int x1)]) (S1 := []) (s1 := (l, r, h, j)) rfl c9 (fun _ _ => rfl) ?_
    refine g_run 1 169 [some (.ref a), some (.int x1)] [.ref a] (fun _ => rfl) ?_
    refine g_getA 172 rfl rfl (Rd_l ka) (Rd_r0 ka) ?_
    refine g_run 1 173 [some (.ref a), some (.int x1)] [.ref a, .ref (a + 1)] (fun _ => rfl) ?_
    refine g_getA 176 rfl rfl (Rd_l ka) (Rd_r6 ka) ?_
    refine g_run 1 177 [some (.ref a), some (.int x1)] [.int (0 : Int32), .ref (a + 20), .ref (a + 1)] (fun _ => rfl) ?_
    refine g_iald 178 rfl rfl (Rd_k6 ka) (kx := 0) rfl ?_
    refine g_run 1 179 [some (.ref a), some (.int x1)] [.ref a, .int (h (a + 20) 0), .ref (a + 1)] (fun _ => rfl) ?_
    refine g_getA 182 rfl rfl (Rd_l ka) (Rd_r6 ka) ?_
    refine g_run 1 183 [some (.ref a), some (.int x1)] [.int (1 : Int32), .ref (a + 20), .int (h (a + 20) 0), .ref (a + 1)] (fun _ => rfl) ?_
    refine g_iald 184 rfl rfl (Rd_k6 ka) (kx := 1) rfl ?_
    obtain ⟨q8, eq8, e⟩ := g_bd e
    refine g_cVv 187 rfl rfl rfl rfl rfl (Pk_l (Rd_k0 ka)) (Pk_setPainted_s (Rd_k0 ka) eq8) ?_
    refine g_run 1 305 [some (.ref a), some (.int x1)] [] (fun _ => rfl) ?_
    cases e
    exact g_ret rfl (fun _ _ => rfl)
  replace e := (if_neg c9).symm.trans e
  by_cases c11 : x1 = (6 : Int32)
  · replace e := (if_pos c11).symm.trans e
    refine g_sw (p1 := 190) (L1 := [some (.ref a), some (.int x1)]) (S1 := []) (s1 := (l, r, h, j)) rfl c11 (fun _ _ => rfl) ?_
    refine g_run 1 191 [some (.ref a), some (.int x1)] [.ref a] (fun _ => rfl) ?_
    refine g_getA 194 rfl rfl (Rd_l ka) (Rd_r0 ka) ?_
    refine g_run 1 195 [some (.ref a), some (.int x1)] [.ref a, .ref (a + 1)] (fun _ => rfl) ?_
    refine g_getA 198 rfl rfl (Rd_l ka) (Rd_r6 ka) ?_
    refine g_run 1 199 [some (.ref a), some (.int x1)] [.int (0 : Int32), .ref (a + 20), .ref (a + 1)] (fun _ => rfl) ?_
    refine g_iald 200 rfl rfl (Rd_k6 ka) (kx := 0) rfl ?_
    refine g_run 1 201 [some (.ref a), some (.int x1)] [.ref a, .int (h (a + 20) 0), .ref (a + 1)] (fun _ => rfl) ?_
    refine g_getA 204 rfl rfl (Rd_l ka) (Rd_r6 ka) ?_
    refine g_run 1 205 [some (.ref a), some (.int x1)] [.int (1 : Int32), .ref (a + 20), .int (h (a + 20) 0), .ref (a + 1)] (fun _ => rfl) ?_
    refine g_iald 206 rfl rfl (Rd_k6 ka) (kx := 1) rfl ?_
    refine g_run 1 207 [some (.ref a), some (.int x1)] [.ref a, .int (h (a + 20) 1), .int (h (a + 20) 0), .ref (a + 1)] (fun _ => rfl) ?_
    refine g_getA 210 rfl rfl (Rd_l ka) (Rd_r6 ka) ?_
    refine g_run 1 211 [some (.ref a), some (.int x1)] [.int (2 : Int32), .ref (a + 20), .int (h (a + 20) 1), .int (h (a + 20) 0), .ref (a + 1)] (fun _ => rfl) ?_
    refine g_iald 212 rfl rfl (Rd_k6 ka) (kx := 2) rfl ?_
    obtain ⟨q10, eq10, e⟩ := g_bd e
    refine g_cVv 215 rfl rfl rfl rfl rfl (Pk_l (Rd_k0 ka)) (Pk_setCard_s (Rd_k0 ka) eq10) ?_
    refine g_run 1 305 [some (.ref a), some (.int x1)] [] (fun _ => rfl) ?_
    cases e
    exact g_ret rfl (fun _ _ => rfl)
  replace e := (if_neg c11).symm.trans e
  by_cases c13 : x1 = (7 : Int32)
  · replace e := (if_pos c13).symm.trans e
    refine g_sw (p1 := 218) (L1 := [some (.ref a), some (.int x1)]) (S1 := []) (s1 := (l, r, h, j)) rfl c13 (fun _ _ => rfl) ?_
    refine g_run 1 219 [some (.ref a), some (.int x1)] [.ref a] (fun _ => rfl) ?_
    refine g_getA 222 rfl rfl (Rd_l ka) (Rd_r0 ka) ?_
    refine g_getA 225 rfl rfl (Pk_l (Rd_k0 ka)) (Pk_r10 (Rd_k0 ka)) ?_
    refine g_run 1 226 [some (.ref a), some (.int x1)] [.ref a, .ref ((a + 1) + 7)] (fun _ => rfl) ?_
    refine g_getA 229 rfl rfl (Rd_l ka) (Rd_r6 ka) ?_
    obtain ⟨q12, eq12, e⟩ := g_bd e
    refine g_cVv 232 rfl rfl rfl rfl rfl (Rw_l (Pk_k10 (Rd_k0 ka))) (Rw_add_s (Pk_k10 (Rd_k0 ka)) (g_lnk (Rd_k6 ka)) eq12) ?_
    refine g_run 1 305 [some (.ref a), some (.int x1)] [] (fun _ => rfl) ?_
    cases e
    exact g_ret rfl (fun _ _ => rfl)
  replace e := (if_neg c13).symm.trans e
  by_cases c15 : x1 = (8 : Int32)
  · replace e := (if_pos c15).symm.trans e
    refine g_sw (p1 := 235) (L1 := [some (.ref a), some (.int x1)]) (S1 := []) (s1 := (l, r, h, j)) rfl c15 (fun _ _ => rfl) ?_
    refine g_run 1 236 [some (.ref a), some (.int x1)] [.ref a] (fun _ => rfl) ?_
    refine g_getA 239 rfl rfl (Rd_l ka) (Rd_r0 ka) ?_
    refine g_getA 242 rfl rfl (Pk_l (Rd_k0 ka)) (Pk_r11 (Rd_k0 ka)) ?_
    refine g_run 1 243 [some (.ref a), some (.int x1)] [.ref a, .ref ((a + 1) + 9)] (fun _ => rfl) ?_
    refine g_getA 246 rfl rfl (Rd_l ka) (Rd_r6 ka) ?_
    obtain ⟨q14, eq14, e⟩ := g_bd e
    refine g_cVv 249 rfl rfl rfl rfl rfl (Rw_l (Pk_k11 (Rd_k0 ka))) (Rw_add_s (Pk_k11 (Rd_k0 ka)) (g_lnk (Rd_k6 ka)) eq14) ?_
    refine g_run 1 305 [some (.ref a), some (.int x1)] [] (fun _ => rfl) ?_
    cases e
    exact g_ret rfl (fun _ _ => rfl)
  replace e := (if_neg c15).symm.trans e
  by_cases c17 : x1 = (9 : Int32)
  · replace e := (if_pos c17).symm.trans e
    refine g_sw (p1 := 252) (L1 := [some (.ref a), some (.int x1)]) (S1 := []) (s1 := (l, r, h, j)) rfl c17 (fun _ _ => rfl) ?_
    refine g_run 1 253 [some (.ref a), some (.int x1)] [.ref a] (fun _ => rfl) ?_
    refine g_getA 256 rfl rfl (Rd_l ka) (Rd_r0 ka) ?_
    refine g_getA 259 rfl rfl (Pk_l (Rd_k0 ka)) (Pk_r12 (Rd_k0 ka)) ?_
    refine g_run 1 260 [some (.ref a), some (.int x1)] [.ref a, .ref ((a + 1) + 11)] (fun _ => rfl) ?_
    refine g_getA 263 rfl rfl (Rd_l ka) (Rd_r6 ka) ?_
    obtain ⟨q16, eq16, e⟩ := g_bd e
    refine g_cVv 266 rfl rfl rfl rfl rfl (Rw_l (Pk_k12 (Rd_k0 ka))) (Rw_add_s (Pk_k12 (Rd_k0 ka)) (g_lnk (Rd_k6 ka)) eq16) ?_
    refine g_run 1 305 [some (.ref a), some (.int x1)] [] (fun _ => rfl) ?_
    cases e
    exact g_ret rfl (fun _ _ => rfl)
  replace e := (if_neg c17).symm.trans e
  by_cases c19 : x1 = (10 : Int32)
  · replace e := (if_pos c19).symm.trans e
    refine g_sw (p1 := 297) (L1 := [some (.ref a), some (.int x1)]) (S1 := []) (s1 := (l, r, h, j)) rfl c19 (fun _ _ => rfl) ?_
    refine g_run 4 302 [some (.ref a), some (.int x1)] [.int (x1 - (10 : Int32)), .ref a] (fun _ => rfl) ?_
    obtain ⟨q18, eq18, e⟩ := g_bd e
    refine g_cVv 305 rfl rfl rfl rfl rfl (Rd_l ka) (Rd_tellPrint_s ka eq18) ?_
    cases e
    exact g_ret rfl (fun _ _ => rfl)
  replace e := (if_neg c19).symm.trans e
  by_cases c21 : x1 = (11 : Int32)
  · replace e := (if_pos c21).symm.trans e
    refine g_sw (p1 := 297) (L1 := [some (.ref a), some (.int x1)]) (S1 := []) (s1 := (l, r, h, j)) rfl c21 (fun _ _ => rfl) ?_
    refine g_run 4 302 [some (.ref a), some (.int x1)] [.int (x1 - (10 : Int32)), .ref a] (fun _ => rfl) ?_
    obtain ⟨q20, eq20, e⟩ := g_bd e
    refine g_cVv 305 rfl rfl rfl rfl rfl (Rd_l ka) (Rd_tellPrint_s ka eq20) ?_
    cases e
    exact g_ret rfl (fun _ _ => rfl)
  replace e := (if_neg c21).symm.trans e
  by_cases c23 : x1 = (12 : Int32)
  · replace e := (if_pos c23).symm.trans e
    refine g_sw (p1 := 297) (L1 := [some (.ref a), some (.int x1)]) (S1 := []) (s1 := (l, r, h, j)) rfl c23 (fun _ _ => rfl) ?_
    refine g_run 4 302 [some (.ref a), some (.int x1)] [.int (x1 - (10 : Int32)), .ref a] (fun _ => rfl) ?_
    obtain ⟨q22, eq22, e⟩ := g_bd e
    refine g_cVv 305 rfl rfl rfl rfl rfl (Rd_l ka) (Rd_tellPrint_s ka eq22) ?_
    cases e
    exact g_ret rfl (fun _ _ => rfl)
  replace e := (if_neg c23).symm.trans e
  by_cases c25 : x1 = (13 : Int32)
  · replace e := (if_pos c25).symm.trans e
    refine g_sw (p1 := 269) (L1 := [some (.ref a), some (.int x1)]) (S1 := []) (s1 := (l, r, h, j)) rfl c25 (fun _ _ => rfl) ?_
    refine g_run 1 270 [some (.ref a), some (.int x1)] [.ref a] (fun _ => rfl) ?_
    refine g_getA 273 rfl rfl (Rd_l ka) (Rd_r2 ka) ?_
    refine g_run 1 274 [some (.ref a), some (.int x1)] [.ref a, .ref (a + 16)] (fun _ => rfl) ?_
    refine g_getA 277 rfl rfl (Rd_l ka) (Rd_r6 ka) ?_
    obtain ⟨q24, eq24, e⟩ := g_bd e
    refine g_cVv 280 rfl rfl rfl rfl rfl (Rw_l (Rd_k2 ka)) (Rw_add_s (Rd_k2 ka) (g_lnk (Rd_k6 ka)) eq24) ?_
    refine g_run 1 305 [some (.ref a), some (.int x1)] [] (fun _ => rfl) ?_
    cases e
    exact g_ret rfl (fun _ _ => rfl)
  replace e := (if_neg c25).symm.trans e
  by_cases c27 : x1 = (14 : Int32)
  · replace e := (if_pos c27).symm.trans e
    refine g_sw (p1 := 283) (L1 := [some (.ref a), some (.int x1)]) (S1 := []) (s1 := (l, r, h, j)) rfl c27 (fun _ _ => rfl) ?_
    refine g_run 1 284 [some (.ref a), some (.int x1)] [.ref a] (fun _ => rfl) ?_
    refine g_getA 287 rfl rfl (Rd_l ka) (Rd_r3 ka) ?_
    refine g_run 1 288 [some (.ref a), some (.int x1)] [.ref a, .ref (a + 18)] (fun _ => rfl) ?_
    refine g_getA 291 rfl rfl (Rd_l ka) (Rd_r6 ka) ?_
    obtain ⟨q26, eq26, e⟩ := g_bd e
    refine g_cVv 294 rfl rfl rfl rfl rfl (Rw_l (Rd_k3 ka)) (Rw_add_s (Rd_k3 ka) (g_lnk (Rd_k6 ka)) eq26) ?_
    refine g_run 1 305 [some (.ref a), some (.int x1)] [] (fun _ => rfl) ?_
    cases e
    exact g_ret rfl (fun _ _ => rfl)
  replace e := (if_neg c27).symm.trans e
  have ic2 : (Int32.toInt x1) ≠ 0 := g_ne c2
  have ic3 : (Int32.toInt x1) ≠ 1 := g_ne c3
  have ic4 : (Int32.toInt x1) ≠ 2 := g_ne c4
  have ic5 : (Int32.toInt x1) ≠ 3 := g_ne c5
  have ic7 : (Int32.toInt x1) ≠ 4 := g_ne c7
  have ic9 : (Int32.toInt x1) ≠ 5 := g_ne c9
  have ic11 : (Int32.toInt x1) ≠ 6 := g_ne c11
  have ic13 : (Int32.toInt x1) ≠ 7 := g_ne c13
  have ic15 : (Int32.toInt x1) ≠ 8 := g_ne c15
  have ic17 : (Int32.toInt x1) ≠ 9 := g_ne c17
  have ic19 : (Int32.toInt x1) ≠ 10 := g_ne c19
  have ic21 : (Int32.toInt x1) ≠ 11 := g_ne c21
  have ic23 : (Int32.toInt x1) ≠ 12 := g_ne c23
  have ic25 : (Int32.toInt x1) ≠ 13 := g_ne c25
  have ic27 : (Int32.toInt x1) ≠ 14 := g_ne c27
  refine g_swd (p1 := 297) (L1 := [some (.ref a), some (.int x1)]) (S1 := []) (s1 := (l, r, h, j)) (x := x1) (lo := 0) (hi := 14) rfl (fun _ _ => rfl) (by omega) ?_
  refine g_run 4 302 [some (.ref a), some (.int x1)] [.int (x1 - (10 : Int32)), .ref a] (fun _ => rfl) ?_
  obtain ⟨q28, eq28, e⟩ := g_bd e
  refine g_cVv 305 rfl rfl rfl rfl rfl (Rd_l ka) (Rd_tellPrint_s ka eq28) ?_
  cases e
  exact g_ret rfl (fun _ _ => rfl)
