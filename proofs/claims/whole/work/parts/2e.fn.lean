/-! methods as functions, and their runs -/
def Wp_feed (a : Nat) (x1 : Int32) (x2 : Int32) (x3 : Int32) (x4 : Int32) (x5 : Int32) (h : am_F) : Option (Int32 × am_F) :=
  if ((h (a + 1) 1) + (20 : Int32)) ≤ (600 : Int32) then
    (Tl_put (a + 1) x1 h).bind fun q2 =>
    (Tl_put (a + 1) x2 q2).bind fun q3 =>
    (Tl_put (a + 1) x3 q3).bind fun q4 =>
    (Tl_put (a + 1) x4 q4).bind fun q5 =>
    (Tl_put (a + 1) x5 q5).bind fun q6 =>
    some ((q6 (a + 1) 1), q6)
  else
    some ((-1 : Int32), h)
theorem Wp_feed_s {X : Nat × (Nat → Int32)} {l : List (Nat × Nat)} {r : am_R} {h : am_F} {j : am_J} {a : Nat} {x1 : Int32} {x2 : Int32} {x3 : Int32} {x4 : Int32} {x5 : Int32} (ka : Wp_K l r a) {q : Int32 × am_F} (e : Wp_feed a x1 x2 x3 x4 x5 h = some q) : Call X 111 [.ref a, .int x1, .int x2, .int x3, .int x4, .int x5] (l, r, h, j) (some (.int q.1), (l, r, q.2, j)) := by
  unfold Wp_feed at e
  refine ⟨Nat.le_of_ble_eq_true rfl, ?_⟩
  show Ev X 111 0 [some (.ref a), some (.int x1), some (.int x2), some (.int x3), some (.int x4), some (.int x5)] [] (l, r, h, j) _
  refine g_run 1 1 [some (.ref a), some (.int x1), some (.int x2), some (.int x3), some (.int x4), some (.int x5)] [.ref a] (fun _ => rfl) ?_
  refine g_getA 4 rfl rfl (Wp_l ka) (Wp_r0 ka) ?_
  refine g_getI 7 rfl rfl (Tl_l (Wp_k0 ka)) ?_
  refine g_run 3 13 [some (.ref a), some (.int x1), some (.int x2), some (.int x3), some (.int x4), some (.int x5)] [.int (600 : Int32), .int ((h (a + 1) 1) + (20 : Int32))] (fun _ => rfl) ?_
  refine g_if (p1 := 18) (L1 := [some (.ref a), some (.int x1), some (.int x2), some (.int x3), some (.int x4), some (.int x5)]) (S1 := []) (s1 := (l, r, h, j)) (p2 := 16) (L2 := [some (.ref a), some (.int x1), some (.int x2), some (.int x3), some (.int x4), some (.int x5)]) (S2 := []) (s2 := (l, r, h, j)) rfl (fun _ _ => rfl) e (fun c1 e => ?_) (fun c1 e => ?_)
  · refine g_run 1 19 [some (.ref a), some (.int x1), some (.int x2), some (.int x3), some (.int x4), some (.int x5)] [.ref a] (fun _ => rfl) ?_
    refine g_getA 22 rfl rfl (Wp_l ka) (Wp_r0 ka) ?_
    refine g_run 1 23 [some (.ref a), some (.int x1), some (.int x2), some (.int x3), some (.int x4), some (.int x5)] [.int x1, .ref (a + 1)] (fun _ => rfl) ?_
    obtain ⟨q2, eq2, e⟩ := g_bd e
    refine g_cVv 26 rfl rfl rfl rfl rfl (Tl_l (Wp_k0 ka)) (Tl_put_s (Wp_k0 ka) eq2) ?_
    refine g_run 1 27 [some (.ref a), some (.int x1), some (.int x2), some (.int x3), some (.int x4), some (.int x5)] [.ref a] (fun _ => rfl) ?_
    refine g_getA 30 rfl rfl (Wp_l ka) (Wp_r0 ka) ?_
    refine g_run 1 31 [some (.ref a), some (.int x1), some (.int x2), some (.int x3), some (.int x4), some (.int x5)] [.int x2, .ref (a + 1)] (fun _ => rfl) ?_
    obtain ⟨q3, eq3, e⟩ := g_bd e
    refine g_cVv 34 rfl rfl rfl rfl rfl (Tl_l (Wp_k0 ka)) (Tl_put_s (Wp_k0 ka) eq3) ?_
    refine g_run 1 35 [some (.ref a), some (.int x1), some (.int x2), some (.int x3), some (.int x4), some (.int x5)] [.ref a] (fun _ => rfl) ?_
    refine g_getA 38 rfl rfl (Wp_l ka) (Wp_r0 ka) ?_
    refine g_run 1 39 [some (.ref a), some (.int x1), some (.int x2), some (.int x3), some (.int x4), some (.int x5)] [.int x3, .ref (a + 1)] (fun _ => rfl) ?_
    obtain ⟨q4, eq4, e⟩ := g_bd e
    refine g_cVv 42 rfl rfl rfl rfl rfl (Tl_l (Wp_k0 ka)) (Tl_put_s (Wp_k0 ka) eq4) ?_
    refine g_run 1 43 [some (.ref a), some (.int x1), some (.int x2), some (.int x3), some (.int x4), some (.int x5)] [.ref a] (fun _ => rfl) ?_
    refine g_getA 46 rfl rfl (Wp_l ka) (Wp_r0 ka) ?_
    refine g_run 1 48 [some (.ref a), some (.int x1), some (.int x2), some (.int x3), some (.int x4), some (.int x5)] [.int x4, .ref (a + 1)] (fun _ => rfl) ?_
    obtain ⟨q5, eq5, e⟩ := g_bd e
    refine g_cVv 51 rfl rfl rfl rfl rfl (Tl_l (Wp_k0 ka)) (Tl_put_s (Wp_k0 ka) eq5) ?_
    refine g_run 1 52 [some (.ref a), some (.int x1), some (.int x2), some (.int x3), some (.int x4), some (.int x5)] [.ref a] (fun _ => rfl) ?_
    refine g_getA 55 rfl rfl (Wp_l ka) (Wp_r0 ka) ?_
    refine g_run 1 57 [some (.ref a), some (.int x1), some (.int x2), some (.int x3), some (.int x4), some (.int x5)] [.int x5, .ref (a + 1)] (fun _ => rfl) ?_
    obtain ⟨q6, eq6, e⟩ := g_bd e
    refine g_cVv 60 rfl rfl rfl rfl rfl (Tl_l (Wp_k0 ka)) (Tl_put_s (Wp_k0 ka) eq6) ?_
    refine g_run 1 61 [some (.ref a), some (.int x1), some (.int x2), some (.int x3), some (.int x4), some (.int x5)] [.ref a] (fun _ => rfl) ?_
    refine g_getA 64 rfl rfl (Wp_l ka) (Wp_r0 ka) ?_
    refine g_getI 67 rfl rfl (Tl_l (Wp_k0 ka)) ?_
    cases e
    exact g_ret rfl (fun _ _ => rfl)
  · refine g_run 1 17 [some (.ref a), some (.int x1), some (.int x2), some (.int x3), some (.int x4), some (.int x5)] [.int (-1 : Int32)] (fun _ => rfl) ?_
    cases e
    exact g_ret rfl (fun _ _ => rfl)
def Wp_end (a : Nat) (x1 : Int32) (h : am_F) : Option (Int32 × am_F) :=
  if x1 < 0 then
    some ((-1 : Int32), h)
  else
    if x1 ≤ (h (a + 1) 1) then
      some (x1, (am_up h (a + 1) 1 x1))
    else
      some ((-1 : Int32), h)
theorem Wp_end_s {X : Nat × (Nat → Int32)} {l : List (Nat × Nat)} {r : am_R} {h : am_F} {j : am_J} {a : Nat} {x1 : Int32} (ka : Wp_K l r a) {q : Int32 × am_F} (e : Wp_end a x1 h = some q) : Call X 112 [.ref a, .int x1] (l, r, h, j) (some (.int q.1), (l, r, q.2, j)) := by
  unfold Wp_end at e
  refine ⟨Nat.le_of_ble_eq_true rfl, ?_⟩
  show Ev X 112 0 [some (.ref a), some (.int x1)] [] (l, r, h, j) _
  refine g_run 1 1 [some (.ref a), some (.int x1)] [.int x1] (fun _ => rfl) ?_
  refine g_if (p1 := 15) (L1 := [some (.ref a), some (.int x1)]) (S1 := []) (s1 := (l, r, h, j)) (p2 := 4) (L2 := [some (.ref a), some (.int x1)]) (S2 := []) (s2 := (l, r, h, j)) rfl (fun _ _ => rfl) e (fun c1 e => ?_) (fun c1 e => ?_)
  · refine g_run 1 16 [some (.ref a), some (.int x1)] [.int (-1 : Int32)] (fun _ => rfl) ?_
    cases e
    exact g_ret rfl (fun _ _ => rfl)
  · refine g_run 2 6 [some (.ref a), some (.int x1)] [.ref a, .int x1] (fun _ => rfl) ?_
    refine g_getA 9 rfl rfl (Wp_l ka) (Wp_r0 ka) ?_
    refine g_getI 12 rfl rfl (Tl_l (Wp_k0 ka)) ?_
    refine g_if (p1 := 17) (L1 := [some (.ref a), some (.int x1)]) (S1 := []) (s1 := (l, r, h, j)) (p2 := 15) (L2 := [some (.ref a), some (.int x1)]) (S2 := []) (s2 := (l, r, h, j)) rfl (fun _ _ => rfl) e (fun c2 e => ?_) (fun c2 e => ?_)
    · refine g_run 1 18 [some (.ref a), some (.int x1)] [.ref a] (fun _ => rfl) ?_
      refine g_getA 21 rfl rfl (Wp_l ka) (Wp_r0 ka) ?_
      refine g_run 1 22 [some (.ref a), some (.int x1)] [.int x1, .ref (a + 1)] (fun _ => rfl) ?_
      refine g_putI 25 rfl rfl (Tl_l (Wp_k0 ka)) ?_
      refine g_run 1 26 [some (.ref a), some (.int x1)] [.int x1] (fun _ => rfl) ?_
      cases e
      exact g_ret rfl (fun _ _ => rfl)
    · refine g_run 1 16 [some (.ref a), some (.int x1)] [.int (-1 : Int32)] (fun _ => rfl) ?_
      cases e
      exact g_ret rfl (fun _ _ => rfl)
def Wp_text (l : List (Nat × Nat)) (r : am_R) (a : Nat) (x1 : Int32) (x2 : Int32) (h : am_F) : Option (Int32 × am_F × am_R) :=
  (Tl_howMany (a + 1) x1 (am_up (am_up (am_up h (a + 1) 1 (0 : Int32)) (a + 1) 2 (0 : Int32)) (a + 1) 3 (-1 : Int32))).bind fun q1 =>
  if 0 ≤ q1 then
    (if x2 = (-1 : Int32) then
        some (1 : Int32)
      else
        some (0 : Int32) : Option (Int32)).bind fun q5 =>
    if q5 = 0 then
      if x2 < 0 then
        some ((-2 : Int32), (am_up (am_up (am_up h (a + 1) 1 (0 : Int32)) (a + 1) 2 (0 : Int32)) (a + 1) 3 (-1 : Int32)), r)
      else
        if x2 < q1 then
          (Rd_readText l r (a + 45) ((a + 1) + 1) (h (a + 1) 1) x1 (am_up (am_up (am_up h (a + 1) 1 (0 : Int32)) (a + 1) 2 (0 : Int32)) (a + 1) 3 (-1 : Int32))).bind fun q9 =>
          if ((am_up (am_up q9.1 (a + 1) 2 (q9.1 (a + 45) 4)) (a + 1) 3 ((am_up q9.1 (a + 1) 2 (q9.1 (a + 45) 4)) (a + 45) 5)) (a + 1) 2) = 0 then
            (if q5 = 0 then
                some x2
              else
                some q1 : Option (Int32)).bind fun q14 =>
            (Tl_keep l q9.2 (a + 1) x1 q14 (a + 45) (am_up (am_up q9.1 (a + 1) 2 (q9.1 (a + 45) 4)) (a + 1) 3 ((am_up q9.1 (a + 1) 2 (q9.1 (a + 45) 4)) (a + 45) 5))).bind fun q15 =>
            some (q14, q15, q9.2)
          else
            some ((-1 : Int32), (am_up (am_up q9.1 (a + 1) 2 (q9.1 (a + 45) 4)) (a + 1) 3 ((am_up q9.1 (a + 1) 2 (q9.1 (a + 45) 4)) (a + 45) 5)), q9.2)
        else
          some ((-2 : Int32), (am_up (am_up (am_up h (a + 1) 1 (0 : Int32)) (a + 1) 2 (0 : Int32)) (a + 1) 3 (-1 : Int32)), r)
    else
      if q1 < (2 : Int32) then
        (Rd_readText l r (a + 45) ((a + 1) + 1) (h (a + 1) 1) x1 (am_up (am_up (am_up h (a + 1) 1 (0 : Int32)) (a + 1) 2 (0 : Int32)) (a + 1) 3 (-1 : Int32))).bind fun q17 =>
        if ((am_up (am_up q17.1 (a + 1) 2 (q17.1 (a + 45) 4)) (a + 1) 3 ((am_up q17.1 (a + 1) 2 (q17.1 (a + 45) 4)) (a + 45) 5)) (a + 1) 2) = 0 then
          (if q5 = 0 then
              some x2
            else
              some q1 : Option (Int32)).bind fun q22 =>
          (Tl_keep l q17.2 (a + 1) x1 q22 (a + 45) (am_up (am_up q17.1 (a + 1) 2 (q17.1 (a + 45) 4)) (a + 1) 3 ((am_up q17.1 (a + 1) 2 (q17.1 (a + 45) 4)) (a + 45) 5))).bind fun q23 =>
          some (q22, q23, q17.2)
        else
          some ((-1 : Int32), (am_up (am_up q17.1 (a + 1) 2 (q17.1 (a + 45) 4)) (a + 1) 3 ((am_up q17.1 (a + 1) 2 (q17.1 (a + 45) 4)) (a + 45) 5)), q17.2)
      else
        some ((-2 : Int32), (am_up (am_up (am_up h (a + 1) 1 (0 : Int32)) (a + 1) 2 (0 : Int32)) (a + 1) 3 (-1 : Int32)), r)
  else
    some ((-2 : Int32), (am_up (am_up (am_up h (a + 1) 1 (0 : Int32)) (a + 1) 2 (0 : Int32)) (a + 1) 3 (-1 : Int32)), r)
theorem Wp_text_s {X : Nat × (Nat → Int32)} {l : List (Nat × Nat)} {r : am_R} {h : am_F} {j : am_J} {a : Nat} {x1 : Int32} {x2 : Int32} (ka : Wp_K l r a) {q : Int32 × am_F × am_R} (e : Wp_text l r a x1 x2 h = some q) : Call X 113 [.ref a, .int x1, .int x2] (l, r, h, j) (some (.int q.1), (l, q.2.2, q.2.1, j)) := by
  unfold Wp_text at e
  refine ⟨Nat.le_of_ble_eq_true rfl, ?_⟩
  show Ev X 113 0 [some (.ref a), some (.int x1), some (.int x2), none, none, none, none] [] (l, r, h, j) _
  refine g_run 1 1 [some (.ref a), some (.int x1), some (.int x2), none, none, none, none] [.ref a] (fun _ => rfl) ?_
  refine g_getA 4 rfl rfl (Wp_l ka) (Wp_r0 ka) ?_
  refine g_getI 7 rfl rfl (Tl_l (Wp_k0 ka)) ?_
  refine g_run 2 9 [some (.ref a), some (.int x1), some (.int x2), some (.int (h (a + 1) 1)), none, none, none] [.ref a] (fun _ => rfl) ?_
  refine g_getA 12 rfl rfl (Wp_l ka) (Wp_r0 ka) ?_
  refine g_run 1 13 [some (.ref a), some (.int x1), some (.int x2), some (.int (h (a + 1) 1)), none, none, none] [.int (0 : Int32), .ref (a + 1)] (fun _ => rfl) ?_
  refine g_putI 16 rfl rfl (Tl_l (Wp_k0 ka)) ?_
  refine g_run 1 17 [some (.ref a), some (.int x1), some (.int x2), some (.int (h (a + 1) 1)), none, none, none] [.ref a] (fun _ => rfl) ?_
  refine g_getA 20 rfl rfl (Wp_l ka) (Wp_r0 ka) ?_
  refine g_run 1 21 [some (.ref a), some (.int x1), some (.int x2), some (.int (h (a + 1) 1)), none, none, none] [.int (0 : Int32), .ref (a + 1)] (fun _ => rfl) ?_
  refine g_putI 24 rfl rfl (Tl_l (Wp_k0 ka)) ?_
  refine g_run 1 25 [some (.ref a), some (.int x1), some (.int x2), some (.int (h (a + 1) 1)), none, none, none] [.ref a] (fun _ => rfl) ?_
  refine g_getA 28 rfl rfl (Wp_l ka) (Wp_r0 ka) ?_
  refine g_run 1 29 [some (.ref a), some (.int x1), some (.int x2), some (.int (h (a + 1) 1)), none, none, none] [.int (-1 : Int32), .ref (a + 1)] (fun _ => rfl) ?_
  refine g_putI 32 rfl rfl (Tl_l (Wp_k0 ka)) ?_
  refine g_run 1 33 [some (.ref a), some (.int x1), some (.int x2), some (.int (h (a + 1) 1)), none, none, none] [.ref a] (fun _ => rfl) ?_
  refine g_getA 36 rfl rfl (Wp_l ka) (Wp_r0 ka) ?_
  refine g_run 1 37 [some (.ref a), some (.int x1), some (.int x2), some (.int (h (a + 1) 1)), none, none, none] [.int x1, .ref (a + 1)] (fun _ => rfl) ?_
  obtain ⟨q1, eq1, e⟩ := g_bd e
  refine g_cV 40 rfl rfl rfl rfl rfl (Tl_l (Wp_k0 ka)) (Tl_howMany_s (Wp_k0 ka) eq1) ?_
  refine g_run 2 44 [some (.ref a), some (.int x1), some (.int x2), some (.int (h (a + 1) 1)), some (.int q1), none, none] [.int q1] (fun _ => rfl) ?_
  refine g_if (p1 := 50) (L1 := [some (.ref a), some (.int x1), some (.int x2), some (.int (h (a + 1) 1)), some (.int q1), none, none]) (S1 := []) (s1 := (l, r, (am_up (am_up (am_up h (a + 1) 1 (0 : Int32)) (a + 1) 2 (0 : Int32)) (a + 1) 3 (-1 : Int32)), j)) (p2 := 47) (L2 := [some (.ref a), some (.int x1), some (.int x2), some (.int (h (a + 1) 1)), some (.int q1), none, none]) (S2 := []) (s2 := (l, r, (am_up (am_up (am_up h (a + 1) 1 (0 : Int32)) (a + 1) 2 (0 : Int32)) (a + 1) 3 (-1 : Int32)), j)) rfl (fun _ _ => rfl) e (fun c2 e => ?_) (fun c2 e => ?_)
  · refine g_run 2 52 [some (.ref a), some (.int x1), some (.int x2), some (.int (h (a + 1) 1)), some (.int q1), none, none] [.int (-1 : Int32), .int x2] (fun _ => rfl) ?_
    obtain ⟨q5, eq5, e⟩ := g_bd e
    have hjq5 : ∀ (_ : True), Ev X 113 60 [some (.ref a), some (.int x1), some (.int x2), some (.int (h (a + 1) 1)), some (.int q1), none, none] [.int q5] (l, r, (am_up (am_up (am_up h (a + 1) 1 (0 : Int32)) (a + 1) 2 (0 : Int32)) (a + 1) 3 (-1 : Int32)), j) (some (.int q.1), (l, q.2.2, q.2.1, j)) := by
      intro _
      refine g_run 2 64 [some (.ref a), some (.int x1), some (.int x2), some (.int (h (a + 1) 1)), some (.int q1), some (.int q5), none] [.int q5] (fun _ => rfl) ?_
      refine g_if (p1 := 76) (L1 := [some (.ref a), some (.int x1), some (.int x2), some (.int (h (a + 1) 1)), some (.int q1), some (.int q5), none]) (S1 := []) (s1 := (l, r, (am_up (am_up (am_up h (a + 1) 1 (0 : Int32)) (a + 1) 2 (0 : Int32)) (a + 1) 3 (-1 : Int32)), j)) (p2 := 67) (L2 := [some (.ref a), some (.int x1), some (.int x2), some (.int (h (a + 1) 1)), some (.int q1), some (.int q5), none]) (S2 := []) (s2 := (l, r, (am_up (am_up (am_up h (a + 1) 1 (0 : Int32)) (a + 1) 2 (0 : Int32)) (a + 1) 3 (-1 : Int32)), j)) rfl (fun _ _ => rfl) e (fun c6 e => ?_) (fun c6 e => ?_)
      · refine g_run 1 77 [some (.ref a), some (.int x1), some (.int x2), some (.int (h (a + 1) 1)), some (.int q1), some (.int q5), none] [.int x2] (fun _ => rfl) ?_
        refine g_if (p1 := 86) (L1 := [some (.ref a), some (.int x1), some (.int x2), some (.int (h (a + 1) 1)), some (.int q1), some (.int q5), none]) (S1 := []) (s1 := (l, r, (am_up (am_up (am_up h (a + 1) 1 (0 : Int32)) (a + 1) 2 (0 : Int32)) (a + 1) 3 (-1 : Int32)), j)) (p2 := 80) (L2 := [some (.ref a), some (.int x1), some (.int x2), some (.int (h (a + 1) 1)), some (.int q1), some (.int q5), none]) (S2 := []) (s2 := (l, r, (am_up (am_up (am_up h (a + 1) 1 (0 : Int32)) (a + 1) 2 (0 : Int32)) (a + 1) 3 (-1 : Int32)), j)) rfl (fun _ _ => rfl) e (fun c7 e => ?_) (fun c7 e => ?_)
        · refine g_run 1 88 [some (.ref a), some (.int x1), some (.int x2), some (.int (h (a + 1) 1)), some (.int q1), some (.int q5), none] [.int (-2 : Int32)] (fun _ => rfl) ?_
          cases e
          exact g_ret rfl (fun _ _ => rfl)
        · refine g_run 2 83 [some (.ref a), some (.int x1), some (.int x2), some (.int (h (a + 1) 1)), some (.int q1), some (.int q5), none] [.int q1, .int x2] (fun _ => rfl) ?_
          refine g_if (p1 := 89) (L1 := [some (.ref a), some (.int x1), some (.int x2), some (.int (h (a + 1) 1)), some (.int q1), some (.int q5), none]) (S1 := []) (s1 := (l, r, (am_up (am_up (am_up h (a + 1) 1 (0 : Int32)) (a + 1) 2 (0 : Int32)) (a + 1) 3 (-1 : Int32)), j)) (p2 := 86) (L2 := [some (.ref a), some (.int x1), some (.int x2), some (.int (h (a + 1) 1)), some (.int q1), some (.int q5), none]) (S2 := []) (s2 := (l, r, (am_up (am_up (am_up h (a + 1) 1 (0 : Int32)) (a + 1) 2 (0 : Int32)) (a + 1) 3 (-1 : Int32)), j)) rfl (fun _ _ => rfl) e (fun c8 e => ?_) (fun c8 e => ?_)
          · refine g_run 1 90 [some (.ref a), some (.int x1), some (.int x2), some (.int (h (a + 1) 1)), some (.int q1), some (.int q5), none] [.ref a] (fun _ => rfl) ?_
            refine g_getA 93 rfl rfl (Wp_l ka) (Wp_r2 ka) ?_
            refine g_run 1 94 [some (.ref a), some (.int x1), some (.int x2), some (.int (h (a + 1) 1)), some (.int q1), some (.int q5), none] [.ref a, .ref (a + 45)] (fun _ => rfl) ?_
            refine g_getA 97 rfl rfl (Wp_l ka) (Wp_r0 ka) ?_
            refine g_getA 100 rfl rfl (Tl_l (Wp_k0 ka)) (Tl_r0 (Wp_k0 ka)) ?_
            refine g_run 2 102 [some (.ref a), some (.int x1), some (.int x2), some (.int (h (a + 1) 1)), some (.int q1), some (.int q5), none] [.int x1, .int (h (a + 1) 1), .ref ((a + 1) + 1), .ref (a + 45)] (fun _ => rfl) ?_
            obtain ⟨q9, eq9, e⟩ := g_bd e
            refine g_cVv 105 rfl rfl rfl rfl rfl (Rd_l (Wp_k2 ka)) (Rd_readText_s (Wp_k2 ka) (g_lnk (Tl_k0 (Wp_k0 ka))) eq9) ?_
            have kp10 := Rd_readText_kp (Wp_k2 ka) (g_lnk (Tl_k0 (Wp_k0 ka))) eq9
            refine g_run 1 106 [some (.ref a), some (.int x1), some (.int x2), some (.int (h (a + 1) 1)), some (.int q1), some (.int q5), none] [.ref a] (fun _ => rfl) ?_
            refine g_getA 109 rfl rfl (Wp_l (g_kp_Wp kp10 ka)) (Wp_r0 (g_kp_Wp kp10 ka)) ?_
            refine g_run 1 110 [some (.ref a), some (.int x1), some (.int x2), some (.int (h (a + 1) 1)), some (.int q1), some (.int q5), none] [.ref a, .ref (a + 1)] (fun _ => rfl) ?_
            refine g_getA 113 rfl rfl (Wp_l (g_kp_Wp kp10 ka)) (Wp_r2 (g_kp_Wp kp10 ka)) ?_
            refine g_getI 116 rfl rfl (Rd_l (Wp_k2 (g_kp_Wp kp10 ka))) ?_
            refine g_putI 119 rfl rfl (Tl_l (Wp_k0 (g_kp_Wp kp10 ka))) ?_
            refine g_run 1 120 [some (.ref a), some (.int x1), some (.int x2), some (.int (h (a + 1) 1)), some (.int q1), some (.int q5), none] [.ref a] (fun _ => rfl) ?_
            refine g_getA 123 rfl rfl (Wp_l (g_kp_Wp kp10 ka)) (Wp_r0 (g_kp_Wp kp10 ka)) ?_
            refine g_run 1 124 [some (.ref a), some (.int x1), some (.int x2), some (.int (h (a + 1) 1)), some (.int q1), some (.int q5), none] [.ref a, .ref (a + 1)] (fun _ => rfl) ?_
            refine g_getA 127 rfl rfl (Wp_l (g_kp_Wp kp10 ka)) (Wp_r2 (g_kp_Wp kp10 ka)) ?_
            refine g_getI 130 rfl rfl (Rd_l (Wp_k2 (g_kp_Wp kp10 ka))) ?_
            refine g_putI 133 rfl rfl (Tl_l (Wp_k0 (g_kp_Wp kp10 ka))) ?_
            refine g_run 1 134 [some (.ref a), some (.int x1), some (.int x2), some (.int (h (a + 1) 1)), some (.int q1), some (.int q5), none] [.ref a] (fun _ => rfl) ?_
            refine g_getA 137 rfl rfl (Wp_l (g_kp_Wp kp10 ka)) (Wp_r0 (g_kp_Wp kp10 ka)) ?_
            refine g_getI 140 rfl rfl (Tl_l (Wp_k0 (g_kp_Wp kp10 ka))) ?_
            refine g_if (p1 := 145) (L1 := [some (.ref a), some (.int x1), some (.int x2), some (.int (h (a + 1) 1)), some (.int q1), some (.int q5), none]) (S1 := []) (s1 := (l, q9.2, (am_up (am_up q9.1 (a + 1) 2 (q9.1 (a + 45) 4)) (a + 1) 3 ((am_up q9.1 (a + 1) 2 (q9.1 (a + 45) 4)) (a + 45) 5)), j)) (p2 := 143) (L2 := [some (.ref a), some (.int x1), some (.int x2), some (.int (h (a + 1) 1)), some (.int q1), some (.int q5), none]) (S2 := []) (s2 := (l, q9.2, (am_up (am_up q9.1 (a + 1) 2 (q9.1 (a + 45) 4)) (a + 1) 3 ((am_up q9.1 (a + 1) 2 (q9.1 (a + 45) 4)) (a + 45) 5)), j)) rfl (fun _ _ => rfl) e (fun c11 e => ?_) (fun c11 e => ?_)
            · refine g_run 1 147 [some (.ref a), some (.int x1), some (.int x2), some (.int (h (a + 1) 1)), some (.int q1), some (.int q5), none] [.int q5] (fun _ => rfl) ?_
              obtain ⟨q14, eq14, e⟩ := g_bd e
              have hjq14 : ∀ (_ : True), Ev X 113 156 [some (.ref a), some (.int x1), some (.int x2), some (.int (h (a + 1) 1)), some (.int q1), some (.int q5), none] [.int q14] (l, q9.2, (am_up (am_up q9.1 (a + 1) 2 (q9.1 (a + 45) 4)) (a + 1) 3 ((am_up q9.1 (a + 1) 2 (q9.1 (a + 45) 4)) (a + 45) 5)), j) (some (.int q.1), (l, q.2.2, q.2.1, j)) := by
                intro _
                refine g_run 2 159 [some (.ref a), some (.int x1), some (.int x2), some (.int (h (a + 1) 1)), some (.int q1), some (.int q5), some (.int q14)] [.ref a] (fun _ => rfl) ?_
                refine g_getA 162 rfl rfl (Wp_l (g_kp_Wp kp10 ka)) (Wp_r0 (g_kp_Wp kp10 ka)) ?_
                refine g_run 3 166 [some (.ref a), some (.int x1), some (.int x2), some (.int (h (a + 1) 1)), some (.int q1), some (.int q5), some (.int q14)] [.ref a, .int q14, .int x1, .ref (a + 1)] (fun _ => rfl) ?_
                refine g_getA 169 rfl rfl (Wp_l (g_kp_Wp kp10 ka)) (Wp_r2 (g_kp_Wp kp10 ka)) ?_
                obtain ⟨q15, eq15, e⟩ := g_bd e
                refine g_cVv 172 rfl rfl rfl rfl rfl (Tl_l (Wp_k0 (g_kp_Wp kp10 ka))) (Tl_keep_s (Wp_k0 (g_kp_Wp kp10 ka)) (Wp_k2 (g_kp_Wp kp10 ka)) eq15) ?_
                refine g_run 1 174 [some (.ref a), some (.int x1), some (.int x2), some (.int (h (a + 1) 1)), some (.int q1), some (.int q5), some (.int q14)] [.int q14] (fun _ => rfl) ?_
                cases e
                exact g_ret rfl (fun _ _ => rfl)
              replace e := eq14
              refine g_if (p1 := 155) (L1 := [some (.ref a), some (.int x1), some (.int x2), some (.int (h (a + 1) 1)), some (.int q1), some (.int q5), none]) (S1 := []) (s1 := (l, q9.2, (am_up (am_up q9.1 (a + 1) 2 (q9.1 (a + 45) 4)) (a + 1) 3 ((am_up q9.1 (a + 1) 2 (q9.1 (a + 45) 4)) (a + 45) 5)), j)) (p2 := 150) (L2 := [some (.ref a), some (.int x1), some (.int x2), some (.int (h (a + 1) 1)), some (.int q1), some (.int q5), none]) (S2 := []) (s2 := (l, q9.2, (am_up (am_up q9.1 (a + 1) 2 (q9.1 (a + 45) 4)) (a + 1) 3 ((am_up q9.1 (a + 1) 2 (q9.1 (a + 45) 4)) (a + 45) 5)), j)) rfl (fun _ _ => rfl) e (fun c12 e => ?_) (fun c12 e => ?_)
              · refine g_run 1 156 [some (.ref a), some (.int x1), some (.int x2), some (.int (h (a + 1) 1)), some (.int q1), some (.int q5), none] [.int x2] (fun _ => rfl) ?_
                cases e
                exact hjq14 trivial
              · refine g_run 2 156 [some (.ref a), some (.int x1), some (.int x2), some (.int (h (a + 1) 1)), some (.int q1), some (.int q5), none] [.int q1] (fun _ => rfl) ?_
                cases e
                exact hjq14 trivial
            · refine g_run 1 144 [some (.ref a), some (.int x1), some (.int x2), some (.int (h (a + 1) 1)), some (.int q1), some (.int q5), none] [.int (-1 : Int32)] (fun _ => rfl) ?_
              cases e
              exact g_ret rfl (fun _ _ => rfl)
          · refine g_run 1 88 [some (.ref a), some (.int x1), some (.int x2), some (.int (h (a + 1) 1)), some (.int q1), some (.int q5), none] [.int (-2 : Int32)] (fun _ => rfl) ?_
            cases e
            exact g_ret rfl (fun _ _ => rfl)
      · refine g_run 2 70 [some (.ref a), some (.int x1), some (.int x2), some (.int (h (a + 1) 1)), some (.int q1), some (.int q5), none] [.int (2 : Int32), .int q1] (fun _ => rfl) ?_
        refine g_if (p1 := 89) (L1 := [some (.ref a), some (.int x1), some (.int x2), some (.int (h (a + 1) 1)), some (.int q1), some (.int q5), none]) (S1 := []) (s1 := (l, r, (am_up (am_up (am_up h (a + 1) 1 (0 : Int32)) (a + 1) 2 (0 : Int32)) (a + 1) 3 (-1 : Int32)), j)) (p2 := 73) (L2 := [some (.ref a), some (.int x1), some (.int x2), some (.int (h (a + 1) 1)), some (.int q1), some (.int q5), none]) (S2 := []) (s2 := (l, r, (am_up (am_up (am_up h (a + 1) 1 (0 : Int32)) (a + 1) 2 (0 : Int32)) (a + 1) 3 (-1 : Int32)), j)) rfl (fun _ _ => rfl) e (fun c16 e => ?_) (fun c16 e => ?_)
        · refine g_run 1 90 [some (.ref a), some (.int x1), some (.int x2), some (.int (h (a + 1) 1)), some (.int q1), some (.int q5), none] [.ref a] (fun _ => rfl) ?_
          refine g_getA 93 rfl rfl (Wp_l ka) (Wp_r2 ka) ?_
          refine g_run 1 94 [some (.ref a), some (.int x1), some (.int x2), some (.int (h (a + 1) 1)), some (.int q1), some (.int q5), none] [.ref a, .ref (a + 45)] (fun _ => rfl) ?_
          refine g_getA 97 rfl rfl (Wp_l ka) (Wp_r0 ka) ?_
          refine g_getA 100 rfl rfl (Tl_l (Wp_k0 ka)) (Tl_r0 (Wp_k0 ka)) ?_
          refine g_run 2 102 [some (.ref a), some (.int x1), some (.int x2), some (.int (h (a + 1) 1)), some (.int q1), some (.int q5), none] [.int x1, .int (h (a + 1) 1), .ref ((a + 1) + 1), .ref (a + 45)] (fun _ => rfl) ?_
          obtain ⟨q17, eq17, e⟩ := g_bd e
          refine g_cVv 105 rfl rfl rfl rfl rfl (Rd_l (Wp_k2 ka)) (Rd_readText_s (Wp_k2 ka) (g_lnk (Tl_k0 (Wp_k0 ka))) eq17) ?_
          have kp18 := Rd_readText_kp (Wp_k2 ka) (g_lnk (Tl_k0 (Wp_k0 ka))) eq17
          refine g_run 1 106 [some (.ref a), some (.int x1), some (.int x2), some (.int (h (a + 1) 1)), some (.int q1), some (.int q5), none] [.ref a] (fun _ => rfl) ?_
          refine g_getA 109 rfl rfl (Wp_l (g_kp_Wp kp18 ka)) (Wp_r0 (g_kp_Wp kp18 ka)) ?_
          refine g_run 1 110 [some (.ref a), some (.int x1), some (.int x2), some (.int (h (a + 1) 1)), some (.int q1), some (.int q5), none] [.ref a, .ref (a + 1)] (fun _ => rfl) ?_
          refine g_getA 113 rfl rfl (Wp_l (g_kp_Wp kp18 ka)) (Wp_r2 (g_kp_Wp kp18 ka)) ?_
          refine g_getI 116 rfl rfl (Rd_l (Wp_k2 (g_kp_Wp kp18 ka))) ?_
          refine g_putI 119 rfl rfl (Tl_l (Wp_k0 (g_kp_Wp kp18 ka))) ?_
          refine g_run 1 120 [some (.ref a), some (.int x1), some (.int x2), some (.int (h (a + 1) 1)), some (.int q1), some (.int q5), none] [.ref a] (fun _ => rfl) ?_
          refine g_getA 123 rfl rfl (Wp_l (g_kp_Wp kp18 ka)) (Wp_r0 (g_kp_Wp kp18 ka)) ?_
          refine g_run 1 124 [some (.ref a), some (.int x1), some (.int x2), some (.int (h (a + 1) 1)), some (.int q1), some (.int q5), none] [.ref a, .ref (a + 1)] (fun _ => rfl) ?_
          refine g_getA 127 rfl rfl (Wp_l (g_kp_Wp kp18 ka)) (Wp_r2 (g_kp_Wp kp18 ka)) ?_
          refine g_getI 130 rfl rfl (Rd_l (Wp_k2 (g_kp_Wp kp18 ka))) ?_
          refine g_putI 133 rfl rfl (Tl_l (Wp_k0 (g_kp_Wp kp18 ka))) ?_
          refine g_run 1 134 [some (.ref a), some (.int x1), some (.int x2), some (.int (h (a + 1) 1)), some (.int q1), some (.int q5), none] [.ref a] (fun _ => rfl) ?_
          refine g_getA 137 rfl rfl (Wp_l (g_kp_Wp kp18 ka)) (Wp_r0 (g_kp_Wp kp18 ka)) ?_
          refine g_getI 140 rfl rfl (Tl_l (Wp_k0 (g_kp_Wp kp18 ka))) ?_
          refine g_if (p1 := 145) (L1 := [some (.ref a), some (.int x1), some (.int x2), some (.int (h (a + 1) 1)), some (.int q1), some (.int q5), none]) (S1 := []) (s1 := (l, q17.2, (am_up (am_up q17.1 (a + 1) 2 (q17.1 (a + 45) 4)) (a + 1) 3 ((am_up q17.1 (a + 1) 2 (q17.1 (a + 45) 4)) (a + 45) 5)), j)) (p2 := 143) (L2 := [some (.ref a), some (.int x1), some (.int x2), some (.int (h (a + 1) 1)), some (.int q1), some (.int q5), none]) (S2 := []) (s2 := (l, q17.2, (am_up (am_up q17.1 (a + 1) 2 (q17.1 (a + 45) 4)) (a + 1) 3 ((am_up q17.1 (a + 1) 2 (q17.1 (a + 45) 4)) (a + 45) 5)), j)) rfl (fun _ _ => rfl) e (fun c19 e => ?_) (fun c19 e => ?_)
          · refine g_run 1 147 [some (.ref a), some (.int x1), some (.int x2), some (.int (h (a + 1) 1)), some (.int q1), some (.int q5), none] [.int q5] (fun _ => rfl) ?_
            obtain ⟨q22, eq22, e⟩ := g_bd e
            have hjq22 : ∀ (_ : True), Ev X 113 156 [some (.ref a), some (.int x1), some (.int x2), some (.int (h (a + 1) 1)), some (.int q1), some (.int q5), none] [.int q22] (l, q17.2, (am_up (am_up q17.1 (a + 1) 2 (q17.1 (a + 45) 4)) (a + 1) 3 ((am_up q17.1 (a + 1) 2 (q17.1 (a + 45) 4)) (a + 45) 5)), j) (some (.int q.1), (l, q.2.2, q.2.1, j)) := by
              intro _
              refine g_run 2 159 [some (.ref a), some (.int x1), some (.int x2), some (.int (h (a + 1) 1)), some (.int q1), some (.int q5), some (.int q22)] [.ref a] (fun _ => rfl) ?_
              refine g_getA 162 rfl rfl (Wp_l (g_kp_Wp kp18 ka)) (Wp_r0 (g_kp_Wp kp18 ka)) ?_
              refine g_run 3 166 [some (.ref a), some (.int x1), some (.int x2), some (.int (h (a + 1) 1)), some (.int q1), some (.int q5), some (.int q22)] [.ref a, .int q22, .int x1, .ref (a + 1)] (fun _ => rfl) ?_
              refine g_getA 169 rfl rfl (Wp_l (g_kp_Wp kp18 ka)) (Wp_r2 (g_kp_Wp kp18 ka)) ?_
              obtain ⟨q23, eq23, e⟩ := g_bd e
              refine g_cVv 172 rfl rfl rfl rfl rfl (Tl_l (Wp_k0 (g_kp_Wp kp18 ka))) (Tl_keep_s (Wp_k0 (g_kp_Wp kp18 ka)) (Wp_k2 (g_kp_Wp kp18 ka)) eq23) ?_
              refine g_run 1 174 [some (.ref a), some (.int x1), some (.int x2), some (.int (h (a + 1) 1)), some (.int q1), some (.int q5), some (.int q22)] [.int q22] (fun _ => rfl) ?_
              cases e
              exact g_ret rfl (fun _ _ => rfl)
            replace e := eq22
            refine g_if (p1 := 155) (L1 := [some (.ref a), some (.int x1), some (.int x2), some (.int (h (a + 1) 1)), some (.int q1), some (.int q5), none]) (S1 := []) (s1 := (l, q17.2, (am_up (am_up q17.1 (a + 1) 2 (q17.1 (a + 45) 4)) (a + 1) 3 ((am_up q17.1 (a + 1) 2 (q17.1 (a + 45) 4)) (a + 45) 5)), j)) (p2 := 150) (L2 := [some (.ref a), some (.int x1), some (.int x2), some (.int (h (a + 1) 1)), some (.int q1), some (.int q5), none]) (S2 := []) (s2 := (l, q17.2, (am_up (am_up q17.1 (a + 1) 2 (q17.1 (a + 45) 4)) (a + 1) 3 ((am_up q17.1 (a + 1) 2 (q17.1 (a + 45) 4)) (a + 45) 5)), j)) rfl (fun _ _ => rfl) e (fun c20 e => ?_) (fun c20 e => ?_)
            · refine g_run 1 156 [some (.ref a), some (.int x1), some (.int x2), some (.int (h (a + 1) 1)), some (.int q1), some (.int q5), none] [.int x2] (fun _ => rfl) ?_
              cases e
              exact hjq22 trivial
            · refine g_run 2 156 [some (.ref a), some (.int x1), some (.int x2), some (.int (h (a + 1) 1)), some (.int q1), some (.int q5), none] [.int q1] (fun _ => rfl) ?_
              cases e
              exact hjq22 trivial
          · refine g_run 1 144 [some (.ref a), some (.int x1), some (.int x2), some (.int (h (a + 1) 1)), some (.int q1), some (.int q5), none] [.int (-1 : Int32)] (fun _ => rfl) ?_
            cases e
            exact g_ret rfl (fun _ _ => rfl)
        · refine g_run 2 88 [some (.ref a), some (.int x1), some (.int x2), some (.int (h (a + 1) 1)), some (.int q1), some (.int q5), none] [.int (-2 : Int32)] (fun _ => rfl) ?_
          cases e
          exact g_ret rfl (fun _ _ => rfl)
    replace e := eq5
    refine g_if (p1 := 55) (L1 := [some (.ref a), some (.int x1), some (.int x2), some (.int (h (a + 1) 1)), some (.int q1), none, none]) (S1 := []) (s1 := (l, r, (am_up (am_up (am_up h (a + 1) 1 (0 : Int32)) (a + 1) 2 (0 : Int32)) (a + 1) 3 (-1 : Int32)), j)) (p2 := 59) (L2 := [some (.ref a), some (.int x1), some (.int x2), some (.int (h (a + 1) 1)), some (.int q1), none, none]) (S2 := []) (s2 := (l, r, (am_up (am_up (am_up h (a + 1) 1 (0 : Int32)) (a + 1) 2 (0 : Int32)) (a + 1) 3 (-1 : Int32)), j)) rfl (fun _ _ => rfl) e (fun c3 e => ?_) (fun c3 e => ?_)
    · refine g_run 2 60 [some (.ref a), some (.int x1), some (.int x2), some (.int (h (a + 1) 1)), some (.int q1), none, none] [.int (1 : Int32)] (fun _ => rfl) ?_
      cases e
      exact hjq5 trivial
    · refine g_run 1 60 [some (.ref a), some (.int x1), some (.int x2), some (.int (h (a + 1) 1)), some (.int q1), none, none] [.int (0 : Int32)] (fun _ => rfl) ?_
      cases e
      exact hjq5 trivial
  · refine g_run 1 49 [some (.ref a), some (.int x1), some (.int x2), some (.int (h (a + 1) 1)), some (.int q1), none, none] [.int (-2 : Int32)] (fun _ => rfl) ?_
    cases e
    exact g_ret rfl (fun _ _ => rfl)
def Wp_fault (a : Nat) (x1 : Int32) (h : am_F) : Int32 :=
  if x1 = 0 then
    (h (a + 1) 2)
  else
    if x1 = (1 : Int32) then
      (h (a + 1) 3)
    else
      (-1 : Int32)
theorem Wp_fault_s {X : Nat × (Nat → Int32)} {l : List (Nat × Nat)} {r : am_R} {h : am_F} {j : am_J} {a : Nat} {x1 : Int32} (ka : Wp_K l r a) : Call X 114 [.ref a, .int x1] (l, r, h, j) (some (.int (Wp_fault a x1 h)), (l, r, h, j)) := by
  generalize e : Wp_fault a x1 h = q
  unfold Wp_fault at e
  refine ⟨Nat.le_of_ble_eq_true rfl, ?_⟩
  show Ev X 114 0 [some (.ref a), some (.int x1)] [] (l, r, h, j) _
  refine g_run 1 1 [some (.ref a), some (.int x1)] [.int x1] (fun _ => rfl) ?_
  refine g_if (p1 := 4) (L1 := [some (.ref a), some (.int x1)]) (S1 := []) (s1 := (l, r, h, j)) (p2 := 12) (L2 := [some (.ref a), some (.int x1)]) (S2 := []) (s2 := (l, r, h, j)) rfl (fun _ _ => rfl) e (fun c1 e => ?_) (fun c1 e => ?_)
  · refine g_run 1 5 [some (.ref a), some (.int x1)] [.ref a] (fun _ => rfl) ?_
    refine g_getA 8 rfl rfl (Wp_l ka) (Wp_r0 ka) ?_
    refine g_getI 11 rfl rfl (Tl_l (Wp_k0 ka)) ?_
    cases e
    exact g_ret rfl (fun _ _ => rfl)
  · refine g_run 2 14 [some (.ref a), some (.int x1)] [.int (1 : Int32), .int x1] (fun _ => rfl) ?_
    refine g_if (p1 := 17) (L1 := [some (.ref a), some (.int x1)]) (S1 := []) (s1 := (l, r, h, j)) (p2 := 27) (L2 := [some (.ref a), some (.int x1)]) (S2 := []) (s2 := (l, r, h, j)) rfl (fun _ _ => rfl) e (fun c2 e => ?_) (fun c2 e => ?_)
    · refine g_run 1 18 [some (.ref a), some (.int x1)] [.ref a] (fun _ => rfl) ?_
      refine g_getA 21 rfl rfl (Wp_l ka) (Wp_r0 ka) ?_
      refine g_getI 24 rfl rfl (Tl_l (Wp_k0 ka)) ?_
      refine g_run 1 28 [some (.ref a), some (.int x1)] [.int (h (a + 1) 3)] (fun _ => rfl) ?_
      cases e
      exact g_ret rfl (fun _ _ => rfl)
    · refine g_run 1 28 [some (.ref a), some (.int x1)] [.int (-1 : Int32)] (fun _ => rfl) ?_
      cases e
      exact g_ret rfl (fun _ _ => rfl)
def Wp_park (l : List (Nat × Nat)) (r : am_R) (a : Nat) (x1 : Int32) (x2 : Int32) (h : am_F) : Option (Int32) :=
  (Tl_parkAt l r (a + 1) x1 h).bind fun q1 =>
  g_on q1 (
    some (-1 : Int32)) (fun p2 =>
    if x2 = (0 : Int32) then
      some (h p2 0)
    else if x2 = (1 : Int32) then
      some (h p2 1)
    else if x2 = (2 : Int32) then
      some (h p2 2)
    else if x2 = (3 : Int32) then
      some (h p2 3)
    else if x2 = (4 : Int32) then
      some (h (p2 + 7) 3)
    else if x2 = (5 : Int32) then
      some (h (p2 + 9) 3)
    else if x2 = (6 : Int32) then
      some (h (p2 + 11) 3)
    else 
      if x2 < (10 : Int32) then
        some (-1 : Int32)
      else
        if (58 : Int32) ≤ x2 then
          some (-1 : Int32)
        else
          (g_ix (x2 - (10 : Int32)) 48).bind fun k12 =>
          some (h (p2 + 1) k12))
theorem Wp_park_s {X : Nat × (Nat → Int32)} {l : List (Nat × Nat)} {r : am_R} {h : am_F} {j : am_J} {a : Nat} {x1 : Int32} {x2 : Int32} (ka : Wp_K l r a) {q : Int32} (e : Wp_park l r a x1 x2 h = some q) : Call X 115 [.ref a, .int x1, .int x2] (l, r, h, j) (some (.int q), (l, r, h, j)) := by
  unfold Wp_park at e
  refine ⟨Nat.le_of_ble_eq_true rfl, ?_⟩
  show Ev X 115 0 [some (.ref a), some (.int x1), some (.int x2), none] [] (l, r, h, j) _
  refine g_run 1 1 [some (.ref a), some (.int x1), some (.int x2), none] [.ref a] (fun _ => rfl) ?_
  refine g_getA 4 rfl rfl (Wp_l ka) (Wp_r0 ka) ?_
  refine g_run 1 5 [some (.ref a), some (.int x1), some (.int x2), none] [.int x1, .ref (a + 1)] (fun _ => rfl) ?_
  obtain ⟨q1, eq1, e⟩ := g_bd e
  refine g_cV 8 rfl rfl rfl rfl rfl (Tl_l (Wp_k0 ka)) (Tl_parkAt_s (Wp_k0 ka) eq1) ?_
  refine g_run 1 9 [some (.ref a), some (.int x1), some (.int x2), some (va_rf q1)] [] (fun _ => by generalize q1 = o90; cases o90 <;> rfl) ?_
  refine g_run 1 10 [some (.ref a), some (.int x1), some (.int x2), some (va_rf q1)] [va_rf q1] (fun _ => by generalize q1 = o90; cases o90 <;> rfl) ?_
  cases q1 with
  | none =>
    replace e := g_onN e
    refine g_run 1 13 [some (.ref a), some (.int x1), some (.int x2), some (.null)] [] (fun _ => rfl) ?_
    refine g_run 1 14 [some (.ref a), some (.int x1), some (.int x2), some (.null)] [.int (-1 : Int32)] (fun _ => rfl) ?_
    cases e
    exact g_ret rfl (fun _ _ => rfl)
  | some p2 =>
    replace e := g_onS e
    have kp2 := Tl_parkAt_K (Wp_k0 ka) eq1
    refine g_run 1 15 [some (.ref a), some (.int x1), some (.int x2), some (.ref p2)] [] (fun _ => rfl) ?_
    refine g_run 1 16 [some (.ref a), some (.int x1), some (.int x2), some (.ref p2)] [.int x2] (fun _ => rfl) ?_
    by_cases c3 : x2 = (0 : Int32)
    · replace e := (if_pos c3).symm.trans e
      refine g_sw (p1 := 60) (L1 := [some (.ref a), some (.int x1), some (.int x2), some (.ref p2)]) (S1 := []) (s1 := (l, r, h, j)) rfl c3 (fun _ _ => rfl) ?_
      refine g_run 1 61 [some (.ref a), some (.int x1), some (.int x2), some (.ref p2)] [.ref p2] (fun _ => rfl) ?_
      refine g_getI 64 rfl rfl (Pk_l kp2) ?_
      cases e
      exact g_ret rfl (fun _ _ => rfl)
    replace e := (if_neg c3).symm.trans e
    by_cases c4 : x2 = (1 : Int32)
    · replace e := (if_pos c4).symm.trans e
      refine g_sw (p1 := 65) (L1 := [some (.ref a), some (.int x1), some (.int x2), some (.ref p2)]) (S1 := []) (s1 := (l, r, h, j)) rfl c4 (fun _ _ => rfl) ?_
      refine g_run 1 66 [some (.ref a), some (.int x1), some (.int x2), some (.ref p2)] [.ref p2] (fun _ => rfl) ?_
      refine g_getI 69 rfl rfl (Pk_l kp2) ?_
      cases e
      exact g_ret rfl (fun _ _ => rfl)
    replace e := (if_neg c4).symm.trans e
    by_cases c5 : x2 = (2 : Int32)
    · replace e := (if_pos c5).symm.trans e
      refine g_sw (p1 := 70) (L1 := [some (.ref a), some (.int x1), some (.int x2), some (.ref p2)]) (S1 := []) (s1 := (l, r, h, j)) rfl c5 (fun _ _ => rfl) ?_
      refine g_run 1 71 [some (.ref a), some (.int x1), some (.int x2), some (.ref p2)] [.ref p2] (fun _ => rfl) ?_
      refine g_getI 74 rfl rfl (Pk_l kp2) ?_
      cases e
      exact g_ret rfl (fun _ _ => rfl)
    replace e := (if_neg c5).symm.trans e
    by_cases c6 : x2 = (3 : Int32)
    · replace e := (if_pos c6).symm.trans e
      refine g_sw (p1 := 75) (L1 := [some (.ref a), some (.int x1), some (.int x2), some (.ref p2)]) (S1 := []) (s1 := (l, r, h, j)) rfl c6 (fun _ _ => rfl) ?_
      refine g_run 1 76 [some (.ref a), some (.int x1), some (.int x2), some (.ref p2)] [.ref p2] (fun _ => rfl) ?_
      refine g_getI 79 rfl rfl (Pk_l kp2) ?_
      cases e
      exact g_ret rfl (fun _ _ => rfl)
    replace e := (if_neg c6).symm.trans e
    by_cases c7 : x2 = (4 : Int32)
    · replace e := (if_pos c7).symm.trans e
      refine g_sw (p1 := 80) (L1 := [some (.ref a), some (.int x1), some (.int x2), some (.ref p2)]) (S1 := []) (s1 := (l, r, h, j)) rfl c7 (fun _ _ => rfl) ?_
      refine g_run 1 81 [some (.ref a), some (.int x1), some (.int x2), some (.ref p2)] [.ref p2] (fun _ => rfl) ?_
      refine g_getA 84 rfl rfl (Pk_l kp2) (Pk_r10 kp2) ?_
      refine g_getI 87 rfl rfl (Rw_l (Pk_k10 kp2)) ?_
      cases e
      exact g_ret rfl (fun _ _ => rfl)
    replace e := (if_neg c7).symm.trans e
    by_cases c8 : x2 = (5 : Int32)
    · replace e := (if_pos c8).symm.trans e
      refine g_sw (p1 := 88) (L1 := [some (.ref a), some (.int x1), some (.int x2), some (.ref p2)]) (S1 := []) (s1 := (l, r, h, j)) rfl c8 (fun _ _ => rfl) ?_
      refine g_run 1 89 [some (.ref a), some (.int x1), some (.int x2), some (.ref p2)] [.ref p2] (fun _ => rfl) ?_
      refine g_getA 92 rfl rfl (Pk_l kp2) (Pk_r11 kp2) ?_
      refine g_getI 95 rfl rfl (Rw_l (Pk_k11 kp2)) ?_
      cases e
      exact g_ret rfl (fun _ _ => rfl)
    replace e := (if_neg c8).symm.trans e
    by_cases c9 : x2 = (6 : Int32)
    · replace e := (if_pos c9).symm.trans e
      refine g_sw (p1 := 96) (L1 := [some (.ref a), some (.int x1), some (.int x2), some (.ref p2)]) (S1 := []) (s1 := (l, r, h, j)) rfl c9 (fun _ _ => rfl) ?_
      refine g_run 1 97 [some (.ref a), some (.int x1), some (.int x2), some (.ref p2)] [.ref p2] (fun _ => rfl) ?_
      refine g_getA 100 rfl rfl (Pk_l kp2) (Pk_r12 kp2) ?_
      refine g_getI 103 rfl rfl (Rw_l (Pk_k12 kp2)) ?_
      cases e
      exact g_ret rfl (fun _ _ => rfl)
    replace e := (if_neg c9).symm.trans e
    have ic3 : (Int32.toInt x2) ≠ 0 := g_ne c3
    have ic4 : (Int32.toInt x2) ≠ 1 := g_ne c4
    have ic5 : (Int32.toInt x2) ≠ 2 := g_ne c5
    have ic6 : (Int32.toInt x2) ≠ 3 := g_ne c6
    have ic7 : (Int32.toInt x2) ≠ 4 := g_ne c7
    have ic8 : (Int32.toInt x2) ≠ 5 := g_ne c8
    have ic9 : (Int32.toInt x2) ≠ 6 := g_ne c9
    refine g_swd (p1 := 104) (L1 := [some (.ref a), some (.int x1), some (.int x2), some (.ref p2)]) (S1 := []) (s1 := (l, r, h, j)) (x := x2) (lo := 0) (hi := 6) rfl (fun _ _ => rfl) (by omega) ?_
    refine g_run 2 107 [some (.ref a), some (.int x1), some (.int x2), some (.ref p2)] [.int (10 : Int32), .int x2] (fun _ => rfl) ?_
    refine g_if (p1 := 126) (L1 := [some (.ref a), some (.int x1), some (.int x2), some (.ref p2)]) (S1 := []) (s1 := (l, r, h, j)) (p2 := 110) (L2 := [some (.ref a), some (.int x1), some (.int x2), some (.ref p2)]) (S2 := []) (s2 := (l, r, h, j)) rfl (fun _ _ => rfl) e (fun c10 e => ?_) (fun c10 e => ?_)
    · refine g_run 1 127 [some (.ref a), some (.int x1), some (.int x2), some (.ref p2)] [.int (-1 : Int32)] (fun _ => rfl) ?_
      cases e
      exact g_ret rfl (fun _ _ => rfl)
    · refine g_run 2 113 [some (.ref a), some (.int x1), some (.int x2), some (.ref p2)] [.int (58 : Int32), .int x2] (fun _ => rfl) ?_
      refine g_if (p1 := 126) (L1 := [some (.ref a), some (.int x1), some (.int x2), some (.ref p2)]) (S1 := []) (s1 := (l, r, h, j)) (p2 := 116) (L2 := [some (.ref a), some (.int x1), some (.int x2), some (.ref p2)]) (S2 := []) (s2 := (l, r, h, j)) rfl (fun _ _ => rfl) e (fun c11 e => ?_) (fun c11 e => ?_)
      · refine g_run 1 127 [some (.ref a), some (.int x1), some (.int x2), some (.ref p2)] [.int (-1 : Int32)] (fun _ => rfl) ?_
        cases e
        exact g_ret rfl (fun _ _ => rfl)
      · refine g_run 1 117 [some (.ref a), some (.int x1), some (.int x2), some (.ref p2)] [.ref p2] (fun _ => rfl) ?_
        refine g_getA 120 rfl rfl (Pk_l kp2) (Pk_r4 kp2) ?_
        refine g_run 3 124 [some (.ref a), some (.int x1), some (.int x2), some (.ref p2)] [.int (x2 - (10 : Int32)), .ref (p2 + 1)] (fun _ => rfl) ?_
        obtain ⟨k12, ek12, e⟩ := g_bd e
        refine g_iald 125 rfl rfl (Pk_k4 kp2) ek12 ?_
        cases e
        exact g_ret rfl (fun _ _ => rfl)
def Wp_bench (l : List (Nat × Nat)) (r : am_R) (a : Nat) (x1 : Int32) (x2 : Int32) (x3 : Int32) (h : am_F) : Option (Int32) :=
  (Tl_parkAt l r (a + 1) x1 h).bind fun q1 =>
  g_on q1 (
    some (-2 : Int32)) (fun p2 =>
    if (Pk_hasBench p2 x2 h) = 0 then
      some (-2 : Int32)
    else
      if x3 = (0 : Int32) then
        (g_ix x2 6).bind fun k4 =>
        some (h (p2 + 3) k4)
      else if x3 = (1 : Int32) then
        (g_ix x2 6).bind fun k6 =>
        some (h (p2 + 4) k6)
      else if x3 = (2 : Int32) then
        (g_ix x2 6).bind fun k8 =>
        some (h (p2 + 5) k8)
      else if x3 = (3 : Int32) then
        (g_ix x2 6).bind fun k10 =>
        some (h (p2 + 6) k10)
      else 
        some (-2 : Int32))
theorem Wp_bench_s {X : Nat × (Nat → Int32)} {l : List (Nat × Nat)} {r : am_R} {h : am_F} {j : am_J} {a : Nat} {x1 : Int32} {x2 : Int32} {x3 : Int32} (ka : Wp_K l r a) {q : Int32} (e : Wp_bench l r a x1 x2 x3 h = some q) : Call X 116 [.ref a, .int x1, .int x2, .int x3] (l, r, h, j) (some (.int q), (l, r, h, j)) := by
  unfold Wp_bench at e
  refine ⟨Nat.le_of_ble_eq_true rfl, ?_⟩
  show Ev X 116 0 [some (.ref a), some (.int x1), some (.int x2), some (.int x3), none] [] (l, r, h, j) _
  refine g_run 1 1 [some (.ref a), some (.int x1), some (.int x2), some (.int x3), none] [.ref a] (fun _ => rfl) ?_
  refine g_getA 4 rfl rfl (Wp_l ka) (Wp_r0 ka) ?_
  refine g_run 1 5 [some (.ref a), some (.int x1), some (.int x2), some (.int x3), none] [.int x1, .ref (a + 1)] (fun _ => rfl) ?_
  obtain ⟨q1, eq1, e⟩ := g_bd e
  refine g_cV 8 rfl rfl rfl rfl rfl (Tl_l (Wp_k0 ka)) (Tl_parkAt_s (Wp_k0 ka) eq1) ?_
  refine g_run 1 10 [some (.ref a), some (.int x1), some (.int x2), some (.int x3), some (va_rf q1)] [] (fun _ => by generalize q1 = o90; cases o90 <;> rfl) ?_
  refine g_run 1 12 [some (.ref a), some (.int x1), some (.int x2), some (.int x3), some (va_rf q1)] [va_rf q1] (fun _ => by generalize q1 = o90; cases o90 <;> rfl) ?_
  cases q1 with
  | none =>
    replace e := g_onN e
    refine g_run 1 24 [some (.ref a), some (.int x1), some (.int x2), some (.int x3), some (.null)] [] (fun _ => rfl) ?_
    refine g_run 1 26 [some (.ref a), some (.int x1), some (.int x2), some (.int x3), some (.null)] [.int (-2 : Int32)] (fun _ => rfl) ?_
    cases e
    exact g_ret rfl (fun _ _ => rfl)
  | some p2 =>
    replace e := g_onS e
    have kp2 := Tl_parkAt_K (Wp_k0 ka) eq1
    refine g_run 1 15 [some (.ref a), some (.int x1), some (.int x2), some (.int x3), some (.ref p2)] [] (fun _ => rfl) ?_
    refine g_run 2 18 [some (.ref a), some (.int x1), some (.int x2), some (.int x3), some (.ref p2)] [.int x2, .ref p2] (fun _ => rfl) ?_
    refine g_cV 21 rfl rfl rfl rfl rfl (Pk_l kp2) (Pk_hasBench_s kp2) ?_
    refine g_if (p1 := 24) (L1 := [some (.ref a), some (.int x1), some (.int x2), some (.int x3), some (.ref p2)]) (S1 := []) (s1 := (l, r, h, j)) (p2 := 27) (L2 := [some (.ref a), some (.int x1), some (.int x2), some (.int x3), some (.ref p2)]) (S2 := []) (s2 := (l, r, h, j)) rfl (fun _ _ => rfl) e (fun c3 e => ?_) (fun c3 e => ?_)
    · refine g_run 1 26 [some (.ref a), some (.int x1), some (.int x2), some (.int x3), some (.ref p2)] [.int (-2 : Int32)] (fun _ => rfl) ?_
      cases e
      exact g_ret rfl (fun _ _ => rfl)
    · refine g_run 1 28 [some (.ref a), some (.int x1), some (.int x2), some (.int x3), some (.ref p2)] [.int x3] (fun _ => rfl) ?_
      by_cases c5 : x3 = (0 : Int32)
      · replace e := (if_pos c5).symm.trans e
        refine g_sw (p1 := 60) (L1 := [some (.ref a), some (.int x1), some (.int x2), some (.int x3), some (.ref p2)]) (S1 := []) (s1 := (l, r, h, j)) rfl c5 (fun _ _ => rfl) ?_
        refine g_run 1 62 [some (.ref a), some (.int x1), some (.int x2), some (.int x3), some (.ref p2)] [.ref p2] (fun _ => rfl) ?_
        refine g_getA 65 rfl rfl (Pk_l kp2) (Pk_r6 kp2) ?_
        refine g_run 1 66 [some (.ref a), some (.int x1), some (.int x2), some (.int x3), some (.ref p2)] [.int x2, .ref (p2 + 3)] (fun _ => rfl) ?_
        obtain ⟨k4, ek4, e⟩ := g_bd e
        refine g_iald 67 rfl rfl (Pk_k6 kp2) ek4 ?_
        cases e
        exact g_ret rfl (fun _ _ => rfl)
      replace e := (if_neg c5).symm.trans e
      by_cases c7 : x3 = (1 : Int32)
      · replace e := (if_pos c7).symm.trans e
        refine g_sw (p1 := 68) (L1 := [some (.ref a), some (.int x1), some (.int x2), some (.int x3), some (.ref p2)]) (S1 := []) (s1 := (l, r, h, j)) rfl c7 (fun _ _ => rfl) ?_
        refine g_run 1 70 [some (.ref a), some (.int x1), some (.int x2), some (.int x3), some (.ref p2)] [.ref p2] (fun _ => rfl) ?_
        refine g_getA 73 rfl rfl (Pk_l kp2) (Pk_r7 kp2) ?_
        refine g_run 1 74 [some (.ref a), some (.int x1), some (.int x2), some (.int x3), some (.ref p2)] [.int x2, .ref (p2 + 4)] (fun _ => rfl) ?_
        obtain ⟨k6, ek6, e⟩ := g_bd e
        refine g_iald 75 rfl rfl (Pk_k7 kp2) ek6 ?_
        cases e
        exact g_ret rfl (fun _ _ => rfl)
      replace e := (if_neg c7).symm.trans e
      by_cases c9 : x3 = (2 : Int32)
      · replace e := (if_pos c9).symm.trans e
        refine g_sw (p1 := 76) (L1 := [some (.ref a), some (.int x1), some (.int x2), some (.int x3), some (.ref p2)]) (S1 := []) (s1 := (l, r, h, j)) rfl c9 (fun _ _ => rfl) ?_
        refine g_run 1 78 [some (.ref a), some (.int x1), some (.int x2), some (.int x3), some (.ref p2)] [.ref p2] (fun _ => rfl) ?_
        refine g_getA 81 rfl rfl (Pk_l kp2) (Pk_r8 kp2) ?_
        refine g_run 1 82 [some (.ref a), some (.int x1), some (.int x2), some (.int x3), some (.ref p2)] [.int x2, .ref (p2 + 5)] (fun _ => rfl) ?_
        obtain ⟨k8, ek8, e⟩ := g_bd e
        refine g_iald 83 rfl rfl (Pk_k8 kp2) ek8 ?_
        cases e
        exact g_ret rfl (fun _ _ => rfl)
      replace e := (if_neg c9).symm.trans e
      by_cases c11 : x3 = (3 : Int32)
      · replace e := (if_pos c11).symm.trans e
        refine g_sw (p1 := 84) (L1 := [some (.ref a), some (.int x1), some (.int x2), some (.int x3), some (.ref p2)]) (S1 := []) (s1 := (l, r, h, j)) rfl c11 (fun _ _ => rfl) ?_
        refine g_run 1 86 [some (.ref a), some (.int x1), some (.int x2), some (.int x3), some (.ref p2)] [.ref p2] (fun _ => rfl) ?_
        refine g_getA 89 rfl rfl (Pk_l kp2) (Pk_r9 kp2) ?_
        refine g_run 1 90 [some (.ref a), some (.int x1), some (.int x2), some (.int x3), some (.ref p2)] [.int x2, .ref (p2 + 6)] (fun _ => rfl) ?_
        obtain ⟨k10, ek10, e⟩ := g_bd e
        refine g_iald 91 rfl rfl (Pk_k9 kp2) ek10 ?_
        cases e
        exact g_ret rfl (fun _ _ => rfl)
      replace e := (if_neg c11).symm.trans e
      have ic5 : (Int32.toInt x3) ≠ 0 := g_ne c5
      have ic7 : (Int32.toInt x3) ≠ 1 := g_ne c7
      have ic9 : (Int32.toInt x3) ≠ 2 := g_ne c9
      have ic11 : (Int32.toInt x3) ≠ 3 := g_ne c11
      refine g_swd (p1 := 92) (L1 := [some (.ref a), some (.int x1), some (.int x2), some (.int x3), some (.ref p2)]) (S1 := []) (s1 := (l, r, h, j)) (x := x3) (lo := 0) (hi := 3) rfl (fun _ _ => rfl) (by omega) ?_
      refine g_run 1 94 [some (.ref a), some (.int x1), some (.int x2), some (.int x3), some (.ref p2)] [.int (-2 : Int32)] (fun _ => rfl) ?_
      cases e
      exact g_ret rfl (fun _ _ => rfl)
def Wp_told (l : List (Nat × Nat)) (r : am_R) (a : Nat) (x1 : Int32) (x2 : Int32) (x3 : Int32) (x4 : Int32) (h : am_F) : Option (Int32) :=
  (Tl_parkAt l r (a + 1) x1 h).bind fun q1 =>
  g_on q1 (
    some (-1 : Int32)) (fun p2 =>
    if x2 = (0 : Int32) then
      (Rw_get l r (p2 + 7) x3 x4 h).bind fun q3 =>
      some q3
    else if x2 = (1 : Int32) then
      (Rw_get l r (p2 + 9) x3 x4 h).bind fun q5 =>
      some q5
    else if x2 = (2 : Int32) then
      (Rw_get l r (p2 + 11) x3 x4 h).bind fun q7 =>
      some q7
    else 
      some (-1 : Int32))
theorem Wp_told_s {X : Nat × (Nat → Int32)} {l : List (Nat × Nat)} {r : am_R} {h : am_F} {j : am_J} {a : Nat} {x1 : Int32} {x2 : Int32} {x3 : Int32} {x4 : Int32} (ka : Wp_K l r a) {q : Int32} (e : Wp_told l r a x1 x2 x3 x4 h = some q) : Call X 117 [.ref a, .int x1, .int x2, .int x3, .int x4] (l, r, h, j) (some (.int q), (l, r, h, j)) := by
  unfold Wp_told at e
  refine ⟨Nat.le_of_ble_eq_true rfl, ?_⟩
  show Ev X 117 0 [some (.ref a), some (.int x1), some (.int x2), some (.int x3), some (.int x4), none] [] (l, r, h, j) _
  refine g_run 1 1 [some (.ref a), some (.int x1), some (.int x2), some (.int x3), some (.int x4), none] [.ref a] (fun _ => rfl) ?_
  refine g_getA 4 rfl rfl (Wp_l ka) (Wp_r0 ka) ?_
  refine g_run 1 5 [some (.ref a), some (.int x1), some (.int x2), some (.int x3), some (.int x4), none] [.int x1, .ref (a + 1)] (fun _ => rfl) ?_
  obtain ⟨q1, eq1, e⟩ := g_bd e
  refine g_cV 8 rfl rfl rfl rfl rfl (Tl_l (Wp_k0 ka)) (Tl_parkAt_s (Wp_k0 ka) eq1) ?_
  refine g_run 1 10 [some (.ref a), some (.int x1), some (.int x2), some (.int x3), some (.int x4), some (va_rf q1)] [] (fun _ => by generalize q1 = o90; cases o90 <;> rfl) ?_
  refine g_run 1 12 [some (.ref a), some (.int x1), some (.int x2), some (.int x3), some (.int x4), some (va_rf q1)] [va_rf q1] (fun _ => by generalize q1 = o90; cases o90 <;> rfl) ?_
  cases q1 with
  | none =>
    replace e := g_onN e
    refine g_run 1 15 [some (.ref a), some (.int x1), some (.int x2), some (.int x3), some (.int x4), some (.null)] [] (fun _ => rfl) ?_
    refine g_run 1 16 [some (.ref a), some (.int x1), some (.int x2), some (.int x3), some (.int x4), some (.null)] [.int (-1 : Int32)] (fun _ => rfl) ?_
    cases e
    exact g_ret rfl (fun _ _ => rfl)
  | some p2 =>
    replace e := g_onS e
    have kp2 := Tl_parkAt_K (Wp_k0 ka) eq1
    refine g_run 1 17 [some (.ref a), some (.int x1), some (.int x2), some (.int x3), some (.int x4), some (.ref p2)] [] (fun _ => rfl) ?_
    refine g_run 1 18 [some (.ref a), some (.int x1), some (.int x2), some (.int x3), some (.int x4), some (.ref p2)] [.int x2] (fun _ => rfl) ?_
    by_cases c4 : x2 = (0 : Int32)
    · replace e := (if_pos c4).symm.trans e
      refine g_sw (p1 := 44) (L1 := [some (.ref a), some (.int x1), some (.int x2), some (.int x3), some (.int x4), some (.ref p2)]) (S1 := []) (s1 := (l, r, h, j)) rfl c4 (fun _ _ => rfl) ?_
      refine g_run 1 46 [some (.ref a), some (.int x1), some (.int x2), some (.int x3), some (.int x4), some (.ref p2)] [.ref p2] (fun _ => rfl) ?_
      refine g_getA 49 rfl rfl (Pk_l kp2) (Pk_r10 kp2) ?_
      refine g_run 2 52 [some (.ref a), some (.int x1), some (.int x2), some (.int x3), some (.int x4), some (.ref p2)] [.int x4, .int x3, .ref (p2 + 7)] (fun _ => rfl) ?_
      obtain ⟨q3, eq3, e⟩ := g_bd e
      refine g_cV 55 rfl rfl rfl rfl rfl (Rw_l (Pk_k10 kp2)) (Rw_get_s (Pk_k10 kp2) eq3) ?_
      cases e
      exact g_ret rfl (fun _ _ => rfl)
    replace e := (if_neg c4).symm.trans e
    by_cases c6 : x2 = (1 : Int32)
    · replace e := (if_pos c6).symm.trans e
      refine g_sw (p1 := 56) (L1 := [some (.ref a), some (.int x1), some (.int x2), some (.int x3), some (.int x4), some (.ref p2)]) (S1 := []) (s1 := (l, r, h, j)) rfl c6 (fun _ _ => rfl) ?_
      refine g_run 1 58 [some (.ref a), some (.int x1), some (.int x2), some (.int x3), some (.int x4), some (.ref p2)] [.ref p2] (fun _ => rfl) ?_
      refine g_getA 61 rfl rfl (Pk_l kp2) (Pk_r11 kp2) ?_
      refine g_run 2 64 [some (.ref a), some (.int x1), some (.int x2), some (.int x3), some (.int x4), some (.ref p2)] [.int x4, .int x3, .ref (p2 + 9)] (fun _ => rfl) ?_
      obtain ⟨q5, eq5, e⟩ := g_bd e
      refine g_cV 67 rfl rfl rfl rfl rfl (Rw_l (Pk_k11 kp2)) (Rw_get_s (Pk_k11 kp2) eq5) ?_
      cases e
      exact g_ret rfl (fun _ _ => rfl)
    replace e := (if_neg c6).symm.trans e
    by_cases c8 : x2 = (2 : Int32)
    · replace e := (if_pos c8).symm.trans e
      refine g_sw (p1 := 68) (L1 := [some (.ref a), some (.int x1), some (.int x2), some (.int x3), some (.int x4), some (.ref p2)]) (S1 := []) (s1 := (l, r, h, j)) rfl c8 (fun _ _ => rfl) ?_
      refine g_run 1 70 [some (.ref a), some (.int x1), some (.int x2), some (.int x3), some (.int x4), some (.ref p2)] [.ref p2] (fun _ => rfl) ?_
      refine g_getA 73 rfl rfl (Pk_l kp2) (Pk_r12 kp2) ?_
      refine g_run 2 76 [some (.ref a), some (.int x1), some (.int x2), some (.int x3), some (.int x4), some (.ref p2)] [.int x4, .int x3, .ref (p2 + 11)] (fun _ => rfl) ?_
      obtain ⟨q7, eq7, e⟩ := g_bd e
      refine g_cV 79 rfl rfl rfl rfl rfl (Rw_l (Pk_k12 kp2)) (Rw_get_s (Pk_k12 kp2) eq7) ?_
      cases e
      exact g_ret rfl (fun _ _ => rfl)
    replace e := (if_neg c8).symm.trans e
    have ic4 : (Int32.toInt x2) ≠ 0 := g_ne c4
    have ic6 : (Int32.toInt x2) ≠ 1 := g_ne c6
    have ic8 : (Int32.toInt x2) ≠ 2 := g_ne c8
    refine g_swd (p1 := 80) (L1 := [some (.ref a), some (.int x1), some (.int x2), some (.int x3), some (.int x4), some (.ref p2)]) (S1 := []) (s1 := (l, r, h, j)) (x := x2) (lo := 0) (hi := 2) rfl (fun _ _ => rfl) (by omega) ?_
    refine g_run 1 81 [some (.ref a), some (.int x1), some (.int x2), some (.int x3), some (.int x4), some (.ref p2)] [.int (-1 : Int32)] (fun _ => rfl) ?_
    cases e
    exact g_ret rfl (fun _ _ => rfl)
def Wp_isHour (x0 : Int32) : Int32 :=
  if x0 < 0 then
    (0 : Int32)
  else
    if (48 : Int32) ≤ x0 then
      (0 : Int32)
    else
      (1 : Int32)
theorem Wp_isHour_s {X : Nat × (Nat → Int32)} {l : List (Nat × Nat)} {r : am_R} {h : am_F} {j : am_J} {x0 : Int32}  : Call X 140 [.int x0] (l, r, h, j) (some (.int (Wp_isHour x0)), (l, r, h, j)) := by
  generalize e : Wp_isHour x0 = q
  unfold Wp_isHour at e
  refine ⟨Nat.le_of_ble_eq_true rfl, ?_⟩
  show Ev X 140 0 [some (.int x0)] [] (l, r, h, j) _
  refine g_run 1 1 [some (.int x0)] [.int x0] (fun _ => rfl) ?_
  refine g_if (p1 := 14) (L1 := [some (.int x0)]) (S1 := []) (s1 := (l, r, h, j)) (p2 := 4) (L2 := [some (.int x0)]) (S2 := []) (s2 := (l, r, h, j)) rfl (fun _ _ => rfl) e (fun c1 e => ?_) (fun c1 e => ?_)
  · refine g_run 1 15 [some (.int x0)] [.int (0 : Int32)] (fun _ => rfl) ?_
    cases e
    exact g_retZ rfl (y := (0 : Int32)) rfl rfl
  · refine g_run 2 7 [some (.int x0)] [.int (48 : Int32), .int x0] (fun _ => rfl) ?_
    refine g_if (p1 := 14) (L1 := [some (.int x0)]) (S1 := []) (s1 := (l, r, h, j)) (p2 := 10) (L2 := [some (.int x0)]) (S2 := []) (s2 := (l, r, h, j)) rfl (fun _ _ => rfl) e (fun c2 e => ?_) (fun c2 e => ?_)
    · refine g_run 1 15 [some (.int x0)] [.int (0 : Int32)] (fun _ => rfl) ?_
      cases e
      exact g_retZ rfl (y := (0 : Int32)) rfl rfl
    · refine g_run 2 15 [some (.int x0)] [.int (1 : Int32)] (fun _ => rfl) ?_
      cases e
      exact g_retZ rfl (y := (1 : Int32)) rfl rfl
def Wp_wet (l : List (Nat × Nat)) (r : am_R) (a : Nat) (x1 : Int32) (x2 : Int32) (x3 : Int32) (x4 : Int32) (h : am_F) : Option (Int32) :=
  (Tl_parkAt l r (a + 1) x1 h).bind fun q1 =>
  g_on q1 (
    some (-1 : Int32)) (fun p2 =>
    if (Pk_hasBench p2 x2 h) = 0 then
      some (-1 : Int32)
    else
      if (Wp_isHour x3) = 0 then
        some (-1 : Int32)
      else
        if x4 = (0 : Int32) then
          (g_ix x2 6).bind fun k5 =>
          (Pk_wetness p2 (h (p2 + 4) k5) x3 h).bind fun q6 =>
          some q6
        else if x4 = (1 : Int32) then
          (Pk_stageOf p2 x2 x3 h).bind fun q8 =>
          some q8
        else if x4 = (2 : Int32) then
          (g_ix x2 6).bind fun k10 =>
          (Pk_dries p2 (h (p2 + 4) k10) h).bind fun q11 =>
          some q11
        else 
          some (-1 : Int32))
theorem Wp_wet_s {X : Nat × (Nat → Int32)} {l : List (Nat × Nat)} {r : am_R} {h : am_F} {j : am_J} {a : Nat} {x1 : Int32} {x2 : Int32} {x3 : Int32} {x4 : Int32} (ka : Wp_K l r a) {q : Int32} (e : Wp_wet l r a x1 x2 x3 x4 h = some q) : Call X 118 [.ref a, .int x1, .int x2, .int x3, .int x4] (l, r, h, j) (some (.int q), (l, r, h, j)) := by
  unfold Wp_wet at e
  refine ⟨Nat.le_of_ble_eq_true rfl, ?_⟩
  show Ev X 118 0 [some (.ref a), some (.int x1), some (.int x2), some (.int x3), some (.int x4), none] [] (l, r, h, j) _
  refine g_run 1 1 [some (.ref a), some (.int x1), some (.int x2), some (.int x3), some (.int x4), none] [.ref a] (fun _ => rfl) ?_
  refine g_getA 4 rfl rfl (Wp_l ka) (Wp_r0 ka) ?_
  refine g_run 1 5 [some (.ref a), some (.int x1), some (.int x2), some (.int x3), some (.int x4), none] [.int x1, .ref (a + 1)] (fun _ => rfl) ?_
  obtain ⟨q1, eq1, e⟩ := g_bd e
  refine g_cV 8 rfl rfl rfl rfl rfl (Tl_l (Wp_k0 ka)) (Tl_parkAt_s (Wp_k0 ka) eq1) ?_
  refine g_run 1 10 [some (.ref a), some (.int x1), some (.int x2), some (.int x3), some (.int x4), some (va_rf q1)] [] (fun _ => by generalize q1 = o90; cases o90 <;> rfl) ?_
  refine g_run 1 12 [some (.ref a), some (.int x1), some (.int x2), some (.int x3), some (.int x4), some (va_rf q1)] [va_rf q1] (fun _ => by generalize q1 = o90; cases o90 <;> rfl) ?_
  cases q1 with
  | none =>
    replace e := g_onN e
    refine g_run 1 31 [some (.ref a), some (.int x1), some (.int x2), some (.int x3), some (.int x4), some (.null)] [] (fun _ => rfl) ?_
    refine g_run 1 32 [some (.ref a), some (.int x1), some (.int x2), some (.int x3), some (.int x4), some (.null)] [.int (-1 : Int32)] (fun _ => rfl) ?_
    cases e
    exact g_ret rfl (fun _ _ => rfl)
  | some p2 =>
    replace e := g_onS e
    have kp2 := Tl_parkAt_K (Wp_k0 ka) eq1
    refine g_run 1 15 [some (.ref a), some (.int x1), some (.int x2), some (.int x3), some (.int x4), some (.ref p2)] [] (fun _ => rfl) ?_
    refine g_run 2 18 [some (.ref a), some (.int x1), some (.int x2), some (.int x3), some (.int x4), some (.ref p2)] [.int x2, .ref p2] (fun _ => rfl) ?_
    refine g_cV 21 rfl rfl rfl rfl rfl (Pk_l kp2) (Pk_hasBench_s kp2) ?_
    refine g_if (p1 := 31) (L1 := [some (.ref a), some (.int x1), some (.int x2), some (.int x3), some (.int x4), some (.ref p2)]) (S1 := []) (s1 := (l, r, h, j)) (p2 := 24) (L2 := [some (.ref a), some (.int x1), some (.int x2), some (.int x3), some (.int x4), some (.ref p2)]) (S2 := []) (s2 := (l, r, h, j)) rfl (fun _ _ => rfl) e (fun c3 e => ?_) (fun c3 e => ?_)
    · refine g_run 1 32 [some (.ref a), some (.int x1), some (.int x2), some (.int x3), some (.int x4), some (.ref p2)] [.int (-1 : Int32)] (fun _ => rfl) ?_
      cases e
      exact g_ret rfl (fun _ _ => rfl)
    · refine g_run 1 25 [some (.ref a), some (.int x1), some (.int x2), some (.int x3), some (.int x4), some (.ref p2)] [.int x3] (fun _ => rfl) ?_
      refine g_cS 28 rfl rfl (by decide) rfl rfl rfl Wp_isHour_s ?_
      refine g_if (p1 := 31) (L1 := [some (.ref a), some (.int x1), some (.int x2), some (.int x3), some (.int x4), some (.ref p2)]) (S1 := []) (s1 := (l, r, h, j)) (p2 := 33) (L2 := [some (.ref a), some (.int x1), some (.int x2), some (.int x3), some (.int x4), some (.ref p2)]) (S2 := []) (s2 := (l, r, h, j)) rfl (fun _ _ => rfl) e (fun c4 e => ?_) (fun c4 e => ?_)
      · refine g_run 1 32 [some (.ref a), some (.int x1), some (.int x2), some (.int x3), some (.int x4), some (.ref p2)] [.int (-1 : Int32)] (fun _ => rfl) ?_
        cases e
        exact g_ret rfl (fun _ _ => rfl)
      · refine g_run 1 35 [some (.ref a), some (.int x1), some (.int x2), some (.int x3), some (.int x4), some (.ref p2)] [.int x4] (fun _ => rfl) ?_
        by_cases c7 : x4 = (0 : Int32)
        · replace e := (if_pos c7).symm.trans e
          refine g_sw (p1 := 60) (L1 := [some (.ref a), some (.int x1), some (.int x2), some (.int x3), some (.int x4), some (.ref p2)]) (S1 := []) (s1 := (l, r, h, j)) rfl c7 (fun _ _ => rfl) ?_
          refine g_run 2 64 [some (.ref a), some (.int x1), some (.int x2), some (.int x3), some (.int x4), some (.ref p2)] [.ref p2, .ref p2] (fun _ => rfl) ?_
          refine g_getA 67 rfl rfl (Pk_l kp2) (Pk_r7 kp2) ?_
          refine g_run 1 68 [some (.ref a), some (.int x1), some (.int x2), some (.int x3), some (.int x4), some (.ref p2)] [.int x2, .ref (p2 + 4), .ref p2] (fun _ => rfl) ?_
          obtain ⟨k5, ek5, e⟩ := g_bd e
          refine g_iald 69 rfl rfl (Pk_k7 kp2) ek5 ?_
          refine g_run 1 70 [some (.ref a), some (.int x1), some (.int x2), some (.int x3), some (.int x4), some (.ref p2)] [.int x3, .int (h (p2 + 4) k5), .ref p2] (fun _ => rfl) ?_
          obtain ⟨q6, eq6, e⟩ := g_bd e
          refine g_cV 73 rfl rfl rfl rfl rfl (Pk_l kp2) (Pk_wetness_s kp2 eq6) ?_
          cases e
          exact g_ret rfl (fun _ _ => rfl)
        replace e := (if_neg c7).symm.trans e
        by_cases c9 : x4 = (1 : Int32)
        · replace e := (if_pos c9).symm.trans e
          refine g_sw (p1 := 74) (L1 := [some (.ref a), some (.int x1), some (.int x2), some (.int x3), some (.int x4), some (.ref p2)]) (S1 := []) (s1 := (l, r, h, j)) rfl c9 (fun _ _ => rfl) ?_
          refine g_run 3 78 [some (.ref a), some (.int x1), some (.int x2), some (.int x3), some (.int x4), some (.ref p2)] [.int x3, .int x2, .ref p2] (fun _ => rfl) ?_
          obtain ⟨q8, eq8, e⟩ := g_bd e
          refine g_cV 81 rfl rfl rfl rfl rfl (Pk_l kp2) (Pk_stageOf_s kp2 eq8) ?_
          cases e
          exact g_ret rfl (fun _ _ => rfl)
        replace e := (if_neg c9).symm.trans e
        by_cases c12 : x4 = (2 : Int32)
        · replace e := (if_pos c12).symm.trans e
          refine g_sw (p1 := 82) (L1 := [some (.ref a), some (.int x1), some (.int x2), some (.int x3), some (.int x4), some (.ref p2)]) (S1 := []) (s1 := (l, r, h, j)) rfl c12 (fun _ _ => rfl) ?_
          refine g_run 2 86 [some (.ref a), some (.int x1), some (.int x2), some (.int x3), some (.int x4), some (.ref p2)] [.ref p2, .ref p2] (fun _ => rfl) ?_
          refine g_getA 89 rfl rfl (Pk_l kp2) (Pk_r7 kp2) ?_
          refine g_run 1 90 [some (.ref a), some (.int x1), some (.int x2), some (.int x3), some (.int x4), some (.ref p2)] [.int x2, .ref (p2 + 4), .ref p2] (fun _ => rfl) ?_
          obtain ⟨k10, ek10, e⟩ := g_bd e
          refine g_iald 91 rfl rfl (Pk_k7 kp2) ek10 ?_
          obtain ⟨q11, eq11, e⟩ := g_bd e
          refine g_cV 94 rfl rfl rfl rfl rfl (Pk_l kp2) (Pk_dries_s kp2 eq11) ?_
          cases e
          exact g_ret rfl (fun _ _ => rfl)
        replace e := (if_neg c12).symm.trans e
        have ic7 : (Int32.toInt x4) ≠ 0 := g_ne c7
        have ic9 : (Int32.toInt x4) ≠ 1 := g_ne c9
        have ic12 : (Int32.toInt x4) ≠ 2 := g_ne c12
        refine g_swd (p1 := 95) (L1 := [some (.ref a), some (.int x1), some (.int x2), some (.int x3), some (.int x4), some (.ref p2)]) (S1 := []) (s1 := (l, r, h, j)) (x := x4) (lo := 0) (hi := 2) rfl (fun _ _ => rfl) (by omega) ?_
        refine g_run 1 96 [some (.ref a), some (.int x1), some (.int x2), some (.int x3), some (.int x4), some (.ref p2)] [.int (-1 : Int32)] (fun _ => rfl) ?_
        cases e
        exact g_ret rfl (fun _ _ => rfl)
def Wp_did (l : List (Nat × Nat)) (r : am_R) (a : Nat) (x1 : Int32) (x2 : Int32) (x3 : Int32) (h : am_F) : Option (Int32 × am_F) :=
  (Tl_parkAt l r (a + 1) x1 h).bind fun q1 =>
  g_on q1 (
    some ((-1 : Int32), h)) (fun p2 =>
    (Dy_forget (a + 66) h).bind fun q3 =>
    (Dy_goThrough l r (a + 66) p2 q3).bind fun q4 =>
    (Rw_get l r ((a + 66) + 1) x2 x3 q4).bind fun q5 =>
    some (q5, q4))
theorem Wp_did_s {X : Nat × (Nat → Int32)} {l : List (Nat × Nat)} {r : am_R} {h : am_F} {j : am_J} {a : Nat} {x1 : Int32} {x2 : Int32} {x3 : Int32} (ka : Wp_K l r a) {q : Int32 × am_F} (e : Wp_did l r a x1 x2 x3 h = some q) : Call X 119 [.ref a, .int x1, .int x2, .int x3] (l, r, h, j) (some (.int q.1), (l, r, q.2, j)) := by
  unfold Wp_did at e
  refine ⟨Nat.le_of_ble_eq_true rfl, ?_⟩
  show Ev X 119 0 [some (.ref a), some (.int x1), some (.int x2), some (.int x3), none] [] (l, r, h, j) _
  refine g_run 1 1 [some (.ref a), some (.int x1), some (.int x2), some (.int x3), none] [.ref a] (fun _ => rfl) ?_
  refine g_getA 4 rfl rfl (Wp_l ka) (Wp_r0 ka) ?_
  refine g_run 1 5 [some (.ref a), some (.int x1), some (.int x2), some (.int x3), none] [.int x1, .ref (a + 1)] (fun _ => rfl) ?_
  obtain ⟨q1, eq1, e⟩ := g_bd e
  refine g_cV 8 rfl rfl rfl rfl rfl (Tl_l (Wp_k0 ka)) (Tl_parkAt_s (Wp_k0 ka) eq1) ?_
  refine g_run 1 10 [some (.ref a), some (.int x1), some (.int x2), some (.int x3), some (va_rf q1)] [] (fun _ => by generalize q1 = o90; cases o90 <;> rfl) ?_
  refine g_run 1 12 [some (.ref a), some (.int x1), some (.int x2), some (.int x3), some (va_rf q1)] [va_rf q1] (fun _ => by generalize q1 = o90; cases o90 <;> rfl) ?_
  cases q1 with
  | none =>
    replace e := g_onN e
    refine g_run 1 15 [some (.ref a), some (.int x1), some (.int x2), some (.int x3), some (.null)] [] (fun _ => rfl) ?_
    refine g_run 1 16 [some (.ref a), some (.int x1), some (.int x2), some (.int x3), some (.null)] [.int (-1 : Int32)] (fun _ => rfl) ?_
    cases e
    exact g_ret rfl (fun _ _ => rfl)
  | some p2 =>
    replace e := g_onS e
    have kp2 := Tl_parkAt_K (Wp_k0 ka) eq1
    refine g_run 1 17 [some (.ref a), some (.int x1), some (.int x2), some (.int x3), some (.ref p2)] [] (fun _ => rfl) ?_
    refine g_run 1 18 [some (.ref a), some (.int x1), some (.int x2), some (.int x3), some (.ref p2)] [.ref a] (fun _ => rfl) ?_
    refine g_getA 21 rfl rfl (Wp_l ka) (Wp_r3 ka) ?_
    obtain ⟨q3, eq3, e⟩ := g_bd e
    refine g_cVv 24 rfl rfl rfl rfl rfl (Dy_l (Wp_k3 ka)) (Dy_forget_s (Wp_k3 ka) eq3) ?_
    refine g_run 1 25 [some (.ref a), some (.int x1), some (.int x2), some (.int x3), some (.ref p2)] [.ref a] (fun _ => rfl) ?_
    refine g_getA 28 rfl rfl (Wp_l ka) (Wp_r3 ka) ?_
    refine g_run 1 30 [some (.ref a), some (.int x1), some (.int x2), some (.int x3), some (.ref p2)] [.ref p2, .ref (a + 66)] (fun _ => rfl) ?_
    obtain ⟨q4, eq4, e⟩ := g_bd e
    refine g_cVv 33 rfl rfl rfl rfl rfl (Dy_l (Wp_k3 ka)) (Dy_goThrough_s (Wp_k3 ka) kp2 eq4) ?_
    refine g_run 1 34 [some (.ref a), some (.int x1), some (.int x2), some (.int x3), some (.ref p2)] [.ref a] (fun _ => rfl) ?_
    refine g_getA 37 rfl rfl (Wp_l ka) (Wp_r3 ka) ?_
    refine g_getA 40 rfl rfl (Dy_l (Wp_k3 ka)) (Dy_r3 (Wp_k3 ka)) ?_
    refine g_run 2 42 [some (.ref a), some (.int x1), some (.int x2), some (.int x3), some (.ref p2)] [.int x3, .int x2, .ref ((a + 66) + 1)] (fun _ => rfl) ?_
    obtain ⟨q5, eq5, e⟩ := g_bd e
    refine g_cV 45 rfl rfl rfl rfl rfl (Rw_l (Dy_k3 (Wp_k3 ka))) (Rw_get_s (Dy_k3 (Wp_k3 ka)) eq5) ?_
    cases e
    exact g_ret rfl (fun _ _ => rfl)
def Wp_day (l : List (Nat × Nat)) (r : am_R) (a : Nat) (x1 : Int32) (x2 : Int32) (h : am_F) : Option (Int32 × am_F) :=
  (Tl_parkAt l r (a + 1) x1 h).bind fun q1 =>
  g_on q1 (
    some ((-1 : Int32), h)) (fun p2 =>
    (Dy_forget (a + 66) h).bind fun q3 =>
    (Dy_goThrough l r (a + 66) p2 q3).bind fun q4 =>
    (Dy_sum l r (a + 66) x2 (q4 p2 3) q4).bind fun q5 =>
    some (q5, q4))
theorem Wp_day_s {X : Nat × (Nat → Int32)} {l : List (Nat × Nat)} {r : am_R} {h : am_F} {j : am_J} {a : Nat} {x1 : Int32} {x2 : Int32} (ka : Wp_K l r a) {q : Int32 × am_F} (e : Wp_day l r a x1 x2 h = some q) : Call X 120 [.ref a, .int x1, .int x2] (l, r, h, j) (some (.int q.1), (l, r, q.2, j)) := by
  unfold Wp_day at e
  refine ⟨Nat.le_of_ble_eq_true rfl, ?_⟩
  show Ev X 120 0 [some (.ref a), some (.int x1), some (.int x2), none] [] (l, r, h, j) _
  refine g_run 1 1 [some (.ref a), some (.int x1), some (.int x2), none] [.ref a] (fun _ => rfl) ?_
  refine g_getA 4 rfl rfl (Wp_l ka) (Wp_r0 ka) ?_
  refine g_run 1 5 [some (.ref a), some (.int x1), some (.int x2), none] [.int x1, .ref (a + 1)] (fun _ => rfl) ?_
  obtain ⟨q1, eq1, e⟩ := g_bd e
  refine g_cV 8 rfl rfl rfl rfl rfl (Tl_l (Wp_k0 ka)) (Tl_parkAt_s (Wp_k0 ka) eq1) ?_
  refine g_run 1 9 [some (.ref a), some (.int x1), some (.int x2), some (va_rf q1)] [] (fun _ => by generalize q1 = o90; cases o90 <;> rfl) ?_
  refine g_run 1 10 [some (.ref a), some (.int x1), some (.int x2), some (va_rf q1)] [va_rf q1] (fun _ => by generalize q1 = o90; cases o90 <;> rfl) ?_
  cases q1 with
  | none =>
    replace e := g_onN e
    refine g_run 1 13 [some (.ref a), some (.int x1), some (.int x2), some (.null)] [] (fun _ => rfl) ?_
    refine g_run 1 14 [some (.ref a), some (.int x1), some (.int x2), some (.null)] [.int (-1 : Int32)] (fun _ => rfl) ?_
    cases e
    exact g_ret rfl (fun _ _ => rfl)
  | some p2 =>
    replace e := g_onS e
    have kp2 := Tl_parkAt_K (Wp_k0 ka) eq1
    refine g_run 1 15 [some (.ref a), some (.int x1), some (.int x2), some (.ref p2)] [] (fun _ => rfl) ?_
    refine g_run 1 16 [some (.ref a), some (.int x1), some (.int x2), some (.ref p2)] [.ref a] (fun _ => rfl) ?_
    refine g_getA 19 rfl rfl (Wp_l ka) (Wp_r3 ka) ?_
    obtain ⟨q3, eq3, e⟩ := g_bd e
    refine g_cVv 22 rfl rfl rfl rfl rfl (Dy_l (Wp_k3 ka)) (Dy_forget_s (Wp_k3 ka) eq3) ?_
    refine g_run 1 23 [some (.ref a), some (.int x1), some (.int x2), some (.ref p2)] [.ref a] (fun _ => rfl) ?_
    refine g_getA 26 rfl rfl (Wp_l ka) (Wp_r3 ka) ?_
    refine g_run 1 27 [some (.ref a), some (.int x1), some (.int x2), some (.ref p2)] [.ref p2, .ref (a + 66)] (fun _ => rfl) ?_
    obtain ⟨q4, eq4, e⟩ := g_bd e
    refine g_cVv 30 rfl rfl rfl rfl rfl (Dy_l (Wp_k3 ka)) (Dy_goThrough_s (Wp_k3 ka) kp2 eq4) ?_
    refine g_run 1 31 [some (.ref a), some (.int x1), some (.int x2), some (.ref p2)] [.ref a] (fun _ => rfl) ?_
    refine g_getA 34 rfl rfl (Wp_l ka) (Wp_r3 ka) ?_
    refine g_run 2 36 [some (.ref a), some (.int x1), some (.int x2), some (.ref p2)] [.ref p2, .int x2, .ref (a + 66)] (fun _ => rfl) ?_
    refine g_getI 39 rfl rfl (Pk_l kp2) ?_
    obtain ⟨q5, eq5, e⟩ := g_bd e
    refine g_cV 42 rfl rfl rfl rfl rfl (Dy_l (Wp_k3 ka)) (Dy_sum_s (Wp_k3 ka) eq5) ?_
    cases e
    exact g_ret rfl (fun _ _ => rfl)
def Wp_hang (l : List (Nat × Nat)) (r : am_R) (a : Nat) (x1 : Int32) (x2 : Int32) (x3 : Int32) (h : am_F) : Option (Int32 × am_F) :=
  (Tl_parkAt l r (a + 1) x1 h).bind fun q1 =>
  g_on q1 (
    some ((-2 : Int32), h)) (fun p2 =>
    if (Pk_hasBench p2 x2 h) = 0 then
      some ((-2 : Int32), h)
    else
      (Tr_hangCard l r (a + 76) p2 x2 h).bind fun q4 =>
      if x3 = 0 then
        some ((q4 (a + 76) 1), q4)
      else
        some ((q4 (a + 76) 0), q4))
theorem Wp_hang_s {X : Nat × (Nat → Int32)} {l : List (Nat × Nat)} {r : am_R} {h : am_F} {j : am_J} {a : Nat} {x1 : Int32} {x2 : Int32} {x3 : Int32} (ka : Wp_K l r a) {q : Int32 × am_F} (e : Wp_hang l r a x1 x2 x3 h = some q) : Call X 121 [.ref a, .int x1, .int x2, .int x3] (l, r, h, j) (some (.int q.1), (l, r, q.2, j)) := by
  unfold Wp_hang at e
  refine ⟨Nat.le_of_ble_eq_true rfl, ?_⟩
  show Ev X 121 0 [some (.ref a), some (.int x1), some (.int x2), some (.int x3), none] [] (l, r, h, j) _
  refine g_run 1 1 [some (.ref a), some (.int x1), some (.int x2), some (.int x3), none] [.ref a] (fun _ => rfl) ?_
  refine g_getA 4 rfl rfl (Wp_l ka) (Wp_r0 ka) ?_
  refine g_run 1 5 [some (.ref a), some (.int x1), some (.int x2), some (.int x3), none] [.int x1, .ref (a + 1)] (fun _ => rfl) ?_
  obtain ⟨q1, eq1, e⟩ := g_bd e
  refine g_cV 8 rfl rfl rfl rfl rfl (Tl_l (Wp_k0 ka)) (Tl_parkAt_s (Wp_k0 ka) eq1) ?_
  refine g_run 1 10 [some (.ref a), some (.int x1), some (.int x2), some (.int x3), some (va_rf q1)] [] (fun _ => by generalize q1 = o90; cases o90 <;> rfl) ?_
  refine g_run 1 12 [some (.ref a), some (.int x1), some (.int x2), some (.int x3), some (va_rf q1)] [va_rf q1] (fun _ => by generalize q1 = o90; cases o90 <;> rfl) ?_
  cases q1 with
  | none =>
    replace e := g_onN e
    refine g_run 1 24 [some (.ref a), some (.int x1), some (.int x2), some (.int x3), some (.null)] [] (fun _ => rfl) ?_
    refine g_run 1 26 [some (.ref a), some (.int x1), some (.int x2), some (.int x3), some (.null)] [.int (-2 : Int32)] (fun _ => rfl) ?_
    cases e
    exact g_ret rfl (fun _ _ => rfl)
  | some p2 =>
    replace e := g_onS e
    have kp2 := Tl_parkAt_K (Wp_k0 ka) eq1
    refine g_run 1 15 [some (.ref a), some (.int x1), some (.int x2), some (.int x3), some (.ref p2)] [] (fun _ => rfl) ?_
    refine g_run 2 18 [some (.ref a), some (.int x1), some (.int x2), some (.int x3), some (.ref p2)] [.int x2, .ref p2] (fun _ => rfl) ?_
    refine g_cV 21 rfl rfl rfl rfl rfl (Pk_l kp2) (Pk_hasBench_s kp2) ?_
    refine g_if (p1 := 24) (L1 := [some (.ref a), some (.int x1), some (.int x2), some (.int x3), some (.ref p2)]) (S1 := []) (s1 := (l, r, h, j)) (p2 := 27) (L2 := [some (.ref a), some (.int x1), some (.int x2), some (.int x3), some (.ref p2)]) (S2 := []) (s2 := (l, r, h, j)) rfl (fun _ _ => rfl) e (fun c3 e => ?_) (fun c3 e => ?_)
    · refine g_run 1 26 [some (.ref a), some (.int x1), some (.int x2), some (.int x3), some (.ref p2)] [.int (-2 : Int32)] (fun _ => rfl) ?_
      cases e
      exact g_ret rfl (fun _ _ => rfl)
    · refine g_run 1 28 [some (.ref a), some (.int x1), some (.int x2), some (.int x3), some (.ref p2)] [.ref a] (fun _ => rfl) ?_
      refine g_getA 31 rfl rfl (Wp_l ka) (Wp_r4 ka) ?_
      refine g_run 2 34 [some (.ref a), some (.int x1), some (.int x2), some (.int x3), some (.ref p2)] [.int x2, .ref p2, .ref (a + 76)] (fun _ => rfl) ?_
      obtain ⟨q4, eq4, e⟩ := g_bd e
      refine g_cVv 37 rfl rfl rfl rfl rfl (Tr_l (Wp_k4 ka)) (Tr_hangCard_s (Wp_k4 ka) kp2 eq4) ?_
      refine g_run 1 38 [some (.ref a), some (.int x1), some (.int x2), some (.int x3), some (.ref p2)] [.int x3] (fun _ => rfl) ?_
      refine g_if (p1 := 51) (L1 := [some (.ref a), some (.int x1), some (.int x2), some (.int x3), some (.ref p2)]) (S1 := []) (s1 := (l, r, q4, j)) (p2 := 41) (L2 := [some (.ref a), some (.int x1), some (.int x2), some (.int x3), some (.ref p2)]) (S2 := []) (s2 := (l, r, q4, j)) rfl (fun _ _ => rfl) e (fun c5 e => ?_) (fun c5 e => ?_)
      · refine g_run 1 52 [some (.ref a), some (.int x1), some (.int x2), some (.int x3), some (.ref p2)] [.ref a] (fun _ => rfl) ?_
        refine g_getA 55 rfl rfl (Wp_l ka) (Wp_r4 ka) ?_
        refine g_getI 58 rfl rfl (Tr_l (Wp_k4 ka)) ?_
        cases e
        exact g_ret rfl (fun _ _ => rfl)
      · refine g_run 1 42 [some (.ref a), some (.int x1), some (.int x2), some (.int x3), some (.ref p2)] [.ref a] (fun _ => rfl) ?_
        refine g_getA 45 rfl rfl (Wp_l ka) (Wp_r4 ka) ?_
        refine g_getI 48 rfl rfl (Tr_l (Wp_k4 ka)) ?_
        refine g_run 1 58 [some (.ref a), some (.int x1), some (.int x2), some (.int x3), some (.ref p2)] [.int (q4 (a + 76) 0)] (fun _ => rfl) ?_
        cases e
        exact g_ret rfl (fun _ _ => rfl)
def Wp_rule (l : List (Nat × Nat)) (r : am_R) (a : Nat) (x1 : Int32) (x2 : Int32) (h : am_F) : Option (Int32 × am_F) :=
  (Tl_parkAt l r (a + 1) x1 h).bind fun q1 =>
  g_on q1 (
    some ((-2 : Int32), h)) (fun p2 =>
    if x2 < (-1 : Int32) then
      some ((-2 : Int32), h)
    else
      if x2 < (5 : Int32) then
        if x2 = (-1 : Int32) then
          (Tr_chooseHabit l r (a + 76) p2 h).bind fun q6 =>
          some ((q6 (a + 76) 0), q6)
        else
          (Tr_harmByHabit l r (a + 76) p2 x2 h).bind fun q7 =>
          some (q7.1, q7.2)
      else
        some ((-2 : Int32), h))
theorem Wp_rule_s {X : Nat × (Nat → Int32)} {l : List (Nat × Nat)} {r : am_R} {h : am_F} {j : am_J} {a : Nat} {x1 : Int32} {x2 : Int32} (ka : Wp_K l r a) {q : Int32 × am_F} (e : Wp_rule l r a x1 x2 h = some q) : Call X 122 [.ref a, .int x1, .int x2] (l, r, h, j) (some (.int q.1), (l, r, q.2, j)) := by
  unfold Wp_rule at e
  refine ⟨Nat.le_of_ble_eq_true rfl, ?_⟩
  show Ev X 122 0 [some (.ref a), some (.int x1), some (.int x2), none] [] (l, r, h, j) _
  refine g_run 1 1 [some (.ref a), some (.int x1), some (.int x2), none] [.ref a] (fun _ => rfl) ?_
  refine g_getA 4 rfl rfl (Wp_l ka) (Wp_r0 ka) ?_
  refine g_run 1 5 [some (.ref a), some (.int x1), some (.int x2), none] [.int x1, .ref (a + 1)] (fun _ => rfl) ?_
  obtain ⟨q1, eq1, e⟩ := g_bd e
  refine g_cV 8 rfl rfl rfl rfl rfl (Tl_l (Wp_k0 ka)) (Tl_parkAt_s (Wp_k0 ka) eq1) ?_
  refine g_run 1 9 [some (.ref a), some (.int x1), some (.int x2), some (va_rf q1)] [] (fun _ => by generalize q1 = o90; cases o90 <;> rfl) ?_
  refine g_run 1 10 [some (.ref a), some (.int x1), some (.int x2), some (va_rf q1)] [va_rf q1] (fun _ => by generalize q1 = o90; cases o90 <;> rfl) ?_
  cases q1 with
  | none =>
    replace e := g_onN e
    refine g_run 1 23 [some (.ref a), some (.int x1), some (.int x2), some (.null)] [] (fun _ => rfl) ?_
    refine g_run 1 25 [some (.ref a), some (.int x1), some (.int x2), some (.null)] [.int (-2 : Int32)] (fun _ => rfl) ?_
    cases e
    exact g_ret rfl (fun _ _ => rfl)
  | some p2 =>
    replace e := g_onS e
    have kp2 := Tl_parkAt_K (Wp_k0 ka) eq1
    refine g_run 1 13 [some (.ref a), some (.int x1), some (.int x2), some (.ref p2)] [] (fun _ => rfl) ?_
    refine g_run 2 15 [some (.ref a), some (.int x1), some (.int x2), some (.ref p2)] [.int (-1 : Int32), .int x2] (fun _ => rfl) ?_
    refine g_if (p1 := 23) (L1 := [some (.ref a), some (.int x1), some (.int x2), some (.ref p2)]) (S1 := []) (s1 := (l, r, h, j)) (p2 := 18) (L2 := [some (.ref a), some (.int x1), some (.int x2), some (.ref p2)]) (S2 := []) (s2 := (l, r, h, j)) rfl (fun _ _ => rfl) e (fun c3 e => ?_) (fun c3 e => ?_)
    · refine g_run 1 25 [some (.ref a), some (.int x1), some (.int x2), some (.ref p2)] [.int (-2 : Int32)] (fun _ => rfl) ?_
      cases e
      exact g_ret rfl (fun _ _ => rfl)
    · refine g_run 2 20 [some (.ref a), some (.int x1), some (.int x2), some (.ref p2)] [.int (5 : Int32), .int x2] (fun _ => rfl) ?_
      refine g_if (p1 := 26) (L1 := [some (.ref a), some (.int x1), some (.int x2), some (.ref p2)]) (S1 := []) (s1 := (l, r, h, j)) (p2 := 23) (L2 := [some (.ref a), some (.int x1), some (.int x2), some (.ref p2)]) (S2 := []) (s2 := (l, r, h, j)) rfl (fun _ _ => rfl) e (fun c4 e => ?_) (fun c4 e => ?_)
      · refine g_run 2 28 [some (.ref a), some (.int x1), some (.int x2), some (.ref p2)] [.int (-1 : Int32), .int x2] (fun _ => rfl) ?_
        refine g_if (p1 := 41) (L1 := [some (.ref a), some (.int x1), some (.int x2), some (.ref p2)]) (S1 := []) (s1 := (l, r, h, j)) (p2 := 31) (L2 := [some (.ref a), some (.int x1), some (.int x2), some (.ref p2)]) (S2 := []) (s2 := (l, r, h, j)) rfl (fun _ _ => rfl) e (fun c5 e => ?_) (fun c5 e => ?_)
        · refine g_run 1 42 [some (.ref a), some (.int x1), some (.int x2), some (.ref p2)] [.ref a] (fun _ => rfl) ?_
          refine g_getA 45 rfl rfl (Wp_l ka) (Wp_r4 ka) ?_
          refine g_run 1 46 [some (.ref a), some (.int x1), some (.int x2), some (.ref p2)] [.ref p2, .ref (a + 76)] (fun _ => rfl) ?_
          obtain ⟨q6, eq6, e⟩ := g_bd e
          refine g_cVv 49 rfl rfl rfl rfl rfl (Tr_l (Wp_k4 ka)) (Tr_chooseHabit_s (Wp_k4 ka) kp2 eq6) ?_
          refine g_run 1 50 [some (.ref a), some (.int x1), some (.int x2), some (.ref p2)] [.ref a] (fun _ => rfl) ?_
          refine g_getA 53 rfl rfl (Wp_l ka) (Wp_r4 ka) ?_
          refine g_getI 56 rfl rfl (Tr_l (Wp_k4 ka)) ?_
          cases e
          exact g_ret rfl (fun _ _ => rfl)
        · refine g_run 1 32 [some (.ref a), some (.int x1), some (.int x2), some (.ref p2)] [.ref a] (fun _ => rfl) ?_
          refine g_getA 35 rfl rfl (Wp_l ka) (Wp_r4 ka) ?_
          refine g_run 2 37 [some (.ref a), some (.int x1), some (.int x2), some (.ref p2)] [.int x2, .ref p2, .ref (a + 76)] (fun _ => rfl) ?_
          obtain ⟨q7, eq7, e⟩ := g_bd e
          refine g_cV 40 rfl rfl rfl rfl rfl (Tr_l (Wp_k4 ka)) (Tr_harmByHabit_s (Wp_k4 ka) kp2 eq7) ?_
          cases e
          exact g_ret rfl (fun _ _ => rfl)
      · refine g_run 1 25 [some (.ref a), some (.int x1), some (.int x2), some (.ref p2)] [.int (-2 : Int32)] (fun _ => rfl) ?_
        cases e
        exact g_ret rfl (fun _ _ => rfl)
def Wp_card (l : List (Nat × Nat)) (r : am_R) (a : Nat) (x1 : Int32) (x2 : Int32) (x3 : Int32) (h : am_F) : Option (Int32) :=
  (Tl_parkAt l r (a + 1) x1 h).bind fun q1 =>
  g_on q1 (
    some (-1 : Int32)) (fun p2 =>
    if (Pk_hasBench p2 x2 h) = 0 then
      some (-1 : Int32)
    else
      if x3 = (0 : Int32) then
        (g_ix x2 6).bind fun k4 =>
        (Pk_dries p2 (h (p2 + 4) k4) h).bind fun q5 =>
        some q5
      else if x3 = (1 : Int32) then
        (Pk_late l r p2 x2 h).bind fun q7 =>
        some q7
      else if x3 = (2 : Int32) then
        (Pk_longestDry p2 x2 h).bind fun q9 =>
        some q9
      else 
        some (-1 : Int32))
theorem Wp_card_s {X : Nat × (Nat → Int32)} {l : List (Nat × Nat)} {r : am_R} {h : am_F} {j : am_J} {a : Nat} {x1 : Int32} {x2 : Int32} {x3 : Int32} (ka : Wp_K l r a) {q : Int32} (e : Wp_card l r a x1 x2 x3 h = some q) : Call X 123 [.ref a, .int x1, .int x2, .int x3] (l, r, h, j) (some (.int q), (l, r, h, j)) := by
  unfold Wp_card at e
  refine ⟨Nat.le_of_ble_eq_true rfl, ?_⟩
  show Ev X 123 0 [some (.ref a), some (.int x1), some (.int x2), some (.int x3), none] [] (l, r, h, j) _
  refine g_run 1 1 [some (.ref a), some (.int x1), some (.int x2), some (.int x3), none] [.ref a] (fun _ => rfl) ?_
  refine g_getA 4 rfl rfl (Wp_l ka) (Wp_r0 ka) ?_
  refine g_run 1 5 [some (.ref a), some (.int x1), some (.int x2), some (.int x3), none] [.int x1, .ref (a + 1)] (fun _ => rfl) ?_
  obtain ⟨q1, eq1, e⟩ := g_bd e
  refine g_cV 8 rfl rfl rfl rfl rfl (Tl_l (Wp_k0 ka)) (Tl_parkAt_s (Wp_k0 ka) eq1) ?_
  refine g_run 1 10 [some (.ref a), some (.int x1), some (.int x2), some (.int x3), some (va_rf q1)] [] (fun _ => by generalize q1 = o90; cases o90 <;> rfl) ?_
  refine g_run 1 12 [some (.ref a), some (.int x1), some (.int x2), some (.int x3), some (va_rf q1)] [va_rf q1] (fun _ => by generalize q1 = o90; cases o90 <;> rfl) ?_
  cases q1 with
  | none =>
    replace e := g_onN e
    refine g_run 1 24 [some (.ref a), some (.int x1), some (.int x2), some (.int x3), some (.null)] [] (fun _ => rfl) ?_
    refine g_run 1 25 [some (.ref a), some (.int x1), some (.int x2), some (.int x3), some (.null)] [.int (-1 : Int32)] (fun _ => rfl) ?_
    cases e
    exact g_ret rfl (fun _ _ => rfl)
  | some p2 =>
    replace e := g_onS e
    have kp2 := Tl_parkAt_K (Wp_k0 ka) eq1
    refine g_run 1 15 [some (.ref a), some (.int x1), some (.int x2), some (.int x3), some (.ref p2)] [] (fun _ => rfl) ?_
    refine g_run 2 18 [some (.ref a), some (.int x1), some (.int x2), some (.int x3), some (.ref p2)] [.int x2, .ref p2] (fun _ => rfl) ?_
    refine g_cV 21 rfl rfl rfl rfl rfl (Pk_l kp2) (Pk_hasBench_s kp2) ?_
    refine g_if (p1 := 24) (L1 := [some (.ref a), some (.int x1), some (.int x2), some (.int x3), some (.ref p2)]) (S1 := []) (s1 := (l, r, h, j)) (p2 := 26) (L2 := [some (.ref a), some (.int x1), some (.int x2), some (.int x3), some (.ref p2)]) (S2 := []) (s2 := (l, r, h, j)) rfl (fun _ _ => rfl) e (fun c3 e => ?_) (fun c3 e => ?_)
    · refine g_run 1 25 [some (.ref a), some (.int x1), some (.int x2), some (.int x3), some (.ref p2)] [.int (-1 : Int32)] (fun _ => rfl) ?_
      cases e
      exact g_ret rfl (fun _ _ => rfl)
    · refine g_run 1 27 [some (.ref a), some (.int x1), some (.int x2), some (.int x3), some (.ref p2)] [.int x3] (fun _ => rfl) ?_
      by_cases c6 : x3 = (0 : Int32)
      · replace e := (if_pos c6).symm.trans e
        refine g_sw (p1 := 52) (L1 := [some (.ref a), some (.int x1), some (.int x2), some (.int x3), some (.ref p2)]) (S1 := []) (s1 := (l, r, h, j)) rfl c6 (fun _ _ => rfl) ?_
        refine g_run 2 56 [some (.ref a), some (.int x1), some (.int x2), some (.int x3), some (.ref p2)] [.ref p2, .ref p2] (fun _ => rfl) ?_
        refine g_getA 59 rfl rfl (Pk_l kp2) (Pk_r7 kp2) ?_
        refine g_run 1 60 [some (.ref a), some (.int x1), some (.int x2), some (.int x3), some (.ref p2)] [.int x2, .ref (p2 + 4), .ref p2] (fun _ => rfl) ?_
        obtain ⟨k4, ek4, e⟩ := g_bd e
        refine g_iald 61 rfl rfl (Pk_k7 kp2) ek4 ?_
        obtain ⟨q5, eq5, e⟩ := g_bd e
        refine g_cV 64 rfl rfl rfl rfl rfl (Pk_l kp2) (Pk_dries_s kp2 eq5) ?_
        cases e
        exact g_ret rfl (fun _ _ => rfl)
      replace e := (if_neg c6).symm.trans e
      by_cases c8 : x3 = (1 : Int32)
      · replace e := (if_pos c8).symm.trans e
        refine g_sw (p1 := 65) (L1 := [some (.ref a), some (.int x1), some (.int x2), some (.int x3), some (.ref p2)]) (S1 := []) (s1 := (l, r, h, j)) rfl c8 (fun _ _ => rfl) ?_
        refine g_run 2 68 [some (.ref a), some (.int x1), some (.int x2), some (.int x3), some (.ref p2)] [.int x2, .ref p2] (fun _ => rfl) ?_
        obtain ⟨q7, eq7, e⟩ := g_bd e
        refine g_cV 71 rfl rfl rfl rfl rfl (Pk_l kp2) (Pk_late_s kp2 eq7) ?_
        cases e
        exact g_ret rfl (fun _ _ => rfl)
      replace e := (if_neg c8).symm.trans e
      by_cases c10 : x3 = (2 : Int32)
      · replace e := (if_pos c10).symm.trans e
        refine g_sw (p1 := 72) (L1 := [some (.ref a), some (.int x1), some (.int x2), some (.int x3), some (.ref p2)]) (S1 := []) (s1 := (l, r, h, j)) rfl c10 (fun _ _ => rfl) ?_
        refine g_run 2 75 [some (.ref a), some (.int x1), some (.int x2), some (.int x3), some (.ref p2)] [.int x2, .ref p2] (fun _ => rfl) ?_
        obtain ⟨q9, eq9, e⟩ := g_bd e
        refine g_cV 78 rfl rfl rfl rfl rfl (Pk_l kp2) (Pk_longestDry_s kp2 eq9) ?_
        cases e
        exact g_ret rfl (fun _ _ => rfl)
      replace e := (if_neg c10).symm.trans e
      have ic6 : (Int32.toInt x3) ≠ 0 := g_ne c6
      have ic8 : (Int32.toInt x3) ≠ 1 := g_ne c8
      have ic10 : (Int32.toInt x3) ≠ 2 := g_ne c10
      refine g_swd (p1 := 79) (L1 := [some (.ref a), some (.int x1), some (.int x2), some (.int x3), some (.ref p2)]) (S1 := []) (s1 := (l, r, h, j)) (x := x3) (lo := 0) (hi := 2) rfl (fun _ _ => rfl) (by omega) ?_
      refine g_run 1 80 [some (.ref a), some (.int x1), some (.int x2), some (.int x3), some (.ref p2)] [.int (-1 : Int32)] (fun _ => rfl) ?_
      cases e
      exact g_ret rfl (fun _ _ => rfl)
def Wp_inLeastTerms_l14 (x0 : Int32) (x1 : Int32) (x2 : Int32) : Nat → Int32 → Int32 → Int32 → Option (Int32)
  | 0, _, _, _ => none
  | n + 1, x3, x4, x5 =>
    if (64 : Int32) ≤ x5 then
      some x3
    else
      if x4 = 0 then
        some x3
      else
        (g_rm x3 x4).bind fun v3 =>
        Wp_inLeastTerms_l14 x0 x1 x2 n x4 v3 (x5 + (1 : Int32))
def Wp_inLeastTerms (x0 : Int32) (x1 : Int32) (x2 : Int32) : Option (Int32) :=
  (Wp_inLeastTerms_l14 x0 x1 x2 g_fu (if 0 ≤ x0 then x0 else 0 - x0) (if 0 ≤ x1 then x1 else 0 - x1) (0 : Int32)).bind fun q4 =>
  (if x2 = 0 then
      some x0
    else
      some x1 : Option (Int32)).bind fun q10 =>
  if q4 = 0 then
    some q10
  else
    (g_dv q10 q4).bind fun v12 =>
    some v12
theorem Wp_inLeastTerms_l14_s {X : Nat × (Nat → Int32)} {l : List (Nat × Nat)} {r : am_R} {x0 : Int32} {x1 : Int32} {x2 : Int32} {h : am_F} {j : am_J} {q : Int32} {R : Option Value × am_S}  (hx : ∀ (d6 : Option Value) (y4 : Int32) (y5 : Int32) , Ev X 142 45 [some (.int x0), some (.int x1), some (.int x2), some (.int q), some (.int y4), some (.int y5), d6] [] (l, r, h, j) R) : ∀ (n : Nat) (x3 : Int32) (x4 : Int32) (x5 : Int32) (d6 : Option Value), Wp_inLeastTerms_l14 x0 x1 x2 n x3 x4 x5 = some q → Ev X 142 14 [some (.int x0), some (.int x1), some (.int x2), some (.int x3), some (.int x4), some (.int x5), d6] [] (l, r, h, j) R := by
  intro n
  induction n with
  | zero => intro x3 x4 x5 d6 e; cases e
  | succ n ih =>
    intro x3 x4 x5 d6 e
    unfold Wp_inLeastTerms_l14 at e
    refine g_run 2 18 [some (.int x0), some (.int x1), some (.int x2), some (.int x3), some (.int x4), some (.int x5), d6] [.int (64 : Int32), .int x5] (fun _ => rfl) ?_
    refine g_if (p1 := 45) (L1 := [some (.int x0), some (.int x1), some (.int x2), some (.int x3), some (.int x4), some (.int x5), d6]) (S1 := []) (s1 := (l, r, h, j)) (p2 := 21) (L2 := [some (.int x0), some (.int x1), some (.int x2), some (.int x3), some (.int x4), some (.int x5), d6]) (S2 := []) (s2 := (l, r, h, j)) rfl (fun _ _ => rfl) e (fun c1 e => ?_) (fun c1 e => ?_)
    · cases e
      exact hx _ _ _
    · refine g_run 1 23 [some (.int x0), some (.int x1), some (.int x2), some (.int x3), some (.int x4), some (.int x5), d6] [.int x4] (fun _ => rfl) ?_
      refine g_if (p1 := 45) (L1 := [some (.int x0), some (.int x1), some (.int x2), some (.int x3), some (.int x4), some (.int x5), d6]) (S1 := []) (s1 := (l, r, h, j)) (p2 := 26) (L2 := [some (.int x0), some (.int x1), some (.int x2), some (.int x3), some (.int x4), some (.int x5), d6]) (S2 := []) (s2 := (l, r, h, j)) rfl (fun _ _ => rfl) e (fun c2 e => ?_) (fun c2 e => ?_)
      · cases e
        exact hx _ _ _
      · refine g_run 2 29 [some (.int x0), some (.int x1), some (.int x2), some (.int x3), some (.int x4), some (.int x5), d6] [.int x4, .int x3] (fun _ => rfl) ?_
        obtain ⟨v3, ev3, e⟩ := g_bd e
        refine g_irem 30 rfl rfl ev3 ?_
        refine g_run 7 14 [some (.int x0), some (.int x1), some (.int x2), some (.int x4), some (.int v3), some (.int (x5 + (1 : Int32))), some (.int v3)] [] (fun _ => rfl) ?_
        exact ih _ _ _ _ e
theorem Wp_inLeastTerms_s {X : Nat × (Nat → Int32)} {l : List (Nat × Nat)} {r : am_R} {h : am_F} {j : am_J} {x0 : Int32} {x1 : Int32} {x2 : Int32}  {q : Int32} (e : Wp_inLeastTerms x0 x1 x2 = some q) : Call X 142 [.int x0, .int x1, .int x2] (l, r, h, j) (some (.int q), (l, r, h, j)) := by
  unfold Wp_inLeastTerms at e
  refine ⟨Nat.le_of_ble_eq_true rfl, ?_⟩
  show Ev X 142 0 [some (.int x0), some (.int x1), some (.int x2), none, none, none, none] [] (l, r, h, j) _
  refine g_run 8 14 [some (.int x0), some (.int x1), some (.int x2), some (.int (if 0 ≤ x0 then x0 else 0 - x0)), some (.int (if 0 ≤ x1 then x1 else 0 - x1)), some (.int (0 : Int32)), none] [] (fun _ => rfl) ?_
  obtain ⟨q4, eq4, e⟩ := g_bd e
  refine Wp_inLeastTerms_l14_s  (fun d5 y6 y7 => ?_) _ _ _ _ _ eq4
  refine g_run 1 46 [some (.int x0), some (.int x1), some (.int x2), some (.int q4), some (.int y6), some (.int y7), d5] [.int x2] (fun _ => rfl) ?_
  obtain ⟨q10, eq10, e⟩ := g_bd e
  have hjq10 : ∀ (_ : True), Ev X 142 54 [some (.int x0), some (.int x1), some (.int x2), some (.int q4), some (.int y6), some (.int y7), d5] [.int q10] (l, r, h, j) (some (.int q), (l, r, h, j)) := by
    intro _
    refine g_run 2 57 [some (.int x0), some (.int x1), some (.int x2), some (.int q4), some (.int y6), some (.int q10), d5] [.int q4] (fun _ => rfl) ?_
    refine g_if (p1 := 60) (L1 := [some (.int x0), some (.int x1), some (.int x2), some (.int q4), some (.int y6), some (.int q10), d5]) (S1 := []) (s1 := (l, r, h, j)) (p2 := 65) (L2 := [some (.int x0), some (.int x1), some (.int x2), some (.int q4), some (.int y6), some (.int q10), d5]) (S2 := []) (s2 := (l, r, h, j)) rfl (fun _ _ => rfl) e (fun c11 e => ?_) (fun c11 e => ?_)
    · refine g_run 2 69 [some (.int x0), some (.int x1), some (.int x2), some (.int q4), some (.int y6), some (.int q10), d5] [.int q10] (fun _ => rfl) ?_
      cases e
      exact g_ret rfl (fun _ _ => rfl)
    · refine g_run 2 68 [some (.int x0), some (.int x1), some (.int x2), some (.int q4), some (.int y6), some (.int q10), d5] [.int q4, .int q10] (fun _ => rfl) ?_
      obtain ⟨v12, ev12, e⟩ := g_bd e
      refine g_idiv 69 rfl rfl ev12 ?_
      cases e
      exact g_ret rfl (fun _ _ => rfl)
  replace e := eq10
  refine g_if (p1 := 53) (L1 := [some (.int x0), some (.int x1), some (.int x2), some (.int q4), some (.int y6), some (.int y7), d5]) (S1 := []) (s1 := (l, r, h, j)) (p2 := 49) (L2 := [some (.int x0), some (.int x1), some (.int x2), some (.int q4), some (.int y6), some (.int y7), d5]) (S2 := []) (s2 := (l, r, h, j)) rfl (fun _ _ => rfl) e (fun c8 e => ?_) (fun c8 e => ?_)
  · refine g_run 1 54 [some (.int x0), some (.int x1), some (.int x2), some (.int q4), some (.int y6), some (.int y7), d5] [.int x0] (fun _ => rfl) ?_
    cases e
    exact hjq10 trivial
  · refine g_run 2 54 [some (.int x0), some (.int x1), some (.int x2), some (.int q4), some (.int y6), some (.int y7), d5] [.int x1] (fun _ => rfl) ?_
    cases e
    exact hjq10 trivial
def Wp_days (l : List (Nat × Nat)) (r : am_R) (a : Nat) (x1 : Int32) (x2 : Int32) (x3 : Int32) (h : am_F) : Option (Int32 × am_F) :=
  (Tl_parkAt l r (a + 1) x1 h).bind fun q1 =>
  g_on q1 (
    some ((-1 : Int32), h)) (fun p2 =>
    if x2 < (1 : Int32) then
      some ((-1 : Int32), h)
    else
      if (30 : Int32) < x2 then
        some ((-1 : Int32), h)
      else
        if x3 < 0 then
          some ((-1 : Int32), h)
        else
          if x3 ≤ (3 : Int32) then
            (Dy_runDays l r (a + 66) p2 x2 h).bind fun q7 =>
            if x3 = 0 then
              some ((q7.2 (a + 66) 0), q7.2)
            else
              if x3 = (1 : Int32) then
                some (q7.1, q7.2)
              else
                if (q7.2 (a + 66) 2) = 0 then
                  some ((1 : Int32), q7.2)
                else
                  (if x3 = (3 : Int32) then
                      some (1 : Int32)
                    else
                      some (0 : Int32) : Option (Int32)).bind fun q13 =>
                  (Wp_inLeastTerms (q7.2 (a + 66) 1) (q7.2 (a + 66) 2) q13).bind fun q14 =>
                  some (q14, q7.2)
          else
            some ((-1 : Int32), h))
theorem Wp_days_s {X : Nat × (Nat → Int32)} {l : List (Nat × Nat)} {r : am_R} {h : am_F} {j : am_J} {a : Nat} {x1 : Int32} {x2 : Int32} {x3 : Int32} (ka : Wp_K l r a) {q : Int32 × am_F} (e : Wp_days l r a x1 x2 x3 h = some q) : Call X 124 [.ref a, .int x1, .int x2, .int x3] (l, r, h, j) (some (.int q.1), (l, r, q.2, j)) := by
  unfold Wp_days at e
  refine ⟨Nat.le_of_ble_eq_true rfl, ?_⟩
  show Ev X 124 0 [some (.ref a), some (.int x1), some (.int x2), some (.int x3), none, none] [] (l, r, h, j) _
  refine g_run 1 1 [some (.ref a), some (.int x1), some (.int x2), some (.int x3), none, none] [.ref a] (fun _ => rfl) ?_
  refine g_getA 4 rfl rfl (Wp_l ka) (Wp_r0 ka) ?_
  refine g_run 1 5 [some (.ref a), some (.int x1), some (.int x2), some (.int x3), none, none] [.int x1, .ref (a + 1)] (fun _ => rfl) ?_
  obtain ⟨q1, eq1, e⟩ := g_bd e
  refine g_cV 8 rfl rfl rfl rfl rfl (Tl_l (Wp_k0 ka)) (Tl_parkAt_s (Wp_k0 ka) eq1) ?_
  refine g_run 1 10 [some (.ref a), some (.int x1), some (.int x2), some (.int x3), some (va_rf q1), none] [] (fun _ => by generalize q1 = o90; cases o90 <;> rfl) ?_
  refine g_run 1 12 [some (.ref a), some (.int x1), some (.int x2), some (.int x3), some (va_rf q1), none] [va_rf q1] (fun _ => by generalize q1 = o90; cases o90 <;> rfl) ?_
  cases q1 with
  | none =>
    replace e := g_onN e
    refine g_run 1 35 [some (.ref a), some (.int x1), some (.int x2), some (.int x3), some (.null), none] [] (fun _ => rfl) ?_
    refine g_run 1 36 [some (.ref a), some (.int x1), some (.int x2), some (.int x3), some (.null), none] [.int (-1 : Int32)] (fun _ => rfl) ?_
    cases e
    exact g_ret rfl (fun _ _ => rfl)
  | some p2 =>
    replace e := g_onS e
    have kp2 := Tl_parkAt_K (Wp_k0 ka) eq1
    refine g_run 1 15 [some (.ref a), some (.int x1), some (.int x2), some (.int x3), some (.ref p2), none] [] (fun _ => rfl) ?_
    refine g_run 2 17 [some (.ref a), some (.int x1), some (.int x2), some (.int x3), some (.ref p2), none] [.int (1 : Int32), .int x2] (fun _ => rfl) ?_
    refine g_if (p1 := 35) (L1 := [some (.ref a), some (.int x1), some (.int x2), some (.int x3), some (.ref p2), none]) (S1 := []) (s1 := (l, r, h, j)) (p2 := 20) (L2 := [some (.ref a), some (.int x1), some (.int x2), some (.int x3), some (.ref p2), none]) (S2 := []) (s2 := (l, r, h, j)) rfl (fun _ _ => rfl) e (fun c3 e => ?_) (fun c3 e => ?_)
    · refine g_run 1 36 [some (.ref a), some (.int x1), some (.int x2), some (.int x3), some (.ref p2), none] [.int (-1 : Int32)] (fun _ => rfl) ?_
      cases e
      exact g_ret rfl (fun _ _ => rfl)
    · refine g_run 2 23 [some (.ref a), some (.int x1), some (.int x2), some (.int x3), some (.ref p2), none] [.int (30 : Int32), .int x2] (fun _ => rfl) ?_
      refine g_if (p1 := 35) (L1 := [some (.ref a), some (.int x1), some (.int x2), some (.int x3), some (.ref p2), none]) (S1 := []) (s1 := (l, r, h, j)) (p2 := 26) (L2 := [some (.ref a), some (.int x1), some (.int x2), some (.int x3), some (.ref p2), none]) (S2 := []) (s2 := (l, r, h, j)) rfl (fun _ _ => rfl) e (fun c4 e => ?_) (fun c4 e => ?_)
      · refine g_run 1 36 [some (.ref a), some (.int x1), some (.int x2), some (.int x3), some (.ref p2), none] [.int (-1 : Int32)] (fun _ => rfl) ?_
        cases e
        exact g_ret rfl (fun _ _ => rfl)
      · refine g_run 1 27 [some (.ref a), some (.int x1), some (.int x2), some (.int x3), some (.ref p2), none] [.int x3] (fun _ => rfl) ?_
        refine g_if (p1 := 35) (L1 := [some (.ref a), some (.int x1), some (.int x2), some (.int x3), some (.ref p2), none]) (S1 := []) (s1 := (l, r, h, j)) (p2 := 30) (L2 := [some (.ref a), some (.int x1), some (.int x2), some (.int x3), some (.ref p2), none]) (S2 := []) (s2 := (l, r, h, j)) rfl (fun _ _ => rfl) e (fun c5 e => ?_) (fun c5 e => ?_)
        · refine g_run 1 36 [some (.ref a), some (.int x1), some (.int x2), some (.int x3), some (.ref p2), none] [.int (-1 : Int32)] (fun _ => rfl) ?_
          cases e
          exact g_ret rfl (fun _ _ => rfl)
        · refine g_run 2 32 [some (.ref a), some (.int x1), some (.int x2), some (.int x3), some (.ref p2), none] [.int (3 : Int32), .int x3] (fun _ => rfl) ?_
          refine g_if (p1 := 37) (L1 := [some (.ref a), some (.int x1), some (.int x2), some (.int x3), some (.ref p2), none]) (S1 := []) (s1 := (l, r, h, j)) (p2 := 35) (L2 := [some (.ref a), some (.int x1), some (.int x2), some (.int x3), some (.ref p2), none]) (S2 := []) (s2 := (l, r, h, j)) rfl (fun _ _ => rfl) e (fun c6 e => ?_) (fun c6 e => ?_)
          · refine g_run 1 38 [some (.ref a), some (.int x1), some (.int x2), some (.int x3), some (.ref p2), none] [.ref a] (fun _ => rfl) ?_
            refine g_getA 41 rfl rfl (Wp_l ka) (Wp_r3 ka) ?_
            refine g_run 2 44 [some (.ref a), some (.int x1), some (.int x2), some (.int x3), some (.ref p2), none] [.int x2, .ref p2, .ref (a + 66)] (fun _ => rfl) ?_
            obtain ⟨q7, eq7, e⟩ := g_bd e
            refine g_cV 47 rfl rfl rfl rfl rfl (Dy_l (Wp_k3 ka)) (Dy_runDays_s (Wp_k3 ka) kp2 eq7) ?_
            refine g_run 2 50 [some (.ref a), some (.int x1), some (.int x2), some (.int x3), some (.ref p2), some (.int q7.1)] [.int x3] (fun _ => rfl) ?_
            refine g_if (p1 := 53) (L1 := [some (.ref a), some (.int x1), some (.int x2), some (.int x3), some (.ref p2), some (.int q7.1)]) (S1 := []) (s1 := (l, r, q7.2, j)) (p2 := 61) (L2 := [some (.ref a), some (.int x1), some (.int x2), some (.int x3), some (.ref p2), some (.int q7.1)]) (S2 := []) (s2 := (l, r, q7.2, j)) rfl (fun _ _ => rfl) e (fun c8 e => ?_) (fun c8 e => ?_)
            · refine g_run 1 54 [some (.ref a), some (.int x1), some (.int x2), some (.int x3), some (.ref p2), some (.int q7.1)] [.ref a] (fun _ => rfl) ?_
              refine g_getA 57 rfl rfl (Wp_l ka) (Wp_r3 ka) ?_
              refine g_getI 60 rfl rfl (Dy_l (Wp_k3 ka)) ?_
              cases e
              exact g_ret rfl (fun _ _ => rfl)
            · refine g_run 2 63 [some (.ref a), some (.int x1), some (.int x2), some (.int x3), some (.ref p2), some (.int q7.1)] [.int (1 : Int32), .int x3] (fun _ => rfl) ?_
              refine g_if (p1 := 66) (L1 := [some (.ref a), some (.int x1), some (.int x2), some (.int x3), some (.ref p2), some (.int q7.1)]) (S1 := []) (s1 := (l, r, q7.2, j)) (p2 := 69) (L2 := [some (.ref a), some (.int x1), some (.int x2), some (.int x3), some (.ref p2), some (.int q7.1)]) (S2 := []) (s2 := (l, r, q7.2, j)) rfl (fun _ _ => rfl) e (fun c9 e => ?_) (fun c9 e => ?_)
              · refine g_run 1 68 [some (.ref a), some (.int x1), some (.int x2), some (.int x3), some (.ref p2), some (.int q7.1)] [.int q7.1] (fun _ => rfl) ?_
                cases e
                exact g_ret rfl (fun _ _ => rfl)
              · refine g_run 1 70 [some (.ref a), some (.int x1), some (.int x2), some (.int x3), some (.ref p2), some (.int q7.1)] [.ref a] (fun _ => rfl) ?_
                refine g_getA 73 rfl rfl (Wp_l ka) (Wp_r3 ka) ?_
                refine g_getI 76 rfl rfl (Dy_l (Wp_k3 ka)) ?_
                refine g_if (p1 := 79) (L1 := [some (.ref a), some (.int x1), some (.int x2), some (.int x3), some (.ref p2), some (.int q7.1)]) (S1 := []) (s1 := (l, r, q7.2, j)) (p2 := 81) (L2 := [some (.ref a), some (.int x1), some (.int x2), some (.int x3), some (.ref p2), some (.int q7.1)]) (S2 := []) (s2 := (l, r, q7.2, j)) rfl (fun _ _ => rfl) e (fun c10 e => ?_) (fun c10 e => ?_)
                · refine g_run 1 80 [some (.ref a), some (.int x1), some (.int x2), some (.int x3), some (.ref p2), some (.int q7.1)] [.int (1 : Int32)] (fun _ => rfl) ?_
                  cases e
                  exact g_ret rfl (fun _ _ => rfl)
                · refine g_run 1 82 [some (.ref a), some (.int x1), some (.int x2), some (.int x3), some (.ref p2), some (.int q7.1)] [.ref a] (fun _ => rfl) ?_
                  refine g_getA 85 rfl rfl (Wp_l ka) (Wp_r3 ka) ?_
                  refine g_getI 88 rfl rfl (Dy_l (Wp_k3 ka)) ?_
                  refine g_run 1 89 [some (.ref a), some (.int x1), some (.int x2), some (.int x3), some (.ref p2), some (.int q7.1)] [.ref a, .int (q7.2 (a + 66) 1)] (fun _ => rfl) ?_
                  refine g_getA 92 rfl rfl (Wp_l ka) (Wp_r3 ka) ?_
                  refine g_getI 95 rfl rfl (Dy_l (Wp_k3 ka)) ?_
                  refine g_run 2 97 [some (.ref a), some (.int x1), some (.int x2), some (.int x3), some (.ref p2), some (.int q7.1)] [.int (3 : Int32), .int x3, .int (q7.2 (a + 66) 2), .int (q7.2 (a + 66) 1)] (fun _ => rfl) ?_
                  obtain ⟨q13, eq13, e⟩ := g_bd e
                  have hjq13 : ∀ (_ : True), Ev X 124 105 [some (.ref a), some (.int x1), some (.int x2), some (.int x3), some (.ref p2), some (.int q7.1)] [.int q13, .int (q7.2 (a + 66) 2), .int (q7.2 (a + 66) 1)] (l, r, q7.2, j) (some (.int q.1), (l, r, q.2, j)) := by
                    intro _
                    obtain ⟨q14, eq14, e⟩ := g_bd e
                    refine g_cS 108 rfl rfl (by decide) rfl rfl rfl (Wp_inLeastTerms_s eq14) ?_
                    cases e
                    exact g_ret rfl (fun _ _ => rfl)
                  replace e := eq13
                  refine g_if (p1 := 100) (L1 := [some (.ref a), some (.int x1), some (.int x2), some (.int x3), some (.ref p2), some (.int q7.1)]) (S1 := [.int (q7.2 (a + 66) 2), .int (q7.2 (a + 66) 1)]) (s1 := (l, r, q7.2, j)) (p2 := 104) (L2 := [some (.ref a), some (.int x1), some (.int x2), some (.int x3), some (.ref p2), some (.int q7.1)]) (S2 := [.int (q7.2 (a + 66) 2), .int (q7.2 (a + 66) 1)]) (s2 := (l, r, q7.2, j)) rfl (fun _ _ => rfl) e (fun c11 e => ?_) (fun c11 e => ?_)
                  · refine g_run 2 105 [some (.ref a), some (.int x1), some (.int x2), some (.int x3), some (.ref p2), some (.int q7.1)] [.int (1 : Int32), .int (q7.2 (a + 66) 2), .int (q7.2 (a + 66) 1)] (fun _ => rfl) ?_
                    cases e
                    exact hjq13 trivial
                  · refine g_run 1 105 [some (.ref a), some (.int x1), some (.int x2), some (.int x3), some (.ref p2), some (.int q7.1)] [.int (0 : Int32), .int (q7.2 (a + 66) 2), .int (q7.2 (a + 66) 1)] (fun _ => rfl) ?_
                    cases e
                    exact hjq13 trivial
          · refine g_run 1 36 [some (.ref a), some (.int x1), some (.int x2), some (.int x3), some (.ref p2), none] [.int (-1 : Int32)] (fun _ => rfl) ?_
            cases e
            exact g_ret rfl (fun _ _ => rfl)
def Wp_order (l : List (Nat × Nat)) (r : am_R) (a : Nat) (x1 : Int32) (x2 : Int32) (x3 : Int32) (h : am_F) : Option (Int32 × am_F) :=
  (Tl_parkAt l r (a + 1) x1 h).bind fun q1 =>
  g_on q1 (
    some ((-2 : Int32), h)) (fun p2 =>
    if (h p2 3) < (1 : Int32) then
      some ((-2 : Int32), h)
    else
      if (Wp_isHour x2) = 0 then
        some ((-2 : Int32), h)
      else
        if x3 < (-1 : Int32) then
          some ((-2 : Int32), h)
        else
          if x3 < (h p2 3) then
            (Pa_choose (a + 104) p2 x2 h).bind fun q7 =>
            if (q7 (a + 104) 0) ≤ (400 : Int32) then
              if x3 = (-1 : Int32) then
                some ((q7 (a + 104) 0), q7)
              else
                (Pa_benchAt (a + 104) x3 (q7 p2 3) q7).bind fun q10 =>
                some (q10, q7)
            else
              some ((-1 : Int32), q7)
          else
            some ((-2 : Int32), h))
theorem Wp_order_s {X : Nat × (Nat → Int32)} {l : List (Nat × Nat)} {r : am_R} {h : am_F} {j : am_J} {a : Nat} {x1 : Int32} {x2 : Int32} {x3 : Int32} (ka : Wp_K l r a) {q : Int32 × am_F} (e : Wp_order l r a x1 x2 x3 h = some q) : Call X 125 [.ref a, .int x1, .int x2, .int x3] (l, r, h, j) (some (.int q.1), (l, r, q.2, j)) := by
  unfold Wp_order at e
  refine ⟨Nat.le_of_ble_eq_true rfl, ?_⟩
  show Ev X 125 0 [some (.ref a), some (.int x1), some (.int x2), some (.int x3), none] [] (l, r, h, j) _
  refine g_run 1 1 [some (.ref a), some (.int x1), some (.int x2), some (.int x3), none] [.ref a] (fun _ => rfl) ?_
  refine g_getA 4 rfl rfl (Wp_l ka) (Wp_r0 ka) ?_
  refine g_run 1 5 [some (.ref a), some (.int x1), some (.int x2), some (.int x3), none] [.int x1, .ref (a + 1)] (fun _ => rfl) ?_
  obtain ⟨q1, eq1, e⟩ := g_bd e
  refine g_cV 8 rfl rfl rfl rfl rfl (Tl_l (Wp_k0 ka)) (Tl_parkAt_s (Wp_k0 ka) eq1) ?_
  refine g_run 1 10 [some (.ref a), some (.int x1), some (.int x2), some (.int x3), some (va_rf q1)] [] (fun _ => by generalize q1 = o90; cases o90 <;> rfl) ?_
  refine g_run 1 12 [some (.ref a), some (.int x1), some (.int x2), some (.int x3), some (va_rf q1)] [va_rf q1] (fun _ => by generalize q1 = o90; cases o90 <;> rfl) ?_
  cases q1 with
  | none =>
    replace e := g_onN e
    refine g_run 1 45 [some (.ref a), some (.int x1), some (.int x2), some (.int x3), some (.null)] [] (fun _ => rfl) ?_
    refine g_run 1 47 [some (.ref a), some (.int x1), some (.int x2), some (.int x3), some (.null)] [.int (-2 : Int32)] (fun _ => rfl) ?_
    cases e
    exact g_ret rfl (fun _ _ => rfl)
  | some p2 =>
    replace e := g_onS e
    have kp2 := Tl_parkAt_K (Wp_k0 ka) eq1
    refine g_run 1 15 [some (.ref a), some (.int x1), some (.int x2), some (.int x3), some (.ref p2)] [] (fun _ => rfl) ?_
    refine g_run 1 17 [some (.ref a), some (.int x1), some (.int x2), some (.int x3), some (.ref p2)] [.ref p2] (fun _ => rfl) ?_
    refine g_getI 20 rfl rfl (Pk_l kp2) ?_
    refine g_run 1 21 [some (.ref a), some (.int x1), some (.int x2), some (.int x3), some (.ref p2)] [.int (1 : Int32), .int (h p2 3)] (fun _ => rfl) ?_
    refine g_if (p1 := 45) (L1 := [some (.ref a), some (.int x1), some (.int x2), some (.int x3), some (.ref p2)]) (S1 := []) (s1 := (l, r, h, j)) (p2 := 24) (L2 := [some (.ref a), some (.int x1), some (.int x2), some (.int x3), some (.ref p2)]) (S2 := []) (s2 := (l, r, h, j)) rfl (fun _ _ => rfl) e (fun c3 e => ?_) (fun c3 e => ?_)
    · refine g_run 1 47 [some (.ref a), some (.int x1), some (.int x2), some (.int x3), some (.ref p2)] [.int (-2 : Int32)] (fun _ => rfl) ?_
      cases e
      exact g_ret rfl (fun _ _ => rfl)
    · refine g_run 1 25 [some (.ref a), some (.int x1), some (.int x2), some (.int x3), some (.ref p2)] [.int x2] (fun _ => rfl) ?_
      refine g_cS 28 rfl rfl (by decide) rfl rfl rfl Wp_isHour_s ?_
      refine g_if (p1 := 45) (L1 := [some (.ref a), some (.int x1), some (.int x2), some (.int x3), some (.ref p2)]) (S1 := []) (s1 := (l, r, h, j)) (p2 := 31) (L2 := [some (.ref a), some (.int x1), some (.int x2), some (.int x3), some (.ref p2)]) (S2 := []) (s2 := (l, r, h, j)) rfl (fun _ _ => rfl) e (fun c4 e => ?_) (fun c4 e => ?_)
      · refine g_run 1 47 [some (.ref a), some (.int x1), some (.int x2), some (.int x3), some (.ref p2)] [.int (-2 : Int32)] (fun _ => rfl) ?_
        cases e
        exact g_ret rfl (fun _ _ => rfl)
      · refine g_run 2 33 [some (.ref a), some (.int x1), some (.int x2), some (.int x3), some (.ref p2)] [.int (-1 : Int32), .int x3] (fun _ => rfl) ?_
        refine g_if (p1 := 45) (L1 := [some (.ref a), some (.int x1), some (.int x2), some (.int x3), some (.ref p2)]) (S1 := []) (s1 := (l, r, h, j)) (p2 := 36) (L2 := [some (.ref a), some (.int x1), some (.int x2), some (.int x3), some (.ref p2)]) (S2 := []) (s2 := (l, r, h, j)) rfl (fun _ _ => rfl) e (fun c5 e => ?_) (fun c5 e => ?_)
        · refine g_run 1 47 [some (.ref a), some (.int x1), some (.int x2), some (.int x3), some (.ref p2)] [.int (-2 : Int32)] (fun _ => rfl) ?_
          cases e
          exact g_ret rfl (fun _ _ => rfl)
        · refine g_run 2 39 [some (.ref a), some (.int x1), some (.int x2), some (.int x3), some (.ref p2)] [.ref p2, .int x3] (fun _ => rfl) ?_
          refine g_getI 42 rfl rfl (Pk_l kp2) ?_
          refine g_if (p1 := 48) (L1 := [some (.ref a), some (.int x1), some (.int x2), some (.int x3), some (.ref p2)]) (S1 := []) (s1 := (l, r, h, j)) (p2 := 45) (L2 := [some (.ref a), some (.int x1), some (.int x2), some (.int x3), some (.ref p2)]) (S2 := []) (s2 := (l, r, h, j)) rfl (fun _ _ => rfl) e (fun c6 e => ?_) (fun c6 e => ?_)
          · refine g_run 1 49 [some (.ref a), some (.int x1), some (.int x2), some (.int x3), some (.ref p2)] [.ref a] (fun _ => rfl) ?_
            refine g_getA 52 rfl rfl (Wp_l ka) (Wp_r6 ka) ?_
            refine g_run 2 55 [some (.ref a), some (.int x1), some (.int x2), some (.int x3), some (.ref p2)] [.int x2, .ref p2, .ref (a + 104)] (fun _ => rfl) ?_
            obtain ⟨q7, eq7, e⟩ := g_bd e
            refine g_cVv 58 rfl rfl rfl rfl rfl (Pa_l (Wp_k6 ka)) (Pa_choose_s (Wp_k6 ka) kp2 eq7) ?_
            refine g_run 1 59 [some (.ref a), some (.int x1), some (.int x2), some (.int x3), some (.ref p2)] [.ref a] (fun _ => rfl) ?_
            refine g_getA 62 rfl rfl (Wp_l ka) (Wp_r6 ka) ?_
            refine g_getI 65 rfl rfl (Pa_l (Wp_k6 ka)) ?_
            refine g_run 1 68 [some (.ref a), some (.int x1), some (.int x2), some (.int x3), some (.ref p2)] [.int (400 : Int32), .int (q7 (a + 104) 0)] (fun _ => rfl) ?_
            refine g_if (p1 := 73) (L1 := [some (.ref a), some (.int x1), some (.int x2), some (.int x3), some (.ref p2)]) (S1 := []) (s1 := (l, r, q7, j)) (p2 := 71) (L2 := [some (.ref a), some (.int x1), some (.int x2), some (.int x3), some (.ref p2)]) (S2 := []) (s2 := (l, r, q7, j)) rfl (fun _ _ => rfl) e (fun c8 e => ?_) (fun c8 e => ?_)
            · refine g_run 2 75 [some (.ref a), some (.int x1), some (.int x2), some (.int x3), some (.ref p2)] [.int (-1 : Int32), .int x3] (fun _ => rfl) ?_
              refine g_if (p1 := 78) (L1 := [some (.ref a), some (.int x1), some (.int x2), some (.int x3), some (.ref p2)]) (S1 := []) (s1 := (l, r, q7, j)) (p2 := 88) (L2 := [some (.ref a), some (.int x1), some (.int x2), some (.int x3), some (.ref p2)]) (S2 := []) (s2 := (l, r, q7, j)) rfl (fun _ _ => rfl) e (fun c9 e => ?_) (fun c9 e => ?_)
              · refine g_run 1 79 [some (.ref a), some (.int x1), some (.int x2), some (.int x3), some (.ref p2)] [.ref a] (fun _ => rfl) ?_
                refine g_getA 82 rfl rfl (Wp_l ka) (Wp_r6 ka) ?_
                refine g_getI 85 rfl rfl (Pa_l (Wp_k6 ka)) ?_
                refine g_run 1 101 [some (.ref a), some (.int x1), some (.int x2), some (.int x3), some (.ref p2)] [.int (q7 (a + 104) 0)] (fun _ => rfl) ?_
                cases e
                exact g_ret rfl (fun _ _ => rfl)
              · refine g_run 1 89 [some (.ref a), some (.int x1), some (.int x2), some (.int x3), some (.ref p2)] [.ref a] (fun _ => rfl) ?_
                refine g_getA 92 rfl rfl (Wp_l ka) (Wp_r6 ka) ?_
                refine g_run 2 95 [some (.ref a), some (.int x1), some (.int x2), some (.int x3), some (.ref p2)] [.ref p2, .int x3, .ref (a + 104)] (fun _ => rfl) ?_
                refine g_getI 98 rfl rfl (Pk_l kp2) ?_
                obtain ⟨q10, eq10, e⟩ := g_bd e
                refine g_cV 101 rfl rfl rfl rfl rfl (Pa_l (Wp_k6 ka)) (Pa_benchAt_s (Wp_k6 ka) eq10) ?_
                cases e
                exact g_ret rfl (fun _ _ => rfl)
            · refine g_run 1 72 [some (.ref a), some (.int x1), some (.int x2), some (.int x3), some (.ref p2)] [.int (-1 : Int32)] (fun _ => rfl) ?_
              cases e
              exact g_ret rfl (fun _ _ => rfl)
          · refine g_run 1 47 [some (.ref a), some (.int x1), some (.int x2), some (.int x3), some (.ref p2)] [.int (-2 : Int32)] (fun _ => rfl) ?_
            cases e
            exact g_ret rfl (fun _ _ => rfl)
def Wp_rowsAnswer (l : List (Nat × Nat)) (r : am_R) (x0 : Option Nat) (x1 : Int32) (x2 : Int32) (h : am_F) : Option (Int32) :=
  g_on x0 (
    some (-2 : Int32)) (fun p1 =>
    if x1 = (-1 : Int32) then
      if x2 = 0 then
        some (h p1 3)
      else
        if (Rw_has p1 x1 x2 h) = 0 then
          some (-2 : Int32)
        else
          (Rw_get l r p1 x1 x2 h).bind fun q5 =>
          some q5
    else
      if (Rw_has p1 x1 x2 h) = 0 then
        some (-2 : Int32)
      else
        (Rw_get l r p1 x1 x2 h).bind fun q7 =>
        some q7)
theorem Wp_rowsAnswer_s {X : Nat × (Nat → Int32)} {l : List (Nat × Nat)} {r : am_R} {h : am_F} {j : am_J} {x0 : Option Nat} {x1 : Int32} {x2 : Int32} (kx0 : ∀ p, x0 = some p → Rw_K l r p) {q : Int32} (e : Wp_rowsAnswer l r x0 x1 x2 h = some q) : Call X 143 [va_rf x0, .int x1, .int x2] (l, r, h, j) (some (.int q), (l, r, h, j)) := by
  unfold Wp_rowsAnswer at e
  have hL : am_L0 143 [va_rf x0, .int x1, .int x2] = [some (va_rf x0), some (.int x1), some (.int x2)] := by cases x0 <;> rfl
  have hN : (am_la [va_rf x0, .int x1, .int x2]).length ≤ am_maxL 143 := by cases x0 <;> exact Nat.le_of_ble_eq_true rfl
  refine ⟨hN, ?_⟩
  rw [hL]
  refine g_run 1 1 [some (va_rf x0), some (.int x1), some (.int x2)] [va_rf x0] (fun _ => by generalize x0 = o90; cases o90 <;> rfl) ?_
  cases x0 with
  | none =>
    replace e := g_onN e
    refine g_run 1 4 [some (.null), some (.int x1), some (.int x2)] [] (fun _ => rfl) ?_
    refine g_run 1 6 [some (.null), some (.int x1), some (.int x2)] [.int (-2 : Int32)] (fun _ => rfl) ?_
    cases e
    exact g_ret rfl (fun _ _ => rfl)
  | some p1 =>
    replace e := g_onS e
    have kp1 := kx0 _ rfl
    refine g_run 1 7 [some (.ref p1), some (.int x1), some (.int x2)] [] (fun _ => rfl) ?_
    refine g_run 2 9 [some (.ref p1), some (.int x1), some (.int x2)] [.int (-1 : Int32), .int x1] (fun _ => rfl) ?_
    refine g_if (p1 := 12) (L1 := [some (.ref p1), some (.int x1), some (.int x2)]) (S1 := []) (s1 := (l, r, h, j)) (p2 := 21) (L2 := [some (.ref p1), some (.int x1), some (.int x2)]) (S2 := []) (s2 := (l, r, h, j)) rfl (fun _ _ => rfl) e (fun c2 e => ?_) (fun c2 e => ?_)
    · refine g_run 1 13 [some (.ref p1), some (.int x1), some (.int x2)] [.int x2] (fun _ => rfl) ?_
      refine g_if (p1 := 16) (L1 := [some (.ref p1), some (.int x1), some (.int x2)]) (S1 := []) (s1 := (l, r, h, j)) (p2 := 21) (L2 := [some (.ref p1), some (.int x1), some (.int x2)]) (S2 := []) (s2 := (l, r, h, j)) rfl (fun _ _ => rfl) e (fun c3 e => ?_) (fun c3 e => ?_)
      · refine g_run 1 17 [some (.ref p1), some (.int x1), some (.int x2)] [.ref p1] (fun _ => rfl) ?_
        refine g_getI 20 rfl rfl (Rw_l kp1) ?_
        cases e
        exact g_ret rfl (fun _ _ => rfl)
      · refine g_run 3 24 [some (.ref p1), some (.int x1), some (.int x2)] [.int x2, .int x1, .ref p1] (fun _ => rfl) ?_
        refine g_cV 27 rfl rfl rfl rfl rfl (Rw_l kp1) (Rw_has_s kp1) ?_
        refine g_if (p1 := 39) (L1 := [some (.ref p1), some (.int x1), some (.int x2)]) (S1 := []) (s1 := (l, r, h, j)) (p2 := 30) (L2 := [some (.ref p1), some (.int x1), some (.int x2)]) (S2 := []) (s2 := (l, r, h, j)) rfl (fun _ _ => rfl) e (fun c4 e => ?_) (fun c4 e => ?_)
        · refine g_run 1 41 [some (.ref p1), some (.int x1), some (.int x2)] [.int (-2 : Int32)] (fun _ => rfl) ?_
          cases e
          exact g_ret rfl (fun _ _ => rfl)
        · refine g_run 3 33 [some (.ref p1), some (.int x1), some (.int x2)] [.int x2, .int x1, .ref p1] (fun _ => rfl) ?_
          obtain ⟨q5, eq5, e⟩ := g_bd e
          refine g_cV 36 rfl rfl rfl rfl rfl (Rw_l kp1) (Rw_get_s kp1 eq5) ?_
          refine g_run 1 41 [some (.ref p1), some (.int x1), some (.int x2)] [.int q5] (fun _ => rfl) ?_
          cases e
          exact g_ret rfl (fun _ _ => rfl)
    · refine g_run 3 24 [some (.ref p1), some (.int x1), some (.int x2)] [.int x2, .int x1, .ref p1] (fun _ => rfl) ?_
      refine g_cV 27 rfl rfl rfl rfl rfl (Rw_l kp1) (Rw_has_s kp1) ?_
      refine g_if (p1 := 39) (L1 := [some (.ref p1), some (.int x1), some (.int x2)]) (S1 := []) (s1 := (l, r, h, j)) (p2 := 30) (L2 := [some (.ref p1), some (.int x1), some (.int x2)]) (S2 := []) (s2 := (l, r, h, j)) rfl (fun _ _ => rfl) e (fun c6 e => ?_) (fun c6 e => ?_)
      · refine g_run 1 41 [some (.ref p1), some (.int x1), some (.int x2)] [.int (-2 : Int32)] (fun _ => rfl) ?_
        cases e
        exact g_ret rfl (fun _ _ => rfl)
      · refine g_run 3 33 [some (.ref p1), some (.int x1), some (.int x2)] [.int x2, .int x1, .ref p1] (fun _ => rfl) ?_
        obtain ⟨q7, eq7, e⟩ := g_bd e
        refine g_cV 36 rfl rfl rfl rfl rfl (Rw_l kp1) (Rw_get_s kp1 eq7) ?_
        refine g_run 1 41 [some (.ref p1), some (.int x1), some (.int x2)] [.int q7] (fun _ => rfl) ?_
        cases e
        exact g_ret rfl (fun _ _ => rfl)
def Wp_sight (l : List (Nat × Nat)) (r : am_R) (a : Nat) (x1 : Int32) (x2 : Int32) (x3 : Int32) (h : am_F) : Option (Int32) :=
  (Tl_rowsAt l r (a + 1) (1 : Int32) x1 h).bind fun q1 =>
  (Wp_rowsAnswer l r q1 x2 x3 h).bind fun q2 =>
  some q2
theorem Wp_sight_s {X : Nat × (Nat → Int32)} {l : List (Nat × Nat)} {r : am_R} {h : am_F} {j : am_J} {a : Nat} {x1 : Int32} {x2 : Int32} {x3 : Int32} (ka : Wp_K l r a) {q : Int32} (e : Wp_sight l r a x1 x2 x3 h = some q) : Call X 126 [.ref a, .int x1, .int x2, .int x3] (l, r, h, j) (some (.int q), (l, r, h, j)) := by
  unfold Wp_sight at e
  refine ⟨Nat.le_of_ble_eq_true rfl, ?_⟩
  show Ev X 126 0 [some (.ref a), some (.int x1), some (.int x2), some (.int x3), none] [] (l, r, h, j) _
  refine g_run 1 1 [some (.ref a), some (.int x1), some (.int x2), some (.int x3), none] [.ref a] (fun _ => rfl) ?_
  refine g_getA 4 rfl rfl (Wp_l ka) (Wp_r0 ka) ?_
  refine g_run 2 6 [some (.ref a), some (.int x1), some (.int x2), some (.int x3), none] [.int x1, .int (1 : Int32), .ref (a + 1)] (fun _ => rfl) ?_
  obtain ⟨q1, eq1, e⟩ := g_bd e
  refine g_cV 9 rfl rfl rfl rfl rfl (Tl_l (Wp_k0 ka)) (Tl_rowsAt_s (Wp_k0 ka) eq1) ?_
  refine g_run 1 11 [some (.ref a), some (.int x1), some (.int x2), some (.int x3), some (va_rf q1)] [] (fun _ => by generalize q1 = o90; cases o90 <;> rfl) ?_
  refine g_run 1 13 [some (.ref a), some (.int x1), some (.int x2), some (.int x3), some (va_rf q1)] [va_rf q1] (fun _ => by generalize q1 = o90; cases o90 <;> rfl) ?_
  refine g_run 2 15 [some (.ref a), some (.int x1), some (.int x2), some (.int x3), some (va_rf q1)] [.int x3, .int x2, va_rf q1] (fun _ => rfl) ?_
  obtain ⟨q2, eq2, e⟩ := g_bd e
  refine g_cS 18 rfl rfl (by decide) rfl rfl rfl (Wp_rowsAnswer_s (fun p hp => Tl_rowsAt_K (Wp_k0 ka) (hp ▸ eq1)) eq2) ?_
  cases e
  exact g_ret rfl (fun _ _ => rfl)
def Wp_findFits (l : List (Nat × Nat)) (r : am_R) (a : Nat) (x1 : Int32) (x2 : Int32) (x3 : Int32) (h : am_F) : Option (Int32 × am_F × am_R) :=
  (Tl_parkAt l r (a + 1) x1 h).bind fun q1 =>
  (Tl_rowsAt l r (a + 1) (1 : Int32) x2 h).bind fun q2 =>
  g_on q1 (
    some ((0 : Int32), h, r)) (fun p3 =>
    g_on q2 (
      some ((0 : Int32), h, r)) (fun p4 =>
      if (Pk_hasBench p3 x3 h) = 0 then
        some ((0 : Int32), h, r)
      else
        (Fi_find l r (a + 100) p3 p4 x3 h).bind fun q6 =>
        some ((1 : Int32), q6.1, q6.2)))
theorem Wp_findFits_s {X : Nat × (Nat → Int32)} {l : List (Nat × Nat)} {r : am_R} {h : am_F} {j : am_J} {a : Nat} {x1 : Int32} {x2 : Int32} {x3 : Int32} (ka : Wp_K l r a) {q : Int32 × am_F × am_R} (e : Wp_findFits l r a x1 x2 x3 h = some q) : Call X 144 [.ref a, .int x1, .int x2, .int x3] (l, r, h, j) (some (.int q.1), (l, q.2.2, q.2.1, j)) := by
  unfold Wp_findFits at e
  refine ⟨Nat.le_of_ble_eq_true rfl, ?_⟩
  show Ev X 144 0 [some (.ref a), some (.int x1), some (.int x2), some (.int x3), none, none] [] (l, r, h, j) _
  refine g_run 1 1 [some (.ref a), some (.int x1), some (.int x2), some (.int x3), none, none] [.ref a] (fun _ => rfl) ?_
  refine g_getA 4 rfl rfl (Wp_l ka) (Wp_r0 ka) ?_
  refine g_run 1 5 [some (.ref a), some (.int x1), some (.int x2), some (.int x3), none, none] [.int x1, .ref (a + 1)] (fun _ => rfl) ?_
  obtain ⟨q1, eq1, e⟩ := g_bd e
  refine g_cV 8 rfl rfl rfl rfl rfl (Tl_l (Wp_k0 ka)) (Tl_parkAt_s (Wp_k0 ka) eq1) ?_
  refine g_run 1 10 [some (.ref a), some (.int x1), some (.int x2), some (.int x3), some (va_rf q1), none] [] (fun _ => by generalize q1 = o90; cases o90 <;> rfl) ?_
  refine g_run 1 11 [some (.ref a), some (.int x1), some (.int x2), some (.int x3), some (va_rf q1), none] [.ref a] (fun _ => rfl) ?_
  refine g_getA 14 rfl rfl (Wp_l ka) (Wp_r0 ka) ?_
  refine g_run 2 16 [some (.ref a), some (.int x1), some (.int x2), some (.int x3), some (va_rf q1), none] [.int x2, .int (1 : Int32), .ref (a + 1)] (fun _ => rfl) ?_
  obtain ⟨q2, eq2, e⟩ := g_bd e
  refine g_cV 19 rfl rfl rfl rfl rfl (Tl_l (Wp_k0 ka)) (Tl_rowsAt_s (Wp_k0 ka) eq2) ?_
  refine g_run 1 21 [some (.ref a), some (.int x1), some (.int x2), some (.int x3), some (va_rf q1), some (va_rf q2)] [] (fun _ => by generalize q1 = o90; generalize q2 = o91; cases o90 <;> cases o91 <;> rfl) ?_
  refine g_run 1 23 [some (.ref a), some (.int x1), some (.int x2), some (.int x3), some (va_rf q1), some (va_rf q2)] [va_rf q1] (fun _ => by generalize q1 = o90; generalize q2 = o91; cases o90 <;> cases o91 <;> rfl) ?_
  cases q1 with
  | none =>
    replace e := g_onN e
    refine g_run 1 40 [some (.ref a), some (.int x1), some (.int x2), some (.int x3), some (.null), some (va_rf q2)] [] (fun _ => rfl) ?_
    refine g_run 1 41 [some (.ref a), some (.int x1), some (.int x2), some (.int x3), some (.null), some (va_rf q2)] [.int (0 : Int32)] (fun _ => rfl) ?_
    cases e
    exact g_retZ rfl (y := (0 : Int32)) rfl rfl
  | some p3 =>
    replace e := g_onS e
    have kp3 := Tl_parkAt_K (Wp_k0 ka) eq1
    refine g_run 1 26 [some (.ref a), some (.int x1), some (.int x2), some (.int x3), some (.ref p3), some (va_rf q2)] [] (fun _ => rfl) ?_
    refine g_run 1 28 [some (.ref a), some (.int x1), some (.int x2), some (.int x3), some (.ref p3), some (va_rf q2)] [va_rf q2] (fun _ => by generalize q2 = o90; cases o90 <;> rfl) ?_
    cases q2 with
    | none =>
      replace e := g_onN e
      refine g_run 1 40 [some (.ref a), some (.int x1), some (.int x2), some (.int x3), some (.ref p3), some (.null)] [] (fun _ => rfl) ?_
      refine g_run 1 41 [some (.ref a), some (.int x1), some (.int x2), some (.int x3), some (.ref p3), some (.null)] [.int (0 : Int32)] (fun _ => rfl) ?_
      cases e
      exact g_retZ rfl (y := (0 : Int32)) rfl rfl
    | some p4 =>
      replace e := g_onS e
      have kp4 := Tl_rowsAt_K (Wp_k0 ka) eq2
      refine g_run 1 31 [some (.ref a), some (.int x1), some (.int x2), some (.int x3), some (.ref p3), some (.ref p4)] [] (fun _ => rfl) ?_
      refine g_run 2 34 [some (.ref a), some (.int x1), some (.int x2), some (.int x3), some (.ref p3), some (.ref p4)] [.int x3, .ref p3] (fun _ => rfl) ?_
      refine g_cV 37 rfl rfl rfl rfl rfl (Pk_l kp3) (Pk_hasBench_s kp3) ?_
      refine g_if (p1 := 40) (L1 := [some (.ref a), some (.int x1), some (.int x2), some (.int x3), some (.ref p3), some (.ref p4)]) (S1 := []) (s1 := (l, r, h, j)) (p2 := 42) (L2 := [some (.ref a), some (.int x1), some (.int x2), some (.int x3), some (.ref p3), some (.ref p4)]) (S2 := []) (s2 := (l, r, h, j)) rfl (fun _ _ => rfl) e (fun c5 e => ?_) (fun c5 e => ?_)
      · refine g_run 1 41 [some (.ref a), some (.int x1), some (.int x2), some (.int x3), some (.ref p3), some (.ref p4)] [.int (0 : Int32)] (fun _ => rfl) ?_
        cases e
        exact g_retZ rfl (y := (0 : Int32)) rfl rfl
      · refine g_run 1 43 [some (.ref a), some (.int x1), some (.int x2), some (.int x3), some (.ref p3), some (.ref p4)] [.ref a] (fun _ => rfl) ?_
        refine g_getA 46 rfl rfl (Wp_l ka) (Wp_r5 ka) ?_
        refine g_run 3 51 [some (.ref a), some (.int x1), some (.int x2), some (.int x3), some (.ref p3), some (.ref p4)] [.int x3, .ref p4, .ref p3, .ref (a + 100)] (fun _ => rfl) ?_
        obtain ⟨q6, eq6, e⟩ := g_bd e
        refine g_cVv 54 rfl rfl rfl rfl rfl (Fi_l (Wp_k5 ka)) (Fi_find_s (Wp_k5 ka) kp3 kp4 eq6) ?_
        have kp7 := Fi_find_kp (Wp_k5 ka) kp3 kp4 eq6
        refine g_run 1 55 [some (.ref a), some (.int x1), some (.int x2), some (.int x3), some (.ref p3), some (.ref p4)] [.int (1 : Int32)] (fun _ => rfl) ?_
        cases e
        exact g_retZ rfl (y := (1 : Int32)) rfl rfl
theorem Wp_findFits_kp {l : List (Nat × Nat)} {r : am_R} {h : am_F} {a : Nat} {x1 x2 x3 : Int32} {q : Int32 × am_F × am_R} (ka : Wp_K l r a) (e : Wp_findFits l r a x1 x2 x3 h = some q) : g_kp l r q.2.2 := by
  unfold Wp_findFits at e
  obtain ⟨q1, e1, e⟩ := g_bd e
  obtain ⟨q2, e2, e⟩ := g_bd e
  cases q1 with
  | none =>
    replace e := g_onN e
    cases e; exact g_kp_id
  | some p =>
    replace e := g_onS e
    cases q2 with
    | none =>
      replace e := g_onN e
      cases e; exact g_kp_id
    | some p2 =>
      replace e := g_onS e
      split at e
      · cases e; exact g_kp_id
      · obtain ⟨q3, e3, e⟩ := g_bd e
        cases e
        exact Fi_find_kp (Wp_k5 ka) (Tl_parkAt_K (Wp_k0 ka) e1) (Tl_rowsAt_K (Wp_k0 ka) e2) e3
def Wp_likely (l : List (Nat × Nat)) (r : am_R) (a : Nat) (x1 : Int32) (x2 : Int32) (x3 : Int32) (x4 : Int32) (x5 : Int32) (x6 : Int32) (h : am_F) : Option (Int32 × am_F × am_R) :=
  (Wp_findFits l r a x1 x2 x3 h).bind fun q1 =>
  if q1.1 = 0 then
    some ((-1 : Int32), q1.2.1, q1.2.2)
  else
    if (q1.2.1 (a + 100) 0) < (1 : Int32) then
      some ((-1 : Int32), q1.2.1, q1.2.2)
    else
      if (Wp_isHour x4) = 0 then
        some ((-1 : Int32), q1.2.1, q1.2.2)
      else
        if x5 < 0 then
          some ((-1 : Int32), q1.2.1, q1.2.2)
        else
          if x5 ≤ (2 : Int32) then
            (Fi_weighStages l q1.2.2 (a + 100) x4 q1.2.1).bind fun q8 =>
            (g_ix x5 3).bind fun k9 =>
            (Wp_inLeastTerms (q8 ((a + 100) + 1) k9) (q8 (a + 100) 0) x6).bind fun q10 =>
            some (q10, q8, q1.2.2)
          else
            some ((-1 : Int32), q1.2.1, q1.2.2)
theorem Wp_likely_s {X : Nat × (Nat → Int32)} {l : List (Nat × Nat)} {r : am_R} {h : am_F} {j : am_J} {a : Nat} {x1 : Int32} {x2 : Int32} {x3 : Int32} {x4 : Int32} {x5 : Int32} {x6 : Int32} (ka : Wp_K l r a) {q : Int32 × am_F × am_R} (e : Wp_likely l r a x1 x2 x3 x4 x5 x6 h = some q) : Call X 127 [.ref a, .int x1, .int x2, .int x3, .int x4, .int x5, .int x6] (l, r, h, j) (some (.int q.1), (l, q.2.2, q.2.1, j)) := by
  unfold Wp_likely at e
  refine ⟨Nat.le_of_ble_eq_true rfl, ?_⟩
  show Ev X 127 0 [some (.ref a), some (.int x1), some (.int x2), some (.int x3), some (.int x4), some (.int x5), some (.int x6)] [] (l, r, h, j) _
  refine g_run 4 4 [some (.ref a), some (.int x1), some (.int x2), some (.int x3), some (.int x4), some (.int x5), some (.int x6)] [.int x3, .int x2, .int x1, .ref a] (fun _ => rfl) ?_
  obtain ⟨q1, eq1, e⟩ := g_bd e
  refine g_cV 7 rfl rfl rfl rfl rfl (Wp_l ka) (Wp_findFits_s ka eq1) ?_
  have kp2 := Wp_findFits_kp ka eq1
  refine g_if (p1 := 40) (L1 := [some (.ref a), some (.int x1), some (.int x2), some (.int x3), some (.int x4), some (.int x5), some (.int x6)]) (S1 := []) (s1 := (l, q1.2.2, q1.2.1, j)) (p2 := 10) (L2 := [some (.ref a), some (.int x1), some (.int x2), some (.int x3), some (.int x4), some (.int x5), some (.int x6)]) (S2 := []) (s2 := (l, q1.2.2, q1.2.1, j)) rfl (fun _ _ => rfl) e (fun c3 e => ?_) (fun c3 e => ?_)
  · refine g_run 1 41 [some (.ref a), some (.int x1), some (.int x2), some (.int x3), some (.int x4), some (.int x5), some (.int x6)] [.int (-1 : Int32)] (fun _ => rfl) ?_
    cases e
    exact g_ret rfl (fun _ _ => rfl)
  · refine g_run 1 11 [some (.ref a), some (.int x1), some (.int x2), some (.int x3), some (.int x4), some (.int x5), some (.int x6)] [.ref a] (fun _ => rfl) ?_
    refine g_getA 14 rfl rfl (Wp_l (g_kp_Wp kp2 ka)) (Wp_r5 (g_kp_Wp kp2 ka)) ?_
    refine g_getI 17 rfl rfl (Fi_l (Wp_k5 (g_kp_Wp kp2 ka))) ?_
    refine g_run 1 18 [some (.ref a), some (.int x1), some (.int x2), some (.int x3), some (.int x4), some (.int x5), some (.int x6)] [.int (1 : Int32), .int (q1.2.1 (a + 100) 0)] (fun _ => rfl) ?_
    refine g_if (p1 := 40) (L1 := [some (.ref a), some (.int x1), some (.int x2), some (.int x3), some (.int x4), some (.int x5), some (.int x6)]) (S1 := []) (s1 := (l, q1.2.2, q1.2.1, j)) (p2 := 21) (L2 := [some (.ref a), some (.int x1), some (.int x2), some (.int x3), some (.int x4), some (.int x5), some (.int x6)]) (S2 := []) (s2 := (l, q1.2.2, q1.2.1, j)) rfl (fun _ _ => rfl) e (fun c4 e => ?_) (fun c4 e => ?_)
    · refine g_run 1 41 [some (.ref a), some (.int x1), some (.int x2), some (.int x3), some (.int x4), some (.int x5), some (.int x6)] [.int (-1 : Int32)] (fun _ => rfl) ?_
      cases e
      exact g_ret rfl (fun _ _ => rfl)
    · refine g_run 1 23 [some (.ref a), some (.int x1), some (.int x2), some (.int x3), some (.int x4), some (.int x5), some (.int x6)] [.int x4] (fun _ => rfl) ?_
      refine g_cS 26 rfl rfl (by decide) rfl rfl rfl Wp_isHour_s ?_
      refine g_if (p1 := 40) (L1 := [some (.ref a), some (.int x1), some (.int x2), some (.int x3), some (.int x4), some (.int x5), some (.int x6)]) (S1 := []) (s1 := (l, q1.2.2, q1.2.1, j)) (p2 := 29) (L2 := [some (.ref a), some (.int x1), some (.int x2), some (.int x3), some (.int x4), some (.int x5), some (.int x6)]) (S2 := []) (s2 := (l, q1.2.2, q1.2.1, j)) rfl (fun _ _ => rfl) e (fun c5 e => ?_) (fun c5 e => ?_)
      · refine g_run 1 41 [some (.ref a), some (.int x1), some (.int x2), some (.int x3), some (.int x4), some (.int x5), some (.int x6)] [.int (-1 : Int32)] (fun _ => rfl) ?_
        cases e
        exact g_ret rfl (fun _ _ => rfl)
      · refine g_run 1 31 [some (.ref a), some (.int x1), some (.int x2), some (.int x3), some (.int x4), some (.int x5), some (.int x6)] [.int x5] (fun _ => rfl) ?_
        refine g_if (p1 := 40) (L1 := [some (.ref a), some (.int x1), some (.int x2), some (.int x3), some (.int x4), some (.int x5), some (.int x6)]) (S1 := []) (s1 := (l, q1.2.2, q1.2.1, j)) (p2 := 34) (L2 := [some (.ref a), some (.int x1), some (.int x2), some (.int x3), some (.int x4), some (.int x5), some (.int x6)]) (S2 := []) (s2 := (l, q1.2.2, q1.2.1, j)) rfl (fun _ _ => rfl) e (fun c6 e => ?_) (fun c6 e => ?_)
        · refine g_run 1 41 [some (.ref a), some (.int x1), some (.int x2), some (.int x3), some (.int x4), some (.int x5), some (.int x6)] [.int (-1 : Int32)] (fun _ => rfl) ?_
          cases e
          exact g_ret rfl (fun _ _ => rfl)
        · refine g_run 2 37 [some (.ref a), some (.int x1), some (.int x2), some (.int x3), some (.int x4), some (.int x5), some (.int x6)] [.int (2 : Int32), .int x5] (fun _ => rfl) ?_
          refine g_if (p1 := 42) (L1 := [some (.ref a), some (.int x1), some (.int x2), some (.int x3), some (.int x4), some (.int x5), some (.int x6)]) (S1 := []) (s1 := (l, q1.2.2, q1.2.1, j)) (p2 := 40) (L2 := [some (.ref a), some (.int x1), some (.int x2), some (.int x3), some (.int x4), some (.int x5), some (.int x6)]) (S2 := []) (s2 := (l, q1.2.2, q1.2.1, j)) rfl (fun _ _ => rfl) e (fun c7 e => ?_) (fun c7 e => ?_)
          · refine g_run 1 43 [some (.ref a), some (.int x1), some (.int x2), some (.int x3), some (.int x4), some (.int x5), some (.int x6)] [.ref a] (fun _ => rfl) ?_
            refine g_getA 46 rfl rfl (Wp_l (g_kp_Wp kp2 ka)) (Wp_r5 (g_kp_Wp kp2 ka)) ?_
            refine g_run 1 48 [some (.ref a), some (.int x1), some (.int x2), some (.int x3), some (.int x4), some (.int x5), some (.int x6)] [.int x4, .ref (a + 100)] (fun _ => rfl) ?_
            obtain ⟨q8, eq8, e⟩ := g_bd e
            refine g_cVv 51 rfl rfl rfl rfl rfl (Fi_l (Wp_k5 (g_kp_Wp kp2 ka))) (Fi_weighStages_s (Wp_k5 (g_kp_Wp kp2 ka)) eq8) ?_
            refine g_run 1 52 [some (.ref a), some (.int x1), some (.int x2), some (.int x3), some (.int x4), some (.int x5), some (.int x6)] [.ref a] (fun _ => rfl) ?_
            refine g_getA 55 rfl rfl (Wp_l (g_kp_Wp kp2 ka)) (Wp_r5 (g_kp_Wp kp2 ka)) ?_
            refine g_getA 58 rfl rfl (Fi_l (Wp_k5 (g_kp_Wp kp2 ka))) (Fi_r1 (Wp_k5 (g_kp_Wp kp2 ka))) ?_
            refine g_run 1 60 [some (.ref a), some (.int x1), some (.int x2), some (.int x3), some (.int x4), some (.int x5), some (.int x6)] [.int x5, .ref ((a + 100) + 1)] (fun _ => rfl) ?_
            obtain ⟨k9, ek9, e⟩ := g_bd e
            refine g_iald 61 rfl rfl (Fi_k1 (Wp_k5 (g_kp_Wp kp2 ka))) ek9 ?_
            refine g_run 1 62 [some (.ref a), some (.int x1), some (.int x2), some (.int x3), some (.int x4), some (.int x5), some (.int x6)] [.ref a, .int (q8 ((a + 100) + 1) k9)] (fun _ => rfl) ?_
            refine g_getA 65 rfl rfl (Wp_l (g_kp_Wp kp2 ka)) (Wp_r5 (g_kp_Wp kp2 ka)) ?_
            refine g_getI 68 rfl rfl (Fi_l (Wp_k5 (g_kp_Wp kp2 ka))) ?_
            refine g_run 1 70 [some (.ref a), some (.int x1), some (.int x2), some (.int x3), some (.int x4), some (.int x5), some (.int x6)] [.int x6, .int (q8 (a + 100) 0), .int (q8 ((a + 100) + 1) k9)] (fun _ => rfl) ?_
            obtain ⟨q10, eq10, e⟩ := g_bd e
            refine g_cS 73 rfl rfl (by decide) rfl rfl rfl (Wp_inLeastTerms_s eq10) ?_
            cases e
            exact g_ret rfl (fun _ _ => rfl)
          · refine g_run 1 41 [some (.ref a), some (.int x1), some (.int x2), some (.int x3), some (.int x4), some (.int x5), some (.int x6)] [.int (-1 : Int32)] (fun _ => rfl) ?_
            cases e
            exact g_ret rfl (fun _ _ => rfl)
