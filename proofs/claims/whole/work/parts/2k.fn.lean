/-! methods as functions, and their runs -/
def Md_tells_l4 (x0 : Nat) (x1 : Int32) (h : am_F) : Nat → Int32 → Int32 → Option (Int32)
  | 0, _, _ => none
  | n + 1, x2, x3 =>
    (Md_prints x0 h).bind fun q1 =>
    if q1 ≤ x3 then
      some x2
    else
      (Md_printOf x0 x3 (1 : Int32) h).bind fun q3 =>
      (if q3 = x1 then
          (Md_printOf x0 x3 (2 : Int32) h).bind fun q6 =>
          some (Md_greater x2 q6)
        else
          some x2 : Option (Int32)).bind fun q7 =>
      Md_tells_l4 x0 x1 h n q7 (x3 + (1 : Int32))
def Md_tells_l53 (x0 : Nat) (h : am_F) : Nat → Int32 → Int32 → Int32 → Option (Int32)
  | 0, _, _, _ => none
  | n + 1, x3, x4, x5 =>
    if (48 : Int32) ≤ x5 then
      some x3
    else
      (Md_weightOf x0 x5 (0 : Int32) h).bind fun q11 =>
      (Md_weightOf x0 x5 (1 : Int32) h).bind fun q12 =>
      (Md_weightOf x0 x5 (2 : Int32) h).bind fun q13 =>
      (if x4 ≤ (Md_greater q11 (Md_greater q12 q13)) then
          some x3
        else
          some x5 : Option (Int32)).bind fun q16 =>
      Md_tells_l53 x0 h n q16 (Md_lesser x4 (Md_greater q11 (Md_greater q12 q13))) (x5 + (1 : Int32))
def Md_tells (a : Nat) (x1 : Int32) (h : am_F) : Option (Int32) :=
  (Md_tells_l4 a x1 h g_fu (0 : Int32) (0 : Int32)).bind fun q8 =>
  (Md_tells_l53 a h g_fu (-1 : Int32) (1000000 : Int32) q8).bind fun q17 =>
  some q17
theorem Md_tells_l4_s {X : Nat × (Nat → Int32)} {l : List (Nat × Nat)} {r : am_R} {x0 : Nat} {x1 : Int32} {h : am_F} {j : am_J} {q : Int32} {R : Option Value × am_S} (kx0 : Md_K l r x0) (hx : ∀ (y3 : Int32) , Ev X 243 43 [some (.ref x0), some (.int x1), some (.int q), some (.int y3), none, none, none] [] (l, r, h, j) R) : ∀ (n : Nat) (x2 : Int32) (x3 : Int32), Md_tells_l4 x0 x1 h n x2 x3 = some q → Ev X 243 4 [some (.ref x0), some (.int x1), some (.int x2), some (.int x3), none, none, none] [] (l, r, h, j) R := by
  intro n
  induction n with
  | zero => intro x2 x3 e; cases e
  | succ n ih =>
    intro x2 x3 e
    unfold Md_tells_l4 at e
    refine g_run 2 6 [some (.ref x0), some (.int x1), some (.int x2), some (.int x3), none, none, none] [.ref x0, .int x3] (fun _ => rfl) ?_
    obtain ⟨q1, eq1, e⟩ := g_bd e
    refine g_cV 9 rfl rfl rfl rfl rfl (Md_l kx0) (Md_prints_s kx0 eq1) ?_
    refine g_if (p1 := 43) (L1 := [some (.ref x0), some (.int x1), some (.int x2), some (.int x3), none, none, none]) (S1 := []) (s1 := (l, r, h, j)) (p2 := 12) (L2 := [some (.ref x0), some (.int x1), some (.int x2), some (.int x3), none, none, none]) (S2 := []) (s2 := (l, r, h, j)) rfl (fun _ _ => rfl) e (fun c2 e => ?_) (fun c2 e => ?_)
    · cases e
      exact hx _
    · refine g_run 3 15 [some (.ref x0), some (.int x1), some (.int x2), some (.int x3), none, none, none] [.int (1 : Int32), .int x3, .ref x0] (fun _ => rfl) ?_
      obtain ⟨q3, eq3, e⟩ := g_bd e
      refine g_cV 18 rfl rfl rfl rfl rfl (Md_l kx0) (Md_printOf_s kx0 eq3) ?_
      refine g_run 1 19 [some (.ref x0), some (.int x1), some (.int x2), some (.int x3), none, none, none] [.int x1, .int q3] (fun _ => rfl) ?_
      obtain ⟨q7, eq7, e⟩ := g_bd e
      have hjq7 : ∀ (_ : True), Ev X 243 36 [some (.ref x0), some (.int x1), some (.int x2), some (.int x3), none, none, none] [.int q7] (l, r, h, j) R := by
        intro _
        refine g_run 3 4 [some (.ref x0), some (.int x1), some (.int q7), some (.int (x3 + (1 : Int32))), none, none, none] [] (fun _ => rfl) ?_
        exact ih _ _ e
      replace e := eq7
      refine g_if (p1 := 22) (L1 := [some (.ref x0), some (.int x1), some (.int x2), some (.int x3), none, none, none]) (S1 := []) (s1 := (l, r, h, j)) (p2 := 35) (L2 := [some (.ref x0), some (.int x1), some (.int x2), some (.int x3), none, none, none]) (S2 := []) (s2 := (l, r, h, j)) rfl (fun _ _ => rfl) e (fun c4 e => ?_) (fun c4 e => ?_)
      · refine g_run 4 26 [some (.ref x0), some (.int x1), some (.int x2), some (.int x3), none, none, none] [.int (2 : Int32), .int x3, .ref x0, .int x2] (fun _ => rfl) ?_
        obtain ⟨q6, eq6, e⟩ := g_bd e
        refine g_cV 29 rfl rfl rfl rfl rfl (Md_l kx0) (Md_printOf_s kx0 eq6) ?_
        refine g_cS 32 rfl rfl (by decide) rfl rfl rfl Md_greater_s ?_
        refine g_run 1 36 [some (.ref x0), some (.int x1), some (.int x2), some (.int x3), none, none, none] [.int (Md_greater x2 q6)] (fun _ => rfl) ?_
        cases e
        exact hjq7 trivial
      · refine g_run 1 36 [some (.ref x0), some (.int x1), some (.int x2), some (.int x3), none, none, none] [.int x2] (fun _ => rfl) ?_
        cases e
        exact hjq7 trivial
theorem Md_tells_l53_s {X : Nat × (Nat → Int32)} {l : List (Nat × Nat)} {r : am_R} {x0 : Nat} {y1 : Int32} {y2 : Int32} {h : am_F} {j : am_J} {q : Int32} {R : Option Value × am_S} (kx0 : Md_K l r x0) (hx : ∀ (d6 : Option Value) (y4 : Int32) (y5 : Int32) , Ev X 243 118 [some (.ref x0), some (.int y1), some (.int y2), some (.int q), some (.int y4), some (.int y5), d6] [] (l, r, h, j) R) : ∀ (n : Nat) (x3 : Int32) (x4 : Int32) (x5 : Int32) (d6 : Option Value), Md_tells_l53 x0 h n x3 x4 x5 = some q → Ev X 243 53 [some (.ref x0), some (.int y1), some (.int y2), some (.int x3), some (.int x4), some (.int x5), d6] [] (l, r, h, j) R := by
  intro n
  induction n with
  | zero => intro x3 x4 x5 d6 e; cases e
  | succ n ih =>
    intro x3 x4 x5 d6 e
    unfold Md_tells_l53 at e
    refine g_run 2 57 [some (.ref x0), some (.int y1), some (.int y2), some (.int x3), some (.int x4), some (.int x5), d6] [.int (48 : Int32), .int x5] (fun _ => rfl) ?_
    refine g_if (p1 := 118) (L1 := [some (.ref x0), some (.int y1), some (.int y2), some (.int x3), some (.int x4), some (.int x5), d6]) (S1 := []) (s1 := (l, r, h, j)) (p2 := 60) (L2 := [some (.ref x0), some (.int y1), some (.int y2), some (.int x3), some (.int x4), some (.int x5), d6]) (S2 := []) (s2 := (l, r, h, j)) rfl (fun _ _ => rfl) e (fun c10 e => ?_) (fun c10 e => ?_)
    · cases e
      exact hx _ _ _
    · refine g_run 3 64 [some (.ref x0), some (.int y1), some (.int y2), some (.int x3), some (.int x4), some (.int x5), d6] [.int (0 : Int32), .int x5, .ref x0] (fun _ => rfl) ?_
      obtain ⟨q11, eq11, e⟩ := g_bd e
      refine g_cV 67 rfl rfl rfl rfl rfl (Md_l kx0) (Md_weightOf_s kx0 eq11) ?_
      refine g_run 3 71 [some (.ref x0), some (.int y1), some (.int y2), some (.int x3), some (.int x4), some (.int x5), d6] [.int (1 : Int32), .int x5, .ref x0, .int q11] (fun _ => rfl) ?_
      obtain ⟨q12, eq12, e⟩ := g_bd e
      refine g_cV 74 rfl rfl rfl rfl rfl (Md_l kx0) (Md_weightOf_s kx0 eq12) ?_
      refine g_run 3 78 [some (.ref x0), some (.int y1), some (.int y2), some (.int x3), some (.int x4), some (.int x5), d6] [.int (2 : Int32), .int x5, .ref x0, .int q12, .int q11] (fun _ => rfl) ?_
      obtain ⟨q13, eq13, e⟩ := g_bd e
      refine g_cV 81 rfl rfl rfl rfl rfl (Md_l kx0) (Md_weightOf_s kx0 eq13) ?_
      refine g_cS 84 rfl rfl (by decide) rfl rfl rfl Md_greater_s ?_
      refine g_cS 87 rfl rfl (by decide) rfl rfl rfl Md_greater_s ?_
      refine g_run 3 93 [some (.ref x0), some (.int y1), some (.int y2), some (.int x3), some (.int x4), some (.int x5), some (.int (Md_greater q11 (Md_greater q12 q13)))] [.int x4, .int (Md_greater q11 (Md_greater q12 q13))] (fun _ => rfl) ?_
      obtain ⟨q16, eq16, e⟩ := g_bd e
      have hjq16 : ∀ (_ : True), Ev X 243 102 [some (.ref x0), some (.int y1), some (.int y2), some (.int x3), some (.int x4), some (.int x5), some (.int (Md_greater q11 (Md_greater q12 q13)))] [.int q16] (l, r, h, j) R := by
        intro _
        refine g_run 3 107 [some (.ref x0), some (.int y1), some (.int y2), some (.int q16), some (.int x4), some (.int x5), some (.int (Md_greater q11 (Md_greater q12 q13)))] [.int (Md_greater q11 (Md_greater q12 q13)), .int x4] (fun _ => rfl) ?_
        refine g_cS 110 rfl rfl (by decide) rfl rfl rfl Md_lesser_s ?_
        refine g_run 3 53 [some (.ref x0), some (.int y1), some (.int y2), some (.int q16), some (.int (Md_lesser x4 (Md_greater q11 (Md_greater q12 q13)))), some (.int (x5 + (1 : Int32))), some (.int (Md_greater q11 (Md_greater q12 q13)))] [] (fun _ => rfl) ?_
        exact ih _ _ _ _ e
      replace e := eq16
      refine g_if (p1 := 101) (L1 := [some (.ref x0), some (.int y1), some (.int y2), some (.int x3), some (.int x4), some (.int x5), some (.int (Md_greater q11 (Md_greater q12 q13)))]) (S1 := []) (s1 := (l, r, h, j)) (p2 := 96) (L2 := [some (.ref x0), some (.int y1), some (.int y2), some (.int x3), some (.int x4), some (.int x5), some (.int (Md_greater q11 (Md_greater q12 q13)))]) (S2 := []) (s2 := (l, r, h, j)) rfl (fun _ _ => rfl) e (fun c14 e => ?_) (fun c14 e => ?_)
      · refine g_run 1 102 [some (.ref x0), some (.int y1), some (.int y2), some (.int x3), some (.int x4), some (.int x5), some (.int (Md_greater q11 (Md_greater q12 q13)))] [.int x3] (fun _ => rfl) ?_
        cases e
        exact hjq16 trivial
      · refine g_run 2 102 [some (.ref x0), some (.int y1), some (.int y2), some (.int x3), some (.int x4), some (.int x5), some (.int (Md_greater q11 (Md_greater q12 q13)))] [.int x5] (fun _ => rfl) ?_
        cases e
        exact hjq16 trivial
theorem Md_tells_s {X : Nat × (Nat → Int32)} {l : List (Nat × Nat)} {r : am_R} {h : am_F} {j : am_J} {a : Nat} {x1 : Int32} (ka : Md_K l r a) {q : Int32} (e : Md_tells a x1 h = some q) : Call X 243 [.ref a, .int x1] (l, r, h, j) (some (.int q), (l, r, h, j)) := by
  unfold Md_tells at e
  refine ⟨Nat.le_of_ble_eq_true rfl, ?_⟩
  show Ev X 243 0 [some (.ref a), some (.int x1), none, none, none, none, none] [] (l, r, h, j) _
  refine g_run 4 4 [some (.ref a), some (.int x1), some (.int (0 : Int32)), some (.int (0 : Int32)), none, none, none] [] (fun _ => rfl) ?_
  obtain ⟨q8, eq8, e⟩ := g_bd e
  refine Md_tells_l4_s ka (fun y9 => ?_) _ _ _ eq8
  refine g_run 6 53 [some (.ref a), some (.int x1), some (.int q8), some (.int (-1 : Int32)), some (.int (1000000 : Int32)), some (.int q8), none] [] (fun _ => rfl) ?_
  obtain ⟨q17, eq17, e⟩ := g_bd e
  refine Md_tells_l53_s ka (fun d18 y19 y20 => ?_) _ _ _ _ _ eq17
  refine g_run 1 119 [some (.ref a), some (.int x1), some (.int q8), some (.int q17), some (.int y19), some (.int y20), d18] [.int q17] (fun _ => rfl) ?_
  cases e
  exact g_ret rfl (fun _ _ => rfl)
def Md_read_l76 (x0 : Nat) (x4 : Int32) (h : am_F) : Nat → Int32 → Int32 → Int32 → Int32 → Option (Int32 × Int32 × Int32)
  | 0, _, _, _, _ => none
  | n + 1, x5, x6, x7, x8 =>
    if (48 : Int32) ≤ x8 then
      some (x5, x6, x7)
    else
      (g_ix ((1 : Int32) + x8) 49).bind fun k6 =>
      (if (h (x0 + 26) k6) ≤ 0 then
          some (0 : Int32)
        else
          some (1 : Int32) : Option (Int32)).bind fun q9 =>
      (if q9 = 0 then
          some (0 : Int32)
        else
          some (1 : Int32) : Option (Int32)).bind fun q12 =>
      (if q9 = 0 then
          some x6
        else
          if x6 = (-1 : Int32) then
            some x8
          else
            some x6 : Option (Int32)).bind fun q16 =>
      (if q9 = 0 then
          some x7
        else
          some x8 : Option (Int32)).bind fun q19 =>
      Md_read_l76 x0 x4 h n (x5 + q12) q16 q19 (x8 + (1 : Int32))
def Md_read (a : Nat) (x1 : Int32) (x2 : Int32) (x3 : Int32) (x4 : Int32) (h : am_F) : Option (Int32 × am_F) :=
  if (Md_in x4 (0 : Int32) (4 : Int32)) = 0 then
    some ((-2 : Int32), (am_up h a 0 (0 : Int32)))
  else
    (Md_layFits a x1 x2 x3 (am_up h a 0 (0 : Int32))).bind fun q2 =>
    if q2.1 = 0 then
      some ((-2 : Int32), q2.2)
    else
      if x4 ≤ (2 : Int32) then
        (Md_read_l76 a x4 q2.2 g_fu (0 : Int32) (-1 : Int32) (-1 : Int32) (0 : Int32)).bind fun q20 =>
        if x4 = 0 then
          some (q20.1, q2.2)
        else
          if x4 = (1 : Int32) then
            some (q20.2.1, q2.2)
          else
            some (q20.2.2, q2.2)
      else
        if x4 = (3 : Int32) then
          some ((q2.2 a 45), q2.2)
        else
          if (q2.2 a 45) = 0 then
            some ((-1 : Int32), q2.2)
          else
            (Md_tells a x3 q2.2).bind fun q27 =>
            some (q27, q2.2)
theorem Md_read_l76_s {X : Nat × (Nat → Int32)} {l : List (Nat × Nat)} {r : am_R} {x0 : Nat} {x4 : Int32} {y1 : Int32} {y2 : Int32} {y3 : Int32} {h : am_F} {j : am_J} {q : Int32 × Int32 × Int32} {R : Option Value × am_S} (kx0 : Md_K l r x0) (hx : ∀ (d9 : Option Value) (y8 : Int32) , Ev X 244 157 [some (.ref x0), some (.int y1), some (.int y2), some (.int y3), some (.int x4), some (.int q.1), some (.int q.2.1), some (.int q.2.2), some (.int y8), d9] [] (l, r, h, j) R) : ∀ (n : Nat) (x5 : Int32) (x6 : Int32) (x7 : Int32) (x8 : Int32) (d9 : Option Value), Md_read_l76 x0 x4 h n x5 x6 x7 x8 = some q → Ev X 244 76 [some (.ref x0), some (.int y1), some (.int y2), some (.int y3), some (.int x4), some (.int x5), some (.int x6), some (.int x7), some (.int x8), d9] [] (l, r, h, j) R := by
  intro n
  induction n with
  | zero => intro x5 x6 x7 x8 d9 e; cases e
  | succ n ih =>
    intro x5 x6 x7 x8 d9 e
    unfold Md_read_l76 at e
    refine g_run 2 80 [some (.ref x0), some (.int y1), some (.int y2), some (.int y3), some (.int x4), some (.int x5), some (.int x6), some (.int x7), some (.int x8), d9] [.int (48 : Int32), .int x8] (fun _ => rfl) ?_
    refine g_if (p1 := 157) (L1 := [some (.ref x0), some (.int y1), some (.int y2), some (.int y3), some (.int x4), some (.int x5), some (.int x6), some (.int x7), some (.int x8), d9]) (S1 := []) (s1 := (l, r, h, j)) (p2 := 83) (L2 := [some (.ref x0), some (.int y1), some (.int y2), some (.int y3), some (.int x4), some (.int x5), some (.int x6), some (.int x7), some (.int x8), d9]) (S2 := []) (s2 := (l, r, h, j)) rfl (fun _ _ => rfl) e (fun c5 e => ?_) (fun c5 e => ?_)
    · cases e
      exact hx _ _
    · refine g_run 1 84 [some (.ref x0), some (.int y1), some (.int y2), some (.int y3), some (.int x4), some (.int x5), some (.int x6), some (.int x7), some (.int x8), d9] [.ref x0] (fun _ => rfl) ?_
      refine g_getA 87 rfl rfl (Md_l kx0) (Md_r44 kx0) ?_
      refine g_run 3 91 [some (.ref x0), some (.int y1), some (.int y2), some (.int y3), some (.int x4), some (.int x5), some (.int x6), some (.int x7), some (.int x8), d9] [.int ((1 : Int32) + x8), .ref (x0 + 26)] (fun _ => rfl) ?_
      obtain ⟨k6, ek6, e⟩ := g_bd e
      refine g_iald 92 rfl rfl (Md_k44 kx0) ek6 ?_
      obtain ⟨q9, eq9, e⟩ := g_bd e
      have hjq9 : ∀ (_ : True), Ev X 244 100 [some (.ref x0), some (.int y1), some (.int y2), some (.int y3), some (.int x4), some (.int x5), some (.int x6), some (.int x7), some (.int x8), d9] [.int q9] (l, r, h, j) R := by
        intro _
        refine g_run 3 106 [some (.ref x0), some (.int y1), some (.int y2), some (.int y3), some (.int x4), some (.int x5), some (.int x6), some (.int x7), some (.int x8), some (.int q9)] [.int q9, .int x5] (fun _ => rfl) ?_
        obtain ⟨q12, eq12, e⟩ := g_bd e
        have hjq12 : ∀ (_ : True), Ev X 244 114 [some (.ref x0), some (.int y1), some (.int y2), some (.int y3), some (.int x4), some (.int x5), some (.int x6), some (.int x7), some (.int x8), some (.int q9)] [.int q12, .int x5] (l, r, h, j) R := by
          intro _
          refine g_run 3 119 [some (.ref x0), some (.int y1), some (.int y2), some (.int y3), some (.int x4), some (.int (x5 + q12)), some (.int x6), some (.int x7), some (.int x8), some (.int q9)] [.int q9] (fun _ => rfl) ?_
          obtain ⟨q16, eq16, e⟩ := g_bd e
          have hjq16 : ∀ (_ : True), Ev X 244 135 [some (.ref x0), some (.int y1), some (.int y2), some (.int y3), some (.int x4), some (.int (x5 + q12)), some (.int x6), some (.int x7), some (.int x8), some (.int q9)] [.int q16] (l, r, h, j) R := by
            intro _
            refine g_run 2 139 [some (.ref x0), some (.int y1), some (.int y2), some (.int y3), some (.int x4), some (.int (x5 + q12)), some (.int q16), some (.int x7), some (.int x8), some (.int q9)] [.int q9] (fun _ => rfl) ?_
            obtain ⟨q19, eq19, e⟩ := g_bd e
            have hjq19 : ∀ (_ : True), Ev X 244 149 [some (.ref x0), some (.int y1), some (.int y2), some (.int y3), some (.int x4), some (.int (x5 + q12)), some (.int q16), some (.int x7), some (.int x8), some (.int q9)] [.int q19] (l, r, h, j) R := by
              intro _
              refine g_run 3 76 [some (.ref x0), some (.int y1), some (.int y2), some (.int y3), some (.int x4), some (.int (x5 + q12)), some (.int q16), some (.int q19), some (.int (x8 + (1 : Int32))), some (.int q9)] [] (fun _ => rfl) ?_
              exact ih _ _ _ _ _ e
            replace e := eq19
            refine g_if (p1 := 147) (L1 := [some (.ref x0), some (.int y1), some (.int y2), some (.int y3), some (.int x4), some (.int (x5 + q12)), some (.int q16), some (.int x7), some (.int x8), some (.int q9)]) (S1 := []) (s1 := (l, r, h, j)) (p2 := 142) (L2 := [some (.ref x0), some (.int y1), some (.int y2), some (.int y3), some (.int x4), some (.int (x5 + q12)), some (.int q16), some (.int x7), some (.int x8), some (.int q9)]) (S2 := []) (s2 := (l, r, h, j)) rfl (fun _ _ => rfl) e (fun c17 e => ?_) (fun c17 e => ?_)
            · refine g_run 1 149 [some (.ref x0), some (.int y1), some (.int y2), some (.int y3), some (.int x4), some (.int (x5 + q12)), some (.int q16), some (.int x7), some (.int x8), some (.int q9)] [.int x7] (fun _ => rfl) ?_
              cases e
              exact hjq19 trivial
            · refine g_run 2 149 [some (.ref x0), some (.int y1), some (.int y2), some (.int y3), some (.int x4), some (.int (x5 + q12)), some (.int q16), some (.int x7), some (.int x8), some (.int q9)] [.int x8] (fun _ => rfl) ?_
              cases e
              exact hjq19 trivial
          replace e := eq16
          refine g_if (p1 := 133) (L1 := [some (.ref x0), some (.int y1), some (.int y2), some (.int y3), some (.int x4), some (.int (x5 + q12)), some (.int x6), some (.int x7), some (.int x8), some (.int q9)]) (S1 := []) (s1 := (l, r, h, j)) (p2 := 122) (L2 := [some (.ref x0), some (.int y1), some (.int y2), some (.int y3), some (.int x4), some (.int (x5 + q12)), some (.int x6), some (.int x7), some (.int x8), some (.int q9)]) (S2 := []) (s2 := (l, r, h, j)) rfl (fun _ _ => rfl) e (fun c13 e => ?_) (fun c13 e => ?_)
          · refine g_run 1 135 [some (.ref x0), some (.int y1), some (.int y2), some (.int y3), some (.int x4), some (.int (x5 + q12)), some (.int x6), some (.int x7), some (.int x8), some (.int q9)] [.int x6] (fun _ => rfl) ?_
            cases e
            exact hjq16 trivial
          · refine g_run 2 125 [some (.ref x0), some (.int y1), some (.int y2), some (.int y3), some (.int x4), some (.int (x5 + q12)), some (.int x6), some (.int x7), some (.int x8), some (.int q9)] [.int (-1 : Int32), .int x6] (fun _ => rfl) ?_
            refine g_if (p1 := 128) (L1 := [some (.ref x0), some (.int y1), some (.int y2), some (.int y3), some (.int x4), some (.int (x5 + q12)), some (.int x6), some (.int x7), some (.int x8), some (.int q9)]) (S1 := []) (s1 := (l, r, h, j)) (p2 := 133) (L2 := [some (.ref x0), some (.int y1), some (.int y2), some (.int y3), some (.int x4), some (.int (x5 + q12)), some (.int x6), some (.int x7), some (.int x8), some (.int q9)]) (S2 := []) (s2 := (l, r, h, j)) rfl (fun _ _ => rfl) e (fun c15 e => ?_) (fun c15 e => ?_)
            · refine g_run 2 135 [some (.ref x0), some (.int y1), some (.int y2), some (.int y3), some (.int x4), some (.int (x5 + q12)), some (.int x6), some (.int x7), some (.int x8), some (.int q9)] [.int x8] (fun _ => rfl) ?_
              cases e
              exact hjq16 trivial
            · refine g_run 1 135 [some (.ref x0), some (.int y1), some (.int y2), some (.int y3), some (.int x4), some (.int (x5 + q12)), some (.int x6), some (.int x7), some (.int x8), some (.int q9)] [.int x6] (fun _ => rfl) ?_
              cases e
              exact hjq16 trivial
        replace e := eq12
        refine g_if (p1 := 113) (L1 := [some (.ref x0), some (.int y1), some (.int y2), some (.int y3), some (.int x4), some (.int x5), some (.int x6), some (.int x7), some (.int x8), some (.int q9)]) (S1 := [.int x5]) (s1 := (l, r, h, j)) (p2 := 109) (L2 := [some (.ref x0), some (.int y1), some (.int y2), some (.int y3), some (.int x4), some (.int x5), some (.int x6), some (.int x7), some (.int x8), some (.int q9)]) (S2 := [.int x5]) (s2 := (l, r, h, j)) rfl (fun _ _ => rfl) e (fun c10 e => ?_) (fun c10 e => ?_)
        · refine g_run 1 114 [some (.ref x0), some (.int y1), some (.int y2), some (.int y3), some (.int x4), some (.int x5), some (.int x6), some (.int x7), some (.int x8), some (.int q9)] [.int (0 : Int32), .int x5] (fun _ => rfl) ?_
          cases e
          exact hjq12 trivial
        · refine g_run 2 114 [some (.ref x0), some (.int y1), some (.int y2), some (.int y3), some (.int x4), some (.int x5), some (.int x6), some (.int x7), some (.int x8), some (.int q9)] [.int (1 : Int32), .int x5] (fun _ => rfl) ?_
          cases e
          exact hjq12 trivial
      replace e := eq9
      refine g_if (p1 := 99) (L1 := [some (.ref x0), some (.int y1), some (.int y2), some (.int y3), some (.int x4), some (.int x5), some (.int x6), some (.int x7), some (.int x8), d9]) (S1 := []) (s1 := (l, r, h, j)) (p2 := 95) (L2 := [some (.ref x0), some (.int y1), some (.int y2), some (.int y3), some (.int x4), some (.int x5), some (.int x6), some (.int x7), some (.int x8), d9]) (S2 := []) (s2 := (l, r, h, j)) rfl (fun _ _ => rfl) e (fun c7 e => ?_) (fun c7 e => ?_)
      · refine g_run 1 100 [some (.ref x0), some (.int y1), some (.int y2), some (.int y3), some (.int x4), some (.int x5), some (.int x6), some (.int x7), some (.int x8), d9] [.int (0 : Int32)] (fun _ => rfl) ?_
        cases e
        exact hjq9 trivial
      · refine g_run 2 100 [some (.ref x0), some (.int y1), some (.int y2), some (.int y3), some (.int x4), some (.int x5), some (.int x6), some (.int x7), some (.int x8), d9] [.int (1 : Int32)] (fun _ => rfl) ?_
        cases e
        exact hjq9 trivial
theorem Md_read_s {X : Nat × (Nat → Int32)} {l : List (Nat × Nat)} {r : am_R} {h : am_F} {j : am_J} {a : Nat} {x1 : Int32} {x2 : Int32} {x3 : Int32} {x4 : Int32} (ka : Md_K l r a) {q : Int32 × am_F} (e : Md_read a x1 x2 x3 x4 h = some q) : Call X 244 [.ref a, .int x1, .int x2, .int x3, .int x4] (l, r, h, j) (some (.int q.1), (l, r, q.2, j)) := by
  unfold Md_read at e
  refine ⟨Nat.le_of_ble_eq_true rfl, ?_⟩
  show Ev X 244 0 [some (.ref a), some (.int x1), some (.int x2), some (.int x3), some (.int x4), none, none, none, none, none] [] (l, r, h, j) _
  refine g_run 2 2 [some (.ref a), some (.int x1), some (.int x2), some (.int x3), some (.int x4), none, none, none, none, none] [.int (0 : Int32), .ref a] (fun _ => rfl) ?_
  refine g_putI 5 rfl rfl (Md_l ka) ?_
  refine g_run 3 9 [some (.ref a), some (.int x1), some (.int x2), some (.int x3), some (.int x4), none, none, none, none, none] [.int (4 : Int32), .int (0 : Int32), .int x4] (fun _ => rfl) ?_
  refine g_cS 12 rfl rfl (by decide) rfl rfl rfl Md_in_s ?_
  refine g_if (p1 := 25) (L1 := [some (.ref a), some (.int x1), some (.int x2), some (.int x3), some (.int x4), none, none, none, none, none]) (S1 := []) (s1 := (l, r, (am_up h a 0 (0 : Int32)), j)) (p2 := 15) (L2 := [some (.ref a), some (.int x1), some (.int x2), some (.int x3), some (.int x4), none, none, none, none, none]) (S2 := []) (s2 := (l, r, (am_up h a 0 (0 : Int32)), j)) rfl (fun _ _ => rfl) e (fun c1 e => ?_) (fun c1 e => ?_)
  · refine g_run 1 27 [some (.ref a), some (.int x1), some (.int x2), some (.int x3), some (.int x4), none, none, none, none, none] [.int (-2 : Int32)] (fun _ => rfl) ?_
    cases e
    exact g_ret rfl (fun _ _ => rfl)
  · refine g_run 4 19 [some (.ref a), some (.int x1), some (.int x2), some (.int x3), some (.int x4), none, none, none, none, none] [.int x3, .int x2, .int x1, .ref a] (fun _ => rfl) ?_
    obtain ⟨q2, eq2, e⟩ := g_bd e
    refine g_cV 22 rfl rfl rfl rfl rfl (Md_l ka) (Md_layFits_s ka eq2) ?_
    refine g_if (p1 := 25) (L1 := [some (.ref a), some (.int x1), some (.int x2), some (.int x3), some (.int x4), none, none, none, none, none]) (S1 := []) (s1 := (l, r, q2.2, j)) (p2 := 28) (L2 := [some (.ref a), some (.int x1), some (.int x2), some (.int x3), some (.int x4), none, none, none, none, none]) (S2 := []) (s2 := (l, r, q2.2, j)) rfl (fun _ _ => rfl) e (fun c3 e => ?_) (fun c3 e => ?_)
    · refine g_run 1 27 [some (.ref a), some (.int x1), some (.int x2), some (.int x3), some (.int x4), none, none, none, none, none] [.int (-2 : Int32)] (fun _ => rfl) ?_
      cases e
      exact g_ret rfl (fun _ _ => rfl)
    · refine g_run 2 31 [some (.ref a), some (.int x1), some (.int x2), some (.int x3), some (.int x4), none, none, none, none, none] [.int (2 : Int32), .int x4] (fun _ => rfl) ?_
      refine g_if (p1 := 64) (L1 := [some (.ref a), some (.int x1), some (.int x2), some (.int x3), some (.int x4), none, none, none, none, none]) (S1 := []) (s1 := (l, r, q2.2, j)) (p2 := 34) (L2 := [some (.ref a), some (.int x1), some (.int x2), some (.int x3), some (.int x4), none, none, none, none, none]) (S2 := []) (s2 := (l, r, q2.2, j)) rfl (fun _ _ => rfl) e (fun c4 e => ?_) (fun c4 e => ?_)
      · refine g_run 8 76 [some (.ref a), some (.int x1), some (.int x2), some (.int x3), some (.int x4), some (.int (0 : Int32)), some (.int (-1 : Int32)), some (.int (-1 : Int32)), some (.int (0 : Int32)), none] [] (fun _ => rfl) ?_
        obtain ⟨q20, eq20, e⟩ := g_bd e
        refine Md_read_l76_s ka (fun d21 y22 => ?_) _ _ _ _ _ _ eq20
        refine g_run 1 159 [some (.ref a), some (.int x1), some (.int x2), some (.int x3), some (.int x4), some (.int q20.1), some (.int q20.2.1), some (.int q20.2.2), some (.int y22), d21] [.int x4] (fun _ => rfl) ?_
        refine g_if (p1 := 162) (L1 := [some (.ref a), some (.int x1), some (.int x2), some (.int x3), some (.int x4), some (.int q20.1), some (.int q20.2.1), some (.int q20.2.2), some (.int y22), d21]) (S1 := []) (s1 := (l, r, q2.2, j)) (p2 := 167) (L2 := [some (.ref a), some (.int x1), some (.int x2), some (.int x3), some (.int x4), some (.int q20.1), some (.int q20.2.1), some (.int q20.2.2), some (.int y22), d21]) (S2 := []) (s2 := (l, r, q2.2, j)) rfl (fun _ _ => rfl) e (fun c23 e => ?_) (fun c23 e => ?_)
        · refine g_run 2 180 [some (.ref a), some (.int x1), some (.int x2), some (.int x3), some (.int x4), some (.int q20.1), some (.int q20.2.1), some (.int q20.2.2), some (.int y22), d21] [.int q20.1] (fun _ => rfl) ?_
          cases e
          exact g_ret rfl (fun _ _ => rfl)
        · refine g_run 2 170 [some (.ref a), some (.int x1), some (.int x2), some (.int x3), some (.int x4), some (.int q20.1), some (.int q20.2.1), some (.int q20.2.2), some (.int y22), d21] [.int (1 : Int32), .int x4] (fun _ => rfl) ?_
          refine g_if (p1 := 173) (L1 := [some (.ref a), some (.int x1), some (.int x2), some (.int x3), some (.int x4), some (.int q20.1), some (.int q20.2.1), some (.int q20.2.2), some (.int y22), d21]) (S1 := []) (s1 := (l, r, q2.2, j)) (p2 := 178) (L2 := [some (.ref a), some (.int x1), some (.int x2), some (.int x3), some (.int x4), some (.int q20.1), some (.int q20.2.1), some (.int q20.2.2), some (.int y22), d21]) (S2 := []) (s2 := (l, r, q2.2, j)) rfl (fun _ _ => rfl) e (fun c24 e => ?_) (fun c24 e => ?_)
          · refine g_run 2 180 [some (.ref a), some (.int x1), some (.int x2), some (.int x3), some (.int x4), some (.int q20.1), some (.int q20.2.1), some (.int q20.2.2), some (.int y22), d21] [.int q20.2.1] (fun _ => rfl) ?_
            cases e
            exact g_ret rfl (fun _ _ => rfl)
          · refine g_run 1 180 [some (.ref a), some (.int x1), some (.int x2), some (.int x3), some (.int x4), some (.int q20.1), some (.int q20.2.1), some (.int q20.2.2), some (.int y22), d21] [.int q20.2.2] (fun _ => rfl) ?_
            cases e
            exact g_ret rfl (fun _ _ => rfl)
      · refine g_run 2 37 [some (.ref a), some (.int x1), some (.int x2), some (.int x3), some (.int x4), none, none, none, none, none] [.int (3 : Int32), .int x4] (fun _ => rfl) ?_
        refine g_if (p1 := 40) (L1 := [some (.ref a), some (.int x1), some (.int x2), some (.int x3), some (.int x4), none, none, none, none, none]) (S1 := []) (s1 := (l, r, q2.2, j)) (p2 := 47) (L2 := [some (.ref a), some (.int x1), some (.int x2), some (.int x3), some (.int x4), none, none, none, none, none]) (S2 := []) (s2 := (l, r, q2.2, j)) rfl (fun _ _ => rfl) e (fun c25 e => ?_) (fun c25 e => ?_)
        · refine g_run 1 41 [some (.ref a), some (.int x1), some (.int x2), some (.int x3), some (.int x4), none, none, none, none, none] [.ref a] (fun _ => rfl) ?_
          refine g_getI 44 rfl rfl (Md_l ka) ?_
          refine g_run 1 63 [some (.ref a), some (.int x1), some (.int x2), some (.int x3), some (.int x4), none, none, none, none, none] [.int (q2.2 a 45)] (fun _ => rfl) ?_
          cases e
          exact g_ret rfl (fun _ _ => rfl)
        · refine g_run 1 48 [some (.ref a), some (.int x1), some (.int x2), some (.int x3), some (.int x4), none, none, none, none, none] [.ref a] (fun _ => rfl) ?_
          refine g_getI 51 rfl rfl (Md_l ka) ?_
          refine g_if (p1 := 54) (L1 := [some (.ref a), some (.int x1), some (.int x2), some (.int x3), some (.int x4), none, none, none, none, none]) (S1 := []) (s1 := (l, r, q2.2, j)) (p2 := 58) (L2 := [some (.ref a), some (.int x1), some (.int x2), some (.int x3), some (.int x4), none, none, none, none, none]) (S2 := []) (s2 := (l, r, q2.2, j)) rfl (fun _ _ => rfl) e (fun c26 e => ?_) (fun c26 e => ?_)
          · refine g_run 2 63 [some (.ref a), some (.int x1), some (.int x2), some (.int x3), some (.int x4), none, none, none, none, none] [.int (-1 : Int32)] (fun _ => rfl) ?_
            cases e
            exact g_ret rfl (fun _ _ => rfl)
          · refine g_run 2 60 [some (.ref a), some (.int x1), some (.int x2), some (.int x3), some (.int x4), none, none, none, none, none] [.int x3, .ref a] (fun _ => rfl) ?_
            obtain ⟨q27, eq27, e⟩ := g_bd e
            refine g_cV 63 rfl rfl rfl rfl rfl (Md_l ka) (Md_tells_s ka eq27) ?_
            cases e
            exact g_ret rfl (fun _ _ => rfl)
def Md_alarmMany (a : Nat) (h : am_F) : Option (Int32) :=
  (g_ix ((33 : Int32) * (h a 46)) 264).bind fun k1 =>
  some (h (a + 8) k1)
theorem Md_alarmMany_s {X : Nat × (Nat → Int32)} {l : List (Nat × Nat)} {r : am_R} {h : am_F} {j : am_J} {a : Nat} (ka : Md_K l r a) {q : Int32} (e : Md_alarmMany a h = some q) : Call X 245 [.ref a] (l, r, h, j) (some (.int q), (l, r, h, j)) := by
  unfold Md_alarmMany at e
  refine ⟨Nat.le_of_ble_eq_true rfl, ?_⟩
  show Ev X 245 0 [some (.ref a)] [] (l, r, h, j) _
  refine g_run 1 1 [some (.ref a)] [.ref a] (fun _ => rfl) ?_
  refine g_getA 4 rfl rfl (Md_l ka) (Md_r8 ka) ?_
  refine g_run 2 7 [some (.ref a)] [.ref a, .int (33 : Int32), .ref (a + 8)] (fun _ => rfl) ?_
  refine g_getI 10 rfl rfl (Md_l ka) ?_
  refine g_run 1 11 [some (.ref a)] [.int ((33 : Int32) * (h a 46)), .ref (a + 8)] (fun _ => rfl) ?_
  obtain ⟨k1, ek1, e⟩ := g_bd e
  refine g_iald 12 rfl rfl (Md_k8 ka) ek1 ?_
  cases e
  exact g_ret rfl (fun _ _ => rfl)
def Md_alarmOf (a : Nat) (x1 : Int32) (x2 : Int32) (h : am_F) : Option (Int32) :=
  (g_ix (((((33 : Int32) * (h a 46)) + (1 : Int32)) + ((4 : Int32) * x1)) + x2) 264).bind fun k1 =>
  some (h (a + 8) k1)
theorem Md_alarmOf_s {X : Nat × (Nat → Int32)} {l : List (Nat × Nat)} {r : am_R} {h : am_F} {j : am_J} {a : Nat} {x1 : Int32} {x2 : Int32} (ka : Md_K l r a) {q : Int32} (e : Md_alarmOf a x1 x2 h = some q) : Call X 246 [.ref a, .int x1, .int x2] (l, r, h, j) (some (.int q), (l, r, h, j)) := by
  unfold Md_alarmOf at e
  refine ⟨Nat.le_of_ble_eq_true rfl, ?_⟩
  show Ev X 246 0 [some (.ref a), some (.int x1), some (.int x2)] [] (l, r, h, j) _
  refine g_run 1 1 [some (.ref a), some (.int x1), some (.int x2)] [.ref a] (fun _ => rfl) ?_
  refine g_getA 4 rfl rfl (Md_l ka) (Md_r8 ka) ?_
  refine g_run 2 7 [some (.ref a), some (.int x1), some (.int x2)] [.ref a, .int (33 : Int32), .ref (a + 8)] (fun _ => rfl) ?_
  refine g_getI 10 rfl rfl (Md_l ka) ?_
  refine g_run 9 19 [some (.ref a), some (.int x1), some (.int x2)] [.int (((((33 : Int32) * (h a 46)) + (1 : Int32)) + ((4 : Int32) * x1)) + x2), .ref (a + 8)] (fun _ => rfl) ?_
  obtain ⟨k1, ek1, e⟩ := g_bd e
  refine g_iald 20 rfl rfl (Md_k8 ka) ek1 ?_
  cases e
  exact g_ret rfl (fun _ _ => rfl)
def Md_costOf (a : Nat) (x1 : Int32) (h : am_F) : Option (Int32) :=
  (Md_alarmOf a x1 (0 : Int32) h).bind fun q1 =>
  (Md_alarmOf a x1 (2 : Int32) h).bind fun q2 =>
  (Md_alarmOf a x1 (1 : Int32) h).bind fun q3 =>
  (Md_alarmOf a x1 (3 : Int32) h).bind fun q4 =>
  some (Md_lesser (q1 * q2) (q3 * q4))
theorem Md_costOf_s {X : Nat × (Nat → Int32)} {l : List (Nat × Nat)} {r : am_R} {h : am_F} {j : am_J} {a : Nat} {x1 : Int32} (ka : Md_K l r a) {q : Int32} (e : Md_costOf a x1 h = some q) : Call X 247 [.ref a, .int x1] (l, r, h, j) (some (.int q), (l, r, h, j)) := by
  unfold Md_costOf at e
  refine ⟨Nat.le_of_ble_eq_true rfl, ?_⟩
  show Ev X 247 0 [some (.ref a), some (.int x1)] [] (l, r, h, j) _
  refine g_run 3 3 [some (.ref a), some (.int x1)] [.int (0 : Int32), .int x1, .ref a] (fun _ => rfl) ?_
  obtain ⟨q1, eq1, e⟩ := g_bd e
  refine g_cV 6 rfl rfl rfl rfl rfl (Md_l ka) (Md_alarmOf_s ka eq1) ?_
  refine g_run 3 9 [some (.ref a), some (.int x1)] [.int (2 : Int32), .int x1, .ref a, .int q1] (fun _ => rfl) ?_
  obtain ⟨q2, eq2, e⟩ := g_bd e
  refine g_cV 12 rfl rfl rfl rfl rfl (Md_l ka) (Md_alarmOf_s ka eq2) ?_
  refine g_run 4 16 [some (.ref a), some (.int x1)] [.int (1 : Int32), .int x1, .ref a, .int (q1 * q2)] (fun _ => rfl) ?_
  obtain ⟨q3, eq3, e⟩ := g_bd e
  refine g_cV 19 rfl rfl rfl rfl rfl (Md_l ka) (Md_alarmOf_s ka eq3) ?_
  refine g_run 3 22 [some (.ref a), some (.int x1)] [.int (3 : Int32), .int x1, .ref a, .int q3, .int (q1 * q2)] (fun _ => rfl) ?_
  obtain ⟨q4, eq4, e⟩ := g_bd e
  refine g_cV 25 rfl rfl rfl rfl rfl (Md_l ka) (Md_alarmOf_s ka eq4) ?_
  refine g_run 1 26 [some (.ref a), some (.int x1)] [.int (q3 * q4), .int (q1 * q2)] (fun _ => rfl) ?_
  refine g_cS 29 rfl rfl (by decide) rfl rfl rfl Md_lesser_s ?_
  cases e
  exact g_ret rfl (fun _ _ => rfl)
def Md_falls (a : Nat) (x1 : Int32) (h : am_F) : Option (Int32) :=
  (Md_costOf a x1 h).bind fun q1 =>
  (Md_alarmOf a x1 (0 : Int32) h).bind fun q2 =>
  (Md_alarmOf a x1 (2 : Int32) h).bind fun q3 =>
  (Md_alarmOf a x1 (3 : Int32) h).bind fun q4 =>
  some (q1 - (q2 * (Md_lesser q3 q4)))
theorem Md_falls_s {X : Nat × (Nat → Int32)} {l : List (Nat × Nat)} {r : am_R} {h : am_F} {j : am_J} {a : Nat} {x1 : Int32} (ka : Md_K l r a) {q : Int32} (e : Md_falls a x1 h = some q) : Call X 248 [.ref a, .int x1] (l, r, h, j) (some (.int q), (l, r, h, j)) := by
  unfold Md_falls at e
  refine ⟨Nat.le_of_ble_eq_true rfl, ?_⟩
  show Ev X 248 0 [some (.ref a), some (.int x1)] [] (l, r, h, j) _
  refine g_run 2 2 [some (.ref a), some (.int x1)] [.int x1, .ref a] (fun _ => rfl) ?_
  obtain ⟨q1, eq1, e⟩ := g_bd e
  refine g_cV 5 rfl rfl rfl rfl rfl (Md_l ka) (Md_costOf_s ka eq1) ?_
  refine g_run 3 8 [some (.ref a), some (.int x1)] [.int (0 : Int32), .int x1, .ref a, .int q1] (fun _ => rfl) ?_
  obtain ⟨q2, eq2, e⟩ := g_bd e
  refine g_cV 11 rfl rfl rfl rfl rfl (Md_l ka) (Md_alarmOf_s ka eq2) ?_
  refine g_run 3 14 [some (.ref a), some (.int x1)] [.int (2 : Int32), .int x1, .ref a, .int q2, .int q1] (fun _ => rfl) ?_
  obtain ⟨q3, eq3, e⟩ := g_bd e
  refine g_cV 17 rfl rfl rfl rfl rfl (Md_l ka) (Md_alarmOf_s ka eq3) ?_
  refine g_run 3 20 [some (.ref a), some (.int x1)] [.int (3 : Int32), .int x1, .ref a, .int q3, .int q2, .int q1] (fun _ => rfl) ?_
  obtain ⟨q4, eq4, e⟩ := g_bd e
  refine g_cV 23 rfl rfl rfl rfl rfl (Md_l ka) (Md_alarmOf_s ka eq4) ?_
  refine g_cS 26 rfl rfl (by decide) rfl rfl rfl Md_lesser_s ?_
  refine g_run 2 28 [some (.ref a), some (.int x1)] [.int (q1 - (q2 * (Md_lesser q3 q4)))] (fun _ => rfl) ?_
  cases e
  exact g_ret rfl (fun _ _ => rfl)
def Md_mend_l4 (x0 : Nat) (h : am_F) : Nat → Int32 → Int32 → Option (Int32)
  | 0, _, _ => none
  | n + 1, x1, x2 =>
    (Md_alarmMany x0 h).bind fun q1 =>
    if q1 ≤ x2 then
      some x1
    else
      (if x1 = (-1 : Int32) then
          some x2
        else
          (Md_falls x0 x2 h).bind fun q5 =>
          (Md_alarmOf x0 x1 (1 : Int32) h).bind fun q6 =>
          (Md_falls x0 x1 h).bind fun q7 =>
          (Md_alarmOf x0 x2 (1 : Int32) h).bind fun q8 =>
          if (q5 * q6) ≤ (q7 * q8) then
            some x1
          else
            some x2 : Option (Int32)).bind fun q10 =>
      Md_mend_l4 x0 h n q10 (x2 + (1 : Int32))
def Md_mend (a : Nat) (h : am_F) : Option (Int32) :=
  (Md_mend_l4 a h g_fu (-1 : Int32) (0 : Int32)).bind fun q11 =>
  some q11
theorem Md_mend_l4_s {X : Nat × (Nat → Int32)} {l : List (Nat × Nat)} {r : am_R} {x0 : Nat} {h : am_F} {j : am_J} {q : Int32} {R : Option Value × am_S} (kx0 : Md_K l r x0) (hx : ∀ (y2 : Int32) , Ev X 249 56 [some (.ref x0), some (.int q), some (.int y2)] [] (l, r, h, j) R) : ∀ (n : Nat) (x1 : Int32) (x2 : Int32), Md_mend_l4 x0 h n x1 x2 = some q → Ev X 249 4 [some (.ref x0), some (.int x1), some (.int x2)] [] (l, r, h, j) R := by
  intro n
  induction n with
  | zero => intro x1 x2 e; cases e
  | succ n ih =>
    intro x1 x2 e
    unfold Md_mend_l4 at e
    refine g_run 2 6 [some (.ref x0), some (.int x1), some (.int x2)] [.ref x0, .int x2] (fun _ => rfl) ?_
    obtain ⟨q1, eq1, e⟩ := g_bd e
    refine g_cV 9 rfl rfl rfl rfl rfl (Md_l kx0) (Md_alarmMany_s kx0 eq1) ?_
    refine g_if (p1 := 56) (L1 := [some (.ref x0), some (.int x1), some (.int x2)]) (S1 := []) (s1 := (l, r, h, j)) (p2 := 12) (L2 := [some (.ref x0), some (.int x1), some (.int x2)]) (S2 := []) (s2 := (l, r, h, j)) rfl (fun _ _ => rfl) e (fun c2 e => ?_) (fun c2 e => ?_)
    · cases e
      exact hx _
    · refine g_run 2 14 [some (.ref x0), some (.int x1), some (.int x2)] [.int (-1 : Int32), .int x1] (fun _ => rfl) ?_
      obtain ⟨q10, eq10, e⟩ := g_bd e
      have hjq10 : ∀ (_ : True), Ev X 249 49 [some (.ref x0), some (.int x1), some (.int x2)] [.int q10] (l, r, h, j) R := by
        intro _
        refine g_run 3 4 [some (.ref x0), some (.int q10), some (.int (x2 + (1 : Int32)))] [] (fun _ => rfl) ?_
        exact ih _ _ e
      replace e := eq10
      refine g_if (p1 := 44) (L1 := [some (.ref x0), some (.int x1), some (.int x2)]) (S1 := []) (s1 := (l, r, h, j)) (p2 := 17) (L2 := [some (.ref x0), some (.int x1), some (.int x2)]) (S2 := []) (s2 := (l, r, h, j)) rfl (fun _ _ => rfl) e (fun c3 e => ?_) (fun c3 e => ?_)
      · refine g_run 2 49 [some (.ref x0), some (.int x1), some (.int x2)] [.int x2] (fun _ => rfl) ?_
        cases e
        exact hjq10 trivial
      · refine g_run 2 19 [some (.ref x0), some (.int x1), some (.int x2)] [.int x2, .ref x0] (fun _ => rfl) ?_
        obtain ⟨q5, eq5, e⟩ := g_bd e
        refine g_cV 22 rfl rfl rfl rfl rfl (Md_l kx0) (Md_falls_s kx0 eq5) ?_
        refine g_run 3 25 [some (.ref x0), some (.int x1), some (.int x2)] [.int (1 : Int32), .int x1, .ref x0, .int q5] (fun _ => rfl) ?_
        obtain ⟨q6, eq6, e⟩ := g_bd e
        refine g_cV 28 rfl rfl rfl rfl rfl (Md_l kx0) (Md_alarmOf_s kx0 eq6) ?_
        refine g_run 3 31 [some (.ref x0), some (.int x1), some (.int x2)] [.int x1, .ref x0, .int (q5 * q6)] (fun _ => rfl) ?_
        obtain ⟨q7, eq7, e⟩ := g_bd e
        refine g_cV 34 rfl rfl rfl rfl rfl (Md_l kx0) (Md_falls_s kx0 eq7) ?_
        refine g_run 3 37 [some (.ref x0), some (.int x1), some (.int x2)] [.int (1 : Int32), .int x2, .ref x0, .int q7, .int (q5 * q6)] (fun _ => rfl) ?_
        obtain ⟨q8, eq8, e⟩ := g_bd e
        refine g_cV 40 rfl rfl rfl rfl rfl (Md_l kx0) (Md_alarmOf_s kx0 eq8) ?_
        refine g_run 1 41 [some (.ref x0), some (.int x1), some (.int x2)] [.int (q7 * q8), .int (q5 * q6)] (fun _ => rfl) ?_
        refine g_if (p1 := 48) (L1 := [some (.ref x0), some (.int x1), some (.int x2)]) (S1 := []) (s1 := (l, r, h, j)) (p2 := 44) (L2 := [some (.ref x0), some (.int x1), some (.int x2)]) (S2 := []) (s2 := (l, r, h, j)) rfl (fun _ _ => rfl) e (fun c9 e => ?_) (fun c9 e => ?_)
        · refine g_run 1 49 [some (.ref x0), some (.int x1), some (.int x2)] [.int x1] (fun _ => rfl) ?_
          cases e
          exact hjq10 trivial
        · refine g_run 2 49 [some (.ref x0), some (.int x1), some (.int x2)] [.int x2] (fun _ => rfl) ?_
          cases e
          exact hjq10 trivial
theorem Md_mend_s {X : Nat × (Nat → Int32)} {l : List (Nat × Nat)} {r : am_R} {h : am_F} {j : am_J} {a : Nat} (ka : Md_K l r a) {q : Int32} (e : Md_mend a h = some q) : Call X 249 [.ref a] (l, r, h, j) (some (.int q), (l, r, h, j)) := by
  unfold Md_mend at e
  refine ⟨Nat.le_of_ble_eq_true rfl, ?_⟩
  show Ev X 249 0 [some (.ref a), none, none] [] (l, r, h, j) _
  refine g_run 4 4 [some (.ref a), some (.int (-1 : Int32)), some (.int (0 : Int32))] [] (fun _ => rfl) ?_
  obtain ⟨q11, eq11, e⟩ := g_bd e
  refine Md_mend_l4_s ka (fun y12 => ?_) _ _ _ eq11
  refine g_run 1 57 [some (.ref a), some (.int q11), some (.int y12)] [.int q11] (fun _ => rfl) ?_
  cases e
  exact g_ret rfl (fun _ _ => rfl)
def Md_alarm (a : Nat) (x1 : Int32) (x2 : Int32) (x3 : Int32) (h : am_F) : Option (Int32 × am_F) :=
  (Md_is a (2 : Int32) x1 (am_up (am_up h a 0 (0 : Int32)) a 46 x1)).bind fun q1 =>
  if q1 = 0 then
    some ((-2 : Int32), (am_up (am_up h a 0 (0 : Int32)) a 46 x1))
  else
    if x2 = (-1 : Int32) then
      if x3 = 0 then
        (Md_alarmMany a (am_up (am_up h a 0 (0 : Int32)) a 46 x1)).bind fun q5 =>
        some (q5, (am_up (am_up h a 0 (0 : Int32)) a 46 x1))
      else
        if x3 = (1 : Int32) then
          (Md_mend a (am_up (am_up h a 0 (0 : Int32)) a 46 x1)).bind fun q7 =>
          some (q7, (am_up (am_up h a 0 (0 : Int32)) a 46 x1))
        else
          some ((-2 : Int32), (am_up (am_up h a 0 (0 : Int32)) a 46 x1))
    else
      (Md_alarmMany a (am_up (am_up h a 0 (0 : Int32)) a 46 x1)).bind fun q8 =>
      if (Md_in x2 (0 : Int32) (q8 - (1 : Int32))) = 0 then
        some ((-2 : Int32), (am_up (am_up h a 0 (0 : Int32)) a 46 x1))
      else
        if x3 = (4 : Int32) then
          (Md_alarmOf a x2 (0 : Int32) (am_up (am_up h a 0 (0 : Int32)) a 46 x1)).bind fun q11 =>
          (Md_alarmOf a x2 (2 : Int32) (am_up (am_up h a 0 (0 : Int32)) a 46 x1)).bind fun q12 =>
          (Md_alarmOf a x2 (1 : Int32) (am_up (am_up h a 0 (0 : Int32)) a 46 x1)).bind fun q13 =>
          (Md_alarmOf a x2 (3 : Int32) (am_up (am_up h a 0 (0 : Int32)) a 46 x1)).bind fun q14 =>
          if (q11 * q12) < (q13 * q14) then
            some ((0 : Int32), (am_up (am_up h a 0 (0 : Int32)) a 46 x1))
          else
            some ((1 : Int32), (am_up (am_up h a 0 (0 : Int32)) a 46 x1))
        else
          if (Md_in x3 (0 : Int32) (3 : Int32)) = 0 then
            if x3 = (5 : Int32) then
              (Md_costOf a x2 (am_up (am_up h a 0 (0 : Int32)) a 46 x1)).bind fun q18 =>
              some (q18, (am_up (am_up h a 0 (0 : Int32)) a 46 x1))
            else
              some ((-2 : Int32), (am_up (am_up h a 0 (0 : Int32)) a 46 x1))
          else
            (Md_alarmOf a x2 x3 (am_up (am_up h a 0 (0 : Int32)) a 46 x1)).bind fun q19 =>
            some (q19, (am_up (am_up h a 0 (0 : Int32)) a 46 x1))
theorem Md_alarm_s {X : Nat × (Nat → Int32)} {l : List (Nat × Nat)} {r : am_R} {h : am_F} {j : am_J} {a : Nat} {x1 : Int32} {x2 : Int32} {x3 : Int32} (ka : Md_K l r a) {q : Int32 × am_F} (e : Md_alarm a x1 x2 x3 h = some q) : Call X 250 [.ref a, .int x1, .int x2, .int x3] (l, r, h, j) (some (.int q.1), (l, r, q.2, j)) := by
  unfold Md_alarm at e
  refine ⟨Nat.le_of_ble_eq_true rfl, ?_⟩
  show Ev X 250 0 [some (.ref a), some (.int x1), some (.int x2), some (.int x3)] [] (l, r, h, j) _
  refine g_run 2 2 [some (.ref a), some (.int x1), some (.int x2), some (.int x3)] [.int (0 : Int32), .ref a] (fun _ => rfl) ?_
  refine g_putI 5 rfl rfl (Md_l ka) ?_
  refine g_run 2 7 [some (.ref a), some (.int x1), some (.int x2), some (.int x3)] [.int x1, .ref a] (fun _ => rfl) ?_
  refine g_putI 10 rfl rfl (Md_l ka) ?_
  refine g_run 3 13 [some (.ref a), some (.int x1), some (.int x2), some (.int x3)] [.int x1, .int (2 : Int32), .ref a] (fun _ => rfl) ?_
  obtain ⟨q1, eq1, e⟩ := g_bd e
  refine g_cV 16 rfl rfl rfl rfl rfl (Md_l ka) (Md_is_s ka eq1) ?_
  refine g_if (p1 := 19) (L1 := [some (.ref a), some (.int x1), some (.int x2), some (.int x3)]) (S1 := []) (s1 := (l, r, (am_up (am_up h a 0 (0 : Int32)) a 46 x1), j)) (p2 := 22) (L2 := [some (.ref a), some (.int x1), some (.int x2), some (.int x3)]) (S2 := []) (s2 := (l, r, (am_up (am_up h a 0 (0 : Int32)) a 46 x1), j)) rfl (fun _ _ => rfl) e (fun c2 e => ?_) (fun c2 e => ?_)
  · refine g_run 1 21 [some (.ref a), some (.int x1), some (.int x2), some (.int x3)] [.int (-2 : Int32)] (fun _ => rfl) ?_
    cases e
    exact g_ret rfl (fun _ _ => rfl)
  · refine g_run 2 24 [some (.ref a), some (.int x1), some (.int x2), some (.int x3)] [.int (-1 : Int32), .int x2] (fun _ => rfl) ?_
    refine g_if (p1 := 27) (L1 := [some (.ref a), some (.int x1), some (.int x2), some (.int x3)]) (S1 := []) (s1 := (l, r, (am_up (am_up h a 0 (0 : Int32)) a 46 x1), j)) (p2 := 53) (L2 := [some (.ref a), some (.int x1), some (.int x2), some (.int x3)]) (S2 := []) (s2 := (l, r, (am_up (am_up h a 0 (0 : Int32)) a 46 x1), j)) rfl (fun _ _ => rfl) e (fun c3 e => ?_) (fun c3 e => ?_)
    · refine g_run 1 28 [some (.ref a), some (.int x1), some (.int x2), some (.int x3)] [.int x3] (fun _ => rfl) ?_
      refine g_if (p1 := 31) (L1 := [some (.ref a), some (.int x1), some (.int x2), some (.int x3)]) (S1 := []) (s1 := (l, r, (am_up (am_up h a 0 (0 : Int32)) a 46 x1), j)) (p2 := 38) (L2 := [some (.ref a), some (.int x1), some (.int x2), some (.int x3)]) (S2 := []) (s2 := (l, r, (am_up (am_up h a 0 (0 : Int32)) a 46 x1), j)) rfl (fun _ _ => rfl) e (fun c4 e => ?_) (fun c4 e => ?_)
      · refine g_run 1 32 [some (.ref a), some (.int x1), some (.int x2), some (.int x3)] [.ref a] (fun _ => rfl) ?_
        obtain ⟨q5, eq5, e⟩ := g_bd e
        refine g_cV 35 rfl rfl rfl rfl rfl (Md_l ka) (Md_alarmMany_s ka eq5) ?_
        refine g_run 1 52 [some (.ref a), some (.int x1), some (.int x2), some (.int x3)] [.int q5] (fun _ => rfl) ?_
        cases e
        exact g_ret rfl (fun _ _ => rfl)
      · refine g_run 2 40 [some (.ref a), some (.int x1), some (.int x2), some (.int x3)] [.int (1 : Int32), .int x3] (fun _ => rfl) ?_
        refine g_if (p1 := 43) (L1 := [some (.ref a), some (.int x1), some (.int x2), some (.int x3)]) (S1 := []) (s1 := (l, r, (am_up (am_up h a 0 (0 : Int32)) a 46 x1), j)) (p2 := 50) (L2 := [some (.ref a), some (.int x1), some (.int x2), some (.int x3)]) (S2 := []) (s2 := (l, r, (am_up (am_up h a 0 (0 : Int32)) a 46 x1), j)) rfl (fun _ _ => rfl) e (fun c6 e => ?_) (fun c6 e => ?_)
        · refine g_run 1 44 [some (.ref a), some (.int x1), some (.int x2), some (.int x3)] [.ref a] (fun _ => rfl) ?_
          obtain ⟨q7, eq7, e⟩ := g_bd e
          refine g_cV 47 rfl rfl rfl rfl rfl (Md_l ka) (Md_mend_s ka eq7) ?_
          refine g_run 1 52 [some (.ref a), some (.int x1), some (.int x2), some (.int x3)] [.int q7] (fun _ => rfl) ?_
          cases e
          exact g_ret rfl (fun _ _ => rfl)
        · refine g_run 1 52 [some (.ref a), some (.int x1), some (.int x2), some (.int x3)] [.int (-2 : Int32)] (fun _ => rfl) ?_
          cases e
          exact g_ret rfl (fun _ _ => rfl)
    · refine g_run 3 56 [some (.ref a), some (.int x1), some (.int x2), some (.int x3)] [.ref a, .int (0 : Int32), .int x2] (fun _ => rfl) ?_
      obtain ⟨q8, eq8, e⟩ := g_bd e
      refine g_cV 59 rfl rfl rfl rfl rfl (Md_l ka) (Md_alarmMany_s ka eq8) ?_
      refine g_run 2 61 [some (.ref a), some (.int x1), some (.int x2), some (.int x3)] [.int (q8 - (1 : Int32)), .int (0 : Int32), .int x2] (fun _ => rfl) ?_
      refine g_cS 64 rfl rfl (by decide) rfl rfl rfl Md_in_s ?_
      refine g_if (p1 := 67) (L1 := [some (.ref a), some (.int x1), some (.int x2), some (.int x3)]) (S1 := []) (s1 := (l, r, (am_up (am_up h a 0 (0 : Int32)) a 46 x1), j)) (p2 := 70) (L2 := [some (.ref a), some (.int x1), some (.int x2), some (.int x3)]) (S2 := []) (s2 := (l, r, (am_up (am_up h a 0 (0 : Int32)) a 46 x1), j)) rfl (fun _ _ => rfl) e (fun c9 e => ?_) (fun c9 e => ?_)
      · refine g_run 1 69 [some (.ref a), some (.int x1), some (.int x2), some (.int x3)] [.int (-2 : Int32)] (fun _ => rfl) ?_
        cases e
        exact g_ret rfl (fun _ _ => rfl)
      · refine g_run 2 72 [some (.ref a), some (.int x1), some (.int x2), some (.int x3)] [.int (4 : Int32), .int x3] (fun _ => rfl) ?_
        refine g_if (p1 := 75) (L1 := [some (.ref a), some (.int x1), some (.int x2), some (.int x3)]) (S1 := []) (s1 := (l, r, (am_up (am_up h a 0 (0 : Int32)) a 46 x1), j)) (p2 := 110) (L2 := [some (.ref a), some (.int x1), some (.int x2), some (.int x3)]) (S2 := []) (s2 := (l, r, (am_up (am_up h a 0 (0 : Int32)) a 46 x1), j)) rfl (fun _ _ => rfl) e (fun c10 e => ?_) (fun c10 e => ?_)
        · refine g_run 3 78 [some (.ref a), some (.int x1), some (.int x2), some (.int x3)] [.int (0 : Int32), .int x2, .ref a] (fun _ => rfl) ?_
          obtain ⟨q11, eq11, e⟩ := g_bd e
          refine g_cV 81 rfl rfl rfl rfl rfl (Md_l ka) (Md_alarmOf_s ka eq11) ?_
          refine g_run 3 84 [some (.ref a), some (.int x1), some (.int x2), some (.int x3)] [.int (2 : Int32), .int x2, .ref a, .int q11] (fun _ => rfl) ?_
          obtain ⟨q12, eq12, e⟩ := g_bd e
          refine g_cV 87 rfl rfl rfl rfl rfl (Md_l ka) (Md_alarmOf_s ka eq12) ?_
          refine g_run 4 91 [some (.ref a), some (.int x1), some (.int x2), some (.int x3)] [.int (1 : Int32), .int x2, .ref a, .int (q11 * q12)] (fun _ => rfl) ?_
          obtain ⟨q13, eq13, e⟩ := g_bd e
          refine g_cV 94 rfl rfl rfl rfl rfl (Md_l ka) (Md_alarmOf_s ka eq13) ?_
          refine g_run 3 97 [some (.ref a), some (.int x1), some (.int x2), some (.int x3)] [.int (3 : Int32), .int x2, .ref a, .int q13, .int (q11 * q12)] (fun _ => rfl) ?_
          obtain ⟨q14, eq14, e⟩ := g_bd e
          refine g_cV 100 rfl rfl rfl rfl rfl (Md_l ka) (Md_alarmOf_s ka eq14) ?_
          refine g_run 1 101 [some (.ref a), some (.int x1), some (.int x2), some (.int x3)] [.int (q13 * q14), .int (q11 * q12)] (fun _ => rfl) ?_
          refine g_if (p1 := 108) (L1 := [some (.ref a), some (.int x1), some (.int x2), some (.int x3)]) (S1 := []) (s1 := (l, r, (am_up (am_up h a 0 (0 : Int32)) a 46 x1), j)) (p2 := 104) (L2 := [some (.ref a), some (.int x1), some (.int x2), some (.int x3)]) (S2 := []) (s2 := (l, r, (am_up (am_up h a 0 (0 : Int32)) a 46 x1), j)) rfl (fun _ _ => rfl) e (fun c15 e => ?_) (fun c15 e => ?_)
          · refine g_run 1 109 [some (.ref a), some (.int x1), some (.int x2), some (.int x3)] [.int (0 : Int32)] (fun _ => rfl) ?_
            cases e
            exact g_ret rfl (fun _ _ => rfl)
          · refine g_run 2 109 [some (.ref a), some (.int x1), some (.int x2), some (.int x3)] [.int (1 : Int32)] (fun _ => rfl) ?_
            cases e
            exact g_ret rfl (fun _ _ => rfl)
        · refine g_run 3 113 [some (.ref a), some (.int x1), some (.int x2), some (.int x3)] [.int (3 : Int32), .int (0 : Int32), .int x3] (fun _ => rfl) ?_
          refine g_cS 116 rfl rfl (by decide) rfl rfl rfl Md_in_s ?_
          refine g_if (p1 := 128) (L1 := [some (.ref a), some (.int x1), some (.int x2), some (.int x3)]) (S1 := []) (s1 := (l, r, (am_up (am_up h a 0 (0 : Int32)) a 46 x1), j)) (p2 := 119) (L2 := [some (.ref a), some (.int x1), some (.int x2), some (.int x3)]) (S2 := []) (s2 := (l, r, (am_up (am_up h a 0 (0 : Int32)) a 46 x1), j)) rfl (fun _ _ => rfl) e (fun c16 e => ?_) (fun c16 e => ?_)
          · refine g_run 2 130 [some (.ref a), some (.int x1), some (.int x2), some (.int x3)] [.int (5 : Int32), .int x3] (fun _ => rfl) ?_
            refine g_if (p1 := 133) (L1 := [some (.ref a), some (.int x1), some (.int x2), some (.int x3)]) (S1 := []) (s1 := (l, r, (am_up (am_up h a 0 (0 : Int32)) a 46 x1), j)) (p2 := 141) (L2 := [some (.ref a), some (.int x1), some (.int x2), some (.int x3)]) (S2 := []) (s2 := (l, r, (am_up (am_up h a 0 (0 : Int32)) a 46 x1), j)) rfl (fun _ _ => rfl) e (fun c17 e => ?_) (fun c17 e => ?_)
            · refine g_run 2 135 [some (.ref a), some (.int x1), some (.int x2), some (.int x3)] [.int x2, .ref a] (fun _ => rfl) ?_
              obtain ⟨q18, eq18, e⟩ := g_bd e
              refine g_cV 138 rfl rfl rfl rfl rfl (Md_l ka) (Md_costOf_s ka eq18) ?_
              refine g_run 1 143 [some (.ref a), some (.int x1), some (.int x2), some (.int x3)] [.int q18] (fun _ => rfl) ?_
              cases e
              exact g_ret rfl (fun _ _ => rfl)
            · refine g_run 1 143 [some (.ref a), some (.int x1), some (.int x2), some (.int x3)] [.int (-2 : Int32)] (fun _ => rfl) ?_
              cases e
              exact g_ret rfl (fun _ _ => rfl)
          · refine g_run 3 122 [some (.ref a), some (.int x1), some (.int x2), some (.int x3)] [.int x3, .int x2, .ref a] (fun _ => rfl) ?_
            obtain ⟨q19, eq19, e⟩ := g_bd e
            refine g_cV 125 rfl rfl rfl rfl rfl (Md_l ka) (Md_alarmOf_s ka eq19) ?_
            refine g_run 1 143 [some (.ref a), some (.int x1), some (.int x2), some (.int x3)] [.int q19] (fun _ => rfl) ?_
            cases e
            exact g_ret rfl (fun _ _ => rfl)
def Md_planMany (a : Nat) (h : am_F) : Option (Int32) :=
  (g_ix ((19 : Int32) * (h a 47)) 152).bind fun k1 =>
  some (h (a + 9) k1)
theorem Md_planMany_s {X : Nat × (Nat → Int32)} {l : List (Nat × Nat)} {r : am_R} {h : am_F} {j : am_J} {a : Nat} (ka : Md_K l r a) {q : Int32} (e : Md_planMany a h = some q) : Call X 251 [.ref a] (l, r, h, j) (some (.int q), (l, r, h, j)) := by
  unfold Md_planMany at e
  refine ⟨Nat.le_of_ble_eq_true rfl, ?_⟩
  show Ev X 251 0 [some (.ref a)] [] (l, r, h, j) _
  refine g_run 1 1 [some (.ref a)] [.ref a] (fun _ => rfl) ?_
  refine g_getA 4 rfl rfl (Md_l ka) (Md_r9 ka) ?_
  refine g_run 2 7 [some (.ref a)] [.ref a, .int (19 : Int32), .ref (a + 9)] (fun _ => rfl) ?_
  refine g_getI 10 rfl rfl (Md_l ka) ?_
  refine g_run 1 11 [some (.ref a)] [.int ((19 : Int32) * (h a 47)), .ref (a + 9)] (fun _ => rfl) ?_
  obtain ⟨k1, ek1, e⟩ := g_bd e
  refine g_iald 12 rfl rfl (Md_k9 ka) ek1 ?_
  cases e
  exact g_ret rfl (fun _ _ => rfl)
def Md_planOf (a : Nat) (x1 : Int32) (x2 : Int32) (h : am_F) : Option (Int32) :=
  (g_ix (((((19 : Int32) * (h a 47)) + (1 : Int32)) + ((3 : Int32) * x1)) + x2) 152).bind fun k1 =>
  some (h (a + 9) k1)
theorem Md_planOf_s {X : Nat × (Nat → Int32)} {l : List (Nat × Nat)} {r : am_R} {h : am_F} {j : am_J} {a : Nat} {x1 : Int32} {x2 : Int32} (ka : Md_K l r a) {q : Int32} (e : Md_planOf a x1 x2 h = some q) : Call X 252 [.ref a, .int x1, .int x2] (l, r, h, j) (some (.int q), (l, r, h, j)) := by
  unfold Md_planOf at e
  refine ⟨Nat.le_of_ble_eq_true rfl, ?_⟩
  show Ev X 252 0 [some (.ref a), some (.int x1), some (.int x2)] [] (l, r, h, j) _
  refine g_run 1 1 [some (.ref a), some (.int x1), some (.int x2)] [.ref a] (fun _ => rfl) ?_
  refine g_getA 4 rfl rfl (Md_l ka) (Md_r9 ka) ?_
  refine g_run 2 7 [some (.ref a), some (.int x1), some (.int x2)] [.ref a, .int (19 : Int32), .ref (a + 9)] (fun _ => rfl) ?_
  refine g_getI 10 rfl rfl (Md_l ka) ?_
  refine g_run 9 19 [some (.ref a), some (.int x1), some (.int x2)] [.int (((((19 : Int32) * (h a 47)) + (1 : Int32)) + ((3 : Int32) * x1)) + x2), .ref (a + 9)] (fun _ => rfl) ?_
  obtain ⟨k1, ek1, e⟩ := g_bd e
  refine g_iald 20 rfl rfl (Md_k9 ka) ek1 ?_
  cases e
  exact g_ret rfl (fun _ _ => rfl)
def Md_hasPlan (a : Nat) (x1 : Int32) (h : am_F) : Option (Int32 × am_F) :=
  (Md_is a (3 : Int32) x1 (am_up h a 47 x1)).bind fun q1 =>
  (g_bz q1).bind fun z9 =>
  some (z9, (am_up h a 47 x1))
theorem Md_hasPlan_s {X : Nat × (Nat → Int32)} {l : List (Nat × Nat)} {r : am_R} {h : am_F} {j : am_J} {a : Nat} {x1 : Int32} (ka : Md_K l r a) {q : Int32 × am_F} (e : Md_hasPlan a x1 h = some q) : Call X 253 [.ref a, .int x1] (l, r, h, j) (some (.int q.1), (l, r, q.2, j)) := by
  unfold Md_hasPlan at e
  refine ⟨Nat.le_of_ble_eq_true rfl, ?_⟩
  show Ev X 253 0 [some (.ref a), some (.int x1)] [] (l, r, h, j) _
  refine g_run 2 2 [some (.ref a), some (.int x1)] [.int x1, .ref a] (fun _ => rfl) ?_
  refine g_putI 5 rfl rfl (Md_l ka) ?_
  refine g_run 3 8 [some (.ref a), some (.int x1)] [.int x1, .int (3 : Int32), .ref a] (fun _ => rfl) ?_
  obtain ⟨q1, eq1, e⟩ := g_bd e
  refine g_cV 11 rfl rfl rfl rfl rfl (Md_l ka) (Md_is_s ka eq1) ?_
  obtain ⟨z9, ez9, e⟩ := g_bd e
  cases e
  exact g_retZ rfl ez9 rfl
def Md_plan (a : Nat) (x1 : Int32) (x2 : Int32) (x3 : Int32) (h : am_F) : Option (Int32 × am_F) :=
  (Md_hasPlan a x1 (am_up h a 0 (0 : Int32))).bind fun q1 =>
  if q1.1 = 0 then
    some ((-2 : Int32), q1.2)
  else
    if x2 = (-1 : Int32) then
      if x3 = 0 then
        (Md_planMany a q1.2).bind fun q5 =>
        some (q5, q1.2)
      else
        some ((-2 : Int32), q1.2)
    else
      (Md_planMany a q1.2).bind fun q6 =>
      if (Md_in x2 (0 : Int32) (q6 - (1 : Int32))) = 0 then
        some ((-2 : Int32), q1.2)
      else
        if (Md_in x3 (0 : Int32) (2 : Int32)) = 0 then
          some ((-2 : Int32), q1.2)
        else
          (Md_planOf a x2 x3 q1.2).bind fun q9 =>
          some (q9, q1.2)
theorem Md_plan_s {X : Nat × (Nat → Int32)} {l : List (Nat × Nat)} {r : am_R} {h : am_F} {j : am_J} {a : Nat} {x1 : Int32} {x2 : Int32} {x3 : Int32} (ka : Md_K l r a) {q : Int32 × am_F} (e : Md_plan a x1 x2 x3 h = some q) : Call X 254 [.ref a, .int x1, .int x2, .int x3] (l, r, h, j) (some (.int q.1), (l, r, q.2, j)) := by
  unfold Md_plan at e
  refine ⟨Nat.le_of_ble_eq_true rfl, ?_⟩
  show Ev X 254 0 [some (.ref a), some (.int x1), some (.int x2), some (.int x3)] [] (l, r, h, j) _
  refine g_run 2 2 [some (.ref a), some (.int x1), some (.int x2), some (.int x3)] [.int (0 : Int32), .ref a] (fun _ => rfl) ?_
  refine g_putI 5 rfl rfl (Md_l ka) ?_
  refine g_run 2 7 [some (.ref a), some (.int x1), some (.int x2), some (.int x3)] [.int x1, .ref a] (fun _ => rfl) ?_
  obtain ⟨q1, eq1, e⟩ := g_bd e
  refine g_cV 10 rfl rfl rfl rfl rfl (Md_l ka) (Md_hasPlan_s ka eq1) ?_
  refine g_if (p1 := 13) (L1 := [some (.ref a), some (.int x1), some (.int x2), some (.int x3)]) (S1 := []) (s1 := (l, r, q1.2, j)) (p2 := 16) (L2 := [some (.ref a), some (.int x1), some (.int x2), some (.int x3)]) (S2 := []) (s2 := (l, r, q1.2, j)) rfl (fun _ _ => rfl) e (fun c2 e => ?_) (fun c2 e => ?_)
  · refine g_run 1 15 [some (.ref a), some (.int x1), some (.int x2), some (.int x3)] [.int (-2 : Int32)] (fun _ => rfl) ?_
    cases e
    exact g_ret rfl (fun _ _ => rfl)
  · refine g_run 2 18 [some (.ref a), some (.int x1), some (.int x2), some (.int x3)] [.int (-1 : Int32), .int x2] (fun _ => rfl) ?_
    refine g_if (p1 := 21) (L1 := [some (.ref a), some (.int x1), some (.int x2), some (.int x3)]) (S1 := []) (s1 := (l, r, q1.2, j)) (p2 := 35) (L2 := [some (.ref a), some (.int x1), some (.int x2), some (.int x3)]) (S2 := []) (s2 := (l, r, q1.2, j)) rfl (fun _ _ => rfl) e (fun c3 e => ?_) (fun c3 e => ?_)
    · refine g_run 1 22 [some (.ref a), some (.int x1), some (.int x2), some (.int x3)] [.int x3] (fun _ => rfl) ?_
      refine g_if (p1 := 25) (L1 := [some (.ref a), some (.int x1), some (.int x2), some (.int x3)]) (S1 := []) (s1 := (l, r, q1.2, j)) (p2 := 32) (L2 := [some (.ref a), some (.int x1), some (.int x2), some (.int x3)]) (S2 := []) (s2 := (l, r, q1.2, j)) rfl (fun _ _ => rfl) e (fun c4 e => ?_) (fun c4 e => ?_)
      · refine g_run 1 26 [some (.ref a), some (.int x1), some (.int x2), some (.int x3)] [.ref a] (fun _ => rfl) ?_
        obtain ⟨q5, eq5, e⟩ := g_bd e
        refine g_cV 29 rfl rfl rfl rfl rfl (Md_l ka) (Md_planMany_s ka eq5) ?_
        refine g_run 1 34 [some (.ref a), some (.int x1), some (.int x2), some (.int x3)] [.int q5] (fun _ => rfl) ?_
        cases e
        exact g_ret rfl (fun _ _ => rfl)
      · refine g_run 1 34 [some (.ref a), some (.int x1), some (.int x2), some (.int x3)] [.int (-2 : Int32)] (fun _ => rfl) ?_
        cases e
        exact g_ret rfl (fun _ _ => rfl)
    · refine g_run 3 38 [some (.ref a), some (.int x1), some (.int x2), some (.int x3)] [.ref a, .int (0 : Int32), .int x2] (fun _ => rfl) ?_
      obtain ⟨q6, eq6, e⟩ := g_bd e
      refine g_cV 41 rfl rfl rfl rfl rfl (Md_l ka) (Md_planMany_s ka eq6) ?_
      refine g_run 2 43 [some (.ref a), some (.int x1), some (.int x2), some (.int x3)] [.int (q6 - (1 : Int32)), .int (0 : Int32), .int x2] (fun _ => rfl) ?_
      refine g_cS 46 rfl rfl (by decide) rfl rfl rfl Md_in_s ?_
      refine g_if (p1 := 67) (L1 := [some (.ref a), some (.int x1), some (.int x2), some (.int x3)]) (S1 := []) (s1 := (l, r, q1.2, j)) (p2 := 49) (L2 := [some (.ref a), some (.int x1), some (.int x2), some (.int x3)]) (S2 := []) (s2 := (l, r, q1.2, j)) rfl (fun _ _ => rfl) e (fun c7 e => ?_) (fun c7 e => ?_)
      · refine g_run 1 69 [some (.ref a), some (.int x1), some (.int x2), some (.int x3)] [.int (-2 : Int32)] (fun _ => rfl) ?_
        cases e
        exact g_ret rfl (fun _ _ => rfl)
      · refine g_run 3 52 [some (.ref a), some (.int x1), some (.int x2), some (.int x3)] [.int (2 : Int32), .int (0 : Int32), .int x3] (fun _ => rfl) ?_
        refine g_cS 55 rfl rfl (by decide) rfl rfl rfl Md_in_s ?_
        refine g_if (p1 := 67) (L1 := [some (.ref a), some (.int x1), some (.int x2), some (.int x3)]) (S1 := []) (s1 := (l, r, q1.2, j)) (p2 := 58) (L2 := [some (.ref a), some (.int x1), some (.int x2), some (.int x3)]) (S2 := []) (s2 := (l, r, q1.2, j)) rfl (fun _ _ => rfl) e (fun c8 e => ?_) (fun c8 e => ?_)
        · refine g_run 1 69 [some (.ref a), some (.int x1), some (.int x2), some (.int x3)] [.int (-2 : Int32)] (fun _ => rfl) ?_
          cases e
          exact g_ret rfl (fun _ _ => rfl)
        · refine g_run 3 61 [some (.ref a), some (.int x1), some (.int x2), some (.int x3)] [.int x3, .int x2, .ref a] (fun _ => rfl) ?_
          obtain ⟨q9, eq9, e⟩ := g_bd e
          refine g_cV 64 rfl rfl rfl rfl rfl (Md_l ka) (Md_planOf_s ka eq9) ?_
          refine g_run 1 69 [some (.ref a), some (.int x1), some (.int x2), some (.int x3)] [.int q9] (fun _ => rfl) ?_
          cases e
          exact g_ret rfl (fun _ _ => rfl)
def Md_isDry (a : Nat) (x1 : Int32) (x2 : Int32) (h : am_F) : Option (Int32) :=
  (Md_wetness a x1 x2 h).bind fun q1 =>
  if q1 = 0 then
    some (1 : Int32)
  else
    some (0 : Int32)
theorem Md_isDry_s {X : Nat × (Nat → Int32)} {l : List (Nat × Nat)} {r : am_R} {h : am_F} {j : am_J} {a : Nat} {x1 : Int32} {x2 : Int32} (ka : Md_K l r a) {q : Int32} (e : Md_isDry a x1 x2 h = some q) : Call X 255 [.ref a, .int x1, .int x2] (l, r, h, j) (some (.int q), (l, r, h, j)) := by
  unfold Md_isDry at e
  refine ⟨Nat.le_of_ble_eq_true rfl, ?_⟩
  show Ev X 255 0 [some (.ref a), some (.int x1), some (.int x2)] [] (l, r, h, j) _
  refine g_run 3 3 [some (.ref a), some (.int x1), some (.int x2)] [.int x2, .int x1, .ref a] (fun _ => rfl) ?_
  obtain ⟨q1, eq1, e⟩ := g_bd e
  refine g_cV 6 rfl rfl rfl rfl rfl (Md_l ka) (Md_wetness_s ka eq1) ?_
  refine g_if (p1 := 9) (L1 := [some (.ref a), some (.int x1), some (.int x2)]) (S1 := []) (s1 := (l, r, h, j)) (p2 := 13) (L2 := [some (.ref a), some (.int x1), some (.int x2)]) (S2 := []) (s2 := (l, r, h, j)) rfl (fun _ _ => rfl) e (fun c2 e => ?_) (fun c2 e => ?_)
  · refine g_run 2 14 [some (.ref a), some (.int x1), some (.int x2)] [.int (1 : Int32)] (fun _ => rfl) ?_
    cases e
    exact g_retZ rfl (y := (1 : Int32)) rfl rfl
  · refine g_run 1 14 [some (.ref a), some (.int x1), some (.int x2)] [.int (0 : Int32)] (fun _ => rfl) ?_
    cases e
    exact g_retZ rfl (y := (0 : Int32)) rfl rfl
def Md_hasDry_l14 (x0 : Nat) (x1 : Int32) (x2 : Int32) (h : am_F) : Nat → Int32 → Int32 → Option (Int32)
  | 0, _, _ => none
  | n + 1, x3, x4 =>
    (Md_planMany x0 h).bind fun q3 =>
    if q3 ≤ x4 then
      some x3
    else
      (Md_planOf x0 x4 (0 : Int32) h).bind fun q5 =>
      (if q5 = x1 then
          (Md_planOf x0 x4 (1 : Int32) h).bind fun q8 =>
          (Md_isDry x0 q8 x2 h).bind fun q9 =>
          if q9 = 0 then
            (Md_planOf x0 x4 (2 : Int32) h).bind fun q11 =>
            (Md_isDry x0 q11 x2 h).bind fun q12 =>
            if q12 = 0 then
              some (0 : Int32)
            else
              some (1 : Int32)
          else
            some (1 : Int32)
        else
          some x3 : Option (Int32)).bind fun q14 =>
      Md_hasDry_l14 x0 x1 x2 h n q14 (x4 + (1 : Int32))
def Md_hasDry (a : Nat) (x1 : Int32) (x2 : Int32) (h : am_F) : Option (Int32) :=
  (Md_painted a x1 h).bind fun q1 =>
  (Md_isDry a q1 x2 h).bind fun q2 =>
  (Md_hasDry_l14 a x1 x2 h g_fu q2 (0 : Int32)).bind fun q15 =>
  (g_bz q15).bind fun z9 =>
  some z9
theorem Md_hasDry_l14_s {X : Nat × (Nat → Int32)} {l : List (Nat × Nat)} {r : am_R} {x0 : Nat} {x1 : Int32} {x2 : Int32} {h : am_F} {j : am_J} {q : Int32} {R : Option Value × am_S} (kx0 : Md_K l r x0) (hx : ∀ (y4 : Int32) , Ev X 256 80 [some (.ref x0), some (.int x1), some (.int x2), some (.int q), some (.int y4)] [] (l, r, h, j) R) : ∀ (n : Nat) (x3 : Int32) (x4 : Int32), Md_hasDry_l14 x0 x1 x2 h n x3 x4 = some q → Ev X 256 14 [some (.ref x0), some (.int x1), some (.int x2), some (.int x3), some (.int x4)] [] (l, r, h, j) R := by
  intro n
  induction n with
  | zero => intro x3 x4 e; cases e
  | succ n ih =>
    intro x3 x4 e
    unfold Md_hasDry_l14 at e
    refine g_run 2 17 [some (.ref x0), some (.int x1), some (.int x2), some (.int x3), some (.int x4)] [.ref x0, .int x4] (fun _ => rfl) ?_
    obtain ⟨q3, eq3, e⟩ := g_bd e
    refine g_cV 20 rfl rfl rfl rfl rfl (Md_l kx0) (Md_planMany_s kx0 eq3) ?_
    refine g_if (p1 := 80) (L1 := [some (.ref x0), some (.int x1), some (.int x2), some (.int x3), some (.int x4)]) (S1 := []) (s1 := (l, r, h, j)) (p2 := 23) (L2 := [some (.ref x0), some (.int x1), some (.int x2), some (.int x3), some (.int x4)]) (S2 := []) (s2 := (l, r, h, j)) rfl (fun _ _ => rfl) e (fun c4 e => ?_) (fun c4 e => ?_)
    · cases e
      exact hx _
    · refine g_run 3 27 [some (.ref x0), some (.int x1), some (.int x2), some (.int x3), some (.int x4)] [.int (0 : Int32), .int x4, .ref x0] (fun _ => rfl) ?_
      obtain ⟨q5, eq5, e⟩ := g_bd e
      refine g_cV 30 rfl rfl rfl rfl rfl (Md_l kx0) (Md_planOf_s kx0 eq5) ?_
      refine g_run 1 31 [some (.ref x0), some (.int x1), some (.int x2), some (.int x3), some (.int x4)] [.int x1, .int q5] (fun _ => rfl) ?_
      obtain ⟨q14, eq14, e⟩ := g_bd e
      have hjq14 : ∀ (_ : True), Ev X 256 73 [some (.ref x0), some (.int x1), some (.int x2), some (.int x3), some (.int x4)] [.int q14] (l, r, h, j) R := by
        intro _
        refine g_run 3 14 [some (.ref x0), some (.int x1), some (.int x2), some (.int q14), some (.int (x4 + (1 : Int32)))] [] (fun _ => rfl) ?_
        exact ih _ _ e
      replace e := eq14
      refine g_if (p1 := 34) (L1 := [some (.ref x0), some (.int x1), some (.int x2), some (.int x3), some (.int x4)]) (S1 := []) (s1 := (l, r, h, j)) (p2 := 72) (L2 := [some (.ref x0), some (.int x1), some (.int x2), some (.int x3), some (.int x4)]) (S2 := []) (s2 := (l, r, h, j)) rfl (fun _ _ => rfl) e (fun c6 e => ?_) (fun c6 e => ?_)
      · refine g_run 4 39 [some (.ref x0), some (.int x1), some (.int x2), some (.int x3), some (.int x4)] [.int (1 : Int32), .int x4, .ref x0, .ref x0] (fun _ => rfl) ?_
        obtain ⟨q8, eq8, e⟩ := g_bd e
        refine g_cV 42 rfl rfl rfl rfl rfl (Md_l kx0) (Md_planOf_s kx0 eq8) ?_
        refine g_run 1 43 [some (.ref x0), some (.int x1), some (.int x2), some (.int x3), some (.int x4)] [.int x2, .int q8, .ref x0] (fun _ => rfl) ?_
        obtain ⟨q9, eq9, e⟩ := g_bd e
        refine g_cV 46 rfl rfl rfl rfl rfl (Md_l kx0) (Md_isDry_s kx0 eq9) ?_
        refine g_if (p1 := 49) (L1 := [some (.ref x0), some (.int x1), some (.int x2), some (.int x3), some (.int x4)]) (S1 := []) (s1 := (l, r, h, j)) (p2 := 64) (L2 := [some (.ref x0), some (.int x1), some (.int x2), some (.int x3), some (.int x4)]) (S2 := []) (s2 := (l, r, h, j)) rfl (fun _ _ => rfl) e (fun c10 e => ?_) (fun c10 e => ?_)
        · refine g_run 4 54 [some (.ref x0), some (.int x1), some (.int x2), some (.int x3), some (.int x4)] [.int (2 : Int32), .int x4, .ref x0, .ref x0] (fun _ => rfl) ?_
          obtain ⟨q11, eq11, e⟩ := g_bd e
          refine g_cV 57 rfl rfl rfl rfl rfl (Md_l kx0) (Md_planOf_s kx0 eq11) ?_
          refine g_run 1 58 [some (.ref x0), some (.int x1), some (.int x2), some (.int x3), some (.int x4)] [.int x2, .int q11, .ref x0] (fun _ => rfl) ?_
          obtain ⟨q12, eq12, e⟩ := g_bd e
          refine g_cV 61 rfl rfl rfl rfl rfl (Md_l kx0) (Md_isDry_s kx0 eq12) ?_
          refine g_if (p1 := 68) (L1 := [some (.ref x0), some (.int x1), some (.int x2), some (.int x3), some (.int x4)]) (S1 := []) (s1 := (l, r, h, j)) (p2 := 64) (L2 := [some (.ref x0), some (.int x1), some (.int x2), some (.int x3), some (.int x4)]) (S2 := []) (s2 := (l, r, h, j)) rfl (fun _ _ => rfl) e (fun c13 e => ?_) (fun c13 e => ?_)
          · refine g_run 2 73 [some (.ref x0), some (.int x1), some (.int x2), some (.int x3), some (.int x4)] [.int (0 : Int32)] (fun _ => rfl) ?_
            cases e
            exact hjq14 trivial
          · refine g_run 2 73 [some (.ref x0), some (.int x1), some (.int x2), some (.int x3), some (.int x4)] [.int (1 : Int32)] (fun _ => rfl) ?_
            cases e
            exact hjq14 trivial
        · refine g_run 2 73 [some (.ref x0), some (.int x1), some (.int x2), some (.int x3), some (.int x4)] [.int (1 : Int32)] (fun _ => rfl) ?_
          cases e
          exact hjq14 trivial
      · refine g_run 1 73 [some (.ref x0), some (.int x1), some (.int x2), some (.int x3), some (.int x4)] [.int x3] (fun _ => rfl) ?_
        cases e
        exact hjq14 trivial
theorem Md_hasDry_s {X : Nat × (Nat → Int32)} {l : List (Nat × Nat)} {r : am_R} {h : am_F} {j : am_J} {a : Nat} {x1 : Int32} {x2 : Int32} (ka : Md_K l r a) {q : Int32} (e : Md_hasDry a x1 x2 h = some q) : Call X 256 [.ref a, .int x1, .int x2] (l, r, h, j) (some (.int q), (l, r, h, j)) := by
  unfold Md_hasDry at e
  refine ⟨Nat.le_of_ble_eq_true rfl, ?_⟩
  show Ev X 256 0 [some (.ref a), some (.int x1), some (.int x2), none, none] [] (l, r, h, j) _
  refine g_run 3 3 [some (.ref a), some (.int x1), some (.int x2), none, none] [.int x1, .ref a, .ref a] (fun _ => rfl) ?_
  obtain ⟨q1, eq1, e⟩ := g_bd e
  refine g_cV 6 rfl rfl rfl rfl rfl (Md_l ka) (Md_painted_s ka eq1) ?_
  refine g_run 1 7 [some (.ref a), some (.int x1), some (.int x2), none, none] [.int x2, .int q1, .ref a] (fun _ => rfl) ?_
  obtain ⟨q2, eq2, e⟩ := g_bd e
  refine g_cV 10 rfl rfl rfl rfl rfl (Md_l ka) (Md_isDry_s ka eq2) ?_
  refine g_run 3 14 [some (.ref a), some (.int x1), some (.int x2), some (.int q2), some (.int (0 : Int32))] [] (fun _ => rfl) ?_
  obtain ⟨q15, eq15, e⟩ := g_bd e
  refine Md_hasDry_l14_s ka (fun y16 => ?_) _ _ _ eq15
  refine g_run 1 81 [some (.ref a), some (.int x1), some (.int x2), some (.int q15), some (.int y16)] [.int q15] (fun _ => rfl) ?_
  obtain ⟨z9, ez9, e⟩ := g_bd e
  cases e
  exact g_retZ rfl ez9 rfl
def Md_isAlways_l12 (x0 : Nat) (x1 : Int32) (h : am_F) : Nat → Int32 → Int32 → Option (Int32)
  | 0, _, _ => none
  | n + 1, x2, x3 =>
    if (h (x0 + 12) 3) ≤ x3 then
      some x2
    else
      (if x2 = 0 then
          (Md_hasDry x0 x3 x1 h).bind fun q5 =>
          if q5 = 0 then
            some (0 : Int32)
          else
            some (1 : Int32)
        else
          some (1 : Int32) : Option (Int32)).bind fun q7 =>
      Md_isAlways_l12 x0 x1 h n q7 (x3 + (1 : Int32))
def Md_isAlways_l2 (x0 : Nat) (h : am_F) : Nat → Int32 → Option (Int32)
  | 0, _ => none
  | n + 1, x1 =>
    if (48 : Int32) ≤ x1 then
      some (1 : Int32)
    else
      (Md_isAlways_l12 x0 x1 h g_fu (0 : Int32) (0 : Int32)).bind fun q8 =>
      if q8 = 0 then
        some (0 : Int32)
      else
        Md_isAlways_l2 x0 h n (x1 + (1 : Int32))
def Md_isAlways (a : Nat) (h : am_F) : Option (Int32) :=
  Md_isAlways_l2 a h g_fu (0 : Int32)
theorem Md_isAlways_l12_s {X : Nat × (Nat → Int32)} {l : List (Nat × Nat)} {r : am_R} {x0 : Nat} {x1 : Int32} {h : am_F} {j : am_J} {q : Int32} {R : Option Value × am_S} (kx0 : Md_K l r x0) (hx : ∀ (y3 : Int32) , Ev X 257 47 [some (.ref x0), some (.int x1), some (.int q), some (.int y3)] [] (l, r, h, j) R) : ∀ (n : Nat) (x2 : Int32) (x3 : Int32), Md_isAlways_l12 x0 x1 h n x2 x3 = some q → Ev X 257 12 [some (.ref x0), some (.int x1), some (.int x2), some (.int x3)] [] (l, r, h, j) R := by
  intro n
  induction n with
  | zero => intro x2 x3 e; cases e
  | succ n ih =>
    intro x2 x3 e
    unfold Md_isAlways_l12 at e
    refine g_run 2 14 [some (.ref x0), some (.int x1), some (.int x2), some (.int x3)] [.ref x0, .int x3] (fun _ => rfl) ?_
    refine g_getA 17 rfl rfl (Md_l kx0) (Md_r23 kx0) ?_
    refine g_run 1 18 [some (.ref x0), some (.int x1), some (.int x2), some (.int x3)] [.int (3 : Int32), .ref (x0 + 12), .int x3] (fun _ => rfl) ?_
    refine g_iald 19 rfl rfl (Md_k23 kx0) (kx := 3) rfl ?_
    refine g_if (p1 := 47) (L1 := [some (.ref x0), some (.int x1), some (.int x2), some (.int x3)]) (S1 := []) (s1 := (l, r, h, j)) (p2 := 22) (L2 := [some (.ref x0), some (.int x1), some (.int x2), some (.int x3)]) (S2 := []) (s2 := (l, r, h, j)) rfl (fun _ _ => rfl) e (fun c2 e => ?_) (fun c2 e => ?_)
    · cases e
      exact hx _
    · refine g_run 1 23 [some (.ref x0), some (.int x1), some (.int x2), some (.int x3)] [.int x2] (fun _ => rfl) ?_
      obtain ⟨q7, eq7, e⟩ := g_bd e
      have hjq7 : ∀ (_ : True), Ev X 257 40 [some (.ref x0), some (.int x1), some (.int x2), some (.int x3)] [.int q7] (l, r, h, j) R := by
        intro _
        refine g_run 3 12 [some (.ref x0), some (.int x1), some (.int q7), some (.int (x3 + (1 : Int32)))] [] (fun _ => rfl) ?_
        exact ih _ _ e
      replace e := eq7
      refine g_if (p1 := 26) (L1 := [some (.ref x0), some (.int x1), some (.int x2), some (.int x3)]) (S1 := []) (s1 := (l, r, h, j)) (p2 := 35) (L2 := [some (.ref x0), some (.int x1), some (.int x2), some (.int x3)]) (S2 := []) (s2 := (l, r, h, j)) rfl (fun _ _ => rfl) e (fun c3 e => ?_) (fun c3 e => ?_)
      · refine g_run 3 29 [some (.ref x0), some (.int x1), some (.int x2), some (.int x3)] [.int x1, .int x3, .ref x0] (fun _ => rfl) ?_
        obtain ⟨q5, eq5, e⟩ := g_bd e
        refine g_cV 32 rfl rfl rfl rfl rfl (Md_l kx0) (Md_hasDry_s kx0 eq5) ?_
        refine g_if (p1 := 39) (L1 := [some (.ref x0), some (.int x1), some (.int x2), some (.int x3)]) (S1 := []) (s1 := (l, r, h, j)) (p2 := 35) (L2 := [some (.ref x0), some (.int x1), some (.int x2), some (.int x3)]) (S2 := []) (s2 := (l, r, h, j)) rfl (fun _ _ => rfl) e (fun c6 e => ?_) (fun c6 e => ?_)
        · refine g_run 1 40 [some (.ref x0), some (.int x1), some (.int x2), some (.int x3)] [.int (0 : Int32)] (fun _ => rfl) ?_
          cases e
          exact hjq7 trivial
        · refine g_run 2 40 [some (.ref x0), some (.int x1), some (.int x2), some (.int x3)] [.int (1 : Int32)] (fun _ => rfl) ?_
          cases e
          exact hjq7 trivial
      · refine g_run 2 40 [some (.ref x0), some (.int x1), some (.int x2), some (.int x3)] [.int (1 : Int32)] (fun _ => rfl) ?_
        cases e
        exact hjq7 trivial
theorem Md_isAlways_l2_s {X : Nat × (Nat → Int32)} {l : List (Nat × Nat)} {r : am_R} {x0 : Nat} {h : am_F} {j : am_J} {q : Int32} (kx0 : Md_K l r x0) : ∀ (n : Nat) (x1 : Int32) (d2 : Option Value) (d3 : Option Value), Md_isAlways_l2 x0 h n x1 = some q → Ev X 257 2 [some (.ref x0), some (.int x1), d2, d3] [] (l, r, h, j) (some (.int q), (l, r, h, j)) := by
  intro n
  induction n with
  | zero => intro x1 d2 d3 e; cases e
  | succ n ih =>
    intro x1 d2 d3 e
    unfold Md_isAlways_l2 at e
    refine g_run 2 5 [some (.ref x0), some (.int x1), d2, d3] [.int (48 : Int32), .int x1] (fun _ => rfl) ?_
    refine g_if (p1 := 59) (L1 := [some (.ref x0), some (.int x1), d2, d3]) (S1 := []) (s1 := (l, r, h, j)) (p2 := 8) (L2 := [some (.ref x0), some (.int x1), d2, d3]) (S2 := []) (s2 := (l, r, h, j)) rfl (fun _ _ => rfl) e (fun c1 e => ?_) (fun c1 e => ?_)
    · refine g_run 1 60 [some (.ref x0), some (.int x1), d2, d3] [.int (1 : Int32)] (fun _ => rfl) ?_
      cases e
      exact g_retZ rfl (y := (1 : Int32)) rfl rfl
    · refine g_run 4 12 [some (.ref x0), some (.int x1), some (.int (0 : Int32)), some (.int (0 : Int32))] [] (fun _ => rfl) ?_
      obtain ⟨q8, eq8, e⟩ := g_bd e
      refine Md_isAlways_l12_s kx0 (fun y9 => ?_) _ _ _ eq8
      refine g_run 1 48 [some (.ref x0), some (.int x1), some (.int q8), some (.int y9)] [.int q8] (fun _ => rfl) ?_
      refine g_if (p1 := 51) (L1 := [some (.ref x0), some (.int x1), some (.int q8), some (.int y9)]) (S1 := []) (s1 := (l, r, h, j)) (p2 := 53) (L2 := [some (.ref x0), some (.int x1), some (.int q8), some (.int y9)]) (S2 := []) (s2 := (l, r, h, j)) rfl (fun _ _ => rfl) e (fun c10 e => ?_) (fun c10 e => ?_)
      · refine g_run 1 52 [some (.ref x0), some (.int x1), some (.int q8), some (.int y9)] [.int (0 : Int32)] (fun _ => rfl) ?_
        cases e
        exact g_retZ rfl (y := (0 : Int32)) rfl rfl
      · refine g_run 2 2 [some (.ref x0), some (.int (x1 + (1 : Int32))), some (.int q8), some (.int y9)] [] (fun _ => rfl) ?_
        exact ih _ _ _ e
theorem Md_isAlways_s {X : Nat × (Nat → Int32)} {l : List (Nat × Nat)} {r : am_R} {h : am_F} {j : am_J} {a : Nat} (ka : Md_K l r a) {q : Int32} (e : Md_isAlways a h = some q) : Call X 257 [.ref a] (l, r, h, j) (some (.int q), (l, r, h, j)) := by
  unfold Md_isAlways at e
  refine ⟨Nat.le_of_ble_eq_true rfl, ?_⟩
  show Ev X 257 0 [some (.ref a), none, none, none] [] (l, r, h, j) _
  refine g_run 2 2 [some (.ref a), some (.int (0 : Int32)), none, none] [] (fun _ => rfl) ?_
  exact Md_isAlways_l2_s ka _ _ _ _ e
def Md_dryHours_l5 (x0 : Nat) (x1 : Int32) (x2 : Int32) (h : am_F) : Nat → Int32 → Int32 → Option (Int32)
  | 0, _, _ => none
  | n + 1, x3, x4 =>
    if (48 : Int32) ≤ x4 then
      some x3
    else
      (Md_planOf x0 x1 (1 : Int32) h).bind fun q2 =>
      (Md_isDry x0 q2 x4 h).bind fun q3 =>
      (Md_planOf x0 x1 (2 : Int32) h).bind fun q4 =>
      (Md_isDry x0 q4 x4 h).bind fun q5 =>
      (if x2 = 0 then
          if q3 = 0 then
            if q5 = 0 then
              some (0 : Int32)
            else
              some (1 : Int32)
          else
            some (1 : Int32)
        else
          if q3 = 0 then
            some (0 : Int32)
          else
            if q5 = 0 then
              some (0 : Int32)
            else
              some (1 : Int32) : Option (Int32)).bind fun q12 =>
      Md_dryHours_l5 x0 x1 x2 h n (x3 + q12) (x4 + (1 : Int32))
def Md_dryHours (a : Nat) (x1 : Int32) (x2 : Int32) (h : am_F) : Option (Int32) :=
  (Md_dryHours_l5 a x1 x2 h g_fu (0 : Int32) (0 : Int32)).bind fun q13 =>
  some q13
theorem Md_dryHours_l5_s {X : Nat × (Nat → Int32)} {l : List (Nat × Nat)} {r : am_R} {x0 : Nat} {x1 : Int32} {x2 : Int32} {h : am_F} {j : am_J} {q : Int32} {R : Option Value × am_S} (kx0 : Md_K l r x0) (hx : ∀ (d5 : Option Value) (d6 : Option Value) (y4 : Int32) , Ev X 258 86 [some (.ref x0), some (.int x1), some (.int x2), some (.int q), some (.int y4), d5, d6] [] (l, r, h, j) R) : ∀ (n : Nat) (x3 : Int32) (x4 : Int32) (d5 : Option Value) (d6 : Option Value), Md_dryHours_l5 x0 x1 x2 h n x3 x4 = some q → Ev X 258 5 [some (.ref x0), some (.int x1), some (.int x2), some (.int x3), some (.int x4), d5, d6] [] (l, r, h, j) R := by
  intro n
  induction n with
  | zero => intro x3 x4 d5 d6 e; cases e
  | succ n ih =>
    intro x3 x4 d5 d6 e
    unfold Md_dryHours_l5 at e
    refine g_run 2 9 [some (.ref x0), some (.int x1), some (.int x2), some (.int x3), some (.int x4), d5, d6] [.int (48 : Int32), .int x4] (fun _ => rfl) ?_
    refine g_if (p1 := 86) (L1 := [some (.ref x0), some (.int x1), some (.int x2), some (.int x3), some (.int x4), d5, d6]) (S1 := []) (s1 := (l, r, h, j)) (p2 := 12) (L2 := [some (.ref x0), some (.int x1), some (.int x2), some (.int x3), some (.int x4), d5, d6]) (S2 := []) (s2 := (l, r, h, j)) rfl (fun _ _ => rfl) e (fun c1 e => ?_) (fun c1 e => ?_)
    · cases e
      exact hx _ _ _
    · refine g_run 4 16 [some (.ref x0), some (.int x1), some (.int x2), some (.int x3), some (.int x4), d5, d6] [.int (1 : Int32), .int x1, .ref x0, .ref x0] (fun _ => rfl) ?_
      obtain ⟨q2, eq2, e⟩ := g_bd e
      refine g_cV 19 rfl rfl rfl rfl rfl (Md_l kx0) (Md_planOf_s kx0 eq2) ?_
      refine g_run 1 21 [some (.ref x0), some (.int x1), some (.int x2), some (.int x3), some (.int x4), d5, d6] [.int x4, .int q2, .ref x0] (fun _ => rfl) ?_
      obtain ⟨q3, eq3, e⟩ := g_bd e
      refine g_cV 24 rfl rfl rfl rfl rfl (Md_l kx0) (Md_isDry_s kx0 eq3) ?_
      refine g_run 5 30 [some (.ref x0), some (.int x1), some (.int x2), some (.int x3), some (.int x4), some (.int q3), d6] [.int (2 : Int32), .int x1, .ref x0, .ref x0] (fun _ => rfl) ?_
      obtain ⟨q4, eq4, e⟩ := g_bd e
      refine g_cV 33 rfl rfl rfl rfl rfl (Md_l kx0) (Md_planOf_s kx0 eq4) ?_
      refine g_run 1 35 [some (.ref x0), some (.int x1), some (.int x2), some (.int x3), some (.int x4), some (.int q3), d6] [.int x4, .int q4, .ref x0] (fun _ => rfl) ?_
      obtain ⟨q5, eq5, e⟩ := g_bd e
      refine g_cV 38 rfl rfl rfl rfl rfl (Md_l kx0) (Md_isDry_s kx0 eq5) ?_
      refine g_run 3 42 [some (.ref x0), some (.int x1), some (.int x2), some (.int x3), some (.int x4), some (.int q3), some (.int q5)] [.int x2, .int x3] (fun _ => rfl) ?_
      obtain ⟨q12, eq12, e⟩ := g_bd e
      have hjq12 : ∀ (_ : True), Ev X 258 78 [some (.ref x0), some (.int x1), some (.int x2), some (.int x3), some (.int x4), some (.int q3), some (.int q5)] [.int q12, .int x3] (l, r, h, j) R := by
        intro _
        refine g_run 4 5 [some (.ref x0), some (.int x1), some (.int x2), some (.int (x3 + q12)), some (.int (x4 + (1 : Int32))), some (.int q3), some (.int q5)] [] (fun _ => rfl) ?_
        exact ih _ _ _ _ e
      replace e := eq12
      refine g_if (p1 := 63) (L1 := [some (.ref x0), some (.int x1), some (.int x2), some (.int x3), some (.int x4), some (.int q3), some (.int q5)]) (S1 := [.int x3]) (s1 := (l, r, h, j)) (p2 := 45) (L2 := [some (.ref x0), some (.int x1), some (.int x2), some (.int x3), some (.int x4), some (.int q3), some (.int q5)]) (S2 := [.int x3]) (s2 := (l, r, h, j)) rfl (fun _ _ => rfl) e (fun c6 e => ?_) (fun c6 e => ?_)
      · refine g_run 1 65 [some (.ref x0), some (.int x1), some (.int x2), some (.int x3), some (.int x4), some (.int q3), some (.int q5)] [.int q3, .int x3] (fun _ => rfl) ?_
        refine g_if (p1 := 68) (L1 := [some (.ref x0), some (.int x1), some (.int x2), some (.int x3), some (.int x4), some (.int q3), some (.int q5)]) (S1 := [.int x3]) (s1 := (l, r, h, j)) (p2 := 73) (L2 := [some (.ref x0), some (.int x1), some (.int x2), some (.int x3), some (.int x4), some (.int q3), some (.int q5)]) (S2 := [.int x3]) (s2 := (l, r, h, j)) rfl (fun _ _ => rfl) e (fun c8 e => ?_) (fun c8 e => ?_)
        · refine g_run 1 70 [some (.ref x0), some (.int x1), some (.int x2), some (.int x3), some (.int x4), some (.int q3), some (.int q5)] [.int q5, .int x3] (fun _ => rfl) ?_
          refine g_if (p1 := 77) (L1 := [some (.ref x0), some (.int x1), some (.int x2), some (.int x3), some (.int x4), some (.int q3), some (.int q5)]) (S1 := [.int x3]) (s1 := (l, r, h, j)) (p2 := 73) (L2 := [some (.ref x0), some (.int x1), some (.int x2), some (.int x3), some (.int x4), some (.int q3), some (.int q5)]) (S2 := [.int x3]) (s2 := (l, r, h, j)) rfl (fun _ _ => rfl) e (fun c9 e => ?_) (fun c9 e => ?_)
          · refine g_run 1 78 [some (.ref x0), some (.int x1), some (.int x2), some (.int x3), some (.int x4), some (.int q3), some (.int q5)] [.int (0 : Int32), .int x3] (fun _ => rfl) ?_
            cases e
            exact hjq12 trivial
          · refine g_run 2 78 [some (.ref x0), some (.int x1), some (.int x2), some (.int x3), some (.int x4), some (.int q3), some (.int q5)] [.int (1 : Int32), .int x3] (fun _ => rfl) ?_
            cases e
            exact hjq12 trivial
        · refine g_run 2 78 [some (.ref x0), some (.int x1), some (.int x2), some (.int x3), some (.int x4), some (.int q3), some (.int q5)] [.int (1 : Int32), .int x3] (fun _ => rfl) ?_
          cases e
          exact hjq12 trivial
      · refine g_run 1 47 [some (.ref x0), some (.int x1), some (.int x2), some (.int x3), some (.int x4), some (.int q3), some (.int q5)] [.int q3, .int x3] (fun _ => rfl) ?_
        refine g_if (p1 := 59) (L1 := [some (.ref x0), some (.int x1), some (.int x2), some (.int x3), some (.int x4), some (.int q3), some (.int q5)]) (S1 := [.int x3]) (s1 := (l, r, h, j)) (p2 := 50) (L2 := [some (.ref x0), some (.int x1), some (.int x2), some (.int x3), some (.int x4), some (.int q3), some (.int q5)]) (S2 := [.int x3]) (s2 := (l, r, h, j)) rfl (fun _ _ => rfl) e (fun c10 e => ?_) (fun c10 e => ?_)
        · refine g_run 2 78 [some (.ref x0), some (.int x1), some (.int x2), some (.int x3), some (.int x4), some (.int q3), some (.int q5)] [.int (0 : Int32), .int x3] (fun _ => rfl) ?_
          cases e
          exact hjq12 trivial
        · refine g_run 1 52 [some (.ref x0), some (.int x1), some (.int x2), some (.int x3), some (.int x4), some (.int q3), some (.int q5)] [.int q5, .int x3] (fun _ => rfl) ?_
          refine g_if (p1 := 59) (L1 := [some (.ref x0), some (.int x1), some (.int x2), some (.int x3), some (.int x4), some (.int q3), some (.int q5)]) (S1 := [.int x3]) (s1 := (l, r, h, j)) (p2 := 55) (L2 := [some (.ref x0), some (.int x1), some (.int x2), some (.int x3), some (.int x4), some (.int q3), some (.int q5)]) (S2 := [.int x3]) (s2 := (l, r, h, j)) rfl (fun _ _ => rfl) e (fun c11 e => ?_) (fun c11 e => ?_)
          · refine g_run 2 78 [some (.ref x0), some (.int x1), some (.int x2), some (.int x3), some (.int x4), some (.int q3), some (.int q5)] [.int (0 : Int32), .int x3] (fun _ => rfl) ?_
            cases e
            exact hjq12 trivial
          · refine g_run 2 78 [some (.ref x0), some (.int x1), some (.int x2), some (.int x3), some (.int x4), some (.int q3), some (.int q5)] [.int (1 : Int32), .int x3] (fun _ => rfl) ?_
            cases e
            exact hjq12 trivial
theorem Md_dryHours_s {X : Nat × (Nat → Int32)} {l : List (Nat × Nat)} {r : am_R} {h : am_F} {j : am_J} {a : Nat} {x1 : Int32} {x2 : Int32} (ka : Md_K l r a) {q : Int32} (e : Md_dryHours a x1 x2 h = some q) : Call X 258 [.ref a, .int x1, .int x2] (l, r, h, j) (some (.int q), (l, r, h, j)) := by
  unfold Md_dryHours at e
  refine ⟨Nat.le_of_ble_eq_true rfl, ?_⟩
  show Ev X 258 0 [some (.ref a), some (.int x1), some (.int x2), none, none, none, none] [] (l, r, h, j) _
  refine g_run 4 5 [some (.ref a), some (.int x1), some (.int x2), some (.int (0 : Int32)), some (.int (0 : Int32)), none, none] [] (fun _ => rfl) ?_
  obtain ⟨q13, eq13, e⟩ := g_bd e
  refine Md_dryHours_l5_s ka (fun d14 d15 y16 => ?_) _ _ _ _ _ eq13
  refine g_run 1 87 [some (.ref a), some (.int x1), some (.int x2), some (.int q13), some (.int y16), d14, d15] [.int q13] (fun _ => rfl) ?_
  cases e
  exact g_ret rfl (fun _ _ => rfl)
def Md_halves_l26 (x0 : Nat) (x3 : Int32) (x4 : Int32) (h : am_F) : Nat → Int32 → Option (Int32 × am_F)
  | 0, _ => none
  | n + 1, x5 =>
    (Md_planMany x0 h).bind fun q5 =>
    if q5 ≤ x5 then
      if x3 = (-1 : Int32) then
        if x4 = 0 then
          (Md_isAlways x0 h).bind fun q9 =>
          if q9 = 0 then
            some ((0 : Int32), h)
          else
            some ((1 : Int32), h)
        else
          some ((-1 : Int32), h)
      else
        (Md_planMany x0 h).bind fun q11 =>
        if (Md_in x3 (0 : Int32) (q11 - (1 : Int32))) = 0 then
          some ((-1 : Int32), h)
        else
          if (Md_in x4 (0 : Int32) (1 : Int32)) = 0 then
            some ((-1 : Int32), h)
          else
            (if x4 = (1 : Int32) then
                some (1 : Int32)
              else
                some (0 : Int32) : Option (Int32)).bind fun q16 =>
            (Md_dryHours x0 x3 q16 h).bind fun q17 =>
            some (q17, h)
    else
      (Md_planOf x0 x5 (0 : Int32) h).bind fun q18 =>
      (Md_isBench x0 q18 h).bind fun q19 =>
      if q19 = 0 then
        some ((-1 : Int32), h)
      else
        Md_halves_l26 x0 x3 x4 h n (x5 + (1 : Int32))
def Md_halves (a : Nat) (x1 : Int32) (x2 : Int32) (x3 : Int32) (x4 : Int32) (h : am_F) : Option (Int32 × am_F) :=
  (Md_hasPlan a x2 (am_up h a 0 (0 : Int32))).bind fun q1 =>
  if q1.1 = 0 then
    some ((-1 : Int32), q1.2)
  else
    (Md_hand a x1 q1.2).bind fun q3 =>
    if q3.1 = 0 then
      some ((-1 : Int32), q3.2)
    else
      Md_halves_l26 a x3 x4 q3.2 g_fu (0 : Int32)
theorem Md_halves_l26_s {X : Nat × (Nat → Int32)} {l : List (Nat × Nat)} {r : am_R} {x0 : Nat} {x3 : Int32} {x4 : Int32} {y1 : Int32} {y2 : Int32} {h : am_F} {j : am_J} {q : Int32 × am_F} (kx0 : Md_K l r x0) : ∀ (n : Nat) (x5 : Int32), Md_halves_l26 x0 x3 x4 h n x5 = some q → Ev X 259 26 [some (.ref x0), some (.int y1), some (.int y2), some (.int x3), some (.int x4), some (.int x5)] [] (l, r, h, j) (some (.int q.1), (l, r, q.2, j)) := by
  intro n
  induction n with
  | zero => intro x5 e; cases e
  | succ n ih =>
    intro x5 e
    unfold Md_halves_l26 at e
    refine g_run 2 29 [some (.ref x0), some (.int y1), some (.int y2), some (.int x3), some (.int x4), some (.int x5)] [.ref x0, .int x5] (fun _ => rfl) ?_
    obtain ⟨q5, eq5, e⟩ := g_bd e
    refine g_cV 32 rfl rfl rfl rfl rfl (Md_l kx0) (Md_planMany_s kx0 eq5) ?_
    refine g_if (p1 := 57) (L1 := [some (.ref x0), some (.int y1), some (.int y2), some (.int x3), some (.int x4), some (.int x5)]) (S1 := []) (s1 := (l, r, h, j)) (p2 := 35) (L2 := [some (.ref x0), some (.int y1), some (.int y2), some (.int x3), some (.int x4), some (.int x5)]) (S2 := []) (s2 := (l, r, h, j)) rfl (fun _ _ => rfl) e (fun c6 e => ?_) (fun c6 e => ?_)
    · refine g_run 2 59 [some (.ref x0), some (.int y1), some (.int y2), some (.int x3), some (.int x4), some (.int x5)] [.int (-1 : Int32), .int x3] (fun _ => rfl) ?_
      refine g_if (p1 := 62) (L1 := [some (.ref x0), some (.int y1), some (.int y2), some (.int x3), some (.int x4), some (.int x5)]) (S1 := []) (s1 := (l, r, h, j)) (p2 := 84) (L2 := [some (.ref x0), some (.int y1), some (.int y2), some (.int x3), some (.int x4), some (.int x5)]) (S2 := []) (s2 := (l, r, h, j)) rfl (fun _ _ => rfl) e (fun c7 e => ?_) (fun c7 e => ?_)
      · refine g_run 1 64 [some (.ref x0), some (.int y1), some (.int y2), some (.int x3), some (.int x4), some (.int x5)] [.int x4] (fun _ => rfl) ?_
        refine g_if (p1 := 67) (L1 := [some (.ref x0), some (.int y1), some (.int y2), some (.int x3), some (.int x4), some (.int x5)]) (S1 := []) (s1 := (l, r, h, j)) (p2 := 82) (L2 := [some (.ref x0), some (.int y1), some (.int y2), some (.int x3), some (.int x4), some (.int x5)]) (S2 := []) (s2 := (l, r, h, j)) rfl (fun _ _ => rfl) e (fun c8 e => ?_) (fun c8 e => ?_)
        · refine g_run 1 68 [some (.ref x0), some (.int y1), some (.int y2), some (.int x3), some (.int x4), some (.int x5)] [.ref x0] (fun _ => rfl) ?_
          obtain ⟨q9, eq9, e⟩ := g_bd e
          refine g_cV 71 rfl rfl rfl rfl rfl (Md_l kx0) (Md_isAlways_s kx0 eq9) ?_
          refine g_if (p1 := 78) (L1 := [some (.ref x0), some (.int y1), some (.int y2), some (.int x3), some (.int x4), some (.int x5)]) (S1 := []) (s1 := (l, r, h, j)) (p2 := 74) (L2 := [some (.ref x0), some (.int y1), some (.int y2), some (.int x3), some (.int x4), some (.int x5)]) (S2 := []) (s2 := (l, r, h, j)) rfl (fun _ _ => rfl) e (fun c10 e => ?_) (fun c10 e => ?_)
          · refine g_run 2 83 [some (.ref x0), some (.int y1), some (.int y2), some (.int x3), some (.int x4), some (.int x5)] [.int (0 : Int32)] (fun _ => rfl) ?_
            cases e
            exact g_ret rfl (fun _ _ => rfl)
          · refine g_run 2 83 [some (.ref x0), some (.int y1), some (.int y2), some (.int x3), some (.int x4), some (.int x5)] [.int (1 : Int32)] (fun _ => rfl) ?_
            cases e
            exact g_ret rfl (fun _ _ => rfl)
        · refine g_run 1 83 [some (.ref x0), some (.int y1), some (.int y2), some (.int x3), some (.int x4), some (.int x5)] [.int (-1 : Int32)] (fun _ => rfl) ?_
          cases e
          exact g_ret rfl (fun _ _ => rfl)
      · refine g_run 3 87 [some (.ref x0), some (.int y1), some (.int y2), some (.int x3), some (.int x4), some (.int x5)] [.ref x0, .int (0 : Int32), .int x3] (fun _ => rfl) ?_
        obtain ⟨q11, eq11, e⟩ := g_bd e
        refine g_cV 90 rfl rfl rfl rfl rfl (Md_l kx0) (Md_planMany_s kx0 eq11) ?_
        refine g_run 2 92 [some (.ref x0), some (.int y1), some (.int y2), some (.int x3), some (.int x4), some (.int x5)] [.int (q11 - (1 : Int32)), .int (0 : Int32), .int x3] (fun _ => rfl) ?_
        refine g_cS 95 rfl rfl (by decide) rfl rfl rfl Md_in_s ?_
        refine g_if (p1 := 127) (L1 := [some (.ref x0), some (.int y1), some (.int y2), some (.int x3), some (.int x4), some (.int x5)]) (S1 := []) (s1 := (l, r, h, j)) (p2 := 98) (L2 := [some (.ref x0), some (.int y1), some (.int y2), some (.int x3), some (.int x4), some (.int x5)]) (S2 := []) (s2 := (l, r, h, j)) rfl (fun _ _ => rfl) e (fun c12 e => ?_) (fun c12 e => ?_)
        · refine g_run 1 128 [some (.ref x0), some (.int y1), some (.int y2), some (.int x3), some (.int x4), some (.int x5)] [.int (-1 : Int32)] (fun _ => rfl) ?_
          cases e
          exact g_ret rfl (fun _ _ => rfl)
        · refine g_run 3 102 [some (.ref x0), some (.int y1), some (.int y2), some (.int x3), some (.int x4), some (.int x5)] [.int (1 : Int32), .int (0 : Int32), .int x4] (fun _ => rfl) ?_
          refine g_cS 105 rfl rfl (by decide) rfl rfl rfl Md_in_s ?_
          refine g_if (p1 := 127) (L1 := [some (.ref x0), some (.int y1), some (.int y2), some (.int x3), some (.int x4), some (.int x5)]) (S1 := []) (s1 := (l, r, h, j)) (p2 := 108) (L2 := [some (.ref x0), some (.int y1), some (.int y2), some (.int x3), some (.int x4), some (.int x5)]) (S2 := []) (s2 := (l, r, h, j)) rfl (fun _ _ => rfl) e (fun c13 e => ?_) (fun c13 e => ?_)
          · refine g_run 1 128 [some (.ref x0), some (.int y1), some (.int y2), some (.int x3), some (.int x4), some (.int x5)] [.int (-1 : Int32)] (fun _ => rfl) ?_
            cases e
            exact g_ret rfl (fun _ _ => rfl)
          · refine g_run 4 113 [some (.ref x0), some (.int y1), some (.int y2), some (.int x3), some (.int x4), some (.int x5)] [.int (1 : Int32), .int x4, .int x3, .ref x0] (fun _ => rfl) ?_
            obtain ⟨q16, eq16, e⟩ := g_bd e
            have hjq16 : ∀ (_ : True), Ev X 259 121 [some (.ref x0), some (.int y1), some (.int y2), some (.int x3), some (.int x4), some (.int x5)] [.int q16, .int x3, .ref x0] (l, r, h, j) (some (.int q.1), (l, r, q.2, j)) := by
              intro _
              obtain ⟨q17, eq17, e⟩ := g_bd e
              refine g_cV 124 rfl rfl rfl rfl rfl (Md_l kx0) (Md_dryHours_s kx0 eq17) ?_
              refine g_run 1 128 [some (.ref x0), some (.int y1), some (.int y2), some (.int x3), some (.int x4), some (.int x5)] [.int q17] (fun _ => rfl) ?_
              cases e
              exact g_ret rfl (fun _ _ => rfl)
            replace e := eq16
            refine g_if (p1 := 116) (L1 := [some (.ref x0), some (.int y1), some (.int y2), some (.int x3), some (.int x4), some (.int x5)]) (S1 := [.int x3, .ref x0]) (s1 := (l, r, h, j)) (p2 := 120) (L2 := [some (.ref x0), some (.int y1), some (.int y2), some (.int x3), some (.int x4), some (.int x5)]) (S2 := [.int x3, .ref x0]) (s2 := (l, r, h, j)) rfl (fun _ _ => rfl) e (fun c14 e => ?_) (fun c14 e => ?_)
            · refine g_run 2 121 [some (.ref x0), some (.int y1), some (.int y2), some (.int x3), some (.int x4), some (.int x5)] [.int (1 : Int32), .int x3, .ref x0] (fun _ => rfl) ?_
              cases e
              exact hjq16 trivial
            · refine g_run 1 121 [some (.ref x0), some (.int y1), some (.int y2), some (.int x3), some (.int x4), some (.int x5)] [.int (0 : Int32), .int x3, .ref x0] (fun _ => rfl) ?_
              cases e
              exact hjq16 trivial
    · refine g_run 4 40 [some (.ref x0), some (.int y1), some (.int y2), some (.int x3), some (.int x4), some (.int x5)] [.int (0 : Int32), .int x5, .ref x0, .ref x0] (fun _ => rfl) ?_
      obtain ⟨q18, eq18, e⟩ := g_bd e
      refine g_cV 43 rfl rfl rfl rfl rfl (Md_l kx0) (Md_planOf_s kx0 eq18) ?_
      obtain ⟨q19, eq19, e⟩ := g_bd e
      refine g_cV 46 rfl rfl rfl rfl rfl (Md_l kx0) (Md_isBench_s kx0 eq19) ?_
      refine g_if (p1 := 49) (L1 := [some (.ref x0), some (.int y1), some (.int y2), some (.int x3), some (.int x4), some (.int x5)]) (S1 := []) (s1 := (l, r, h, j)) (p2 := 51) (L2 := [some (.ref x0), some (.int y1), some (.int y2), some (.int x3), some (.int x4), some (.int x5)]) (S2 := []) (s2 := (l, r, h, j)) rfl (fun _ _ => rfl) e (fun c20 e => ?_) (fun c20 e => ?_)
      · refine g_run 1 50 [some (.ref x0), some (.int y1), some (.int y2), some (.int x3), some (.int x4), some (.int x5)] [.int (-1 : Int32)] (fun _ => rfl) ?_
        cases e
        exact g_ret rfl (fun _ _ => rfl)
      · refine g_run 2 26 [some (.ref x0), some (.int y1), some (.int y2), some (.int x3), some (.int x4), some (.int (x5 + (1 : Int32)))] [] (fun _ => rfl) ?_
        exact ih _ e
theorem Md_halves_s {X : Nat × (Nat → Int32)} {l : List (Nat × Nat)} {r : am_R} {h : am_F} {j : am_J} {a : Nat} {x1 : Int32} {x2 : Int32} {x3 : Int32} {x4 : Int32} (ka : Md_K l r a) {q : Int32 × am_F} (e : Md_halves a x1 x2 x3 x4 h = some q) : Call X 259 [.ref a, .int x1, .int x2, .int x3, .int x4] (l, r, h, j) (some (.int q.1), (l, r, q.2, j)) := by
  unfold Md_halves at e
  refine ⟨Nat.le_of_ble_eq_true rfl, ?_⟩
  show Ev X 259 0 [some (.ref a), some (.int x1), some (.int x2), some (.int x3), some (.int x4), none] [] (l, r, h, j) _
  refine g_run 2 2 [some (.ref a), some (.int x1), some (.int x2), some (.int x3), some (.int x4), none] [.int (0 : Int32), .ref a] (fun _ => rfl) ?_
  refine g_putI 5 rfl rfl (Md_l ka) ?_
  refine g_run 2 7 [some (.ref a), some (.int x1), some (.int x2), some (.int x3), some (.int x4), none] [.int x2, .ref a] (fun _ => rfl) ?_
  obtain ⟨q1, eq1, e⟩ := g_bd e
  refine g_cV 10 rfl rfl rfl rfl rfl (Md_l ka) (Md_hasPlan_s ka eq1) ?_
  refine g_if (p1 := 21) (L1 := [some (.ref a), some (.int x1), some (.int x2), some (.int x3), some (.int x4), none]) (S1 := []) (s1 := (l, r, q1.2, j)) (p2 := 13) (L2 := [some (.ref a), some (.int x1), some (.int x2), some (.int x3), some (.int x4), none]) (S2 := []) (s2 := (l, r, q1.2, j)) rfl (fun _ _ => rfl) e (fun c2 e => ?_) (fun c2 e => ?_)
  · refine g_run 1 22 [some (.ref a), some (.int x1), some (.int x2), some (.int x3), some (.int x4), none] [.int (-1 : Int32)] (fun _ => rfl) ?_
    cases e
    exact g_ret rfl (fun _ _ => rfl)
  · refine g_run 2 15 [some (.ref a), some (.int x1), some (.int x2), some (.int x3), some (.int x4), none] [.int x1, .ref a] (fun _ => rfl) ?_
    obtain ⟨q3, eq3, e⟩ := g_bd e
    refine g_cV 18 rfl rfl rfl rfl rfl (Md_l ka) (Md_hand_s ka eq3) ?_
    refine g_if (p1 := 21) (L1 := [some (.ref a), some (.int x1), some (.int x2), some (.int x3), some (.int x4), none]) (S1 := []) (s1 := (l, r, q3.2, j)) (p2 := 23) (L2 := [some (.ref a), some (.int x1), some (.int x2), some (.int x3), some (.int x4), none]) (S2 := []) (s2 := (l, r, q3.2, j)) rfl (fun _ _ => rfl) e (fun c4 e => ?_) (fun c4 e => ?_)
    · refine g_run 1 22 [some (.ref a), some (.int x1), some (.int x2), some (.int x3), some (.int x4), none] [.int (-1 : Int32)] (fun _ => rfl) ?_
      cases e
      exact g_ret rfl (fun _ _ => rfl)
    · refine g_run 2 26 [some (.ref a), some (.int x1), some (.int x2), some (.int x3), some (.int x4), some (.int (0 : Int32))] [] (fun _ => rfl) ?_
      exact Md_halves_l26_s ka _ _ e
def Md_draw (a : Nat) (x1 : Int32) (h : am_F) : Option (Int32 × am_F) :=
  (g_rm (((am_up h a 48 (((h a 48) * (1103515245 : Int32)) + (12345 : Int32))) a 48).toUInt32 >>> ((16 : Int32).toUInt32 &&& Int32.toUInt32 31)).toInt32 x1).bind fun v1 =>
  some (v1, (am_up h a 48 (((h a 48) * (1103515245 : Int32)) + (12345 : Int32))))
theorem Md_draw_s {X : Nat × (Nat → Int32)} {l : List (Nat × Nat)} {r : am_R} {h : am_F} {j : am_J} {a : Nat} {x1 : Int32} (ka : Md_K l r a) {q : Int32 × am_F} (e : Md_draw a x1 h = some q) : Call X 260 [.ref a, .int x1] (l, r, h, j) (some (.int q.1), (l, r, q.2, j)) := by
  unfold Md_draw at e
  refine ⟨Nat.le_of_ble_eq_true rfl, ?_⟩
  show Ev X 260 0 [some (.ref a), some (.int x1)] [] (l, r, h, j) _
  refine g_go 1 [some (.ref a), some (.int x1)] [.ref a] rfl (fun _ _ => rfl) ?_
  refine g_go 2 [some (.ref a), some (.int x1)] [.ref a, .ref a] rfl (fun _ _ => rfl) ?_
  refine g_getI 5 rfl rfl (Md_l ka) ?_
  refine g_go 8 [some (.ref a), some (.int x1)] [.int (1103515245 : Int32), .int (h a 48), .ref a] rfl (fun _ _ => rfl) ?_
  refine g_go 9 [some (.ref a), some (.int x1)] [.int ((h a 48) * (1103515245 : Int32)), .ref a] rfl (fun _ _ => rfl) ?_
  refine g_go 12 [some (.ref a), some (.int x1)] [.int (12345 : Int32), .int ((h a 48) * (1103515245 : Int32)), .ref a] rfl (fun _ _ => rfl) ?_
  refine g_go 13 [some (.ref a), some (.int x1)] [.int (((h a 48) * (1103515245 : Int32)) + (12345 : Int32)), .ref a] rfl (fun _ _ => rfl) ?_
  refine g_putI 16 rfl rfl (Md_l ka) ?_
  refine g_go 17 [some (.ref a), some (.int x1)] [.ref a] rfl (fun _ _ => rfl) ?_
  refine g_getI 20 rfl rfl (Md_l ka) ?_
  refine g_go 22 [some (.ref a), some (.int x1)] [.int (16 : Int32), .int ((am_up h a 48 (((h a 48) * (1103515245 : Int32)) + (12345 : Int32))) a 48)] rfl (fun _ _ => rfl) ?_
  refine g_go 23 [some (.ref a), some (.int x1)] [.int (((am_up h a 48 (((h a 48) * (1103515245 : Int32)) + (12345 : Int32))) a 48).toUInt32 >>> ((16 : Int32).toUInt32 &&& Int32.toUInt32 31)).toInt32] rfl (fun _ _ => rfl) ?_
  refine g_go 24 [some (.ref a), some (.int x1)] [.int x1, .int (((am_up h a 48 (((h a 48) * (1103515245 : Int32)) + (12345 : Int32))) a 48).toUInt32 >>> ((16 : Int32).toUInt32 &&& Int32.toUInt32 31)).toInt32] rfl (fun _ _ => rfl) ?_
  obtain ⟨v1, ev1, e⟩ := g_bd e
  refine g_irem 25 rfl rfl ev1 ?_
  cases e
  exact g_ret rfl (fun _ _ => rfl)
def Md_drawn_l50 (l : List (Nat × Nat)) (r : am_R) (x0 : Nat) (x3 : Int32) (x4 : Int32) : Nat → Int32 → am_F → Option (am_F)
  | 0, _, _ => none
  | n + 1, x5, h =>
    if x3 ≤ x5 then
      some h
    else
      (Md_draw x0 (5 : Int32) h).bind fun q6 =>
      (g_ix ((111 : Int32) + ((6 : Int32) * x5)) 195).bind fun k7 =>
      (Md_draw x0 (48 : Int32) (am_up q6.2 (x0 + 12) k7 q6.1)).bind fun q8 =>
      (g_ix (((111 : Int32) + ((6 : Int32) * x5)) + (1 : Int32)) 195).bind fun k9 =>
      (Md_draw x0 ((am_up q8.2 (x0 + 12) k9 q8.1) (x0 + 12) 3) (am_up q8.2 (x0 + 12) k9 q8.1)).bind fun q10 =>
      (g_ix (((111 : Int32) + ((6 : Int32) * x5)) + (2 : Int32)) 195).bind fun k11 =>
      (Md_draw x0 (10 : Int32) (am_up q10.2 (x0 + 12) k11 q10.1)).bind fun q12 =>
      (g_ix (((111 : Int32) + ((6 : Int32) * x5)) + (3 : Int32)) 195).bind fun k13 =>
      (Md_draw x0 (10 : Int32) (am_up q12.2 (x0 + 12) k13 q12.1)).bind fun q14 =>
      (g_ix (((111 : Int32) + ((6 : Int32) * x5)) + (4 : Int32)) 195).bind fun k15 =>
      (Md_draw x0 (10 : Int32) (am_up q14.2 (x0 + 12) k15 q14.1)).bind fun q16 =>
      (g_ix (((111 : Int32) + ((6 : Int32) * x5)) + (5 : Int32)) 195).bind fun k17 =>
      Md_drawn_l50 l r x0 x3 x4 n (x5 + (1 : Int32)) (am_up q16.2 (x0 + 12) k17 q16.1)
def Md_drawn (l : List (Nat × Nat)) (r : am_R) (a : Nat) (x1 : Int32) (x2 : Int32) (x3 : Int32) (x4 : Int32) (h : am_F) : Option (Int32 × am_F) :=
  if (Md_in x3 (1 : Int32) (14 : Int32)) = 0 then
    some ((-1 : Int32), (am_up h a 0 (0 : Int32)))
  else
    (Md_hand a x1 (am_up h a 0 (0 : Int32))).bind fun q2 =>
    if q2.1 = 0 then
      some ((-1 : Int32), q2.2)
    else
      if (q2.2 (a + 12) 3) = 0 then
        some ((-1 : Int32), q2.2)
      else
        (Md_drawn_l50 l r a x3 x4 g_fu (0 : Int32) (am_up (am_up q2.2 a 48 x2) (a + 12) 6 x3)).bind fun q18 =>
        (Md_harmOf a q18).bind fun q21 =>
        if (Md_in x4 (30 : Int32) ((29 : Int32) + x3)) = 0 then
          (Md_ofDay l r a x4 q21.2).bind fun q23 =>
          some (q23, q21.2)
        else
          (g_ix (x4 - (30 : Int32)) 14).bind fun k24 =>
          some ((q21.2 (a + 13) k24), q21.2)
theorem Md_drawn_l50_s {X : Nat × (Nat → Int32)} {l : List (Nat × Nat)} {r : am_R} {x0 : Nat} {x3 : Int32} {x4 : Int32} {y1 : Int32} {y2 : Int32} {j : am_J} {q : am_F} {R : Option Value × am_S} (kx0 : Md_K l r x0) (hx : ∀ (d6 : Option Value) (y5 : Int32) , Ev X 261 163 [some (.ref x0), some (.int y1), some (.int y2), some (.int x3), some (.int x4), some (.int y5), d6] [] (l, r, q, j) R) : ∀ (n : Nat) (x5 : Int32) (h : am_F) (d6 : Option Value), Md_drawn_l50 l r x0 x3 x4 n x5 h = some q → Ev X 261 50 [some (.ref x0), some (.int y1), some (.int y2), some (.int x3), some (.int x4), some (.int x5), d6] [] (l, r, h, j) R := by
  intro n
  induction n with
  | zero => intro x5 h d6 e; cases e
  | succ n ih =>
    intro x5 h d6 e
    unfold Md_drawn_l50 at e
    refine g_run 2 53 [some (.ref x0), some (.int y1), some (.int y2), some (.int x3), some (.int x4), some (.int x5), d6] [.int x3, .int x5] (fun _ => rfl) ?_
    refine g_if (p1 := 163) (L1 := [some (.ref x0), some (.int y1), some (.int y2), some (.int x3), some (.int x4), some (.int x5), d6]) (S1 := []) (s1 := (l, r, h, j)) (p2 := 56) (L2 := [some (.ref x0), some (.int y1), some (.int y2), some (.int x3), some (.int x4), some (.int x5), d6]) (S2 := []) (s2 := (l, r, h, j)) rfl (fun _ _ => rfl) e (fun c5 e => ?_) (fun c5 e => ?_)
    · cases e
      exact hx _ _
    · refine g_run 7 67 [some (.ref x0), some (.int y1), some (.int y2), some (.int x3), some (.int x4), some (.int x5), some (.int ((111 : Int32) + ((6 : Int32) * x5)))] [.ref x0] (fun _ => rfl) ?_
      refine g_getA 70 rfl rfl (Md_l kx0) (Md_r23 kx0) ?_
      refine g_run 3 74 [some (.ref x0), some (.int y1), some (.int y2), some (.int x3), some (.int x4), some (.int x5), some (.int ((111 : Int32) + ((6 : Int32) * x5)))] [.int (5 : Int32), .ref x0, .int ((111 : Int32) + ((6 : Int32) * x5)), .ref (x0 + 12)] (fun _ => rfl) ?_
      obtain ⟨q6, eq6, e⟩ := g_bd e
      refine g_cV 77 rfl rfl rfl rfl rfl (Md_l kx0) (Md_draw_s kx0 eq6) ?_
      obtain ⟨k7, ek7, e⟩ := g_bd e
      refine g_iast 78 rfl rfl (Md_k23 kx0) ek7 ?_
      refine g_run 1 79 [some (.ref x0), some (.int y1), some (.int y2), some (.int x3), some (.int x4), some (.int x5), some (.int ((111 : Int32) + ((6 : Int32) * x5)))] [.ref x0] (fun _ => rfl) ?_
      refine g_getA 82 rfl rfl (Md_l kx0) (Md_r23 kx0) ?_
      refine g_run 5 89 [some (.ref x0), some (.int y1), some (.int y2), some (.int x3), some (.int x4), some (.int x5), some (.int ((111 : Int32) + ((6 : Int32) * x5)))] [.int (48 : Int32), .ref x0, .int (((111 : Int32) + ((6 : Int32) * x5)) + (1 : Int32)), .ref (x0 + 12)] (fun _ => rfl) ?_
      obtain ⟨q8, eq8, e⟩ := g_bd e
      refine g_cV 92 rfl rfl rfl rfl rfl (Md_l kx0) (Md_draw_s kx0 eq8) ?_
      obtain ⟨k9, ek9, e⟩ := g_bd e
      refine g_iast 93 rfl rfl (Md_k23 kx0) ek9 ?_
      refine g_run 1 94 [some (.ref x0), some (.int y1), some (.int y2), some (.int x3), some (.int x4), some (.int x5), some (.int ((111 : Int32) + ((6 : Int32) * x5)))] [.ref x0] (fun _ => rfl) ?_
      refine g_getA 97 rfl rfl (Md_l kx0) (Md_r23 kx0) ?_
      refine g_run 5 103 [some (.ref x0), some (.int y1), some (.int y2), some (.int x3), some (.int x4), some (.int x5), some (.int ((111 : Int32) + ((6 : Int32) * x5)))] [.ref x0, .ref x0, .int (((111 : Int32) + ((6 : Int32) * x5)) + (2 : Int32)), .ref (x0 + 12)] (fun _ => rfl) ?_
      refine g_getA 106 rfl rfl (Md_l kx0) (Md_r23 kx0) ?_
      refine g_run 1 107 [some (.ref x0), some (.int y1), some (.int y2), some (.int x3), some (.int x4), some (.int x5), some (.int ((111 : Int32) + ((6 : Int32) * x5)))] [.int (3 : Int32), .ref (x0 + 12), .ref x0, .int (((111 : Int32) + ((6 : Int32) * x5)) + (2 : Int32)), .ref (x0 + 12)] (fun _ => rfl) ?_
      refine g_iald 108 rfl rfl (Md_k23 kx0) (kx := 3) rfl ?_
      obtain ⟨q10, eq10, e⟩ := g_bd e
      refine g_cV 111 rfl rfl rfl rfl rfl (Md_l kx0) (Md_draw_s kx0 eq10) ?_
      obtain ⟨k11, ek11, e⟩ := g_bd e
      refine g_iast 112 rfl rfl (Md_k23 kx0) ek11 ?_
      refine g_run 1 113 [some (.ref x0), some (.int y1), some (.int y2), some (.int x3), some (.int x4), some (.int x5), some (.int ((111 : Int32) + ((6 : Int32) * x5)))] [.ref x0] (fun _ => rfl) ?_
      refine g_getA 116 rfl rfl (Md_l kx0) (Md_r23 kx0) ?_
      refine g_run 5 123 [some (.ref x0), some (.int y1), some (.int y2), some (.int x3), some (.int x4), some (.int x5), some (.int ((111 : Int32) + ((6 : Int32) * x5)))] [.int (10 : Int32), .ref x0, .int (((111 : Int32) + ((6 : Int32) * x5)) + (3 : Int32)), .ref (x0 + 12)] (fun _ => rfl) ?_
      obtain ⟨q12, eq12, e⟩ := g_bd e
      refine g_cV 126 rfl rfl rfl rfl rfl (Md_l kx0) (Md_draw_s kx0 eq12) ?_
      obtain ⟨k13, ek13, e⟩ := g_bd e
      refine g_iast 127 rfl rfl (Md_k23 kx0) ek13 ?_
      refine g_run 1 128 [some (.ref x0), some (.int y1), some (.int y2), some (.int x3), some (.int x4), some (.int x5), some (.int ((111 : Int32) + ((6 : Int32) * x5)))] [.ref x0] (fun _ => rfl) ?_
      refine g_getA 131 rfl rfl (Md_l kx0) (Md_r23 kx0) ?_
      refine g_run 5 138 [some (.ref x0), some (.int y1), some (.int y2), some (.int x3), some (.int x4), some (.int x5), some (.int ((111 : Int32) + ((6 : Int32) * x5)))] [.int (10 : Int32), .ref x0, .int (((111 : Int32) + ((6 : Int32) * x5)) + (4 : Int32)), .ref (x0 + 12)] (fun _ => rfl) ?_
      obtain ⟨q14, eq14, e⟩ := g_bd e
      refine g_cV 141 rfl rfl rfl rfl rfl (Md_l kx0) (Md_draw_s kx0 eq14) ?_
      obtain ⟨k15, ek15, e⟩ := g_bd e
      refine g_iast 142 rfl rfl (Md_k23 kx0) ek15 ?_
      refine g_run 1 143 [some (.ref x0), some (.int y1), some (.int y2), some (.int x3), some (.int x4), some (.int x5), some (.int ((111 : Int32) + ((6 : Int32) * x5)))] [.ref x0] (fun _ => rfl) ?_
      refine g_getA 146 rfl rfl (Md_l kx0) (Md_r23 kx0) ?_
      refine g_run 5 153 [some (.ref x0), some (.int y1), some (.int y2), some (.int x3), some (.int x4), some (.int x5), some (.int ((111 : Int32) + ((6 : Int32) * x5)))] [.int (10 : Int32), .ref x0, .int (((111 : Int32) + ((6 : Int32) * x5)) + (5 : Int32)), .ref (x0 + 12)] (fun _ => rfl) ?_
      obtain ⟨q16, eq16, e⟩ := g_bd e
      refine g_cV 156 rfl rfl rfl rfl rfl (Md_l kx0) (Md_draw_s kx0 eq16) ?_
      obtain ⟨k17, ek17, e⟩ := g_bd e
      refine g_iast 157 rfl rfl (Md_k23 kx0) ek17 ?_
      refine g_run 2 50 [some (.ref x0), some (.int y1), some (.int y2), some (.int x3), some (.int x4), some (.int (x5 + (1 : Int32))), some (.int ((111 : Int32) + ((6 : Int32) * x5)))] [] (fun _ => rfl) ?_
      exact ih _ _ _ e
theorem Md_drawn_s {X : Nat × (Nat → Int32)} {l : List (Nat × Nat)} {r : am_R} {h : am_F} {j : am_J} {a : Nat} {x1 : Int32} {x2 : Int32} {x3 : Int32} {x4 : Int32} (ka : Md_K l r a) {q : Int32 × am_F} (e : Md_drawn l r a x1 x2 x3 x4 h = some q) : Call X 261 [.ref a, .int x1, .int x2, .int x3, .int x4] (l, r, h, j) (some (.int q.1), (l, r, q.2, j)) := by
  unfold Md_drawn at e
  refine ⟨Nat.le_of_ble_eq_true rfl, ?_⟩
  show Ev X 261 0 [some (.ref a), some (.int x1), some (.int x2), some (.int x3), some (.int x4), none, none] [] (l, r, h, j) _
  refine g_run 2 2 [some (.ref a), some (.int x1), some (.int x2), some (.int x3), some (.int x4), none, none] [.int (0 : Int32), .ref a] (fun _ => rfl) ?_
  refine g_putI 5 rfl rfl (Md_l ka) ?_
  refine g_run 3 9 [some (.ref a), some (.int x1), some (.int x2), some (.int x3), some (.int x4), none, none] [.int (14 : Int32), .int (1 : Int32), .int x3] (fun _ => rfl) ?_
  refine g_cS 12 rfl rfl (by decide) rfl rfl rfl Md_in_s ?_
  refine g_if (p1 := 32) (L1 := [some (.ref a), some (.int x1), some (.int x2), some (.int x3), some (.int x4), none, none]) (S1 := []) (s1 := (l, r, (am_up h a 0 (0 : Int32)), j)) (p2 := 15) (L2 := [some (.ref a), some (.int x1), some (.int x2), some (.int x3), some (.int x4), none, none]) (S2 := []) (s2 := (l, r, (am_up h a 0 (0 : Int32)), j)) rfl (fun _ _ => rfl) e (fun c1 e => ?_) (fun c1 e => ?_)
  · refine g_run 1 33 [some (.ref a), some (.int x1), some (.int x2), some (.int x3), some (.int x4), none, none] [.int (-1 : Int32)] (fun _ => rfl) ?_
    cases e
    exact g_ret rfl (fun _ _ => rfl)
  · refine g_run 2 17 [some (.ref a), some (.int x1), some (.int x2), some (.int x3), some (.int x4), none, none] [.int x1, .ref a] (fun _ => rfl) ?_
    obtain ⟨q2, eq2, e⟩ := g_bd e
    refine g_cV 20 rfl rfl rfl rfl rfl (Md_l ka) (Md_hand_s ka eq2) ?_
    refine g_if (p1 := 32) (L1 := [some (.ref a), some (.int x1), some (.int x2), some (.int x3), some (.int x4), none, none]) (S1 := []) (s1 := (l, r, q2.2, j)) (p2 := 23) (L2 := [some (.ref a), some (.int x1), some (.int x2), some (.int x3), some (.int x4), none, none]) (S2 := []) (s2 := (l, r, q2.2, j)) rfl (fun _ _ => rfl) e (fun c3 e => ?_) (fun c3 e => ?_)
    · refine g_run 1 33 [some (.ref a), some (.int x1), some (.int x2), some (.int x3), some (.int x4), none, none] [.int (-1 : Int32)] (fun _ => rfl) ?_
      cases e
      exact g_ret rfl (fun _ _ => rfl)
    · refine g_run 1 24 [some (.ref a), some (.int x1), some (.int x2), some (.int x3), some (.int x4), none, none] [.ref a] (fun _ => rfl) ?_
      refine g_getA 27 rfl rfl (Md_l ka) (Md_r23 ka) ?_
      refine g_run 1 28 [some (.ref a), some (.int x1), some (.int x2), some (.int x3), some (.int x4), none, none] [.int (3 : Int32), .ref (a + 12)] (fun _ => rfl) ?_
      refine g_iald 29 rfl rfl (Md_k23 ka) (kx := 3) rfl ?_
      refine g_if (p1 := 32) (L1 := [some (.ref a), some (.int x1), some (.int x2), some (.int x3), some (.int x4), none, none]) (S1 := []) (s1 := (l, r, q2.2, j)) (p2 := 34) (L2 := [some (.ref a), some (.int x1), some (.int x2), some (.int x3), some (.int x4), none, none]) (S2 := []) (s2 := (l, r, q2.2, j)) rfl (fun _ _ => rfl) e (fun c4 e => ?_) (fun c4 e => ?_)
      · refine g_run 1 33 [some (.ref a), some (.int x1), some (.int x2), some (.int x3), some (.int x4), none, none] [.int (-1 : Int32)] (fun _ => rfl) ?_
        cases e
        exact g_ret rfl (fun _ _ => rfl)
      · refine g_run 2 36 [some (.ref a), some (.int x1), some (.int x2), some (.int x3), some (.int x4), none, none] [.int x2, .ref a] (fun _ => rfl) ?_
        refine g_putI 39 rfl rfl (Md_l ka) ?_
        refine g_run 1 40 [some (.ref a), some (.int x1), some (.int x2), some (.int x3), some (.int x4), none, none] [.ref a] (fun _ => rfl) ?_
        refine g_getA 43 rfl rfl (Md_l ka) (Md_r23 ka) ?_
        refine g_run 2 46 [some (.ref a), some (.int x1), some (.int x2), some (.int x3), some (.int x4), none, none] [.int x3, .int (6 : Int32), .ref (a + 12)] (fun _ => rfl) ?_
        refine g_iast 47 rfl rfl (Md_k23 ka) (kx := 6) rfl ?_
        refine g_run 2 50 [some (.ref a), some (.int x1), some (.int x2), some (.int x3), some (.int x4), some (.int (0 : Int32)), none] [] (fun _ => rfl) ?_
        obtain ⟨q18, eq18, e⟩ := g_bd e
        refine Md_drawn_l50_s ka (fun d19 y20 => ?_) _ _ _ _ eq18
        refine g_run 1 164 [some (.ref a), some (.int x1), some (.int x2), some (.int x3), some (.int x4), some (.int y20), d19] [.ref a] (fun _ => rfl) ?_
        obtain ⟨q21, eq21, e⟩ := g_bd e
        refine g_cV 167 rfl rfl rfl rfl rfl (Md_l ka) (Md_harmOf_s ka eq21) ?_
        refine g_run 6 176 [some (.ref a), some (.int x1), some (.int x2), some (.int x3), some (.int x4), some (.int y20), d19] [.int ((29 : Int32) + x3), .int (30 : Int32), .int x4] (fun _ => rfl) ?_
        refine g_cS 179 rfl rfl (by decide) rfl rfl rfl Md_in_s ?_
        refine g_if (p1 := 195) (L1 := [some (.ref a), some (.int x1), some (.int x2), some (.int x3), some (.int x4), some (.int y20), d19]) (S1 := []) (s1 := (l, r, q21.2, j)) (p2 := 182) (L2 := [some (.ref a), some (.int x1), some (.int x2), some (.int x3), some (.int x4), some (.int y20), d19]) (S2 := []) (s2 := (l, r, q21.2, j)) rfl (fun _ _ => rfl) e (fun c22 e => ?_) (fun c22 e => ?_)
        · refine g_run 2 198 [some (.ref a), some (.int x1), some (.int x2), some (.int x3), some (.int x4), some (.int y20), d19] [.int x4, .ref a] (fun _ => rfl) ?_
          obtain ⟨q23, eq23, e⟩ := g_bd e
          refine g_cV 201 rfl rfl rfl rfl rfl (Md_l ka) (Md_ofDay_s ka eq23) ?_
          cases e
          exact g_ret rfl (fun _ _ => rfl)
        · refine g_run 1 183 [some (.ref a), some (.int x1), some (.int x2), some (.int x3), some (.int x4), some (.int y20), d19] [.ref a] (fun _ => rfl) ?_
          refine g_getA 186 rfl rfl (Md_l ka) (Md_r24 ka) ?_
          refine g_run 3 191 [some (.ref a), some (.int x1), some (.int x2), some (.int x3), some (.int x4), some (.int y20), d19] [.int (x4 - (30 : Int32)), .ref (a + 13)] (fun _ => rfl) ?_
          obtain ⟨k24, ek24, e⟩ := g_bd e
          refine g_iald 192 rfl rfl (Md_k24 ka) ek24 ?_
          refine g_run 1 201 [some (.ref a), some (.int x1), some (.int x2), some (.int x3), some (.int x4), some (.int y20), d19] [.int (q21.2 (a + 13) k24)] (fun _ => rfl) ?_
          cases e
          exact g_ret rfl (fun _ _ => rfl)
def Md_hasOf (a : Nat) (x1 : Int32) (h : am_F) : Option (Int32 × am_F) :=
  (Md_harmOf a h).bind fun q1 =>
  (g_ix x1 14).bind fun k2 =>
  (if (q1.2 (a + 13) k2) < (2 : Int32) then
      some (0 : Int32)
    else
      (Md_comer a x1 (3 : Int32) q1.2).bind fun q5 =>
      some q5 : Option (Int32)).bind fun q6 =>
  (g_ix x1 14).bind fun k7 =>
  some ((q6 - (q1.2 (a + 15) k7)), q1.2)
theorem Md_hasOf_s {X : Nat × (Nat → Int32)} {l : List (Nat × Nat)} {r : am_R} {h : am_F} {j : am_J} {a : Nat} {x1 : Int32} (ka : Md_K l r a) {q : Int32 × am_F} (e : Md_hasOf a x1 h = some q) : Call X 262 [.ref a, .int x1] (l, r, h, j) (some (.int q.1), (l, r, q.2, j)) := by
  unfold Md_hasOf at e
  refine ⟨Nat.le_of_ble_eq_true rfl, ?_⟩
  show Ev X 262 0 [some (.ref a), some (.int x1)] [] (l, r, h, j) _
  refine g_run 1 1 [some (.ref a), some (.int x1)] [.ref a] (fun _ => rfl) ?_
  obtain ⟨q1, eq1, e⟩ := g_bd e
  refine g_cV 4 rfl rfl rfl rfl rfl (Md_l ka) (Md_harmOf_s ka eq1) ?_
  refine g_run 2 6 [some (.ref a), some (.int x1)] [.ref a] (fun _ => rfl) ?_
  refine g_getA 9 rfl rfl (Md_l ka) (Md_r24 ka) ?_
  refine g_run 1 10 [some (.ref a), some (.int x1)] [.int x1, .ref (a + 13)] (fun _ => rfl) ?_
  obtain ⟨k2, ek2, e⟩ := g_bd e
  refine g_iald 11 rfl rfl (Md_k24 ka) ek2 ?_
  refine g_run 1 12 [some (.ref a), some (.int x1)] [.int (2 : Int32), .int (q1.2 (a + 13) k2)] (fun _ => rfl) ?_
  obtain ⟨q6, eq6, e⟩ := g_bd e
  have hjq6 : ∀ (_ : True), Ev X 262 25 [some (.ref a), some (.int x1)] [.int q6] (l, r, q1.2, j) (some (.int q.1), (l, r, q.2, j)) := by
    intro _
    refine g_run 1 26 [some (.ref a), some (.int x1)] [.ref a, .int q6] (fun _ => rfl) ?_
    refine g_getA 29 rfl rfl (Md_l ka) (Md_r26 ka) ?_
    refine g_run 1 30 [some (.ref a), some (.int x1)] [.int x1, .ref (a + 15), .int q6] (fun _ => rfl) ?_
    obtain ⟨k7, ek7, e⟩ := g_bd e
    refine g_iald 31 rfl rfl (Md_k26 ka) ek7 ?_
    refine g_run 1 32 [some (.ref a), some (.int x1)] [.int (q6 - (q1.2 (a + 15) k7))] (fun _ => rfl) ?_
    cases e
    exact g_ret rfl (fun _ _ => rfl)
  replace e := eq6
  refine g_if (p1 := 24) (L1 := [some (.ref a), some (.int x1)]) (S1 := []) (s1 := (l, r, q1.2, j)) (p2 := 15) (L2 := [some (.ref a), some (.int x1)]) (S2 := []) (s2 := (l, r, q1.2, j)) rfl (fun _ _ => rfl) e (fun c3 e => ?_) (fun c3 e => ?_)
  · refine g_run 1 25 [some (.ref a), some (.int x1)] [.int (0 : Int32)] (fun _ => rfl) ?_
    cases e
    exact hjq6 trivial
  · refine g_run 3 18 [some (.ref a), some (.int x1)] [.int (3 : Int32), .int x1, .ref a] (fun _ => rfl) ?_
    obtain ⟨q5, eq5, e⟩ := g_bd e
    refine g_cV 21 rfl rfl rfl rfl rfl (Md_l ka) (Md_comer_s ka eq5) ?_
    refine g_run 1 25 [some (.ref a), some (.int x1)] [.int q5] (fun _ => rfl) ?_
    cases e
    exact hjq6 trivial
def Md_tryAll_l35 (x0 : Nat) (x1 : Int32) (x3 : Int32) (x4 : Int32) (x5 : Int32) (x6 : Int32) (x7 : Int32) : Nat → Int32 → am_F → Option (am_F)
  | 0, _, _ => none
  | n + 1, x8, h =>
    if x4 < x8 then
      some h
    else
      (g_ix x6 195).bind fun k3 =>
      (Md_hasOf x0 x1 (am_up h (x0 + 12) k3 x8)).bind fun q4 =>
      (if x5 = 0 then
          some (0 : Int32)
        else
          some (x8 - x3) : Option (Int32)).bind fun q7 =>
      (if (q4.1 - q7) ≤ (q4.2 x0 50) then
          some (q4.2 x0 49)
        else
          some x8 : Option (Int32)).bind fun q10 =>
      Md_tryAll_l35 x0 x1 x3 x4 x5 x6 x7 n (x8 + (1 : Int32)) (am_up (am_up q4.2 x0 49 q10) x0 50 (Md_greater ((am_up q4.2 x0 49 q10) x0 50) (q4.1 - q7)))
def Md_tryAll (a : Nat) (x1 : Int32) (x2 : Int32) (x3 : Int32) (x4 : Int32) (x5 : Int32) (h : am_F) : Option (am_F) :=
  (g_ix (((111 : Int32) + ((6 : Int32) * x1)) + x2) 195).bind fun k1 =>
  (Md_tryAll_l35 a x1 x3 x4 x5 (((111 : Int32) + ((6 : Int32) * x1)) + x2) (h (a + 12) k1) g_fu x3 (am_up (am_up h a 49 (-1 : Int32)) a 50 (-1000000 : Int32))).bind fun q11 =>
  (g_ix (((111 : Int32) + ((6 : Int32) * x1)) + x2) 195).bind fun k14 =>
  some (am_up q11 (a + 12) k14 (h (a + 12) k1))
theorem Md_tryAll_l35_s {X : Nat × (Nat → Int32)} {l : List (Nat × Nat)} {r : am_R} {x0 : Nat} {x1 : Int32} {x3 : Int32} {x4 : Int32} {x5 : Int32} {x6 : Int32} {x7 : Int32} {y2 : Int32} {j : am_J} {q : am_F} {R : Option Value × am_S} (kx0 : Md_K l r x0) (hx : ∀ (d9 : Option Value) (y8 : Int32) , Ev X 263 113 [some (.ref x0), some (.int x1), some (.int y2), some (.int x3), some (.int x4), some (.int x5), some (.int x6), some (.int x7), some (.int y8), d9] [] (l, r, q, j) R) : ∀ (n : Nat) (x8 : Int32) (h : am_F) (d9 : Option Value), Md_tryAll_l35 x0 x1 x3 x4 x5 x6 x7 n x8 h = some q → Ev X 263 35 [some (.ref x0), some (.int x1), some (.int y2), some (.int x3), some (.int x4), some (.int x5), some (.int x6), some (.int x7), some (.int x8), d9] [] (l, r, h, j) R := by
  intro n
  induction n with
  | zero => intro x8 h d9 e; cases e
  | succ n ih =>
    intro x8 h d9 e
    unfold Md_tryAll_l35 at e
    refine g_run 2 39 [some (.ref x0), some (.int x1), some (.int y2), some (.int x3), some (.int x4), some (.int x5), some (.int x6), some (.int x7), some (.int x8), d9] [.int x4, .int x8] (fun _ => rfl) ?_
    refine g_if (p1 := 113) (L1 := [some (.ref x0), some (.int x1), some (.int y2), some (.int x3), some (.int x4), some (.int x5), some (.int x6), some (.int x7), some (.int x8), d9]) (S1 := []) (s1 := (l, r, h, j)) (p2 := 42) (L2 := [some (.ref x0), some (.int x1), some (.int y2), some (.int x3), some (.int x4), some (.int x5), some (.int x6), some (.int x7), some (.int x8), d9]) (S2 := []) (s2 := (l, r, h, j)) rfl (fun _ _ => rfl) e (fun c2 e => ?_) (fun c2 e => ?_)
    · cases e
      exact hx _ _
    · refine g_run 1 43 [some (.ref x0), some (.int x1), some (.int y2), some (.int x3), some (.int x4), some (.int x5), some (.int x6), some (.int x7), some (.int x8), d9] [.ref x0] (fun _ => rfl) ?_
      refine g_getA 46 rfl rfl (Md_l kx0) (Md_r23 kx0) ?_
      refine g_run 2 50 [some (.ref x0), some (.int x1), some (.int y2), some (.int x3), some (.int x4), some (.int x5), some (.int x6), some (.int x7), some (.int x8), d9] [.int x8, .int x6, .ref (x0 + 12)] (fun _ => rfl) ?_
      obtain ⟨k3, ek3, e⟩ := g_bd e
      refine g_iast 51 rfl rfl (Md_k23 kx0) ek3 ?_
      refine g_run 2 53 [some (.ref x0), some (.int x1), some (.int y2), some (.int x3), some (.int x4), some (.int x5), some (.int x6), some (.int x7), some (.int x8), d9] [.int x1, .ref x0] (fun _ => rfl) ?_
      obtain ⟨q4, eq4, e⟩ := g_bd e
      refine g_cV 56 rfl rfl rfl rfl rfl (Md_l kx0) (Md_hasOf_s kx0 eq4) ?_
      refine g_run 1 58 [some (.ref x0), some (.int x1), some (.int y2), some (.int x3), some (.int x4), some (.int x5), some (.int x6), some (.int x7), some (.int x8), d9] [.int x5, .int q4.1] (fun _ => rfl) ?_
      obtain ⟨q7, eq7, e⟩ := g_bd e
      have hjq7 : ∀ (_ : True), Ev X 263 69 [some (.ref x0), some (.int x1), some (.int y2), some (.int x3), some (.int x4), some (.int x5), some (.int x6), some (.int x7), some (.int x8), d9] [.int q7, .int q4.1] (l, r, q4.2, j) R := by
        intro _
        refine g_run 5 76 [some (.ref x0), some (.int x1), some (.int y2), some (.int x3), some (.int x4), some (.int x5), some (.int x6), some (.int x7), some (.int x8), some (.int (q4.1 - q7))] [.ref x0, .int (q4.1 - q7), .ref x0] (fun _ => rfl) ?_
        refine g_getI 79 rfl rfl (Md_l kx0) ?_
        obtain ⟨q10, eq10, e⟩ := g_bd e
        have hjq10 : ∀ (_ : True), Ev X 263 91 [some (.ref x0), some (.int x1), some (.int y2), some (.int x3), some (.int x4), some (.int x5), some (.int x6), some (.int x7), some (.int x8), some (.int (q4.1 - q7))] [.int q10, .ref x0] (l, r, q4.2, j) R := by
          intro _
          refine g_putI 94 rfl rfl (Md_l kx0) ?_
          refine g_run 2 96 [some (.ref x0), some (.int x1), some (.int y2), some (.int x3), some (.int x4), some (.int x5), some (.int x6), some (.int x7), some (.int x8), some (.int (q4.1 - q7))] [.ref x0, .ref x0] (fun _ => rfl) ?_
          refine g_getI 99 rfl rfl (Md_l kx0) ?_
          refine g_run 1 101 [some (.ref x0), some (.int x1), some (.int y2), some (.int x3), some (.int x4), some (.int x5), some (.int x6), some (.int x7), some (.int x8), some (.int (q4.1 - q7))] [.int (q4.1 - q7), .int ((am_up q4.2 x0 49 q10) x0 50), .ref x0] (fun _ => rfl) ?_
          refine g_cS 104 rfl rfl (by decide) rfl rfl rfl Md_greater_s ?_
          refine g_putI 107 rfl rfl (Md_l kx0) ?_
          refine g_run 2 35 [some (.ref x0), some (.int x1), some (.int y2), some (.int x3), some (.int x4), some (.int x5), some (.int x6), some (.int x7), some (.int (x8 + (1 : Int32))), some (.int (q4.1 - q7))] [] (fun _ => rfl) ?_
          exact ih _ _ _ e
        replace e := eq10
        refine g_if (p1 := 87) (L1 := [some (.ref x0), some (.int x1), some (.int y2), some (.int x3), some (.int x4), some (.int x5), some (.int x6), some (.int x7), some (.int x8), some (.int (q4.1 - q7))]) (S1 := [.ref x0]) (s1 := (l, r, q4.2, j)) (p2 := 82) (L2 := [some (.ref x0), some (.int x1), some (.int y2), some (.int x3), some (.int x4), some (.int x5), some (.int x6), some (.int x7), some (.int x8), some (.int (q4.1 - q7))]) (S2 := [.ref x0]) (s2 := (l, r, q4.2, j)) rfl (fun _ _ => rfl) e (fun c8 e => ?_) (fun c8 e => ?_)
        · refine g_run 1 88 [some (.ref x0), some (.int x1), some (.int y2), some (.int x3), some (.int x4), some (.int x5), some (.int x6), some (.int x7), some (.int x8), some (.int (q4.1 - q7))] [.ref x0, .ref x0] (fun _ => rfl) ?_
          refine g_getI 91 rfl rfl (Md_l kx0) ?_
          cases e
          exact hjq10 trivial
        · refine g_run 2 91 [some (.ref x0), some (.int x1), some (.int y2), some (.int x3), some (.int x4), some (.int x5), some (.int x6), some (.int x7), some (.int x8), some (.int (q4.1 - q7))] [.int x8, .ref x0] (fun _ => rfl) ?_
          cases e
          exact hjq10 trivial
      replace e := eq7
      refine g_if (p1 := 68) (L1 := [some (.ref x0), some (.int x1), some (.int y2), some (.int x3), some (.int x4), some (.int x5), some (.int x6), some (.int x7), some (.int x8), d9]) (S1 := [.int q4.1]) (s1 := (l, r, q4.2, j)) (p2 := 61) (L2 := [some (.ref x0), some (.int x1), some (.int y2), some (.int x3), some (.int x4), some (.int x5), some (.int x6), some (.int x7), some (.int x8), d9]) (S2 := [.int q4.1]) (s2 := (l, r, q4.2, j)) rfl (fun _ _ => rfl) e (fun c5 e => ?_) (fun c5 e => ?_)
      · refine g_run 1 69 [some (.ref x0), some (.int x1), some (.int y2), some (.int x3), some (.int x4), some (.int x5), some (.int x6), some (.int x7), some (.int x8), d9] [.int (0 : Int32), .int q4.1] (fun _ => rfl) ?_
        cases e
        exact hjq7 trivial
      · refine g_run 4 69 [some (.ref x0), some (.int x1), some (.int y2), some (.int x3), some (.int x4), some (.int x5), some (.int x6), some (.int x7), some (.int x8), d9] [.int (x8 - x3), .int q4.1] (fun _ => rfl) ?_
        cases e
        exact hjq7 trivial
theorem Md_tryAll_s {X : Nat × (Nat → Int32)} {l : List (Nat × Nat)} {r : am_R} {h : am_F} {j : am_J} {a : Nat} {x1 : Int32} {x2 : Int32} {x3 : Int32} {x4 : Int32} {x5 : Int32} (ka : Md_K l r a) {q : am_F} (e : Md_tryAll a x1 x2 x3 x4 x5 h = some q) : Call X 263 [.ref a, .int x1, .int x2, .int x3, .int x4, .int x5] (l, r, h, j) (none, (l, r, q, j)) := by
  unfold Md_tryAll at e
  refine ⟨Nat.le_of_ble_eq_true rfl, ?_⟩
  show Ev X 263 0 [some (.ref a), some (.int x1), some (.int x2), some (.int x3), some (.int x4), some (.int x5), none, none, none, none] [] (l, r, h, j) _
  refine g_run 9 12 [some (.ref a), some (.int x1), some (.int x2), some (.int x3), some (.int x4), some (.int x5), some (.int (((111 : Int32) + ((6 : Int32) * x1)) + x2)), none, none, none] [.ref a] (fun _ => rfl) ?_
  refine g_getA 15 rfl rfl (Md_l ka) (Md_r23 ka) ?_
  refine g_run 1 17 [some (.ref a), some (.int x1), some (.int x2), some (.int x3), some (.int x4), some (.int x5), some (.int (((111 : Int32) + ((6 : Int32) * x1)) + x2)), none, none, none] [.int (((111 : Int32) + ((6 : Int32) * x1)) + x2), .ref (a + 12)] (fun _ => rfl) ?_
  obtain ⟨k1, ek1, e⟩ := g_bd e
  refine g_iald 18 rfl rfl (Md_k23 ka) ek1 ?_
  refine g_run 3 22 [some (.ref a), some (.int x1), some (.int x2), some (.int x3), some (.int x4), some (.int x5), some (.int (((111 : Int32) + ((6 : Int32) * x1)) + x2)), some (.int (h (a + 12) k1)), none, none] [.int (-1 : Int32), .ref a] (fun _ => rfl) ?_
  refine g_putI 25 rfl rfl (Md_l ka) ?_
  refine g_run 2 29 [some (.ref a), some (.int x1), some (.int x2), some (.int x3), some (.int x4), some (.int x5), some (.int (((111 : Int32) + ((6 : Int32) * x1)) + x2)), some (.int (h (a + 12) k1)), none, none] [.int (-1000000 : Int32), .ref a] (fun _ => rfl) ?_
  refine g_putI 32 rfl rfl (Md_l ka) ?_
  refine g_run 2 35 [some (.ref a), some (.int x1), some (.int x2), some (.int x3), some (.int x4), some (.int x5), some (.int (((111 : Int32) + ((6 : Int32) * x1)) + x2)), some (.int (h (a + 12) k1)), some (.int x3), none] [] (fun _ => rfl) ?_
  obtain ⟨q11, eq11, e⟩ := g_bd e
  refine Md_tryAll_l35_s ka (fun d12 y13 => ?_) _ _ _ _ eq11
  refine g_run 1 114 [some (.ref a), some (.int x1), some (.int x2), some (.int x3), some (.int x4), some (.int x5), some (.int (((111 : Int32) + ((6 : Int32) * x1)) + x2)), some (.int (h (a + 12) k1)), some (.int y13), d12] [.ref a] (fun _ => rfl) ?_
  refine g_getA 117 rfl rfl (Md_l ka) (Md_r23 ka) ?_
  refine g_run 2 121 [some (.ref a), some (.int x1), some (.int x2), some (.int x3), some (.int x4), some (.int x5), some (.int (((111 : Int32) + ((6 : Int32) * x1)) + x2)), some (.int (h (a + 12) k1)), some (.int y13), d12] [.int (h (a + 12) k1), .int (((111 : Int32) + ((6 : Int32) * x1)) + x2), .ref (a + 12)] (fun _ => rfl) ?_
  obtain ⟨k14, ek14, e⟩ := g_bd e
  refine g_iast 122 rfl rfl (Md_k23 ka) ek14 ?_
  cases e
  exact g_ret rfl (fun _ _ => rfl)
