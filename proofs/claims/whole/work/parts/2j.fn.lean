/-! methods as functions, and their runs -/
def Md_common_l17 : Nat → Int64 → Int64 → Option (Int64)
  | 0, _, _ => none
  | n + 1, x4, x6 =>
    if (lg_cmp x6 (0 : Int64)) = 0 then
      some x4
    else
      (g_rmJ x4 x6).bind fun v5 =>
      Md_common_l17 n x6 v5
def Md_common (x0 : Int64) (x2 : Int64) : Option (Int64) :=
  (if 0 ≤ (lg_cmp x0 (0 : Int64)) then
      some x0
    else
      some (-x0) : Option (Int64)).bind fun q3 =>
  (Md_common_l17 g_fu q3 x2).bind fun q6 =>
  some q6
theorem Md_common_l17_s {X : Nat × (Nat → Int32)} {l : List (Nat × Nat)} {r : am_R} {y0 : Int64} {y2 : Int64} {h : am_F} {j : am_J} {q : Int64} {R : Option Value × am_S}  (hx : ∀ (d8 : Option Value) (y6 : Int64) , Ev X 225 42 [some (.long y0), none, some (.long y2), none, some (.long q), none, some (.long y6), none, d8, none] [] (l, r, h, j) R) : ∀ (n : Nat) (x4 : Int64) (x6 : Int64) (d8 : Option Value), Md_common_l17 n x4 x6 = some q → Ev X 225 17 [some (.long y0), none, some (.long y2), none, some (.long x4), none, some (.long x6), none, d8, none] [] (l, r, h, j) R := by
  intro n
  induction n with
  | zero => intro x4 x6 d8 e; cases e
  | succ n ih =>
    intro x4 x6 d8 e
    unfold Md_common_l17 at e
    refine g_run 3 21 [some (.long y0), none, some (.long y2), none, some (.long x4), none, some (.long x6), none, d8, none] [.int (lg_cmp x6 (0 : Int64))] (fun _ => rfl) ?_
    refine g_if (p1 := 42) (L1 := [some (.long y0), none, some (.long y2), none, some (.long x4), none, some (.long x6), none, d8, none]) (S1 := []) (s1 := (l, r, h, j)) (p2 := 24) (L2 := [some (.long y0), none, some (.long y2), none, some (.long x4), none, some (.long x6), none, d8, none]) (S2 := []) (s2 := (l, r, h, j)) rfl (fun _ _ => rfl) e (fun c4 e => ?_) (fun c4 e => ?_)
    · cases e
      exact hx _ _
    · refine g_run 2 28 [some (.long y0), none, some (.long y2), none, some (.long x4), none, some (.long x6), none, d8, none] [.long x6, .long x4] (fun _ => rfl) ?_
      obtain ⟨v5, ev5, e⟩ := g_bd e
      refine g_lrem 29 rfl rfl ev5 ?_
      refine g_run 6 17 [some (.long y0), none, some (.long y2), none, some (.long x6), none, some (.long v5), none, some (.long v5), none] [] (fun _ => rfl) ?_
      exact ih _ _ _ e
theorem Md_common_s {X : Nat × (Nat → Int32)} {l : List (Nat × Nat)} {r : am_R} {h : am_F} {j : am_J} {x0 : Int64} {x2 : Int64}  {q : Int64} (e : Md_common x0 x2 = some q) : Call X 225 [.long x0, .long x2] (l, r, h, j) (some (.long q), (l, r, h, j)) := by
  unfold Md_common at e
  refine ⟨Nat.le_of_ble_eq_true rfl, ?_⟩
  show Ev X 225 0 [some (.long x0), none, some (.long x2), none, none, none, none, none, none, none] [] (l, r, h, j) _
  refine g_run 3 3 [some (.long x0), none, some (.long x2), none, none, none, none, none, none, none] [.int (lg_cmp x0 (0 : Int64))] (fun _ => rfl) ?_
  obtain ⟨q3, eq3, e⟩ := g_bd e
  have hjq3 : ∀ (_ : True), Ev X 225 12 [some (.long x0), none, some (.long x2), none, none, none, none, none, none, none] [.long q3] (l, r, h, j) (some (.long q), (l, r, h, j)) := by
    intro _
    refine g_run 3 17 [some (.long x0), none, some (.long x2), none, some (.long q3), none, some (.long x2), none, none, none] [] (fun _ => rfl) ?_
    obtain ⟨q6, eq6, e⟩ := g_bd e
    refine Md_common_l17_s  (fun d7 y8 => ?_) _ _ _ _ eq6
    refine g_run 1 44 [some (.long x0), none, some (.long x2), none, some (.long q6), none, some (.long y8), none, d7, none] [.long q6] (fun _ => rfl) ?_
    cases e
    exact g_ret rfl (fun _ _ => rfl)
  replace e := eq3
  refine g_if (p1 := 11) (L1 := [some (.long x0), none, some (.long x2), none, none, none, none, none, none, none]) (S1 := []) (s1 := (l, r, h, j)) (p2 := 6) (L2 := [some (.long x0), none, some (.long x2), none, none, none, none, none, none, none]) (S2 := []) (s2 := (l, r, h, j)) rfl (fun _ _ => rfl) e (fun c1 e => ?_) (fun c1 e => ?_)
  · refine g_run 1 12 [some (.long x0), none, some (.long x2), none, none, none, none, none, none, none] [.long x0] (fun _ => rfl) ?_
    cases e
    exact hjq3 trivial
  · refine g_run 3 12 [some (.long x0), none, some (.long x2), none, none, none, none, none, none, none] [.long (-x0)] (fun _ => rfl) ?_
    cases e
    exact hjq3 trivial
def Md_least (x0 : Int64) (x2 : Int64) (x4 : Int32) : Option (Int32) :=
  (if x4 = 0 then
      some x0
    else
      some x2 : Option (Int64)).bind fun q3 =>
  (Md_common x0 x2).bind fun q4 =>
  (g_dvJ q3 q4).bind fun v5 =>
  some v5.toInt32
theorem Md_least_s {X : Nat × (Nat → Int32)} {l : List (Nat × Nat)} {r : am_R} {h : am_F} {j : am_J} {x0 : Int64} {x2 : Int64} {x4 : Int32}  {q : Int32} (e : Md_least x0 x2 x4 = some q) : Call X 226 [.long x0, .long x2, .int x4] (l, r, h, j) (some (.int q), (l, r, h, j)) := by
  unfold Md_least at e
  refine ⟨Nat.le_of_ble_eq_true rfl, ?_⟩
  show Ev X 226 0 [some (.long x0), none, some (.long x2), none, some (.int x4)] [] (l, r, h, j) _
  refine g_run 1 2 [some (.long x0), none, some (.long x2), none, some (.int x4)] [.int x4] (fun _ => rfl) ?_
  obtain ⟨q3, eq3, e⟩ := g_bd e
  have hjq3 : ∀ (_ : True), Ev X 226 10 [some (.long x0), none, some (.long x2), none, some (.int x4)] [.long q3] (l, r, h, j) (some (.int q), (l, r, h, j)) := by
    intro _
    refine g_run 2 12 [some (.long x0), none, some (.long x2), none, some (.int x4)] [.long x2, .long x0, .long q3] (fun _ => rfl) ?_
    obtain ⟨q4, eq4, e⟩ := g_bd e
    refine g_cS 15 rfl rfl (by decide) rfl rfl rfl (Md_common_s eq4) ?_
    obtain ⟨v5, ev5, e⟩ := g_bd e
    refine g_ldiv 16 rfl rfl ev5 ?_
    refine g_run 1 17 [some (.long x0), none, some (.long x2), none, some (.int x4)] [.int v5.toInt32] (fun _ => rfl) ?_
    cases e
    exact g_ret rfl (fun _ _ => rfl)
  replace e := eq3
  refine g_if (p1 := 9) (L1 := [some (.long x0), none, some (.long x2), none, some (.int x4)]) (S1 := []) (s1 := (l, r, h, j)) (p2 := 5) (L2 := [some (.long x0), none, some (.long x2), none, some (.int x4)]) (S2 := []) (s2 := (l, r, h, j)) rfl (fun _ _ => rfl) e (fun c1 e => ?_) (fun c1 e => ?_)
  · refine g_run 1 10 [some (.long x0), none, some (.long x2), none, some (.int x4)] [.long x0] (fun _ => rfl) ?_
    cases e
    exact hjq3 trivial
  · refine g_run 2 10 [some (.long x0), none, some (.long x2), none, some (.int x4)] [.long x2] (fun _ => rfl) ?_
    cases e
    exact hjq3 trivial
def Md_days_l46 (x0 : Nat) (x2 : Int32) (x3 : Int32) : Nat → Int32 → Int32 → Int32 → am_F → Option (Int32 × Int32 × am_F)
  | 0, _, _, _, _ => none
  | n + 1, x4, x5, x6, h =>
    if x2 ≤ x6 then
      some (x4, x5, h)
    else
      (Md_goDay x0 h).bind fun q7 =>
      (if (q7 x0 35) = x4 then
          some (0 : Int32)
        else
          some (1 : Int32) : Option (Int32)).bind fun q10 =>
      Md_days_l46 x0 x2 x3 n (q7 x0 35) (x5 + q10) (x6 + (1 : Int32)) q7
def Md_days (a : Nat) (x1 : Int32) (x2 : Int32) (x3 : Int32) (h : am_F) : Option (Int32 × am_F) :=
  if (Md_in x2 (1 : Int32) (30 : Int32)) = 0 then
    some ((-1 : Int32), (am_up h a 0 (0 : Int32)))
  else
    if (Md_in x3 (0 : Int32) (3 : Int32)) = 0 then
      some ((-1 : Int32), (am_up h a 0 (0 : Int32)))
    else
      (Md_hand a x1 (am_up h a 0 (0 : Int32))).bind fun q3 =>
      if q3.1 = 0 then
        some ((-1 : Int32), q3.2)
      else
        (Md_harmOf a q3.2).bind fun q5 =>
        (Md_days_l46 a x2 x3 g_fu q5.1 (0 : Int32) (1 : Int32) q5.2).bind fun q11 =>
        if (2 : Int32) ≤ x3 then
          if (q11.2.2 a 40) = 0 then
            some ((1 : Int32), q11.2.2)
          else
            (if x3 = (3 : Int32) then
                some (1 : Int32)
              else
                some (0 : Int32) : Option (Int32)).bind fun q17 =>
            (Md_least ((q11.2.2 a 39).toInt64) ((q11.2.2 a 40).toInt64) q17).bind fun q18 =>
            some (q18, q11.2.2)
        else
          if x3 = 0 then
            some (q11.1, q11.2.2)
          else
            some (q11.2.1, q11.2.2)
theorem Md_days_l46_s {X : Nat × (Nat → Int32)} {l : List (Nat × Nat)} {r : am_R} {x0 : Nat} {x2 : Int32} {x3 : Int32} {y1 : Int32} {j : am_J} {q : Int32 × Int32 × am_F} {R : Option Value × am_S} (kx0 : Md_K l r x0) (hx : ∀ (y6 : Int32) , Ev X 227 87 [some (.ref x0), some (.int y1), some (.int x2), some (.int x3), some (.int q.1), some (.int q.2.1), some (.int y6)] [] (l, r, q.2.2, j) R) : ∀ (n : Nat) (x4 : Int32) (x5 : Int32) (x6 : Int32) (h : am_F), Md_days_l46 x0 x2 x3 n x4 x5 x6 h = some q → Ev X 227 46 [some (.ref x0), some (.int y1), some (.int x2), some (.int x3), some (.int x4), some (.int x5), some (.int x6)] [] (l, r, h, j) R := by
  intro n
  induction n with
  | zero => intro x4 x5 x6 h e; cases e
  | succ n ih =>
    intro x4 x5 x6 h e
    unfold Md_days_l46 at e
    refine g_run 2 49 [some (.ref x0), some (.int y1), some (.int x2), some (.int x3), some (.int x4), some (.int x5), some (.int x6)] [.int x2, .int x6] (fun _ => rfl) ?_
    refine g_if (p1 := 87) (L1 := [some (.ref x0), some (.int y1), some (.int x2), some (.int x3), some (.int x4), some (.int x5), some (.int x6)]) (S1 := []) (s1 := (l, r, h, j)) (p2 := 52) (L2 := [some (.ref x0), some (.int y1), some (.int x2), some (.int x3), some (.int x4), some (.int x5), some (.int x6)]) (S2 := []) (s2 := (l, r, h, j)) rfl (fun _ _ => rfl) e (fun c6 e => ?_) (fun c6 e => ?_)
    · cases e
      exact hx _
    · refine g_run 1 53 [some (.ref x0), some (.int y1), some (.int x2), some (.int x3), some (.int x4), some (.int x5), some (.int x6)] [.ref x0] (fun _ => rfl) ?_
      obtain ⟨q7, eq7, e⟩ := g_bd e
      refine g_cVv 56 rfl rfl rfl rfl rfl (Md_l kx0) (Md_goDay_s kx0 eq7) ?_
      refine g_run 2 59 [some (.ref x0), some (.int y1), some (.int x2), some (.int x3), some (.int x4), some (.int x5), some (.int x6)] [.ref x0, .int x5] (fun _ => rfl) ?_
      refine g_getI 62 rfl rfl (Md_l kx0) ?_
      refine g_run 1 64 [some (.ref x0), some (.int y1), some (.int x2), some (.int x3), some (.int x4), some (.int x5), some (.int x6)] [.int x4, .int (q7 x0 35), .int x5] (fun _ => rfl) ?_
      obtain ⟨q10, eq10, e⟩ := g_bd e
      have hjq10 : ∀ (_ : True), Ev X 227 72 [some (.ref x0), some (.int y1), some (.int x2), some (.int x3), some (.int x4), some (.int x5), some (.int x6)] [.int q10, .int x5] (l, r, q7, j) R := by
        intro _
        refine g_run 3 76 [some (.ref x0), some (.int y1), some (.int x2), some (.int x3), some (.int x4), some (.int (x5 + q10)), some (.int x6)] [.ref x0] (fun _ => rfl) ?_
        refine g_getI 79 rfl rfl (Md_l kx0) ?_
        refine g_run 3 46 [some (.ref x0), some (.int y1), some (.int x2), some (.int x3), some (.int (q7 x0 35)), some (.int (x5 + q10)), some (.int (x6 + (1 : Int32)))] [] (fun _ => rfl) ?_
        exact ih _ _ _ _ e
      replace e := eq10
      refine g_if (p1 := 67) (L1 := [some (.ref x0), some (.int y1), some (.int x2), some (.int x3), some (.int x4), some (.int x5), some (.int x6)]) (S1 := [.int x5]) (s1 := (l, r, q7, j)) (p2 := 71) (L2 := [some (.ref x0), some (.int y1), some (.int x2), some (.int x3), some (.int x4), some (.int x5), some (.int x6)]) (S2 := [.int x5]) (s2 := (l, r, q7, j)) rfl (fun _ _ => rfl) e (fun c8 e => ?_) (fun c8 e => ?_)
      · refine g_run 2 72 [some (.ref x0), some (.int y1), some (.int x2), some (.int x3), some (.int x4), some (.int x5), some (.int x6)] [.int (0 : Int32), .int x5] (fun _ => rfl) ?_
        cases e
        exact hjq10 trivial
      · refine g_run 1 72 [some (.ref x0), some (.int y1), some (.int x2), some (.int x3), some (.int x4), some (.int x5), some (.int x6)] [.int (1 : Int32), .int x5] (fun _ => rfl) ?_
        cases e
        exact hjq10 trivial
theorem Md_days_s {X : Nat × (Nat → Int32)} {l : List (Nat × Nat)} {r : am_R} {h : am_F} {j : am_J} {a : Nat} {x1 : Int32} {x2 : Int32} {x3 : Int32} (ka : Md_K l r a) {q : Int32 × am_F} (e : Md_days a x1 x2 x3 h = some q) : Call X 227 [.ref a, .int x1, .int x2, .int x3] (l, r, h, j) (some (.int q.1), (l, r, q.2, j)) := by
  unfold Md_days at e
  refine ⟨Nat.le_of_ble_eq_true rfl, ?_⟩
  show Ev X 227 0 [some (.ref a), some (.int x1), some (.int x2), some (.int x3), none, none, none] [] (l, r, h, j) _
  refine g_run 2 2 [some (.ref a), some (.int x1), some (.int x2), some (.int x3), none, none, none] [.int (0 : Int32), .ref a] (fun _ => rfl) ?_
  refine g_putI 5 rfl rfl (Md_l ka) ?_
  refine g_run 3 9 [some (.ref a), some (.int x1), some (.int x2), some (.int x3), none, none, none] [.int (30 : Int32), .int (1 : Int32), .int x2] (fun _ => rfl) ?_
  refine g_cS 12 rfl rfl (by decide) rfl rfl rfl Md_in_s ?_
  refine g_if (p1 := 32) (L1 := [some (.ref a), some (.int x1), some (.int x2), some (.int x3), none, none, none]) (S1 := []) (s1 := (l, r, (am_up h a 0 (0 : Int32)), j)) (p2 := 15) (L2 := [some (.ref a), some (.int x1), some (.int x2), some (.int x3), none, none, none]) (S2 := []) (s2 := (l, r, (am_up h a 0 (0 : Int32)), j)) rfl (fun _ _ => rfl) e (fun c1 e => ?_) (fun c1 e => ?_)
  · refine g_run 1 33 [some (.ref a), some (.int x1), some (.int x2), some (.int x3), none, none, none] [.int (-1 : Int32)] (fun _ => rfl) ?_
    cases e
    exact g_ret rfl (fun _ _ => rfl)
  · refine g_run 3 18 [some (.ref a), some (.int x1), some (.int x2), some (.int x3), none, none, none] [.int (3 : Int32), .int (0 : Int32), .int x3] (fun _ => rfl) ?_
    refine g_cS 21 rfl rfl (by decide) rfl rfl rfl Md_in_s ?_
    refine g_if (p1 := 32) (L1 := [some (.ref a), some (.int x1), some (.int x2), some (.int x3), none, none, none]) (S1 := []) (s1 := (l, r, (am_up h a 0 (0 : Int32)), j)) (p2 := 24) (L2 := [some (.ref a), some (.int x1), some (.int x2), some (.int x3), none, none, none]) (S2 := []) (s2 := (l, r, (am_up h a 0 (0 : Int32)), j)) rfl (fun _ _ => rfl) e (fun c2 e => ?_) (fun c2 e => ?_)
    · refine g_run 1 33 [some (.ref a), some (.int x1), some (.int x2), some (.int x3), none, none, none] [.int (-1 : Int32)] (fun _ => rfl) ?_
      cases e
      exact g_ret rfl (fun _ _ => rfl)
    · refine g_run 2 26 [some (.ref a), some (.int x1), some (.int x2), some (.int x3), none, none, none] [.int x1, .ref a] (fun _ => rfl) ?_
      obtain ⟨q3, eq3, e⟩ := g_bd e
      refine g_cV 29 rfl rfl rfl rfl rfl (Md_l ka) (Md_hand_s ka eq3) ?_
      refine g_if (p1 := 32) (L1 := [some (.ref a), some (.int x1), some (.int x2), some (.int x3), none, none, none]) (S1 := []) (s1 := (l, r, q3.2, j)) (p2 := 34) (L2 := [some (.ref a), some (.int x1), some (.int x2), some (.int x3), none, none, none]) (S2 := []) (s2 := (l, r, q3.2, j)) rfl (fun _ _ => rfl) e (fun c4 e => ?_) (fun c4 e => ?_)
      · refine g_run 1 33 [some (.ref a), some (.int x1), some (.int x2), some (.int x3), none, none, none] [.int (-1 : Int32)] (fun _ => rfl) ?_
        cases e
        exact g_ret rfl (fun _ _ => rfl)
      · refine g_run 1 35 [some (.ref a), some (.int x1), some (.int x2), some (.int x3), none, none, none] [.ref a] (fun _ => rfl) ?_
        obtain ⟨q5, eq5, e⟩ := g_bd e
        refine g_cV 38 rfl rfl rfl rfl rfl (Md_l ka) (Md_harmOf_s ka eq5) ?_
        refine g_run 5 46 [some (.ref a), some (.int x1), some (.int x2), some (.int x3), some (.int q5.1), some (.int (0 : Int32)), some (.int (1 : Int32))] [] (fun _ => rfl) ?_
        obtain ⟨q11, eq11, e⟩ := g_bd e
        refine Md_days_l46_s ka (fun y12 => ?_) _ _ _ _ _ eq11
        refine g_run 2 89 [some (.ref a), some (.int x1), some (.int x2), some (.int x3), some (.int q11.1), some (.int q11.2.1), some (.int y12)] [.int (2 : Int32), .int x3] (fun _ => rfl) ?_
        refine g_if (p1 := 104) (L1 := [some (.ref a), some (.int x1), some (.int x2), some (.int x3), some (.int q11.1), some (.int q11.2.1), some (.int y12)]) (S1 := []) (s1 := (l, r, q11.2.2, j)) (p2 := 92) (L2 := [some (.ref a), some (.int x1), some (.int x2), some (.int x3), some (.int q11.1), some (.int q11.2.1), some (.int y12)]) (S2 := []) (s2 := (l, r, q11.2.2, j)) rfl (fun _ _ => rfl) e (fun c13 e => ?_) (fun c13 e => ?_)
        · refine g_run 1 105 [some (.ref a), some (.int x1), some (.int x2), some (.int x3), some (.int q11.1), some (.int q11.2.1), some (.int y12)] [.ref a] (fun _ => rfl) ?_
          refine g_getI 108 rfl rfl (Md_l ka) ?_
          refine g_if (p1 := 111) (L1 := [some (.ref a), some (.int x1), some (.int x2), some (.int x3), some (.int q11.1), some (.int q11.2.1), some (.int y12)]) (S1 := []) (s1 := (l, r, q11.2.2, j)) (p2 := 115) (L2 := [some (.ref a), some (.int x1), some (.int x2), some (.int x3), some (.int q11.1), some (.int q11.2.1), some (.int y12)]) (S2 := []) (s2 := (l, r, q11.2.2, j)) rfl (fun _ _ => rfl) e (fun c14 e => ?_) (fun c14 e => ?_)
          · refine g_run 2 138 [some (.ref a), some (.int x1), some (.int x2), some (.int x3), some (.int q11.1), some (.int q11.2.1), some (.int y12)] [.int (1 : Int32)] (fun _ => rfl) ?_
            cases e
            exact g_ret rfl (fun _ _ => rfl)
          · refine g_run 1 116 [some (.ref a), some (.int x1), some (.int x2), some (.int x3), some (.int q11.1), some (.int q11.2.1), some (.int y12)] [.ref a] (fun _ => rfl) ?_
            refine g_getI 119 rfl rfl (Md_l ka) ?_
            refine g_run 2 121 [some (.ref a), some (.int x1), some (.int x2), some (.int x3), some (.int q11.1), some (.int q11.2.1), some (.int y12)] [.ref a, .long (q11.2.2 a 39).toInt64] (fun _ => rfl) ?_
            refine g_getI 124 rfl rfl (Md_l ka) ?_
            refine g_run 3 127 [some (.ref a), some (.int x1), some (.int x2), some (.int x3), some (.int q11.1), some (.int q11.2.1), some (.int y12)] [.int (3 : Int32), .int x3, .long (q11.2.2 a 40).toInt64, .long (q11.2.2 a 39).toInt64] (fun _ => rfl) ?_
            obtain ⟨q17, eq17, e⟩ := g_bd e
            have hjq17 : ∀ (_ : True), Ev X 227 135 [some (.ref a), some (.int x1), some (.int x2), some (.int x3), some (.int q11.1), some (.int q11.2.1), some (.int y12)] [.int q17, .long (q11.2.2 a 40).toInt64, .long (q11.2.2 a 39).toInt64] (l, r, q11.2.2, j) (some (.int q.1), (l, r, q.2, j)) := by
              intro _
              obtain ⟨q18, eq18, e⟩ := g_bd e
              refine g_cS 138 rfl rfl (by decide) rfl rfl rfl (Md_least_s eq18) ?_
              cases e
              exact g_ret rfl (fun _ _ => rfl)
            replace e := eq17
            refine g_if (p1 := 130) (L1 := [some (.ref a), some (.int x1), some (.int x2), some (.int x3), some (.int q11.1), some (.int q11.2.1), some (.int y12)]) (S1 := [.long (q11.2.2 a 40).toInt64, .long (q11.2.2 a 39).toInt64]) (s1 := (l, r, q11.2.2, j)) (p2 := 134) (L2 := [some (.ref a), some (.int x1), some (.int x2), some (.int x3), some (.int q11.1), some (.int q11.2.1), some (.int y12)]) (S2 := [.long (q11.2.2 a 40).toInt64, .long (q11.2.2 a 39).toInt64]) (s2 := (l, r, q11.2.2, j)) rfl (fun _ _ => rfl) e (fun c15 e => ?_) (fun c15 e => ?_)
            · refine g_run 2 135 [some (.ref a), some (.int x1), some (.int x2), some (.int x3), some (.int q11.1), some (.int q11.2.1), some (.int y12)] [.int (1 : Int32), .long (q11.2.2 a 40).toInt64, .long (q11.2.2 a 39).toInt64] (fun _ => rfl) ?_
              cases e
              exact hjq17 trivial
            · refine g_run 1 135 [some (.ref a), some (.int x1), some (.int x2), some (.int x3), some (.int q11.1), some (.int q11.2.1), some (.int y12)] [.int (0 : Int32), .long (q11.2.2 a 40).toInt64, .long (q11.2.2 a 39).toInt64] (fun _ => rfl) ?_
              cases e
              exact hjq17 trivial
        · refine g_run 1 93 [some (.ref a), some (.int x1), some (.int x2), some (.int x3), some (.int q11.1), some (.int q11.2.1), some (.int y12)] [.int x3] (fun _ => rfl) ?_
          refine g_if (p1 := 96) (L1 := [some (.ref a), some (.int x1), some (.int x2), some (.int x3), some (.int q11.1), some (.int q11.2.1), some (.int y12)]) (S1 := []) (s1 := (l, r, q11.2.2, j)) (p2 := 101) (L2 := [some (.ref a), some (.int x1), some (.int x2), some (.int x3), some (.int q11.1), some (.int q11.2.1), some (.int y12)]) (S2 := []) (s2 := (l, r, q11.2.2, j)) rfl (fun _ _ => rfl) e (fun c19 e => ?_) (fun c19 e => ?_)
          · refine g_run 2 103 [some (.ref a), some (.int x1), some (.int x2), some (.int x3), some (.int q11.1), some (.int q11.2.1), some (.int y12)] [.int q11.1] (fun _ => rfl) ?_
            cases e
            exact g_ret rfl (fun _ _ => rfl)
          · refine g_run 1 103 [some (.ref a), some (.int x1), some (.int x2), some (.int x3), some (.int q11.1), some (.int q11.2.1), some (.int y12)] [.int q11.2.1] (fun _ => rfl) ?_
            cases e
            exact g_ret rfl (fun _ _ => rfl)
def Md_isOtherDry_l2 (x0 : Nat) (x1 : Int32) (x2 : Int32) (h : am_F) : Nat → Int32 → Option (Int32)
  | 0, _ => none
  | n + 1, x3 =>
    if (h (x0 + 12) 3) ≤ x3 then
      if (h (x0 + 12) 3) = (1 : Int32) then
        some (1 : Int32)
      else
        some (0 : Int32)
    else
      if x3 = x1 then
        Md_isOtherDry_l2 x0 x1 x2 h n (x3 + (1 : Int32))
      else
        (g_ix x3 6).bind fun k4 =>
        if (h (x0 + 25) k4) = (-1 : Int32) then
          some (1 : Int32)
        else
          (g_ix x3 6).bind fun k6 =>
          if x2 < (h (x0 + 25) k6) then
            Md_isOtherDry_l2 x0 x1 x2 h n (x3 + (1 : Int32))
          else
            (g_ix x3 6).bind fun k8 =>
            (Md_wetness x0 (h (x0 + 25) k8) x2 h).bind fun q9 =>
            if q9 = 0 then
              some (1 : Int32)
            else
              Md_isOtherDry_l2 x0 x1 x2 h n (x3 + (1 : Int32))
def Md_isOtherDry (a : Nat) (x1 : Int32) (x2 : Int32) (h : am_F) : Option (Int32) :=
  Md_isOtherDry_l2 a x1 x2 h g_fu (0 : Int32)
theorem Md_isOtherDry_l2_s {X : Nat × (Nat → Int32)} {l : List (Nat × Nat)} {r : am_R} {x0 : Nat} {x1 : Int32} {x2 : Int32} {h : am_F} {j : am_J} {q : Int32} (kx0 : Md_K l r x0) : ∀ (n : Nat) (x3 : Int32), Md_isOtherDry_l2 x0 x1 x2 h n x3 = some q → Ev X 228 2 [some (.ref x0), some (.int x1), some (.int x2), some (.int x3)] [] (l, r, h, j) (some (.int q), (l, r, h, j)) := by
  intro n
  induction n with
  | zero => intro x3 e; cases e
  | succ n ih =>
    intro x3 e
    unfold Md_isOtherDry_l2 at e
    refine g_run 2 4 [some (.ref x0), some (.int x1), some (.int x2), some (.int x3)] [.ref x0, .int x3] (fun _ => rfl) ?_
    refine g_getA 7 rfl rfl (Md_l kx0) (Md_r23 kx0) ?_
    refine g_run 1 8 [some (.ref x0), some (.int x1), some (.int x2), some (.int x3)] [.int (3 : Int32), .ref (x0 + 12), .int x3] (fun _ => rfl) ?_
    refine g_iald 9 rfl rfl (Md_k23 kx0) (kx := 3) rfl ?_
    refine g_if (p1 := 59) (L1 := [some (.ref x0), some (.int x1), some (.int x2), some (.int x3)]) (S1 := []) (s1 := (l, r, h, j)) (p2 := 12) (L2 := [some (.ref x0), some (.int x1), some (.int x2), some (.int x3)]) (S2 := []) (s2 := (l, r, h, j)) rfl (fun _ _ => rfl) e (fun c1 e => ?_) (fun c1 e => ?_)
    · refine g_run 1 60 [some (.ref x0), some (.int x1), some (.int x2), some (.int x3)] [.ref x0] (fun _ => rfl) ?_
      refine g_getA 63 rfl rfl (Md_l kx0) (Md_r23 kx0) ?_
      refine g_run 1 64 [some (.ref x0), some (.int x1), some (.int x2), some (.int x3)] [.int (3 : Int32), .ref (x0 + 12)] (fun _ => rfl) ?_
      refine g_iald 65 rfl rfl (Md_k23 kx0) (kx := 3) rfl ?_
      refine g_run 1 66 [some (.ref x0), some (.int x1), some (.int x2), some (.int x3)] [.int (1 : Int32), .int (h (x0 + 12) 3)] (fun _ => rfl) ?_
      refine g_if (p1 := 69) (L1 := [some (.ref x0), some (.int x1), some (.int x2), some (.int x3)]) (S1 := []) (s1 := (l, r, h, j)) (p2 := 73) (L2 := [some (.ref x0), some (.int x1), some (.int x2), some (.int x3)]) (S2 := []) (s2 := (l, r, h, j)) rfl (fun _ _ => rfl) e (fun c2 e => ?_) (fun c2 e => ?_)
      · refine g_run 2 74 [some (.ref x0), some (.int x1), some (.int x2), some (.int x3)] [.int (1 : Int32)] (fun _ => rfl) ?_
        cases e
        exact g_retZ rfl (y := (1 : Int32)) rfl rfl
      · refine g_run 1 74 [some (.ref x0), some (.int x1), some (.int x2), some (.int x3)] [.int (0 : Int32)] (fun _ => rfl) ?_
        cases e
        exact g_retZ rfl (y := (0 : Int32)) rfl rfl
    · refine g_run 2 14 [some (.ref x0), some (.int x1), some (.int x2), some (.int x3)] [.int x1, .int x3] (fun _ => rfl) ?_
      refine g_if (p1 := 53) (L1 := [some (.ref x0), some (.int x1), some (.int x2), some (.int x3)]) (S1 := []) (s1 := (l, r, h, j)) (p2 := 17) (L2 := [some (.ref x0), some (.int x1), some (.int x2), some (.int x3)]) (S2 := []) (s2 := (l, r, h, j)) rfl (fun _ _ => rfl) e (fun c3 e => ?_) (fun c3 e => ?_)
      · refine g_run 2 2 [some (.ref x0), some (.int x1), some (.int x2), some (.int (x3 + (1 : Int32)))] [] (fun _ => rfl) ?_
        exact ih _ e
      · refine g_run 1 18 [some (.ref x0), some (.int x1), some (.int x2), some (.int x3)] [.ref x0] (fun _ => rfl) ?_
        refine g_getA 21 rfl rfl (Md_l kx0) (Md_r42 kx0) ?_
        refine g_run 1 22 [some (.ref x0), some (.int x1), some (.int x2), some (.int x3)] [.int x3, .ref (x0 + 25)] (fun _ => rfl) ?_
        obtain ⟨k4, ek4, e⟩ := g_bd e
        refine g_iald 23 rfl rfl (Md_k42 kx0) ek4 ?_
        refine g_run 1 24 [some (.ref x0), some (.int x1), some (.int x2), some (.int x3)] [.int (-1 : Int32), .int (h (x0 + 25) k4)] (fun _ => rfl) ?_
        refine g_if (p1 := 51) (L1 := [some (.ref x0), some (.int x1), some (.int x2), some (.int x3)]) (S1 := []) (s1 := (l, r, h, j)) (p2 := 27) (L2 := [some (.ref x0), some (.int x1), some (.int x2), some (.int x3)]) (S2 := []) (s2 := (l, r, h, j)) rfl (fun _ _ => rfl) e (fun c5 e => ?_) (fun c5 e => ?_)
        · refine g_run 1 52 [some (.ref x0), some (.int x1), some (.int x2), some (.int x3)] [.int (1 : Int32)] (fun _ => rfl) ?_
          cases e
          exact g_retZ rfl (y := (1 : Int32)) rfl rfl
        · refine g_run 1 28 [some (.ref x0), some (.int x1), some (.int x2), some (.int x3)] [.ref x0] (fun _ => rfl) ?_
          refine g_getA 31 rfl rfl (Md_l kx0) (Md_r42 kx0) ?_
          refine g_run 1 32 [some (.ref x0), some (.int x1), some (.int x2), some (.int x3)] [.int x3, .ref (x0 + 25)] (fun _ => rfl) ?_
          obtain ⟨k6, ek6, e⟩ := g_bd e
          refine g_iald 33 rfl rfl (Md_k42 kx0) ek6 ?_
          refine g_run 1 34 [some (.ref x0), some (.int x1), some (.int x2), some (.int x3)] [.int x2, .int (h (x0 + 25) k6)] (fun _ => rfl) ?_
          refine g_if (p1 := 53) (L1 := [some (.ref x0), some (.int x1), some (.int x2), some (.int x3)]) (S1 := []) (s1 := (l, r, h, j)) (p2 := 37) (L2 := [some (.ref x0), some (.int x1), some (.int x2), some (.int x3)]) (S2 := []) (s2 := (l, r, h, j)) rfl (fun _ _ => rfl) e (fun c7 e => ?_) (fun c7 e => ?_)
          · refine g_run 2 2 [some (.ref x0), some (.int x1), some (.int x2), some (.int (x3 + (1 : Int32)))] [] (fun _ => rfl) ?_
            exact ih _ e
          · refine g_run 2 39 [some (.ref x0), some (.int x1), some (.int x2), some (.int x3)] [.ref x0, .ref x0] (fun _ => rfl) ?_
            refine g_getA 42 rfl rfl (Md_l kx0) (Md_r42 kx0) ?_
            refine g_run 1 43 [some (.ref x0), some (.int x1), some (.int x2), some (.int x3)] [.int x3, .ref (x0 + 25), .ref x0] (fun _ => rfl) ?_
            obtain ⟨k8, ek8, e⟩ := g_bd e
            refine g_iald 44 rfl rfl (Md_k42 kx0) ek8 ?_
            refine g_run 1 45 [some (.ref x0), some (.int x1), some (.int x2), some (.int x3)] [.int x2, .int (h (x0 + 25) k8), .ref x0] (fun _ => rfl) ?_
            obtain ⟨q9, eq9, e⟩ := g_bd e
            refine g_cV 48 rfl rfl rfl rfl rfl (Md_l kx0) (Md_wetness_s kx0 eq9) ?_
            refine g_if (p1 := 51) (L1 := [some (.ref x0), some (.int x1), some (.int x2), some (.int x3)]) (S1 := []) (s1 := (l, r, h, j)) (p2 := 53) (L2 := [some (.ref x0), some (.int x1), some (.int x2), some (.int x3)]) (S2 := []) (s2 := (l, r, h, j)) rfl (fun _ _ => rfl) e (fun c10 e => ?_) (fun c10 e => ?_)
            · refine g_run 1 52 [some (.ref x0), some (.int x1), some (.int x2), some (.int x3)] [.int (1 : Int32)] (fun _ => rfl) ?_
              cases e
              exact g_retZ rfl (y := (1 : Int32)) rfl rfl
            · refine g_run 2 2 [some (.ref x0), some (.int x1), some (.int x2), some (.int (x3 + (1 : Int32)))] [] (fun _ => rfl) ?_
              exact ih _ e
theorem Md_isOtherDry_s {X : Nat × (Nat → Int32)} {l : List (Nat × Nat)} {r : am_R} {h : am_F} {j : am_J} {a : Nat} {x1 : Int32} {x2 : Int32} (ka : Md_K l r a) {q : Int32} (e : Md_isOtherDry a x1 x2 h = some q) : Call X 228 [.ref a, .int x1, .int x2] (l, r, h, j) (some (.int q), (l, r, h, j)) := by
  unfold Md_isOtherDry at e
  refine ⟨Nat.le_of_ble_eq_true rfl, ?_⟩
  show Ev X 228 0 [some (.ref a), some (.int x1), some (.int x2), none] [] (l, r, h, j) _
  refine g_run 2 2 [some (.ref a), some (.int x1), some (.int x2), some (.int (0 : Int32))] [] (fun _ => rfl) ?_
  exact Md_isOtherDry_l2_s ka _ _ e
def Md_finish_l2 (x0 : Nat) (x1 : Int32) : Nat → Int32 → am_F → Option (am_F)
  | 0, _, _ => none
  | n + 1, x2, h =>
    if (6 : Int32) ≤ x2 then
      some h
    else
      (g_ix x2 6).bind fun k2 =>
      Md_finish_l2 x0 x1 n (x2 + (1 : Int32)) (am_up h (x0 + 25) k2 (-1 : Int32))
def Md_finish_l48 (x0 : Nat) (x3 : Int32) (x4 : Int32) (x5 : Int32) (h : am_F) : Nat → Int32 → Option (Int32)
  | 0, _ => none
  | n + 1, x2 =>
    if (400 : Int32) < x2 then
      some x2
    else
      (Md_isOtherDry x0 x5 x2 h).bind fun q8 =>
      if q8 = 0 then
        Md_finish_l48 x0 x3 x4 x5 h n (x2 + (1 : Int32))
      else
        some x2
def Md_finish_l28 (x0 : Nat) : Nat → Int32 → Int32 → Int32 → am_F → Option (Int32 × am_F)
  | 0, _, _, _, _ => none
  | n + 1, x2, x3, x4, h =>
    if (h (x0 + 12) 3) ≤ x4 then
      some (x3, h)
    else
      (g_ix x4 6).bind fun k6 =>
      (Md_finish_l48 x0 x3 x4 (h (x0 + 24) k6) h g_fu x2).bind fun q10 =>
      (g_ix ((55 : Int32) + ((4 : Int32) * (h (x0 + 24) k6))) 195).bind fun k11 =>
      (g_ix (h (x0 + 24) k6) 6).bind fun k12 =>
      (Md_dries x0 (q10 + (((h (x0 + 12) k11) + (2 : Int32)) / (3 : Int32))) (400 : Int32) (am_up h (x0 + 25) k12 (q10 + (((h (x0 + 12) k11) + (2 : Int32)) / (3 : Int32))))).bind fun q13 =>
      if (Md_greater x3 q13) ≤ (400 : Int32) then
        Md_finish_l28 x0 n (q10 + (((h (x0 + 12) k11) + (2 : Int32)) / (3 : Int32))) (Md_greater x3 q13) (x4 + (1 : Int32)) (am_up h (x0 + 25) k12 (q10 + (((h (x0 + 12) k11) + (2 : Int32)) / (3 : Int32))))
      else
        some ((-1 : Int32), (am_up h (x0 + 25) k12 (q10 + (((h (x0 + 12) k11) + (2 : Int32)) / (3 : Int32)))))
def Md_finish (a : Nat) (x1 : Int32) (h : am_F) : Option (Int32 × am_F) :=
  (Md_finish_l2 a x1 g_fu (0 : Int32) h).bind fun q3 =>
  Md_finish_l28 a g_fu x1 x1 (0 : Int32) q3
theorem Md_finish_l2_s {X : Nat × (Nat → Int32)} {l : List (Nat × Nat)} {r : am_R} {x0 : Nat} {x1 : Int32} {j : am_J} {q : am_F} {R : Option Value × am_S} (kx0 : Md_K l r x0) (hx : ∀ (y2 : Int32) , Ev X 229 21 [some (.ref x0), some (.int x1), some (.int y2), none, none, none] [] (l, r, q, j) R) : ∀ (n : Nat) (x2 : Int32) (h : am_F), Md_finish_l2 x0 x1 n x2 h = some q → Ev X 229 2 [some (.ref x0), some (.int x1), some (.int x2), none, none, none] [] (l, r, h, j) R := by
  intro n
  induction n with
  | zero => intro x2 h e; cases e
  | succ n ih =>
    intro x2 h e
    unfold Md_finish_l2 at e
    refine g_run 2 5 [some (.ref x0), some (.int x1), some (.int x2), none, none, none] [.int (6 : Int32), .int x2] (fun _ => rfl) ?_
    refine g_if (p1 := 21) (L1 := [some (.ref x0), some (.int x1), some (.int x2), none, none, none]) (S1 := []) (s1 := (l, r, h, j)) (p2 := 8) (L2 := [some (.ref x0), some (.int x1), some (.int x2), none, none, none]) (S2 := []) (s2 := (l, r, h, j)) rfl (fun _ _ => rfl) e (fun c1 e => ?_) (fun c1 e => ?_)
    · cases e
      exact hx _
    · refine g_run 1 9 [some (.ref x0), some (.int x1), some (.int x2), none, none, none] [.ref x0] (fun _ => rfl) ?_
      refine g_getA 12 rfl rfl (Md_l kx0) (Md_r42 kx0) ?_
      refine g_run 2 14 [some (.ref x0), some (.int x1), some (.int x2), none, none, none] [.int (-1 : Int32), .int x2, .ref (x0 + 25)] (fun _ => rfl) ?_
      obtain ⟨k2, ek2, e⟩ := g_bd e
      refine g_iast 15 rfl rfl (Md_k42 kx0) ek2 ?_
      refine g_run 2 2 [some (.ref x0), some (.int x1), some (.int (x2 + (1 : Int32))), none, none, none] [] (fun _ => rfl) ?_
      exact ih _ _ e
theorem Md_finish_l48_s {X : Nat × (Nat → Int32)} {l : List (Nat × Nat)} {r : am_R} {x0 : Nat} {x3 : Int32} {x4 : Int32} {x5 : Int32} {y1 : Int32} {h : am_F} {j : am_J} {q : Int32} {R : Option Value × am_S} (kx0 : Md_K l r x0) (hx : ∀ (_ : True), Ev X 229 71 [some (.ref x0), some (.int y1), some (.int q), some (.int x3), some (.int x4), some (.int x5)] [] (l, r, h, j) R) : ∀ (n : Nat) (x2 : Int32), Md_finish_l48 x0 x3 x4 x5 h n x2 = some q → Ev X 229 48 [some (.ref x0), some (.int y1), some (.int x2), some (.int x3), some (.int x4), some (.int x5)] [] (l, r, h, j) R := by
  intro n
  induction n with
  | zero => intro x2 e; cases e
  | succ n ih =>
    intro x2 e
    unfold Md_finish_l48 at e
    refine g_run 2 52 [some (.ref x0), some (.int y1), some (.int x2), some (.int x3), some (.int x4), some (.int x5)] [.int (400 : Int32), .int x2] (fun _ => rfl) ?_
    refine g_if (p1 := 71) (L1 := [some (.ref x0), some (.int y1), some (.int x2), some (.int x3), some (.int x4), some (.int x5)]) (S1 := []) (s1 := (l, r, h, j)) (p2 := 55) (L2 := [some (.ref x0), some (.int y1), some (.int x2), some (.int x3), some (.int x4), some (.int x5)]) (S2 := []) (s2 := (l, r, h, j)) rfl (fun _ _ => rfl) e (fun c7 e => ?_) (fun c7 e => ?_)
    · cases e
      exact hx trivial
    · refine g_run 3 59 [some (.ref x0), some (.int y1), some (.int x2), some (.int x3), some (.int x4), some (.int x5)] [.int x2, .int x5, .ref x0] (fun _ => rfl) ?_
      obtain ⟨q8, eq8, e⟩ := g_bd e
      refine g_cV 62 rfl rfl rfl rfl rfl (Md_l kx0) (Md_isOtherDry_s kx0 eq8) ?_
      refine g_if (p1 := 65) (L1 := [some (.ref x0), some (.int y1), some (.int x2), some (.int x3), some (.int x4), some (.int x5)]) (S1 := []) (s1 := (l, r, h, j)) (p2 := 71) (L2 := [some (.ref x0), some (.int y1), some (.int x2), some (.int x3), some (.int x4), some (.int x5)]) (S2 := []) (s2 := (l, r, h, j)) rfl (fun _ _ => rfl) e (fun c9 e => ?_) (fun c9 e => ?_)
      · refine g_run 2 48 [some (.ref x0), some (.int y1), some (.int (x2 + (1 : Int32))), some (.int x3), some (.int x4), some (.int x5)] [] (fun _ => rfl) ?_
        exact ih _ e
      · cases e
        exact hx trivial
theorem Md_finish_l28_s {X : Nat × (Nat → Int32)} {l : List (Nat × Nat)} {r : am_R} {x0 : Nat} {y1 : Int32} {j : am_J} {q : Int32 × am_F} (kx0 : Md_K l r x0) : ∀ (n : Nat) (x2 : Int32) (x3 : Int32) (x4 : Int32) (h : am_F) (d5 : Option Value), Md_finish_l28 x0 n x2 x3 x4 h = some q → Ev X 229 28 [some (.ref x0), some (.int y1), some (.int x2), some (.int x3), some (.int x4), d5] [] (l, r, h, j) (some (.int q.1), (l, r, q.2, j)) := by
  intro n
  induction n with
  | zero => intro x2 x3 x4 h d5 e; cases e
  | succ n ih =>
    intro x2 x3 x4 h d5 e
    unfold Md_finish_l28 at e
    refine g_run 2 31 [some (.ref x0), some (.int y1), some (.int x2), some (.int x3), some (.int x4), d5] [.ref x0, .int x4] (fun _ => rfl) ?_
    refine g_getA 34 rfl rfl (Md_l kx0) (Md_r23 kx0) ?_
    refine g_run 1 35 [some (.ref x0), some (.int y1), some (.int x2), some (.int x3), some (.int x4), d5] [.int (3 : Int32), .ref (x0 + 12), .int x4] (fun _ => rfl) ?_
    refine g_iald 36 rfl rfl (Md_k23 kx0) (kx := 3) rfl ?_
    refine g_if (p1 := 126) (L1 := [some (.ref x0), some (.int y1), some (.int x2), some (.int x3), some (.int x4), d5]) (S1 := []) (s1 := (l, r, h, j)) (p2 := 39) (L2 := [some (.ref x0), some (.int y1), some (.int x2), some (.int x3), some (.int x4), d5]) (S2 := []) (s2 := (l, r, h, j)) rfl (fun _ _ => rfl) e (fun c5 e => ?_) (fun c5 e => ?_)
    · refine g_run 1 127 [some (.ref x0), some (.int y1), some (.int x2), some (.int x3), some (.int x4), d5] [.int x3] (fun _ => rfl) ?_
      cases e
      exact g_ret rfl (fun _ _ => rfl)
    · refine g_run 1 40 [some (.ref x0), some (.int y1), some (.int x2), some (.int x3), some (.int x4), d5] [.ref x0] (fun _ => rfl) ?_
      refine g_getA 43 rfl rfl (Md_l kx0) (Md_r41 kx0) ?_
      refine g_run 1 45 [some (.ref x0), some (.int y1), some (.int x2), some (.int x3), some (.int x4), d5] [.int x4, .ref (x0 + 24)] (fun _ => rfl) ?_
      obtain ⟨k6, ek6, e⟩ := g_bd e
      refine g_iald 46 rfl rfl (Md_k41 kx0) ek6 ?_
      refine g_run 1 48 [some (.ref x0), some (.int y1), some (.int x2), some (.int x3), some (.int x4), some (.int (h (x0 + 24) k6))] [] (fun _ => rfl) ?_
      obtain ⟨q10, eq10, e⟩ := g_bd e
      refine Md_finish_l48_s kx0 (fun _ => ?_) _ _ eq10
      refine g_run 2 73 [some (.ref x0), some (.int y1), some (.int q10), some (.int x3), some (.int x4), some (.int (h (x0 + 24) k6))] [.ref x0, .int q10] (fun _ => rfl) ?_
      refine g_getA 76 rfl rfl (Md_l kx0) (Md_r23 kx0) ?_
      refine g_run 5 83 [some (.ref x0), some (.int y1), some (.int q10), some (.int x3), some (.int x4), some (.int (h (x0 + 24) k6))] [.int ((55 : Int32) + ((4 : Int32) * (h (x0 + 24) k6))), .ref (x0 + 12), .int q10] (fun _ => rfl) ?_
      obtain ⟨k11, ek11, e⟩ := g_bd e
      refine g_iald 84 rfl rfl (Md_k23 kx0) ek11 ?_
      refine g_run 7 91 [some (.ref x0), some (.int y1), some (.int (q10 + (((h (x0 + 12) k11) + (2 : Int32)) / (3 : Int32)))), some (.int x3), some (.int x4), some (.int (h (x0 + 24) k6))] [.ref x0] (fun _ => rfl) ?_
      refine g_getA 94 rfl rfl (Md_l kx0) (Md_r42 kx0) ?_
      refine g_run 2 97 [some (.ref x0), some (.int y1), some (.int (q10 + (((h (x0 + 12) k11) + (2 : Int32)) / (3 : Int32)))), some (.int x3), some (.int x4), some (.int (h (x0 + 24) k6))] [.int (q10 + (((h (x0 + 12) k11) + (2 : Int32)) / (3 : Int32))), .int (h (x0 + 24) k6), .ref (x0 + 25)] (fun _ => rfl) ?_
      obtain ⟨k12, ek12, e⟩ := g_bd e
      refine g_iast 98 rfl rfl (Md_k42 kx0) ek12 ?_
      refine g_run 4 104 [some (.ref x0), some (.int y1), some (.int (q10 + (((h (x0 + 12) k11) + (2 : Int32)) / (3 : Int32)))), some (.int x3), some (.int x4), some (.int (h (x0 + 24) k6))] [.int (400 : Int32), .int (q10 + (((h (x0 + 12) k11) + (2 : Int32)) / (3 : Int32))), .ref x0, .int x3] (fun _ => rfl) ?_
      obtain ⟨q13, eq13, e⟩ := g_bd e
      refine g_cV 107 rfl rfl rfl rfl rfl (Md_l kx0) (Md_dries_s kx0 eq13) ?_
      refine g_cS 110 rfl rfl (by decide) rfl rfl rfl Md_greater_s ?_
      refine g_run 3 115 [some (.ref x0), some (.int y1), some (.int (q10 + (((h (x0 + 12) k11) + (2 : Int32)) / (3 : Int32)))), some (.int (Md_greater x3 q13)), some (.int x4), some (.int (h (x0 + 24) k6))] [.int (400 : Int32), .int (Md_greater x3 q13)] (fun _ => rfl) ?_
      refine g_if (p1 := 120) (L1 := [some (.ref x0), some (.int y1), some (.int (q10 + (((h (x0 + 12) k11) + (2 : Int32)) / (3 : Int32)))), some (.int (Md_greater x3 q13)), some (.int x4), some (.int (h (x0 + 24) k6))]) (S1 := []) (s1 := (l, r, (am_up h (x0 + 25) k12 (q10 + (((h (x0 + 12) k11) + (2 : Int32)) / (3 : Int32)))), j)) (p2 := 118) (L2 := [some (.ref x0), some (.int y1), some (.int (q10 + (((h (x0 + 12) k11) + (2 : Int32)) / (3 : Int32)))), some (.int (Md_greater x3 q13)), some (.int x4), some (.int (h (x0 + 24) k6))]) (S2 := []) (s2 := (l, r, (am_up h (x0 + 25) k12 (q10 + (((h (x0 + 12) k11) + (2 : Int32)) / (3 : Int32)))), j)) rfl (fun _ _ => rfl) e (fun c14 e => ?_) (fun c14 e => ?_)
      · refine g_run 2 28 [some (.ref x0), some (.int y1), some (.int (q10 + (((h (x0 + 12) k11) + (2 : Int32)) / (3 : Int32)))), some (.int (Md_greater x3 q13)), some (.int (x4 + (1 : Int32))), some (.int (h (x0 + 24) k6))] [] (fun _ => rfl) ?_
        exact ih _ _ _ _ _ e
      · refine g_run 1 119 [some (.ref x0), some (.int y1), some (.int (q10 + (((h (x0 + 12) k11) + (2 : Int32)) / (3 : Int32)))), some (.int (Md_greater x3 q13)), some (.int x4), some (.int (h (x0 + 24) k6))] [.int (-1 : Int32)] (fun _ => rfl) ?_
        cases e
        exact g_ret rfl (fun _ _ => rfl)
theorem Md_finish_s {X : Nat × (Nat → Int32)} {l : List (Nat × Nat)} {r : am_R} {h : am_F} {j : am_J} {a : Nat} {x1 : Int32} (ka : Md_K l r a) {q : Int32 × am_F} (e : Md_finish a x1 h = some q) : Call X 229 [.ref a, .int x1] (l, r, h, j) (some (.int q.1), (l, r, q.2, j)) := by
  unfold Md_finish at e
  refine ⟨Nat.le_of_ble_eq_true rfl, ?_⟩
  show Ev X 229 0 [some (.ref a), some (.int x1), none, none, none, none] [] (l, r, h, j) _
  refine g_run 2 2 [some (.ref a), some (.int x1), some (.int (0 : Int32)), none, none, none] [] (fun _ => rfl) ?_
  obtain ⟨q3, eq3, e⟩ := g_bd e
  refine Md_finish_l2_s ka (fun y4 => ?_) _ _ _ eq3
  refine g_run 6 28 [some (.ref a), some (.int x1), some (.int x1), some (.int x1), some (.int (0 : Int32)), none] [] (fun _ => rfl) ?_
  exact Md_finish_l28_s ka _ _ _ _ _ _ e
def Md_layLine_l14 (x0 : Nat) : Nat → Int32 → Int32 → Int32 → am_F → Option (Int32 × am_F)
  | 0, _, _, _, _ => none
  | n + 1, x2, x3, x4, h =>
    if x4 < 0 then
      some (x3, h)
    else
      (g_ix x4 6).bind fun k2 =>
      (g_ix x4 6).bind fun k3 =>
      Md_layLine_l14 x0 n (x2 / (6 : Int32)) (x3 ||| ((1 : Int32) <<< (((am_up h (x0 + 24) k2 (x2 - x2 / (6 : Int32) * (6 : Int32))) (x0 + 24) k3) &&& 31))) (x4 + (Int32.ofInt (-1))) (am_up h (x0 + 24) k2 (x2 - x2 / (6 : Int32) * (6 : Int32)))
def Md_layLine (a : Nat) (x1 : Int32) (h : am_F) : Option (Int32 × am_F) :=
  (Md_layLine_l14 a g_fu x1 (0 : Int32) ((h (a + 12) 3) - (1 : Int32)) h).bind fun q4 =>
  if q4.1 = (((1 : Int32) <<< ((q4.2 (a + 12) 3) &&& 31)) - (1 : Int32)) then
    some ((1 : Int32), q4.2)
  else
    some ((0 : Int32), q4.2)
theorem Md_layLine_l14_s {X : Nat × (Nat → Int32)} {l : List (Nat × Nat)} {r : am_R} {x0 : Nat} {y1 : Int32} {j : am_J} {q : Int32 × am_F} {R : Option Value × am_S} (kx0 : Md_K l r x0) (hx : ∀ (y2 : Int32) (y4 : Int32) , Ev X 230 53 [some (.ref x0), some (.int y1), some (.int y2), some (.int q.1), some (.int y4)] [] (l, r, q.2, j) R) : ∀ (n : Nat) (x2 : Int32) (x3 : Int32) (x4 : Int32) (h : am_F), Md_layLine_l14 x0 n x2 x3 x4 h = some q → Ev X 230 14 [some (.ref x0), some (.int y1), some (.int x2), some (.int x3), some (.int x4)] [] (l, r, h, j) R := by
  intro n
  induction n with
  | zero => intro x2 x3 x4 h e; cases e
  | succ n ih =>
    intro x2 x3 x4 h e
    unfold Md_layLine_l14 at e
    refine g_run 1 16 [some (.ref x0), some (.int y1), some (.int x2), some (.int x3), some (.int x4)] [.int x4] (fun _ => rfl) ?_
    refine g_if (p1 := 53) (L1 := [some (.ref x0), some (.int y1), some (.int x2), some (.int x3), some (.int x4)]) (S1 := []) (s1 := (l, r, h, j)) (p2 := 19) (L2 := [some (.ref x0), some (.int y1), some (.int x2), some (.int x3), some (.int x4)]) (S2 := []) (s2 := (l, r, h, j)) rfl (fun _ _ => rfl) e (fun c1 e => ?_) (fun c1 e => ?_)
    · cases e
      exact hx _ _
    · refine g_run 1 20 [some (.ref x0), some (.int y1), some (.int x2), some (.int x3), some (.int x4)] [.ref x0] (fun _ => rfl) ?_
      refine g_getA 23 rfl rfl (Md_l kx0) (Md_r41 kx0) ?_
      refine g_run 4 29 [some (.ref x0), some (.int y1), some (.int x2), some (.int x3), some (.int x4)] [.int (x2 - x2 / (6 : Int32) * (6 : Int32)), .int x4, .ref (x0 + 24)] (fun _ => rfl) ?_
      obtain ⟨k2, ek2, e⟩ := g_bd e
      refine g_iast 30 rfl rfl (Md_k41 kx0) ek2 ?_
      refine g_run 7 38 [some (.ref x0), some (.int y1), some (.int (x2 / (6 : Int32))), some (.int x3), some (.int x4)] [.ref x0, .int (1 : Int32), .int x3] (fun _ => rfl) ?_
      refine g_getA 41 rfl rfl (Md_l kx0) (Md_r41 kx0) ?_
      refine g_run 1 43 [some (.ref x0), some (.int y1), some (.int (x2 / (6 : Int32))), some (.int x3), some (.int x4)] [.int x4, .ref (x0 + 24), .int (1 : Int32), .int x3] (fun _ => rfl) ?_
      obtain ⟨k3, ek3, e⟩ := g_bd e
      refine g_iald 44 rfl rfl (Md_k41 kx0) ek3 ?_
      refine g_run 3 47 [some (.ref x0), some (.int y1), some (.int (x2 / (6 : Int32))), some (.int (x3 ||| ((1 : Int32) <<< (((am_up h (x0 + 24) k2 (x2 - x2 / (6 : Int32) * (6 : Int32))) (x0 + 24) k3) &&& 31)))), some (.int x4)] [] (fun _ => rfl) ?_
      refine g_go 50 [some (.ref x0), some (.int y1), some (.int (x2 / (6 : Int32))), some (.int (x3 ||| ((1 : Int32) <<< (((am_up h (x0 + 24) k2 (x2 - x2 / (6 : Int32) * (6 : Int32))) (x0 + 24) k3) &&& 31)))), some (.int (x4 + (Int32.ofInt (-1))))] [] rfl (fun _ _ => rfl) ?_
      refine g_run 1 14 [some (.ref x0), some (.int y1), some (.int (x2 / (6 : Int32))), some (.int (x3 ||| ((1 : Int32) <<< (((am_up h (x0 + 24) k2 (x2 - x2 / (6 : Int32) * (6 : Int32))) (x0 + 24) k3) &&& 31)))), some (.int (x4 + (Int32.ofInt (-1))))] [] (fun _ => rfl) ?_
      exact ih _ _ _ _ e
theorem Md_layLine_s {X : Nat × (Nat → Int32)} {l : List (Nat × Nat)} {r : am_R} {h : am_F} {j : am_J} {a : Nat} {x1 : Int32} (ka : Md_K l r a) {q : Int32 × am_F} (e : Md_layLine a x1 h = some q) : Call X 230 [.ref a, .int x1] (l, r, h, j) (some (.int q.1), (l, r, q.2, j)) := by
  unfold Md_layLine at e
  refine ⟨Nat.le_of_ble_eq_true rfl, ?_⟩
  show Ev X 230 0 [some (.ref a), some (.int x1), none, none, none] [] (l, r, h, j) _
  refine g_run 5 5 [some (.ref a), some (.int x1), some (.int x1), some (.int (0 : Int32)), none] [.ref a] (fun _ => rfl) ?_
  refine g_getA 8 rfl rfl (Md_l ka) (Md_r23 ka) ?_
  refine g_run 1 9 [some (.ref a), some (.int x1), some (.int x1), some (.int (0 : Int32)), none] [.int (3 : Int32), .ref (a + 12)] (fun _ => rfl) ?_
  refine g_iald 10 rfl rfl (Md_k23 ka) (kx := 3) rfl ?_
  refine g_run 3 14 [some (.ref a), some (.int x1), some (.int x1), some (.int (0 : Int32)), some (.int ((h (a + 12) 3) - (1 : Int32)))] [] (fun _ => rfl) ?_
  obtain ⟨q4, eq4, e⟩ := g_bd e
  refine Md_layLine_l14_s ka (fun y5 y6 => ?_) _ _ _ _ _ eq4
  refine g_run 3 56 [some (.ref a), some (.int x1), some (.int y5), some (.int q4.1), some (.int y6)] [.ref a, .int (1 : Int32), .int q4.1] (fun _ => rfl) ?_
  refine g_getA 59 rfl rfl (Md_l ka) (Md_r23 ka) ?_
  refine g_run 1 60 [some (.ref a), some (.int x1), some (.int y5), some (.int q4.1), some (.int y6)] [.int (3 : Int32), .ref (a + 12), .int (1 : Int32), .int q4.1] (fun _ => rfl) ?_
  refine g_iald 61 rfl rfl (Md_k23 ka) (kx := 3) rfl ?_
  refine g_run 3 64 [some (.ref a), some (.int x1), some (.int y5), some (.int q4.1), some (.int y6)] [.int (((1 : Int32) <<< ((q4.2 (a + 12) 3) &&& 31)) - (1 : Int32)), .int q4.1] (fun _ => rfl) ?_
  refine g_if (p1 := 67) (L1 := [some (.ref a), some (.int x1), some (.int y5), some (.int q4.1), some (.int y6)]) (S1 := []) (s1 := (l, r, q4.2, j)) (p2 := 71) (L2 := [some (.ref a), some (.int x1), some (.int y5), some (.int q4.1), some (.int y6)]) (S2 := []) (s2 := (l, r, q4.2, j)) rfl (fun _ _ => rfl) e (fun c7 e => ?_) (fun c7 e => ?_)
  · refine g_run 2 72 [some (.ref a), some (.int x1), some (.int y5), some (.int q4.1), some (.int y6)] [.int (1 : Int32)] (fun _ => rfl) ?_
    cases e
    exact g_retZ rfl (y := (1 : Int32)) rfl rfl
  · refine g_run 1 72 [some (.ref a), some (.int x1), some (.int y5), some (.int q4.1), some (.int y6)] [.int (0 : Int32)] (fun _ => rfl) ?_
    cases e
    exact g_retZ rfl (y := (0 : Int32)) rfl rfl
def Md_order_l54 (x0 : Nat) (x2 : Int32) (x3 : Int32) (h : am_F) : Nat → Int32 → Int32 → Option (Int32)
  | 0, _, _ => none
  | n + 1, x4, x5 =>
    if (h (x0 + 12) 3) ≤ x5 then
      some x4
    else
      Md_order_l54 x0 x2 x3 h n (x4 * (6 : Int32)) (x5 + (1 : Int32))
def Md_order_l89 (x0 : Nat) (x2 : Int32) (x3 : Int32) (x4 : Int32) : Nat → Int32 → Int32 → Int32 → am_F → Option (Int32 × Int32 × am_F)
  | 0, _, _, _, _ => none
  | n + 1, x5, x6, x7, h =>
    if x4 ≤ x7 then
      some (x5, x6, h)
    else
      (Md_layLine x0 x7 h).bind fun q10 =>
      (if q10.1 = 0 then
          some ((-1 : Int32), q10.2)
        else
          (Md_finish x0 x2 q10.2).bind fun q13 =>
          some (q13.1, q13.2) : Option (Int32 × am_F)).bind fun q14 =>
      (if q14.1 = (-1 : Int32) then
          some (0 : Int32)
        else
          if x6 ≤ q14.1 then
            some (0 : Int32)
          else
            some (1 : Int32) : Option (Int32)).bind fun q18 =>
      (if q18 = 0 then
          some x5
        else
          some x7 : Option (Int32)).bind fun q21 =>
      (if q18 = 0 then
          some x6
        else
          some q14.1 : Option (Int32)).bind fun q24 =>
      Md_order_l89 x0 x2 x3 x4 n q21 q24 (x7 + (1 : Int32)) q14.2
def Md_order_t48 (x0 : Nat) (x2 : Int32) (x3 : Int32) (h : am_F) : Option (Int32 × am_F) :=
  (Md_order_l54 x0 x2 x3 h g_fu (1 : Int32) (0 : Int32)).bind fun q7 =>
  (Md_order_l89 x0 x2 x3 q7 g_fu (-1 : Int32) (1000000 : Int32) (0 : Int32) h).bind fun q25 =>
  if q25.1 = (-1 : Int32) then
    if q25.1 = (-1 : Int32) then
      some ((-1 : Int32), q25.2.2)
    else
      some (q25.2.1, q25.2.2)
  else
    if x3 = (-1 : Int32) then
      if q25.1 = (-1 : Int32) then
        some ((-1 : Int32), q25.2.2)
      else
        some (q25.2.1, q25.2.2)
    else
      (Md_layLine x0 q25.1 q25.2.2).bind fun q33 =>
      (g_ix x3 6).bind fun k34 =>
      some ((q33.2 (x0 + 24) k34), q33.2)
def Md_order (a : Nat) (x1 : Int32) (x2 : Int32) (x3 : Int32) (h : am_F) : Option (Int32 × am_F) :=
  if (Md_in x2 (0 : Int32) (47 : Int32)) = 0 then
    some ((-2 : Int32), (am_up h a 0 (0 : Int32)))
  else
    (Md_hand a x1 (am_up h a 0 (0 : Int32))).bind fun q2 =>
    if q2.1 = 0 then
      some ((-2 : Int32), q2.2)
    else
      if (q2.2 (a + 12) 3) = 0 then
        some ((-2 : Int32), q2.2)
      else
        if x3 = (-1 : Int32) then
          Md_order_t48 a x2 x3 q2.2
        else
          (Md_isBench a x3 q2.2).bind fun q35 =>
          if q35 = 0 then
            some ((-2 : Int32), q2.2)
          else
            Md_order_t48 a x2 x3 q2.2
theorem Md_order_l54_s {X : Nat × (Nat → Int32)} {l : List (Nat × Nat)} {r : am_R} {x0 : Nat} {x2 : Int32} {x3 : Int32} {y1 : Int32} {h : am_F} {j : am_J} {q : Int32} {R : Option Value × am_S} (kx0 : Md_K l r x0) (hx : ∀ (y5 : Int32) , Ev X 231 78 [some (.ref x0), some (.int y1), some (.int x2), some (.int x3), some (.int q), some (.int y5), none, none, none, none] [] (l, r, h, j) R) : ∀ (n : Nat) (x4 : Int32) (x5 : Int32), Md_order_l54 x0 x2 x3 h n x4 x5 = some q → Ev X 231 54 [some (.ref x0), some (.int y1), some (.int x2), some (.int x3), some (.int x4), some (.int x5), none, none, none, none] [] (l, r, h, j) R := by
  intro n
  induction n with
  | zero => intro x4 x5 e; cases e
  | succ n ih =>
    intro x4 x5 e
    unfold Md_order_l54 at e
    refine g_run 2 57 [some (.ref x0), some (.int y1), some (.int x2), some (.int x3), some (.int x4), some (.int x5), none, none, none, none] [.ref x0, .int x5] (fun _ => rfl) ?_
    refine g_getA 60 rfl rfl (Md_l kx0) (Md_r23 kx0) ?_
    refine g_run 1 61 [some (.ref x0), some (.int y1), some (.int x2), some (.int x3), some (.int x4), some (.int x5), none, none, none, none] [.int (3 : Int32), .ref (x0 + 12), .int x5] (fun _ => rfl) ?_
    refine g_iald 62 rfl rfl (Md_k23 kx0) (kx := 3) rfl ?_
    refine g_if (p1 := 78) (L1 := [some (.ref x0), some (.int y1), some (.int x2), some (.int x3), some (.int x4), some (.int x5), none, none, none, none]) (S1 := []) (s1 := (l, r, h, j)) (p2 := 65) (L2 := [some (.ref x0), some (.int y1), some (.int x2), some (.int x3), some (.int x4), some (.int x5), none, none, none, none]) (S2 := []) (s2 := (l, r, h, j)) rfl (fun _ _ => rfl) e (fun c6 e => ?_) (fun c6 e => ?_)
    · cases e
      exact hx _
    · refine g_run 6 54 [some (.ref x0), some (.int y1), some (.int x2), some (.int x3), some (.int (x4 * (6 : Int32))), some (.int (x5 + (1 : Int32))), none, none, none, none] [] (fun _ => rfl) ?_
      exact ih _ _ e
theorem Md_order_l89_s {X : Nat × (Nat → Int32)} {l : List (Nat × Nat)} {r : am_R} {x0 : Nat} {x2 : Int32} {x3 : Int32} {x4 : Int32} {y1 : Int32} {j : am_J} {q : Int32 × Int32 × am_F} {R : Option Value × am_S} (kx0 : Md_K l r x0) (hx : ∀ (d8 : Option Value) (d9 : Option Value) (y7 : Int32) , Ev X 231 170 [some (.ref x0), some (.int y1), some (.int x2), some (.int x3), some (.int x4), some (.int q.1), some (.int q.2.1), some (.int y7), d8, d9] [] (l, r, q.2.2, j) R) : ∀ (n : Nat) (x5 : Int32) (x6 : Int32) (x7 : Int32) (h : am_F) (d8 : Option Value) (d9 : Option Value), Md_order_l89 x0 x2 x3 x4 n x5 x6 x7 h = some q → Ev X 231 89 [some (.ref x0), some (.int y1), some (.int x2), some (.int x3), some (.int x4), some (.int x5), some (.int x6), some (.int x7), d8, d9] [] (l, r, h, j) R := by
  intro n
  induction n with
  | zero => intro x5 x6 x7 h d8 d9 e; cases e
  | succ n ih =>
    intro x5 x6 x7 h d8 d9 e
    unfold Md_order_l89 at e
    refine g_run 2 93 [some (.ref x0), some (.int y1), some (.int x2), some (.int x3), some (.int x4), some (.int x5), some (.int x6), some (.int x7), d8, d9] [.int x4, .int x7] (fun _ => rfl) ?_
    refine g_if (p1 := 170) (L1 := [some (.ref x0), some (.int y1), some (.int x2), some (.int x3), some (.int x4), some (.int x5), some (.int x6), some (.int x7), d8, d9]) (S1 := []) (s1 := (l, r, h, j)) (p2 := 96) (L2 := [some (.ref x0), some (.int y1), some (.int x2), some (.int x3), some (.int x4), some (.int x5), some (.int x6), some (.int x7), d8, d9]) (S2 := []) (s2 := (l, r, h, j)) rfl (fun _ _ => rfl) e (fun c9 e => ?_) (fun c9 e => ?_)
    · cases e
      exact hx _ _ _
    · refine g_run 2 99 [some (.ref x0), some (.int y1), some (.int x2), some (.int x3), some (.int x4), some (.int x5), some (.int x6), some (.int x7), d8, d9] [.int x7, .ref x0] (fun _ => rfl) ?_
      obtain ⟨q10, eq10, e⟩ := g_bd e
      refine g_cV 102 rfl rfl rfl rfl rfl (Md_l kx0) (Md_layLine_s kx0 eq10) ?_
      obtain ⟨q14, eq14, e⟩ := g_bd e
      have hjq14 : ∀ (_ : True), Ev X 231 114 [some (.ref x0), some (.int y1), some (.int x2), some (.int x3), some (.int x4), some (.int x5), some (.int x6), some (.int x7), d8, d9] [.int q14.1] (l, r, q14.2, j) R := by
        intro _
        refine g_run 3 119 [some (.ref x0), some (.int y1), some (.int x2), some (.int x3), some (.int x4), some (.int x5), some (.int x6), some (.int x7), some (.int q14.1), d9] [.int (-1 : Int32), .int q14.1] (fun _ => rfl) ?_
        obtain ⟨q18, eq18, e⟩ := g_bd e
        have hjq18 : ∀ (_ : True), Ev X 231 134 [some (.ref x0), some (.int y1), some (.int x2), some (.int x3), some (.int x4), some (.int x5), some (.int x6), some (.int x7), some (.int q14.1), d9] [.int q18] (l, r, q14.2, j) R := by
          intro _
          refine g_run 2 138 [some (.ref x0), some (.int y1), some (.int x2), some (.int x3), some (.int x4), some (.int x5), some (.int x6), some (.int x7), some (.int q14.1), some (.int q18)] [.int q18] (fun _ => rfl) ?_
          obtain ⟨q21, eq21, e⟩ := g_bd e
          have hjq21 : ∀ (_ : True), Ev X 231 148 [some (.ref x0), some (.int y1), some (.int x2), some (.int x3), some (.int x4), some (.int x5), some (.int x6), some (.int x7), some (.int q14.1), some (.int q18)] [.int q21] (l, r, q14.2, j) R := by
            intro _
            refine g_run 2 152 [some (.ref x0), some (.int y1), some (.int x2), some (.int x3), some (.int x4), some (.int q21), some (.int x6), some (.int x7), some (.int q14.1), some (.int q18)] [.int q18] (fun _ => rfl) ?_
            obtain ⟨q24, eq24, e⟩ := g_bd e
            have hjq24 : ∀ (_ : True), Ev X 231 162 [some (.ref x0), some (.int y1), some (.int x2), some (.int x3), some (.int x4), some (.int q21), some (.int x6), some (.int x7), some (.int q14.1), some (.int q18)] [.int q24] (l, r, q14.2, j) R := by
              intro _
              refine g_run 3 89 [some (.ref x0), some (.int y1), some (.int x2), some (.int x3), some (.int x4), some (.int q21), some (.int q24), some (.int (x7 + (1 : Int32))), some (.int q14.1), some (.int q18)] [] (fun _ => rfl) ?_
              exact ih _ _ _ _ _ _ e
            replace e := eq24
            refine g_if (p1 := 160) (L1 := [some (.ref x0), some (.int y1), some (.int x2), some (.int x3), some (.int x4), some (.int q21), some (.int x6), some (.int x7), some (.int q14.1), some (.int q18)]) (S1 := []) (s1 := (l, r, q14.2, j)) (p2 := 155) (L2 := [some (.ref x0), some (.int y1), some (.int x2), some (.int x3), some (.int x4), some (.int q21), some (.int x6), some (.int x7), some (.int q14.1), some (.int q18)]) (S2 := []) (s2 := (l, r, q14.2, j)) rfl (fun _ _ => rfl) e (fun c22 e => ?_) (fun c22 e => ?_)
            · refine g_run 1 162 [some (.ref x0), some (.int y1), some (.int x2), some (.int x3), some (.int x4), some (.int q21), some (.int x6), some (.int x7), some (.int q14.1), some (.int q18)] [.int x6] (fun _ => rfl) ?_
              cases e
              exact hjq24 trivial
            · refine g_run 2 162 [some (.ref x0), some (.int y1), some (.int x2), some (.int x3), some (.int x4), some (.int q21), some (.int x6), some (.int x7), some (.int q14.1), some (.int q18)] [.int q14.1] (fun _ => rfl) ?_
              cases e
              exact hjq24 trivial
          replace e := eq21
          refine g_if (p1 := 146) (L1 := [some (.ref x0), some (.int y1), some (.int x2), some (.int x3), some (.int x4), some (.int x5), some (.int x6), some (.int x7), some (.int q14.1), some (.int q18)]) (S1 := []) (s1 := (l, r, q14.2, j)) (p2 := 141) (L2 := [some (.ref x0), some (.int y1), some (.int x2), some (.int x3), some (.int x4), some (.int x5), some (.int x6), some (.int x7), some (.int q14.1), some (.int q18)]) (S2 := []) (s2 := (l, r, q14.2, j)) rfl (fun _ _ => rfl) e (fun c19 e => ?_) (fun c19 e => ?_)
          · refine g_run 1 148 [some (.ref x0), some (.int y1), some (.int x2), some (.int x3), some (.int x4), some (.int x5), some (.int x6), some (.int x7), some (.int q14.1), some (.int q18)] [.int x5] (fun _ => rfl) ?_
            cases e
            exact hjq21 trivial
          · refine g_run 2 148 [some (.ref x0), some (.int y1), some (.int x2), some (.int x3), some (.int x4), some (.int x5), some (.int x6), some (.int x7), some (.int q14.1), some (.int q18)] [.int x7] (fun _ => rfl) ?_
            cases e
            exact hjq21 trivial
        replace e := eq18
        refine g_if (p1 := 133) (L1 := [some (.ref x0), some (.int y1), some (.int x2), some (.int x3), some (.int x4), some (.int x5), some (.int x6), some (.int x7), some (.int q14.1), d9]) (S1 := []) (s1 := (l, r, q14.2, j)) (p2 := 122) (L2 := [some (.ref x0), some (.int y1), some (.int x2), some (.int x3), some (.int x4), some (.int x5), some (.int x6), some (.int x7), some (.int q14.1), d9]) (S2 := []) (s2 := (l, r, q14.2, j)) rfl (fun _ _ => rfl) e (fun c15 e => ?_) (fun c15 e => ?_)
        · refine g_run 1 134 [some (.ref x0), some (.int y1), some (.int x2), some (.int x3), some (.int x4), some (.int x5), some (.int x6), some (.int x7), some (.int q14.1), d9] [.int (0 : Int32)] (fun _ => rfl) ?_
          cases e
          exact hjq18 trivial
        · refine g_run 2 126 [some (.ref x0), some (.int y1), some (.int x2), some (.int x3), some (.int x4), some (.int x5), some (.int x6), some (.int x7), some (.int q14.1), d9] [.int x6, .int q14.1] (fun _ => rfl) ?_
          refine g_if (p1 := 133) (L1 := [some (.ref x0), some (.int y1), some (.int x2), some (.int x3), some (.int x4), some (.int x5), some (.int x6), some (.int x7), some (.int q14.1), d9]) (S1 := []) (s1 := (l, r, q14.2, j)) (p2 := 129) (L2 := [some (.ref x0), some (.int y1), some (.int x2), some (.int x3), some (.int x4), some (.int x5), some (.int x6), some (.int x7), some (.int q14.1), d9]) (S2 := []) (s2 := (l, r, q14.2, j)) rfl (fun _ _ => rfl) e (fun c17 e => ?_) (fun c17 e => ?_)
          · refine g_run 1 134 [some (.ref x0), some (.int y1), some (.int x2), some (.int x3), some (.int x4), some (.int x5), some (.int x6), some (.int x7), some (.int q14.1), d9] [.int (0 : Int32)] (fun _ => rfl) ?_
            cases e
            exact hjq18 trivial
          · refine g_run 2 134 [some (.ref x0), some (.int y1), some (.int x2), some (.int x3), some (.int x4), some (.int x5), some (.int x6), some (.int x7), some (.int q14.1), d9] [.int (1 : Int32)] (fun _ => rfl) ?_
            cases e
            exact hjq18 trivial
      replace e := eq14
      refine g_if (p1 := 113) (L1 := [some (.ref x0), some (.int y1), some (.int x2), some (.int x3), some (.int x4), some (.int x5), some (.int x6), some (.int x7), d8, d9]) (S1 := []) (s1 := (l, r, q10.2, j)) (p2 := 105) (L2 := [some (.ref x0), some (.int y1), some (.int x2), some (.int x3), some (.int x4), some (.int x5), some (.int x6), some (.int x7), d8, d9]) (S2 := []) (s2 := (l, r, q10.2, j)) rfl (fun _ _ => rfl) e (fun c11 e => ?_) (fun c11 e => ?_)
      · refine g_run 1 114 [some (.ref x0), some (.int y1), some (.int x2), some (.int x3), some (.int x4), some (.int x5), some (.int x6), some (.int x7), d8, d9] [.int (-1 : Int32)] (fun _ => rfl) ?_
        cases e
        exact hjq14 trivial
      · refine g_run 2 107 [some (.ref x0), some (.int y1), some (.int x2), some (.int x3), some (.int x4), some (.int x5), some (.int x6), some (.int x7), d8, d9] [.int x2, .ref x0] (fun _ => rfl) ?_
        obtain ⟨q13, eq13, e⟩ := g_bd e
        refine g_cV 110 rfl rfl rfl rfl rfl (Md_l kx0) (Md_finish_s kx0 eq13) ?_
        refine g_run 1 114 [some (.ref x0), some (.int y1), some (.int x2), some (.int x3), some (.int x4), some (.int x5), some (.int x6), some (.int x7), d8, d9] [.int q13.1] (fun _ => rfl) ?_
        cases e
        exact hjq14 trivial
theorem Md_order_t48_s {X : Nat × (Nat → Int32)} {l : List (Nat × Nat)} {r : am_R} {h : am_F} {j : am_J} {x0 : Nat} {x2 : Int32} {x3 : Int32} {y1 : Int32} (kx0 : Md_K l r x0) {q : Int32 × am_F} (e : Md_order_t48 x0 x2 x3 h = some q) : Ev X 231 48 [some (.ref x0), some (.int y1), some (.int x2), some (.int x3), none, none, none, none, none, none] [] (l, r, h, j) (some (.int q.1), (l, r, q.2, j)) := by
  unfold Md_order_t48 at e
  refine g_run 4 54 [some (.ref x0), some (.int y1), some (.int x2), some (.int x3), some (.int (1 : Int32)), some (.int (0 : Int32)), none, none, none, none] [] (fun _ => rfl) ?_
  obtain ⟨q7, eq7, e⟩ := g_bd e
  refine Md_order_l54_s kx0 (fun y8 => ?_) _ _ _ eq7
  refine g_run 6 89 [some (.ref x0), some (.int y1), some (.int x2), some (.int x3), some (.int q7), some (.int (-1 : Int32)), some (.int (1000000 : Int32)), some (.int (0 : Int32)), none, none] [] (fun _ => rfl) ?_
  obtain ⟨q25, eq25, e⟩ := g_bd e
  refine Md_order_l89_s kx0 (fun d26 d27 y28 => ?_) _ _ _ _ _ _ _ eq25
  refine g_run 2 173 [some (.ref x0), some (.int y1), some (.int x2), some (.int x3), some (.int q7), some (.int q25.1), some (.int q25.2.1), some (.int y28), d26, d27] [.int (-1 : Int32), .int q25.1] (fun _ => rfl) ?_
  refine g_if (p1 := 181) (L1 := [some (.ref x0), some (.int y1), some (.int x2), some (.int x3), some (.int q7), some (.int q25.1), some (.int q25.2.1), some (.int y28), d26, d27]) (S1 := []) (s1 := (l, r, q25.2.2, j)) (p2 := 176) (L2 := [some (.ref x0), some (.int y1), some (.int x2), some (.int x3), some (.int q7), some (.int q25.1), some (.int q25.2.1), some (.int y28), d26, d27]) (S2 := []) (s2 := (l, r, q25.2.2, j)) rfl (fun _ _ => rfl) e (fun c29 e => ?_) (fun c29 e => ?_)
  · refine g_run 2 184 [some (.ref x0), some (.int y1), some (.int x2), some (.int x3), some (.int q7), some (.int q25.1), some (.int q25.2.1), some (.int y28), d26, d27] [.int (-1 : Int32), .int q25.1] (fun _ => rfl) ?_
    refine g_if (p1 := 187) (L1 := [some (.ref x0), some (.int y1), some (.int x2), some (.int x3), some (.int q7), some (.int q25.1), some (.int q25.2.1), some (.int y28), d26, d27]) (S1 := []) (s1 := (l, r, q25.2.2, j)) (p2 := 191) (L2 := [some (.ref x0), some (.int y1), some (.int x2), some (.int x3), some (.int q7), some (.int q25.1), some (.int q25.2.1), some (.int y28), d26, d27]) (S2 := []) (s2 := (l, r, q25.2.2, j)) rfl (fun _ _ => rfl) e (fun c30 e => ?_) (fun c30 e => ?_)
    · refine g_run 2 193 [some (.ref x0), some (.int y1), some (.int x2), some (.int x3), some (.int q7), some (.int q25.1), some (.int q25.2.1), some (.int y28), d26, d27] [.int (-1 : Int32)] (fun _ => rfl) ?_
      cases e
      exact g_ret rfl (fun _ _ => rfl)
    · refine g_run 1 193 [some (.ref x0), some (.int y1), some (.int x2), some (.int x3), some (.int q7), some (.int q25.1), some (.int q25.2.1), some (.int y28), d26, d27] [.int q25.2.1] (fun _ => rfl) ?_
      cases e
      exact g_ret rfl (fun _ _ => rfl)
  · refine g_run 2 178 [some (.ref x0), some (.int y1), some (.int x2), some (.int x3), some (.int q7), some (.int q25.1), some (.int q25.2.1), some (.int y28), d26, d27] [.int (-1 : Int32), .int x3] (fun _ => rfl) ?_
    refine g_if (p1 := 181) (L1 := [some (.ref x0), some (.int y1), some (.int x2), some (.int x3), some (.int q7), some (.int q25.1), some (.int q25.2.1), some (.int y28), d26, d27]) (S1 := []) (s1 := (l, r, q25.2.2, j)) (p2 := 194) (L2 := [some (.ref x0), some (.int y1), some (.int x2), some (.int x3), some (.int q7), some (.int q25.1), some (.int q25.2.1), some (.int y28), d26, d27]) (S2 := []) (s2 := (l, r, q25.2.2, j)) rfl (fun _ _ => rfl) e (fun c31 e => ?_) (fun c31 e => ?_)
    · refine g_run 2 184 [some (.ref x0), some (.int y1), some (.int x2), some (.int x3), some (.int q7), some (.int q25.1), some (.int q25.2.1), some (.int y28), d26, d27] [.int (-1 : Int32), .int q25.1] (fun _ => rfl) ?_
      refine g_if (p1 := 187) (L1 := [some (.ref x0), some (.int y1), some (.int x2), some (.int x3), some (.int q7), some (.int q25.1), some (.int q25.2.1), some (.int y28), d26, d27]) (S1 := []) (s1 := (l, r, q25.2.2, j)) (p2 := 191) (L2 := [some (.ref x0), some (.int y1), some (.int x2), some (.int x3), some (.int q7), some (.int q25.1), some (.int q25.2.1), some (.int y28), d26, d27]) (S2 := []) (s2 := (l, r, q25.2.2, j)) rfl (fun _ _ => rfl) e (fun c32 e => ?_) (fun c32 e => ?_)
      · refine g_run 2 193 [some (.ref x0), some (.int y1), some (.int x2), some (.int x3), some (.int q7), some (.int q25.1), some (.int q25.2.1), some (.int y28), d26, d27] [.int (-1 : Int32)] (fun _ => rfl) ?_
        cases e
        exact g_ret rfl (fun _ _ => rfl)
      · refine g_run 1 193 [some (.ref x0), some (.int y1), some (.int x2), some (.int x3), some (.int q7), some (.int q25.1), some (.int q25.2.1), some (.int y28), d26, d27] [.int q25.2.1] (fun _ => rfl) ?_
        cases e
        exact g_ret rfl (fun _ _ => rfl)
    · refine g_run 2 197 [some (.ref x0), some (.int y1), some (.int x2), some (.int x3), some (.int q7), some (.int q25.1), some (.int q25.2.1), some (.int y28), d26, d27] [.int q25.1, .ref x0] (fun _ => rfl) ?_
      obtain ⟨q33, eq33, e⟩ := g_bd e
      refine g_cV 200 rfl rfl rfl rfl rfl (Md_l kx0) (Md_layLine_s kx0 eq33) ?_
      refine g_run 2 202 [some (.ref x0), some (.int y1), some (.int x2), some (.int x3), some (.int q7), some (.int q25.1), some (.int q25.2.1), some (.int y28), d26, d27] [.ref x0] (fun _ => rfl) ?_
      refine g_getA 205 rfl rfl (Md_l kx0) (Md_r41 kx0) ?_
      refine g_run 1 206 [some (.ref x0), some (.int y1), some (.int x2), some (.int x3), some (.int q7), some (.int q25.1), some (.int q25.2.1), some (.int y28), d26, d27] [.int x3, .ref (x0 + 24)] (fun _ => rfl) ?_
      obtain ⟨k34, ek34, e⟩ := g_bd e
      refine g_iald 207 rfl rfl (Md_k41 kx0) ek34 ?_
      cases e
      exact g_ret rfl (fun _ _ => rfl)
theorem Md_order_s {X : Nat × (Nat → Int32)} {l : List (Nat × Nat)} {r : am_R} {h : am_F} {j : am_J} {a : Nat} {x1 : Int32} {x2 : Int32} {x3 : Int32} (ka : Md_K l r a) {q : Int32 × am_F} (e : Md_order a x1 x2 x3 h = some q) : Call X 231 [.ref a, .int x1, .int x2, .int x3] (l, r, h, j) (some (.int q.1), (l, r, q.2, j)) := by
  unfold Md_order at e
  refine ⟨Nat.le_of_ble_eq_true rfl, ?_⟩
  show Ev X 231 0 [some (.ref a), some (.int x1), some (.int x2), some (.int x3), none, none, none, none, none, none] [] (l, r, h, j) _
  refine g_run 2 2 [some (.ref a), some (.int x1), some (.int x2), some (.int x3), none, none, none, none, none, none] [.int (0 : Int32), .ref a] (fun _ => rfl) ?_
  refine g_putI 5 rfl rfl (Md_l ka) ?_
  refine g_run 3 9 [some (.ref a), some (.int x1), some (.int x2), some (.int x3), none, none, none, none, none, none] [.int (47 : Int32), .int (0 : Int32), .int x2] (fun _ => rfl) ?_
  refine g_cS 12 rfl rfl (by decide) rfl rfl rfl Md_in_s ?_
  refine g_if (p1 := 45) (L1 := [some (.ref a), some (.int x1), some (.int x2), some (.int x3), none, none, none, none, none, none]) (S1 := []) (s1 := (l, r, (am_up h a 0 (0 : Int32)), j)) (p2 := 15) (L2 := [some (.ref a), some (.int x1), some (.int x2), some (.int x3), none, none, none, none, none, none]) (S2 := []) (s2 := (l, r, (am_up h a 0 (0 : Int32)), j)) rfl (fun _ _ => rfl) e (fun c1 e => ?_) (fun c1 e => ?_)
  · refine g_run 1 47 [some (.ref a), some (.int x1), some (.int x2), some (.int x3), none, none, none, none, none, none] [.int (-2 : Int32)] (fun _ => rfl) ?_
    cases e
    exact g_ret rfl (fun _ _ => rfl)
  · refine g_run 2 17 [some (.ref a), some (.int x1), some (.int x2), some (.int x3), none, none, none, none, none, none] [.int x1, .ref a] (fun _ => rfl) ?_
    obtain ⟨q2, eq2, e⟩ := g_bd e
    refine g_cV 20 rfl rfl rfl rfl rfl (Md_l ka) (Md_hand_s ka eq2) ?_
    refine g_if (p1 := 45) (L1 := [some (.ref a), some (.int x1), some (.int x2), some (.int x3), none, none, none, none, none, none]) (S1 := []) (s1 := (l, r, q2.2, j)) (p2 := 23) (L2 := [some (.ref a), some (.int x1), some (.int x2), some (.int x3), none, none, none, none, none, none]) (S2 := []) (s2 := (l, r, q2.2, j)) rfl (fun _ _ => rfl) e (fun c3 e => ?_) (fun c3 e => ?_)
    · refine g_run 1 47 [some (.ref a), some (.int x1), some (.int x2), some (.int x3), none, none, none, none, none, none] [.int (-2 : Int32)] (fun _ => rfl) ?_
      cases e
      exact g_ret rfl (fun _ _ => rfl)
    · refine g_run 1 24 [some (.ref a), some (.int x1), some (.int x2), some (.int x3), none, none, none, none, none, none] [.ref a] (fun _ => rfl) ?_
      refine g_getA 27 rfl rfl (Md_l ka) (Md_r23 ka) ?_
      refine g_run 1 28 [some (.ref a), some (.int x1), some (.int x2), some (.int x3), none, none, none, none, none, none] [.int (3 : Int32), .ref (a + 12)] (fun _ => rfl) ?_
      refine g_iald 29 rfl rfl (Md_k23 ka) (kx := 3) rfl ?_
      refine g_if (p1 := 45) (L1 := [some (.ref a), some (.int x1), some (.int x2), some (.int x3), none, none, none, none, none, none]) (S1 := []) (s1 := (l, r, q2.2, j)) (p2 := 32) (L2 := [some (.ref a), some (.int x1), some (.int x2), some (.int x3), none, none, none, none, none, none]) (S2 := []) (s2 := (l, r, q2.2, j)) rfl (fun _ _ => rfl) e (fun c4 e => ?_) (fun c4 e => ?_)
      · refine g_run 1 47 [some (.ref a), some (.int x1), some (.int x2), some (.int x3), none, none, none, none, none, none] [.int (-2 : Int32)] (fun _ => rfl) ?_
        cases e
        exact g_ret rfl (fun _ _ => rfl)
      · refine g_run 2 34 [some (.ref a), some (.int x1), some (.int x2), some (.int x3), none, none, none, none, none, none] [.int (-1 : Int32), .int x3] (fun _ => rfl) ?_
        refine g_if (p1 := 48) (L1 := [some (.ref a), some (.int x1), some (.int x2), some (.int x3), none, none, none, none, none, none]) (S1 := []) (s1 := (l, r, q2.2, j)) (p2 := 37) (L2 := [some (.ref a), some (.int x1), some (.int x2), some (.int x3), none, none, none, none, none, none]) (S2 := []) (s2 := (l, r, q2.2, j)) rfl (fun _ _ => rfl) e (fun c5 e => ?_) (fun c5 e => ?_)
        · exact Md_order_t48_s ka e
        · refine g_run 2 39 [some (.ref a), some (.int x1), some (.int x2), some (.int x3), none, none, none, none, none, none] [.int x3, .ref a] (fun _ => rfl) ?_
          obtain ⟨q35, eq35, e⟩ := g_bd e
          refine g_cV 42 rfl rfl rfl rfl rfl (Md_l ka) (Md_isBench_s ka eq35) ?_
          refine g_if (p1 := 45) (L1 := [some (.ref a), some (.int x1), some (.int x2), some (.int x3), none, none, none, none, none, none]) (S1 := []) (s1 := (l, r, q2.2, j)) (p2 := 48) (L2 := [some (.ref a), some (.int x1), some (.int x2), some (.int x3), none, none, none, none, none, none]) (S2 := []) (s2 := (l, r, q2.2, j)) rfl (fun _ _ => rfl) e (fun c36 e => ?_) (fun c36 e => ?_)
          · refine g_run 1 47 [some (.ref a), some (.int x1), some (.int x2), some (.int x3), none, none, none, none, none, none] [.int (-2 : Int32)] (fun _ => rfl) ?_
            cases e
            exact g_ret rfl (fun _ _ => rfl)
          · exact Md_order_t48_s ka e
def Md_prints (a : Nat) (h : am_F) : Option (Int32) :=
  (g_ix ((31 : Int32) * (h a 43)) 248).bind fun k1 =>
  some (h (a + 7) k1)
theorem Md_prints_s {X : Nat × (Nat → Int32)} {l : List (Nat × Nat)} {r : am_R} {h : am_F} {j : am_J} {a : Nat} (ka : Md_K l r a) {q : Int32} (e : Md_prints a h = some q) : Call X 232 [.ref a] (l, r, h, j) (some (.int q), (l, r, h, j)) := by
  unfold Md_prints at e
  refine ⟨Nat.le_of_ble_eq_true rfl, ?_⟩
  show Ev X 232 0 [some (.ref a)] [] (l, r, h, j) _
  refine g_run 1 1 [some (.ref a)] [.ref a] (fun _ => rfl) ?_
  refine g_getA 4 rfl rfl (Md_l ka) (Md_r7 ka) ?_
  refine g_run 2 7 [some (.ref a)] [.ref a, .int (31 : Int32), .ref (a + 7)] (fun _ => rfl) ?_
  refine g_getI 10 rfl rfl (Md_l ka) ?_
  refine g_run 1 11 [some (.ref a)] [.int ((31 : Int32) * (h a 43)), .ref (a + 7)] (fun _ => rfl) ?_
  obtain ⟨k1, ek1, e⟩ := g_bd e
  refine g_iald 12 rfl rfl (Md_k7 ka) ek1 ?_
  cases e
  exact g_ret rfl (fun _ _ => rfl)
def Md_printOf (a : Nat) (x1 : Int32) (x2 : Int32) (h : am_F) : Option (Int32) :=
  (g_ix (((((31 : Int32) * (h a 43)) + (1 : Int32)) + ((3 : Int32) * x1)) + x2) 248).bind fun k1 =>
  some (h (a + 7) k1)
theorem Md_printOf_s {X : Nat × (Nat → Int32)} {l : List (Nat × Nat)} {r : am_R} {h : am_F} {j : am_J} {a : Nat} {x1 : Int32} {x2 : Int32} (ka : Md_K l r a) {q : Int32} (e : Md_printOf a x1 x2 h = some q) : Call X 233 [.ref a, .int x1, .int x2] (l, r, h, j) (some (.int q), (l, r, h, j)) := by
  unfold Md_printOf at e
  refine ⟨Nat.le_of_ble_eq_true rfl, ?_⟩
  show Ev X 233 0 [some (.ref a), some (.int x1), some (.int x2)] [] (l, r, h, j) _
  refine g_run 1 1 [some (.ref a), some (.int x1), some (.int x2)] [.ref a] (fun _ => rfl) ?_
  refine g_getA 4 rfl rfl (Md_l ka) (Md_r7 ka) ?_
  refine g_run 2 7 [some (.ref a), some (.int x1), some (.int x2)] [.ref a, .int (31 : Int32), .ref (a + 7)] (fun _ => rfl) ?_
  refine g_getI 10 rfl rfl (Md_l ka) ?_
  refine g_run 9 19 [some (.ref a), some (.int x1), some (.int x2)] [.int (((((31 : Int32) * (h a 43)) + (1 : Int32)) + ((3 : Int32) * x1)) + x2), .ref (a + 7)] (fun _ => rfl) ?_
  obtain ⟨k1, ek1, e⟩ := g_bd e
  refine g_iald 20 rfl rfl (Md_k7 ka) ek1 ?_
  cases e
  exact g_ret rfl (fun _ _ => rfl)
def Md_hasSight (a : Nat) (x1 : Int32) (h : am_F) : Option (Int32 × am_F) :=
  (Md_is a (1 : Int32) x1 (am_up h a 43 x1)).bind fun q1 =>
  (g_bz q1).bind fun z9 =>
  some (z9, (am_up h a 43 x1))
theorem Md_hasSight_s {X : Nat × (Nat → Int32)} {l : List (Nat × Nat)} {r : am_R} {h : am_F} {j : am_J} {a : Nat} {x1 : Int32} (ka : Md_K l r a) {q : Int32 × am_F} (e : Md_hasSight a x1 h = some q) : Call X 234 [.ref a, .int x1] (l, r, h, j) (some (.int q.1), (l, r, q.2, j)) := by
  unfold Md_hasSight at e
  refine ⟨Nat.le_of_ble_eq_true rfl, ?_⟩
  show Ev X 234 0 [some (.ref a), some (.int x1)] [] (l, r, h, j) _
  refine g_run 2 2 [some (.ref a), some (.int x1)] [.int x1, .ref a] (fun _ => rfl) ?_
  refine g_putI 5 rfl rfl (Md_l ka) ?_
  refine g_run 3 8 [some (.ref a), some (.int x1)] [.int x1, .int (1 : Int32), .ref a] (fun _ => rfl) ?_
  obtain ⟨q1, eq1, e⟩ := g_bd e
  refine g_cV 11 rfl rfl rfl rfl rfl (Md_l ka) (Md_is_s ka eq1) ?_
  obtain ⟨z9, ez9, e⟩ := g_bd e
  cases e
  exact g_retZ rfl ez9 rfl
def Md_sight (a : Nat) (x1 : Int32) (x2 : Int32) (x3 : Int32) (h : am_F) : Option (Int32 × am_F) :=
  (Md_hasSight a x1 (am_up h a 0 (0 : Int32))).bind fun q1 =>
  if q1.1 = 0 then
    some ((-2 : Int32), q1.2)
  else
    if x2 = (-1 : Int32) then
      if x3 = 0 then
        (Md_prints a q1.2).bind fun q5 =>
        some (q5, q1.2)
      else
        some ((-2 : Int32), q1.2)
    else
      (Md_prints a q1.2).bind fun q6 =>
      if (Md_in x2 (0 : Int32) (q6 - (1 : Int32))) = 0 then
        some ((-2 : Int32), q1.2)
      else
        if (Md_in x3 (0 : Int32) (2 : Int32)) = 0 then
          some ((-2 : Int32), q1.2)
        else
          (Md_printOf a x2 x3 q1.2).bind fun q9 =>
          some (q9, q1.2)
theorem Md_sight_s {X : Nat × (Nat → Int32)} {l : List (Nat × Nat)} {r : am_R} {h : am_F} {j : am_J} {a : Nat} {x1 : Int32} {x2 : Int32} {x3 : Int32} (ka : Md_K l r a) {q : Int32 × am_F} (e : Md_sight a x1 x2 x3 h = some q) : Call X 235 [.ref a, .int x1, .int x2, .int x3] (l, r, h, j) (some (.int q.1), (l, r, q.2, j)) := by
  unfold Md_sight at e
  refine ⟨Nat.le_of_ble_eq_true rfl, ?_⟩
  show Ev X 235 0 [some (.ref a), some (.int x1), some (.int x2), some (.int x3)] [] (l, r, h, j) _
  refine g_run 2 2 [some (.ref a), some (.int x1), some (.int x2), some (.int x3)] [.int (0 : Int32), .ref a] (fun _ => rfl) ?_
  refine g_putI 5 rfl rfl (Md_l ka) ?_
  refine g_run 2 7 [some (.ref a), some (.int x1), some (.int x2), some (.int x3)] [.int x1, .ref a] (fun _ => rfl) ?_
  obtain ⟨q1, eq1, e⟩ := g_bd e
  refine g_cV 10 rfl rfl rfl rfl rfl (Md_l ka) (Md_hasSight_s ka eq1) ?_
  refine g_if (p1 := 13) (L1 := [some (.ref a), some (.int x1), some (.int x2), some (.int x3)]) (S1 := []) (s1 := (l, r, q1.2, j)) (p2 := 16) (L2 := [some (.ref a), some (.int x1), some (.int x2), some (.int x3)]) (S2 := []) (s2 := (l, r, q1.2, j)) rfl (fun _ _ => rfl) e (fun c2 e => ?_) (fun c2 e => ?_)
  · refine g_run 1 15 [some (.ref a), some (.int x1), some (.int x2), some (.int x3)] [.int (-2 : Int32)] (fun _ => rfl) ?_
    cases e
    exact g_ret rfl (fun _ _ => rfl)
  · refine g_run 2 18 [some (.ref a), some (.int x1), some (.int x2), some (.int x3)] [.int (-1 : Int32), .int x2] (fun _ => rfl) ?_
    refine g_if (p1 := 21) (L1 := [some (.ref a), some (.int x1), some (.int x2), some (.int x3)]) (S1 := []) (s1 := (l, r, q1.2, j)) (p2 := 35) (L2 := [some (.ref a), some (.int x1), some (.int x2), some (.int x3)]) (S2 := []) (s2 := (l, r, q1.2, j)) rfl (fun _ _ => rfl) e (fun c3 e => ?_) (fun c3 e => ?_)
    · refine g_run 1 22 [some (.ref a), some (.int x1), some (.int x2), some (.int x3)] [.int x3] (fun _ => rfl) ?_
      refine g_if (p1 := 25) (L1 := [some (.ref a), some (.int x1), some (.int x2), some (.int x3)]) (S1 := []) (s1 := (l, r, q1.2, j)) (p2 := 32) (L2 := [some (.ref a), some (.int x1), some (.int x2), some (.int x3)]) (S2 := []) (s2 := (l, r, q1.2, j)) rfl (fun _ _ => rfl) e (fun c4 e => ?_) (fun c4 e => ?_)
      · refine g_run 1 26 [some (.ref a), some (.int x1), some (.int x2), some (.int x3)] [.ref a] (fun _ => rfl) ?_
        obtain ⟨q5, eq5, e⟩ := g_bd e
        refine g_cV 29 rfl rfl rfl rfl rfl (Md_l ka) (Md_prints_s ka eq5) ?_
        refine g_run 1 34 [some (.ref a), some (.int x1), some (.int x2), some (.int x3)] [.int q5] (fun _ => rfl) ?_
        cases e
        exact g_ret rfl (fun _ _ => rfl)
      · refine g_run 1 34 [some (.ref a), some (.int x1), some (.int x2), some (.int x3)] [.int (-2 : Int32)] (fun _ => rfl) ?_
        cases e
        exact g_ret rfl (fun _ _ => rfl)
    · refine g_run 3 38 [some (.ref a), some (.int x1), some (.int x2), some (.int x3)] [.ref a, .int (0 : Int32), .int x2] (fun _ => rfl) ?_
      obtain ⟨q6, eq6, e⟩ := g_bd e
      refine g_cV 41 rfl rfl rfl rfl rfl (Md_l ka) (Md_prints_s ka eq6) ?_
      refine g_run 2 43 [some (.ref a), some (.int x1), some (.int x2), some (.int x3)] [.int (q6 - (1 : Int32)), .int (0 : Int32), .int x2] (fun _ => rfl) ?_
      refine g_cS 46 rfl rfl (by decide) rfl rfl rfl Md_in_s ?_
      refine g_if (p1 := 67) (L1 := [some (.ref a), some (.int x1), some (.int x2), some (.int x3)]) (S1 := []) (s1 := (l, r, q1.2, j)) (p2 := 49) (L2 := [some (.ref a), some (.int x1), some (.int x2), some (.int x3)]) (S2 := []) (s2 := (l, r, q1.2, j)) rfl (fun _ _ => rfl) e (fun c7 e => ?_) (fun c7 e => ?_)
      · refine g_run 1 69 [some (.ref a), some (.int x1), some (.int x2), some (.int x3)] [.int (-2 : Int32)] (fun _ => rfl) ?_
        cases e
        exact g_ret rfl (fun _ _ => rfl)
      · refine g_run 3 52 [some (.ref a), some (.int x1), some (.int x2), some (.int x3)] [.int (2 : Int32), .int (0 : Int32), .int x3] (fun _ => rfl) ?_
        refine g_cS 55 rfl rfl (by decide) rfl rfl rfl Md_in_s ?_
        refine g_if (p1 := 67) (L1 := [some (.ref a), some (.int x1), some (.int x2), some (.int x3)]) (S1 := []) (s1 := (l, r, q1.2, j)) (p2 := 58) (L2 := [some (.ref a), some (.int x1), some (.int x2), some (.int x3)]) (S2 := []) (s2 := (l, r, q1.2, j)) rfl (fun _ _ => rfl) e (fun c8 e => ?_) (fun c8 e => ?_)
        · refine g_run 1 69 [some (.ref a), some (.int x1), some (.int x2), some (.int x3)] [.int (-2 : Int32)] (fun _ => rfl) ?_
          cases e
          exact g_ret rfl (fun _ _ => rfl)
        · refine g_run 3 61 [some (.ref a), some (.int x1), some (.int x2), some (.int x3)] [.int x3, .int x2, .ref a] (fun _ => rfl) ?_
          obtain ⟨q9, eq9, e⟩ := g_bd e
          refine g_cV 64 rfl rfl rfl rfl rfl (Md_l ka) (Md_printOf_s ka eq9) ?_
          refine g_run 1 69 [some (.ref a), some (.int x1), some (.int x2), some (.int x3)] [.int q9] (fun _ => rfl) ?_
          cases e
          exact g_ret rfl (fun _ _ => rfl)
def Md_isFit_l2 (x0 : Nat) (x1 : Int32) (x2 : Int32) (h : am_F) : Nat → Int32 → Option (Int32)
  | 0, _ => none
  | n + 1, x3 =>
    (Md_prints x0 h).bind fun q1 =>
    if q1 ≤ x3 then
      some (1 : Int32)
    else
      (Md_printOf x0 x3 (1 : Int32) h).bind fun q3 =>
      if q3 = x1 then
        (Md_printOf x0 x3 (2 : Int32) h).bind fun q5 =>
        if q5 < x2 then
          some (0 : Int32)
        else
          (Md_stage x0 x2 q5 h).bind fun q7 =>
          (Md_printOf x0 x3 (0 : Int32) h).bind fun q8 =>
          if q7 = q8 then
            Md_isFit_l2 x0 x1 x2 h n (x3 + (1 : Int32))
          else
            some (0 : Int32)
      else
        Md_isFit_l2 x0 x1 x2 h n (x3 + (1 : Int32))
def Md_isFit (a : Nat) (x1 : Int32) (x2 : Int32) (h : am_F) : Option (Int32) :=
  Md_isFit_l2 a x1 x2 h g_fu (0 : Int32)
theorem Md_isFit_l2_s {X : Nat × (Nat → Int32)} {l : List (Nat × Nat)} {r : am_R} {x0 : Nat} {x1 : Int32} {x2 : Int32} {h : am_F} {j : am_J} {q : Int32} (kx0 : Md_K l r x0) : ∀ (n : Nat) (x3 : Int32) (d4 : Option Value), Md_isFit_l2 x0 x1 x2 h n x3 = some q → Ev X 236 2 [some (.ref x0), some (.int x1), some (.int x2), some (.int x3), d4] [] (l, r, h, j) (some (.int q), (l, r, h, j)) := by
  intro n
  induction n with
  | zero => intro x3 d4 e; cases e
  | succ n ih =>
    intro x3 d4 e
    unfold Md_isFit_l2 at e
    refine g_run 2 4 [some (.ref x0), some (.int x1), some (.int x2), some (.int x3), d4] [.ref x0, .int x3] (fun _ => rfl) ?_
    obtain ⟨q1, eq1, e⟩ := g_bd e
    refine g_cV 7 rfl rfl rfl rfl rfl (Md_l kx0) (Md_prints_s kx0 eq1) ?_
    refine g_if (p1 := 58) (L1 := [some (.ref x0), some (.int x1), some (.int x2), some (.int x3), d4]) (S1 := []) (s1 := (l, r, h, j)) (p2 := 10) (L2 := [some (.ref x0), some (.int x1), some (.int x2), some (.int x3), d4]) (S2 := []) (s2 := (l, r, h, j)) rfl (fun _ _ => rfl) e (fun c2 e => ?_) (fun c2 e => ?_)
    · refine g_run 1 59 [some (.ref x0), some (.int x1), some (.int x2), some (.int x3), d4] [.int (1 : Int32)] (fun _ => rfl) ?_
      cases e
      exact g_retZ rfl (y := (1 : Int32)) rfl rfl
    · refine g_run 3 13 [some (.ref x0), some (.int x1), some (.int x2), some (.int x3), d4] [.int (1 : Int32), .int x3, .ref x0] (fun _ => rfl) ?_
      obtain ⟨q3, eq3, e⟩ := g_bd e
      refine g_cV 16 rfl rfl rfl rfl rfl (Md_l kx0) (Md_printOf_s kx0 eq3) ?_
      refine g_run 1 17 [some (.ref x0), some (.int x1), some (.int x2), some (.int x3), d4] [.int x1, .int q3] (fun _ => rfl) ?_
      refine g_if (p1 := 20) (L1 := [some (.ref x0), some (.int x1), some (.int x2), some (.int x3), d4]) (S1 := []) (s1 := (l, r, h, j)) (p2 := 52) (L2 := [some (.ref x0), some (.int x1), some (.int x2), some (.int x3), d4]) (S2 := []) (s2 := (l, r, h, j)) rfl (fun _ _ => rfl) e (fun c4 e => ?_) (fun c4 e => ?_)
      · refine g_run 3 23 [some (.ref x0), some (.int x1), some (.int x2), some (.int x3), d4] [.int (2 : Int32), .int x3, .ref x0] (fun _ => rfl) ?_
        obtain ⟨q5, eq5, e⟩ := g_bd e
        refine g_cV 26 rfl rfl rfl rfl rfl (Md_l kx0) (Md_printOf_s kx0 eq5) ?_
        refine g_run 3 31 [some (.ref x0), some (.int x1), some (.int x2), some (.int x3), some (.int q5)] [.int x2, .int q5] (fun _ => rfl) ?_
        refine g_if (p1 := 50) (L1 := [some (.ref x0), some (.int x1), some (.int x2), some (.int x3), some (.int q5)]) (S1 := []) (s1 := (l, r, h, j)) (p2 := 34) (L2 := [some (.ref x0), some (.int x1), some (.int x2), some (.int x3), some (.int q5)]) (S2 := []) (s2 := (l, r, h, j)) rfl (fun _ _ => rfl) e (fun c6 e => ?_) (fun c6 e => ?_)
        · refine g_run 1 51 [some (.ref x0), some (.int x1), some (.int x2), some (.int x3), some (.int q5)] [.int (0 : Int32)] (fun _ => rfl) ?_
          cases e
          exact g_retZ rfl (y := (0 : Int32)) rfl rfl
        · refine g_run 3 38 [some (.ref x0), some (.int x1), some (.int x2), some (.int x3), some (.int q5)] [.int q5, .int x2, .ref x0] (fun _ => rfl) ?_
          obtain ⟨q7, eq7, e⟩ := g_bd e
          refine g_cV 41 rfl rfl rfl rfl rfl (Md_l kx0) (Md_stage_s kx0 eq7) ?_
          refine g_run 3 44 [some (.ref x0), some (.int x1), some (.int x2), some (.int x3), some (.int q5)] [.int (0 : Int32), .int x3, .ref x0, .int q7] (fun _ => rfl) ?_
          obtain ⟨q8, eq8, e⟩ := g_bd e
          refine g_cV 47 rfl rfl rfl rfl rfl (Md_l kx0) (Md_printOf_s kx0 eq8) ?_
          refine g_if (p1 := 52) (L1 := [some (.ref x0), some (.int x1), some (.int x2), some (.int x3), some (.int q5)]) (S1 := []) (s1 := (l, r, h, j)) (p2 := 50) (L2 := [some (.ref x0), some (.int x1), some (.int x2), some (.int x3), some (.int q5)]) (S2 := []) (s2 := (l, r, h, j)) rfl (fun _ _ => rfl) e (fun c9 e => ?_) (fun c9 e => ?_)
          · refine g_run 2 2 [some (.ref x0), some (.int x1), some (.int x2), some (.int (x3 + (1 : Int32))), some (.int q5)] [] (fun _ => rfl) ?_
            exact ih _ _ e
          · refine g_run 1 51 [some (.ref x0), some (.int x1), some (.int x2), some (.int x3), some (.int q5)] [.int (0 : Int32)] (fun _ => rfl) ?_
            cases e
            exact g_retZ rfl (y := (0 : Int32)) rfl rfl
      · refine g_run 2 2 [some (.ref x0), some (.int x1), some (.int x2), some (.int (x3 + (1 : Int32))), d4] [] (fun _ => rfl) ?_
        exact ih _ _ e
theorem Md_isFit_s {X : Nat × (Nat → Int32)} {l : List (Nat × Nat)} {r : am_R} {h : am_F} {j : am_J} {a : Nat} {x1 : Int32} {x2 : Int32} (ka : Md_K l r a) {q : Int32} (e : Md_isFit a x1 x2 h = some q) : Call X 236 [.ref a, .int x1, .int x2] (l, r, h, j) (some (.int q), (l, r, h, j)) := by
  unfold Md_isFit at e
  refine ⟨Nat.le_of_ble_eq_true rfl, ?_⟩
  show Ev X 236 0 [some (.ref a), some (.int x1), some (.int x2), none, none] [] (l, r, h, j) _
  refine g_run 2 2 [some (.ref a), some (.int x1), some (.int x2), some (.int (0 : Int32)), none] [] (fun _ => rfl) ?_
  exact Md_isFit_l2_s ka _ _ _ e
def Md_findFits_l4 (x0 : Nat) (x1 : Int32) (x2 : Int32) : Nat → Int32 → am_F → Option (am_F)
  | 0, _, _ => none
  | n + 1, x3, h =>
    if (48 : Int32) < x3 then
      some h
    else
      (g_ix x3 49).bind fun k2 =>
      Md_findFits_l4 x0 x1 x2 n (x3 + (1 : Int32)) (am_up h (x0 + 26) k2 (0 : Int32))
def Md_findFits_l25 (x0 : Nat) (x1 : Int32) : Nat → Int32 → Int32 → am_F → Option (Int32 × am_F)
  | 0, _, _, _ => none
  | n + 1, x2, x3, h =>
    if (h (x0 + 12) 4) ≤ x3 then
      some (x2, h)
    else
      (g_ix ((79 : Int32) + ((3 : Int32) * x3)) 195).bind fun k6 =>
      (if (h (x0 + 12) k6) = x1 then
          (g_ix (((79 : Int32) + ((3 : Int32) * x3)) + (1 : Int32)) 195).bind fun k9 =>
          (g_ix ((1 : Int32) + (h (x0 + 12) k9)) 49).bind fun k10 =>
          (g_ix (((79 : Int32) + ((3 : Int32) * x3)) + (2 : Int32)) 195).bind fun k11 =>
          (g_ix ((1 : Int32) + (h (x0 + 12) k9)) 49).bind fun k12 =>
          some ((1 : Int32), (am_up h (x0 + 26) k12 ((h (x0 + 26) k10) + (h (x0 + 12) k11))))
        else
          some (x2, h) : Option (Int32 × am_F)).bind fun q13 =>
      Md_findFits_l25 x0 x1 n q13.1 (x3 + (1 : Int32)) q13.2
def Md_findFits_l118 (x0 : Nat) (x1 : Int32) : Nat → Int32 → am_F → Option (am_F)
  | 0, _, _ => none
  | n + 1, x3, h =>
    if (48 : Int32) ≤ x3 then
      some h
    else
      (g_ix ((1 : Int32) + x3) 49).bind fun k22 =>
      (if (h (x0 + 26) k22) ≤ 0 then
          some (0 : Int32)
        else
          (Md_isFit x0 x1 x3 h).bind fun q25 =>
          if q25 = 0 then
            some (0 : Int32)
          else
            (g_ix ((1 : Int32) + x3) 49).bind fun k27 =>
            some (h (x0 + 26) k27) : Option (Int32)).bind fun q28 =>
      (g_ix ((1 : Int32) + x3) 49).bind fun k29 =>
      (g_ix ((1 : Int32) + x3) 49).bind fun k30 =>
      Md_findFits_l118 x0 x1 n (x3 + (1 : Int32)) (am_up (am_up h (x0 + 26) k29 q28) x0 45 (((am_up h (x0 + 26) k29 q28) x0 45) + ((am_up h (x0 + 26) k29 q28) (x0 + 26) k30)))
def Md_findFits (a : Nat) (x1 : Int32) (h : am_F) : Option (am_F) :=
  (Md_findFits_l4 a x1 (0 : Int32) g_fu (0 : Int32) h).bind fun q3 =>
  (Md_findFits_l25 a x1 g_fu (0 : Int32) (0 : Int32) q3).bind fun q14 =>
  (if q14.1 = 0 then
      (Md_painted a x1 q14.2).bind fun q18 =>
      (g_ix ((1 : Int32) + q18) 49).bind fun k19 =>
      some (am_up q14.2 (a + 26) k19 (1 : Int32))
    else
      some q14.2 : Option (am_F)).bind fun q20 =>
  (Md_findFits_l118 a x1 g_fu (-1 : Int32) (am_up q20 a 45 (0 : Int32))).bind fun q31 =>
  some q31
theorem Md_findFits_l4_s {X : Nat × (Nat → Int32)} {l : List (Nat × Nat)} {r : am_R} {x0 : Nat} {x1 : Int32} {x2 : Int32} {j : am_J} {q : am_F} {R : Option Value × am_S} (kx0 : Md_K l r x0) (hx : ∀ (y3 : Int32) , Ev X 237 23 [some (.ref x0), some (.int x1), some (.int x2), some (.int y3)] [] (l, r, q, j) R) : ∀ (n : Nat) (x3 : Int32) (h : am_F), Md_findFits_l4 x0 x1 x2 n x3 h = some q → Ev X 237 4 [some (.ref x0), some (.int x1), some (.int x2), some (.int x3)] [] (l, r, h, j) R := by
  intro n
  induction n with
  | zero => intro x3 h e; cases e
  | succ n ih =>
    intro x3 h e
    unfold Md_findFits_l4 at e
    refine g_run 2 7 [some (.ref x0), some (.int x1), some (.int x2), some (.int x3)] [.int (48 : Int32), .int x3] (fun _ => rfl) ?_
    refine g_if (p1 := 23) (L1 := [some (.ref x0), some (.int x1), some (.int x2), some (.int x3)]) (S1 := []) (s1 := (l, r, h, j)) (p2 := 10) (L2 := [some (.ref x0), some (.int x1), some (.int x2), some (.int x3)]) (S2 := []) (s2 := (l, r, h, j)) rfl (fun _ _ => rfl) e (fun c1 e => ?_) (fun c1 e => ?_)
    · cases e
      exact hx _
    · refine g_run 1 11 [some (.ref x0), some (.int x1), some (.int x2), some (.int x3)] [.ref x0] (fun _ => rfl) ?_
      refine g_getA 14 rfl rfl (Md_l kx0) (Md_r44 kx0) ?_
      refine g_run 2 16 [some (.ref x0), some (.int x1), some (.int x2), some (.int x3)] [.int (0 : Int32), .int x3, .ref (x0 + 26)] (fun _ => rfl) ?_
      obtain ⟨k2, ek2, e⟩ := g_bd e
      refine g_iast 17 rfl rfl (Md_k44 kx0) ek2 ?_
      refine g_run 2 4 [some (.ref x0), some (.int x1), some (.int x2), some (.int (x3 + (1 : Int32)))] [] (fun _ => rfl) ?_
      exact ih _ _ e
theorem Md_findFits_l25_s {X : Nat × (Nat → Int32)} {l : List (Nat × Nat)} {r : am_R} {x0 : Nat} {x1 : Int32} {j : am_J} {q : Int32 × am_F} {R : Option Value × am_S} (kx0 : Md_K l r x0) (hx : ∀ (y3 : Int32) , Ev X 237 94 [some (.ref x0), some (.int x1), some (.int q.1), some (.int y3)] [] (l, r, q.2, j) R) : ∀ (n : Nat) (x2 : Int32) (x3 : Int32) (h : am_F), Md_findFits_l25 x0 x1 n x2 x3 h = some q → Ev X 237 25 [some (.ref x0), some (.int x1), some (.int x2), some (.int x3)] [] (l, r, h, j) R := by
  intro n
  induction n with
  | zero => intro x2 x3 h e; cases e
  | succ n ih =>
    intro x2 x3 h e
    unfold Md_findFits_l25 at e
    refine g_run 2 27 [some (.ref x0), some (.int x1), some (.int x2), some (.int x3)] [.ref x0, .int x3] (fun _ => rfl) ?_
    refine g_getA 30 rfl rfl (Md_l kx0) (Md_r23 kx0) ?_
    refine g_run 1 31 [some (.ref x0), some (.int x1), some (.int x2), some (.int x3)] [.int (4 : Int32), .ref (x0 + 12), .int x3] (fun _ => rfl) ?_
    refine g_iald 32 rfl rfl (Md_k23 kx0) (kx := 4) rfl ?_
    refine g_if (p1 := 94) (L1 := [some (.ref x0), some (.int x1), some (.int x2), some (.int x3)]) (S1 := []) (s1 := (l, r, h, j)) (p2 := 35) (L2 := [some (.ref x0), some (.int x1), some (.int x2), some (.int x3)]) (S2 := []) (s2 := (l, r, h, j)) rfl (fun _ _ => rfl) e (fun c5 e => ?_) (fun c5 e => ?_)
    · cases e
      exact hx _
    · refine g_run 1 36 [some (.ref x0), some (.int x1), some (.int x2), some (.int x3)] [.ref x0] (fun _ => rfl) ?_
      refine g_getA 39 rfl rfl (Md_l kx0) (Md_r23 kx0) ?_
      refine g_run 5 45 [some (.ref x0), some (.int x1), some (.int x2), some (.int x3)] [.int ((79 : Int32) + ((3 : Int32) * x3)), .ref (x0 + 12)] (fun _ => rfl) ?_
      obtain ⟨k6, ek6, e⟩ := g_bd e
      refine g_iald 46 rfl rfl (Md_k23 kx0) ek6 ?_
      refine g_run 1 47 [some (.ref x0), some (.int x1), some (.int x2), some (.int x3)] [.int x1, .int (h (x0 + 12) k6)] (fun _ => rfl) ?_
      obtain ⟨q13, eq13, e⟩ := g_bd e
      have hjq13 : ∀ (_ : True), Ev X 237 88 [some (.ref x0), some (.int x1), some (.int q13.1), some (.int x3)] [] (l, r, q13.2, j) R := by
        intro _
        refine g_run 2 25 [some (.ref x0), some (.int x1), some (.int q13.1), some (.int (x3 + (1 : Int32)))] [] (fun _ => rfl) ?_
        exact ih _ _ _ e
      replace e := eq13
      refine g_if (p1 := 50) (L1 := [some (.ref x0), some (.int x1), some (.int x2), some (.int x3)]) (S1 := []) (s1 := (l, r, h, j)) (p2 := 88) (L2 := [some (.ref x0), some (.int x1), some (.int x2), some (.int x3)]) (S2 := []) (s2 := (l, r, h, j)) rfl (fun _ _ => rfl) e (fun c7 e => ?_) (fun c7 e => ?_)
      · refine g_run 3 53 [some (.ref x0), some (.int x1), some (.int (1 : Int32)), some (.int x3)] [.ref x0] (fun _ => rfl) ?_
        refine g_getA 56 rfl rfl (Md_l kx0) (Md_r44 kx0) ?_
        refine g_run 2 58 [some (.ref x0), some (.int x1), some (.int (1 : Int32)), some (.int x3)] [.ref x0, .int (1 : Int32), .ref (x0 + 26)] (fun _ => rfl) ?_
        refine g_getA 61 rfl rfl (Md_l kx0) (Md_r23 kx0) ?_
        refine g_run 7 69 [some (.ref x0), some (.int x1), some (.int (1 : Int32)), some (.int x3)] [.int (((79 : Int32) + ((3 : Int32) * x3)) + (1 : Int32)), .ref (x0 + 12), .int (1 : Int32), .ref (x0 + 26)] (fun _ => rfl) ?_
        obtain ⟨k9, ek9, e⟩ := g_bd e
        refine g_iald 70 rfl rfl (Md_k23 kx0) ek9 ?_
        refine g_run 2 72 [some (.ref x0), some (.int x1), some (.int (1 : Int32)), some (.int x3)] [.int ((1 : Int32) + (h (x0 + 12) k9)), .ref (x0 + 26), .int ((1 : Int32) + (h (x0 + 12) k9)), .ref (x0 + 26)] (fun _ => rfl) ?_
        obtain ⟨k10, ek10, e⟩ := g_bd e
        refine g_iald 73 rfl rfl (Md_k44 kx0) ek10 ?_
        refine g_run 1 74 [some (.ref x0), some (.int x1), some (.int (1 : Int32)), some (.int x3)] [.ref x0, .int (h (x0 + 26) k10), .int ((1 : Int32) + (h (x0 + 12) k9)), .ref (x0 + 26)] (fun _ => rfl) ?_
        refine g_getA 77 rfl rfl (Md_l kx0) (Md_r23 kx0) ?_
        refine g_run 7 85 [some (.ref x0), some (.int x1), some (.int (1 : Int32)), some (.int x3)] [.int (((79 : Int32) + ((3 : Int32) * x3)) + (2 : Int32)), .ref (x0 + 12), .int (h (x0 + 26) k10), .int ((1 : Int32) + (h (x0 + 12) k9)), .ref (x0 + 26)] (fun _ => rfl) ?_
        obtain ⟨k11, ek11, e⟩ := g_bd e
        refine g_iald 86 rfl rfl (Md_k23 kx0) ek11 ?_
        refine g_run 1 87 [some (.ref x0), some (.int x1), some (.int (1 : Int32)), some (.int x3)] [.int ((h (x0 + 26) k10) + (h (x0 + 12) k11)), .int ((1 : Int32) + (h (x0 + 12) k9)), .ref (x0 + 26)] (fun _ => rfl) ?_
        obtain ⟨k12, ek12, e⟩ := g_bd e
        refine g_iast 88 rfl rfl (Md_k44 kx0) ek12 ?_
        cases e
        exact hjq13 trivial
      · cases e
        exact hjq13 trivial
theorem Md_findFits_l118_s {X : Nat × (Nat → Int32)} {l : List (Nat × Nat)} {r : am_R} {x0 : Nat} {x1 : Int32} {y2 : Int32} {j : am_J} {q : am_F} {R : Option Value × am_S} (kx0 : Md_K l r x0) (hx : ∀ (y3 : Int32) , Ev X 237 187 [some (.ref x0), some (.int x1), some (.int y2), some (.int y3)] [] (l, r, q, j) R) : ∀ (n : Nat) (x3 : Int32) (h : am_F), Md_findFits_l118 x0 x1 n x3 h = some q → Ev X 237 118 [some (.ref x0), some (.int x1), some (.int y2), some (.int x3)] [] (l, r, h, j) R := by
  intro n
  induction n with
  | zero => intro x3 h e; cases e
  | succ n ih =>
    intro x3 h e
    unfold Md_findFits_l118 at e
    refine g_run 2 121 [some (.ref x0), some (.int x1), some (.int y2), some (.int x3)] [.int (48 : Int32), .int x3] (fun _ => rfl) ?_
    refine g_if (p1 := 187) (L1 := [some (.ref x0), some (.int x1), some (.int y2), some (.int x3)]) (S1 := []) (s1 := (l, r, h, j)) (p2 := 124) (L2 := [some (.ref x0), some (.int x1), some (.int y2), some (.int x3)]) (S2 := []) (s2 := (l, r, h, j)) rfl (fun _ _ => rfl) e (fun c21 e => ?_) (fun c21 e => ?_)
    · cases e
      exact hx _
    · refine g_run 1 125 [some (.ref x0), some (.int x1), some (.int y2), some (.int x3)] [.ref x0] (fun _ => rfl) ?_
      refine g_getA 128 rfl rfl (Md_l kx0) (Md_r44 kx0) ?_
      refine g_run 4 132 [some (.ref x0), some (.int x1), some (.int y2), some (.int x3)] [.ref x0, .int ((1 : Int32) + x3), .ref (x0 + 26)] (fun _ => rfl) ?_
      refine g_getA 135 rfl rfl (Md_l kx0) (Md_r44 kx0) ?_
      refine g_run 3 138 [some (.ref x0), some (.int x1), some (.int y2), some (.int x3)] [.int ((1 : Int32) + x3), .ref (x0 + 26), .int ((1 : Int32) + x3), .ref (x0 + 26)] (fun _ => rfl) ?_
      obtain ⟨k22, ek22, e⟩ := g_bd e
      refine g_iald 139 rfl rfl (Md_k44 kx0) ek22 ?_
      obtain ⟨q28, eq28, e⟩ := g_bd e
      have hjq28 : ∀ (_ : True), Ev X 237 163 [some (.ref x0), some (.int x1), some (.int y2), some (.int x3)] [.int q28, .int ((1 : Int32) + x3), .ref (x0 + 26)] (l, r, h, j) R := by
        intro _
        obtain ⟨k29, ek29, e⟩ := g_bd e
        refine g_iast 164 rfl rfl (Md_k44 kx0) ek29 ?_
        refine g_run 2 166 [some (.ref x0), some (.int x1), some (.int y2), some (.int x3)] [.ref x0, .ref x0] (fun _ => rfl) ?_
        refine g_getI 169 rfl rfl (Md_l kx0) ?_
        refine g_run 1 170 [some (.ref x0), some (.int x1), some (.int y2), some (.int x3)] [.ref x0, .int ((am_up h (x0 + 26) k29 q28) x0 45), .ref x0] (fun _ => rfl) ?_
        refine g_getA 173 rfl rfl (Md_l kx0) (Md_r44 kx0) ?_
        refine g_run 3 176 [some (.ref x0), some (.int x1), some (.int y2), some (.int x3)] [.int ((1 : Int32) + x3), .ref (x0 + 26), .int ((am_up h (x0 + 26) k29 q28) x0 45), .ref x0] (fun _ => rfl) ?_
        obtain ⟨k30, ek30, e⟩ := g_bd e
        refine g_iald 177 rfl rfl (Md_k44 kx0) ek30 ?_
        refine g_run 1 178 [some (.ref x0), some (.int x1), some (.int y2), some (.int x3)] [.int (((am_up h (x0 + 26) k29 q28) x0 45) + ((am_up h (x0 + 26) k29 q28) (x0 + 26) k30)), .ref x0] (fun _ => rfl) ?_
        refine g_putI 181 rfl rfl (Md_l kx0) ?_
        refine g_run 2 118 [some (.ref x0), some (.int x1), some (.int y2), some (.int (x3 + (1 : Int32)))] [] (fun _ => rfl) ?_
        exact ih _ _ e
      replace e := eq28
      refine g_if (p1 := 162) (L1 := [some (.ref x0), some (.int x1), some (.int y2), some (.int x3)]) (S1 := [.int ((1 : Int32) + x3), .ref (x0 + 26)]) (s1 := (l, r, h, j)) (p2 := 142) (L2 := [some (.ref x0), some (.int x1), some (.int y2), some (.int x3)]) (S2 := [.int ((1 : Int32) + x3), .ref (x0 + 26)]) (s2 := (l, r, h, j)) rfl (fun _ _ => rfl) e (fun c23 e => ?_) (fun c23 e => ?_)
      · refine g_run 1 163 [some (.ref x0), some (.int x1), some (.int y2), some (.int x3)] [.int (0 : Int32), .int ((1 : Int32) + x3), .ref (x0 + 26)] (fun _ => rfl) ?_
        cases e
        exact hjq28 trivial
      · refine g_run 3 145 [some (.ref x0), some (.int x1), some (.int y2), some (.int x3)] [.int x3, .int x1, .ref x0, .int ((1 : Int32) + x3), .ref (x0 + 26)] (fun _ => rfl) ?_
        obtain ⟨q25, eq25, e⟩ := g_bd e
        refine g_cV 148 rfl rfl rfl rfl rfl (Md_l kx0) (Md_isFit_s kx0 eq25) ?_
        refine g_if (p1 := 162) (L1 := [some (.ref x0), some (.int x1), some (.int y2), some (.int x3)]) (S1 := [.int ((1 : Int32) + x3), .ref (x0 + 26)]) (s1 := (l, r, h, j)) (p2 := 151) (L2 := [some (.ref x0), some (.int x1), some (.int y2), some (.int x3)]) (S2 := [.int ((1 : Int32) + x3), .ref (x0 + 26)]) (s2 := (l, r, h, j)) rfl (fun _ _ => rfl) e (fun c26 e => ?_) (fun c26 e => ?_)
        · refine g_run 1 163 [some (.ref x0), some (.int x1), some (.int y2), some (.int x3)] [.int (0 : Int32), .int ((1 : Int32) + x3), .ref (x0 + 26)] (fun _ => rfl) ?_
          cases e
          exact hjq28 trivial
        · refine g_run 1 152 [some (.ref x0), some (.int x1), some (.int y2), some (.int x3)] [.ref x0, .int ((1 : Int32) + x3), .ref (x0 + 26)] (fun _ => rfl) ?_
          refine g_getA 155 rfl rfl (Md_l kx0) (Md_r44 kx0) ?_
          refine g_run 3 158 [some (.ref x0), some (.int x1), some (.int y2), some (.int x3)] [.int ((1 : Int32) + x3), .ref (x0 + 26), .int ((1 : Int32) + x3), .ref (x0 + 26)] (fun _ => rfl) ?_
          obtain ⟨k27, ek27, e⟩ := g_bd e
          refine g_iald 159 rfl rfl (Md_k44 kx0) ek27 ?_
          refine g_run 1 163 [some (.ref x0), some (.int x1), some (.int y2), some (.int x3)] [.int (h (x0 + 26) k27), .int ((1 : Int32) + x3), .ref (x0 + 26)] (fun _ => rfl) ?_
          cases e
          exact hjq28 trivial
theorem Md_findFits_s {X : Nat × (Nat → Int32)} {l : List (Nat × Nat)} {r : am_R} {h : am_F} {j : am_J} {a : Nat} {x1 : Int32} (ka : Md_K l r a) {q : am_F} (e : Md_findFits a x1 h = some q) : Call X 237 [.ref a, .int x1] (l, r, h, j) (none, (l, r, q, j)) := by
  unfold Md_findFits at e
  refine ⟨Nat.le_of_ble_eq_true rfl, ?_⟩
  show Ev X 237 0 [some (.ref a), some (.int x1), none, none] [] (l, r, h, j) _
  refine g_run 4 4 [some (.ref a), some (.int x1), some (.int (0 : Int32)), some (.int (0 : Int32))] [] (fun _ => rfl) ?_
  obtain ⟨q3, eq3, e⟩ := g_bd e
  refine Md_findFits_l4_s ka (fun y4 => ?_) _ _ _ eq3
  refine g_run 2 25 [some (.ref a), some (.int x1), some (.int (0 : Int32)), some (.int (0 : Int32))] [] (fun _ => rfl) ?_
  obtain ⟨q14, eq14, e⟩ := g_bd e
  refine Md_findFits_l25_s ka (fun y15 => ?_) _ _ _ _ eq14
  refine g_run 1 95 [some (.ref a), some (.int x1), some (.int q14.1), some (.int y15)] [.int q14.1] (fun _ => rfl) ?_
  obtain ⟨q20, eq20, e⟩ := g_bd e
  have hjq20 : ∀ (_ : True), Ev X 237 111 [some (.ref a), some (.int x1), some (.int q14.1), some (.int y15)] [] (l, r, q20, j) (none, (l, r, q, j)) := by
    intro _
    refine g_run 2 113 [some (.ref a), some (.int x1), some (.int q14.1), some (.int y15)] [.int (0 : Int32), .ref a] (fun _ => rfl) ?_
    refine g_putI 116 rfl rfl (Md_l ka) ?_
    refine g_run 2 118 [some (.ref a), some (.int x1), some (.int q14.1), some (.int (-1 : Int32))] [] (fun _ => rfl) ?_
    obtain ⟨q31, eq31, e⟩ := g_bd e
    refine Md_findFits_l118_s ka (fun y32 => ?_) _ _ _ eq31
    cases e
    exact g_ret rfl (fun _ _ => rfl)
  replace e := eq20
  refine g_if (p1 := 98) (L1 := [some (.ref a), some (.int x1), some (.int q14.1), some (.int y15)]) (S1 := []) (s1 := (l, r, q14.2, j)) (p2 := 111) (L2 := [some (.ref a), some (.int x1), some (.int q14.1), some (.int y15)]) (S2 := []) (s2 := (l, r, q14.2, j)) rfl (fun _ _ => rfl) e (fun c16 e => ?_) (fun c16 e => ?_)
  · refine g_run 1 99 [some (.ref a), some (.int x1), some (.int q14.1), some (.int y15)] [.ref a] (fun _ => rfl) ?_
    refine g_getA 102 rfl rfl (Md_l ka) (Md_r44 ka) ?_
    refine g_run 3 105 [some (.ref a), some (.int x1), some (.int q14.1), some (.int y15)] [.int x1, .ref a, .int (1 : Int32), .ref (a + 26)] (fun _ => rfl) ?_
    obtain ⟨q18, eq18, e⟩ := g_bd e
    refine g_cV 108 rfl rfl rfl rfl rfl (Md_l ka) (Md_painted_s ka eq18) ?_
    refine g_run 2 110 [some (.ref a), some (.int x1), some (.int q14.1), some (.int y15)] [.int (1 : Int32), .int ((1 : Int32) + q18), .ref (a + 26)] (fun _ => rfl) ?_
    obtain ⟨k19, ek19, e⟩ := g_bd e
    refine g_iast 111 rfl rfl (Md_k44 ka) ek19 ?_
    cases e
    exact hjq20 trivial
  · cases e
    exact hjq20 trivial
def Md_weightOf_l5 (x0 : Nat) (x1 : Int32) (x2 : Int32) (h : am_F) : Nat → Int32 → Int32 → Option (Int32)
  | 0, _, _ => none
  | n + 1, x3, x4 =>
    if (48 : Int32) ≤ x4 then
      some x3
    else
      (Md_stage x0 x4 x1 h).bind fun q2 =>
      (if q2 = x2 then
          (g_ix ((1 : Int32) + x4) 49).bind fun k5 =>
          some (h (x0 + 26) k5)
        else
          some (0 : Int32) : Option (Int32)).bind fun q6 =>
      Md_weightOf_l5 x0 x1 x2 h n (x3 + q6) (x4 + (1 : Int32))
def Md_weightOf (a : Nat) (x1 : Int32) (x2 : Int32) (h : am_F) : Option (Int32) :=
  (Md_weightOf_l5 a x1 x2 h g_fu (0 : Int32) (-1 : Int32)).bind fun q7 =>
  some q7
theorem Md_weightOf_l5_s {X : Nat × (Nat → Int32)} {l : List (Nat × Nat)} {r : am_R} {x0 : Nat} {x1 : Int32} {x2 : Int32} {h : am_F} {j : am_J} {q : Int32} {R : Option Value × am_S} (kx0 : Md_K l r x0) (hx : ∀ (y4 : Int32) , Ev X 238 45 [some (.ref x0), some (.int x1), some (.int x2), some (.int q), some (.int y4)] [] (l, r, h, j) R) : ∀ (n : Nat) (x3 : Int32) (x4 : Int32), Md_weightOf_l5 x0 x1 x2 h n x3 x4 = some q → Ev X 238 5 [some (.ref x0), some (.int x1), some (.int x2), some (.int x3), some (.int x4)] [] (l, r, h, j) R := by
  intro n
  induction n with
  | zero => intro x3 x4 e; cases e
  | succ n ih =>
    intro x3 x4 e
    unfold Md_weightOf_l5 at e
    refine g_run 2 9 [some (.ref x0), some (.int x1), some (.int x2), some (.int x3), some (.int x4)] [.int (48 : Int32), .int x4] (fun _ => rfl) ?_
    refine g_if (p1 := 45) (L1 := [some (.ref x0), some (.int x1), some (.int x2), some (.int x3), some (.int x4)]) (S1 := []) (s1 := (l, r, h, j)) (p2 := 12) (L2 := [some (.ref x0), some (.int x1), some (.int x2), some (.int x3), some (.int x4)]) (S2 := []) (s2 := (l, r, h, j)) rfl (fun _ _ => rfl) e (fun c1 e => ?_) (fun c1 e => ?_)
    · cases e
      exact hx _
    · refine g_run 4 17 [some (.ref x0), some (.int x1), some (.int x2), some (.int x3), some (.int x4)] [.int x1, .int x4, .ref x0, .int x3] (fun _ => rfl) ?_
      obtain ⟨q2, eq2, e⟩ := g_bd e
      refine g_cV 20 rfl rfl rfl rfl rfl (Md_l kx0) (Md_stage_s kx0 eq2) ?_
      refine g_run 1 21 [some (.ref x0), some (.int x1), some (.int x2), some (.int x3), some (.int x4)] [.int x2, .int q2, .int x3] (fun _ => rfl) ?_
      obtain ⟨q6, eq6, e⟩ := g_bd e
      have hjq6 : ∀ (_ : True), Ev X 238 37 [some (.ref x0), some (.int x1), some (.int x2), some (.int x3), some (.int x4)] [.int q6, .int x3] (l, r, h, j) R := by
        intro _
        refine g_run 4 5 [some (.ref x0), some (.int x1), some (.int x2), some (.int (x3 + q6)), some (.int (x4 + (1 : Int32)))] [] (fun _ => rfl) ?_
        exact ih _ _ e
      replace e := eq6
      refine g_if (p1 := 24) (L1 := [some (.ref x0), some (.int x1), some (.int x2), some (.int x3), some (.int x4)]) (S1 := [.int x3]) (s1 := (l, r, h, j)) (p2 := 36) (L2 := [some (.ref x0), some (.int x1), some (.int x2), some (.int x3), some (.int x4)]) (S2 := [.int x3]) (s2 := (l, r, h, j)) rfl (fun _ _ => rfl) e (fun c3 e => ?_) (fun c3 e => ?_)
      · refine g_run 1 25 [some (.ref x0), some (.int x1), some (.int x2), some (.int x3), some (.int x4)] [.ref x0, .int x3] (fun _ => rfl) ?_
        refine g_getA 28 rfl rfl (Md_l kx0) (Md_r44 kx0) ?_
        refine g_run 3 32 [some (.ref x0), some (.int x1), some (.int x2), some (.int x3), some (.int x4)] [.int ((1 : Int32) + x4), .ref (x0 + 26), .int x3] (fun _ => rfl) ?_
        obtain ⟨k5, ek5, e⟩ := g_bd e
        refine g_iald 33 rfl rfl (Md_k44 kx0) ek5 ?_
        refine g_run 1 37 [some (.ref x0), some (.int x1), some (.int x2), some (.int x3), some (.int x4)] [.int (h (x0 + 26) k5), .int x3] (fun _ => rfl) ?_
        cases e
        exact hjq6 trivial
      · refine g_run 1 37 [some (.ref x0), some (.int x1), some (.int x2), some (.int x3), some (.int x4)] [.int (0 : Int32), .int x3] (fun _ => rfl) ?_
        cases e
        exact hjq6 trivial
theorem Md_weightOf_s {X : Nat × (Nat → Int32)} {l : List (Nat × Nat)} {r : am_R} {h : am_F} {j : am_J} {a : Nat} {x1 : Int32} {x2 : Int32} (ka : Md_K l r a) {q : Int32} (e : Md_weightOf a x1 x2 h = some q) : Call X 238 [.ref a, .int x1, .int x2] (l, r, h, j) (some (.int q), (l, r, h, j)) := by
  unfold Md_weightOf at e
  refine ⟨Nat.le_of_ble_eq_true rfl, ?_⟩
  show Ev X 238 0 [some (.ref a), some (.int x1), some (.int x2), none, none] [] (l, r, h, j) _
  refine g_run 4 5 [some (.ref a), some (.int x1), some (.int x2), some (.int (0 : Int32)), some (.int (-1 : Int32))] [] (fun _ => rfl) ?_
  obtain ⟨q7, eq7, e⟩ := g_bd e
  refine Md_weightOf_l5_s ka (fun y8 => ?_) _ _ _ eq7
  refine g_run 1 46 [some (.ref a), some (.int x1), some (.int x2), some (.int q7), some (.int y8)] [.int q7] (fun _ => rfl) ?_
  cases e
  exact g_ret rfl (fun _ _ => rfl)
def Md_layFits (a : Nat) (x1 : Int32) (x2 : Int32) (x3 : Int32) (h : am_F) : Option (Int32 × am_F) :=
  (Md_hasSight a x2 h).bind fun q1 =>
  if q1.1 = 0 then
    some ((0 : Int32), q1.2)
  else
    (Md_hand a x1 q1.2).bind fun q3 =>
    if q3.1 = 0 then
      some ((0 : Int32), q3.2)
    else
      (Md_isBench a x3 q3.2).bind fun q5 =>
      if q5 = 0 then
        some ((0 : Int32), q3.2)
      else
        (Md_findFits a x3 q3.2).bind fun q7 =>
        some ((1 : Int32), q7)
theorem Md_layFits_s {X : Nat × (Nat → Int32)} {l : List (Nat × Nat)} {r : am_R} {h : am_F} {j : am_J} {a : Nat} {x1 : Int32} {x2 : Int32} {x3 : Int32} (ka : Md_K l r a) {q : Int32 × am_F} (e : Md_layFits a x1 x2 x3 h = some q) : Call X 239 [.ref a, .int x1, .int x2, .int x3] (l, r, h, j) (some (.int q.1), (l, r, q.2, j)) := by
  unfold Md_layFits at e
  refine ⟨Nat.le_of_ble_eq_true rfl, ?_⟩
  show Ev X 239 0 [some (.ref a), some (.int x1), some (.int x2), some (.int x3)] [] (l, r, h, j) _
  refine g_run 2 2 [some (.ref a), some (.int x1), some (.int x2), some (.int x3)] [.int x2, .ref a] (fun _ => rfl) ?_
  obtain ⟨q1, eq1, e⟩ := g_bd e
  refine g_cV 5 rfl rfl rfl rfl rfl (Md_l ka) (Md_hasSight_s ka eq1) ?_
  refine g_if (p1 := 24) (L1 := [some (.ref a), some (.int x1), some (.int x2), some (.int x3)]) (S1 := []) (s1 := (l, r, q1.2, j)) (p2 := 8) (L2 := [some (.ref a), some (.int x1), some (.int x2), some (.int x3)]) (S2 := []) (s2 := (l, r, q1.2, j)) rfl (fun _ _ => rfl) e (fun c2 e => ?_) (fun c2 e => ?_)
  · refine g_run 1 25 [some (.ref a), some (.int x1), some (.int x2), some (.int x3)] [.int (0 : Int32)] (fun _ => rfl) ?_
    cases e
    exact g_retZ rfl (y := (0 : Int32)) rfl rfl
  · refine g_run 2 10 [some (.ref a), some (.int x1), some (.int x2), some (.int x3)] [.int x1, .ref a] (fun _ => rfl) ?_
    obtain ⟨q3, eq3, e⟩ := g_bd e
    refine g_cV 13 rfl rfl rfl rfl rfl (Md_l ka) (Md_hand_s ka eq3) ?_
    refine g_if (p1 := 24) (L1 := [some (.ref a), some (.int x1), some (.int x2), some (.int x3)]) (S1 := []) (s1 := (l, r, q3.2, j)) (p2 := 16) (L2 := [some (.ref a), some (.int x1), some (.int x2), some (.int x3)]) (S2 := []) (s2 := (l, r, q3.2, j)) rfl (fun _ _ => rfl) e (fun c4 e => ?_) (fun c4 e => ?_)
    · refine g_run 1 25 [some (.ref a), some (.int x1), some (.int x2), some (.int x3)] [.int (0 : Int32)] (fun _ => rfl) ?_
      cases e
      exact g_retZ rfl (y := (0 : Int32)) rfl rfl
    · refine g_run 2 18 [some (.ref a), some (.int x1), some (.int x2), some (.int x3)] [.int x3, .ref a] (fun _ => rfl) ?_
      obtain ⟨q5, eq5, e⟩ := g_bd e
      refine g_cV 21 rfl rfl rfl rfl rfl (Md_l ka) (Md_isBench_s ka eq5) ?_
      refine g_if (p1 := 24) (L1 := [some (.ref a), some (.int x1), some (.int x2), some (.int x3)]) (S1 := []) (s1 := (l, r, q3.2, j)) (p2 := 26) (L2 := [some (.ref a), some (.int x1), some (.int x2), some (.int x3)]) (S2 := []) (s2 := (l, r, q3.2, j)) rfl (fun _ _ => rfl) e (fun c6 e => ?_) (fun c6 e => ?_)
      · refine g_run 1 25 [some (.ref a), some (.int x1), some (.int x2), some (.int x3)] [.int (0 : Int32)] (fun _ => rfl) ?_
        cases e
        exact g_retZ rfl (y := (0 : Int32)) rfl rfl
      · refine g_run 2 28 [some (.ref a), some (.int x1), some (.int x2), some (.int x3)] [.int x3, .ref a] (fun _ => rfl) ?_
        obtain ⟨q7, eq7, e⟩ := g_bd e
        refine g_cVv 31 rfl rfl rfl rfl rfl (Md_l ka) (Md_findFits_s ka eq7) ?_
        refine g_run 1 32 [some (.ref a), some (.int x1), some (.int x2), some (.int x3)] [.int (1 : Int32)] (fun _ => rfl) ?_
        cases e
        exact g_retZ rfl (y := (1 : Int32)) rfl rfl
def Md_likely (a : Nat) (x1 : Int32) (x2 : Int32) (x3 : Int32) (x4 : Int32) (x5 : Int32) (x6 : Int32) (h : am_F) : Option (Int32 × am_F) :=
  (Md_layFits a x1 x2 x3 (am_up h a 0 (0 : Int32))).bind fun q1 =>
  if q1.1 = 0 then
    some ((-1 : Int32), q1.2)
  else
    if (q1.2 a 45) = 0 then
      some ((-1 : Int32), q1.2)
    else
      if (Md_in x4 (0 : Int32) (47 : Int32)) = 0 then
        some ((-1 : Int32), q1.2)
      else
        if (Md_in x5 (0 : Int32) (2 : Int32)) = 0 then
          some ((-1 : Int32), q1.2)
        else
          (Md_weightOf a x4 x5 q1.2).bind fun q6 =>
          (Md_least q6.toInt64 ((q1.2 a 45).toInt64) x6).bind fun q7 =>
          some (q7, q1.2)
theorem Md_likely_s {X : Nat × (Nat → Int32)} {l : List (Nat × Nat)} {r : am_R} {h : am_F} {j : am_J} {a : Nat} {x1 : Int32} {x2 : Int32} {x3 : Int32} {x4 : Int32} {x5 : Int32} {x6 : Int32} (ka : Md_K l r a) {q : Int32 × am_F} (e : Md_likely a x1 x2 x3 x4 x5 x6 h = some q) : Call X 240 [.ref a, .int x1, .int x2, .int x3, .int x4, .int x5, .int x6] (l, r, h, j) (some (.int q.1), (l, r, q.2, j)) := by
  unfold Md_likely at e
  refine ⟨Nat.le_of_ble_eq_true rfl, ?_⟩
  show Ev X 240 0 [some (.ref a), some (.int x1), some (.int x2), some (.int x3), some (.int x4), some (.int x5), some (.int x6)] [] (l, r, h, j) _
  refine g_run 2 2 [some (.ref a), some (.int x1), some (.int x2), some (.int x3), some (.int x4), some (.int x5), some (.int x6)] [.int (0 : Int32), .ref a] (fun _ => rfl) ?_
  refine g_putI 5 rfl rfl (Md_l ka) ?_
  refine g_run 4 9 [some (.ref a), some (.int x1), some (.int x2), some (.int x3), some (.int x4), some (.int x5), some (.int x6)] [.int x3, .int x2, .int x1, .ref a] (fun _ => rfl) ?_
  obtain ⟨q1, eq1, e⟩ := g_bd e
  refine g_cV 12 rfl rfl rfl rfl rfl (Md_l ka) (Md_layFits_s ka eq1) ?_
  refine g_if (p1 := 43) (L1 := [some (.ref a), some (.int x1), some (.int x2), some (.int x3), some (.int x4), some (.int x5), some (.int x6)]) (S1 := []) (s1 := (l, r, q1.2, j)) (p2 := 15) (L2 := [some (.ref a), some (.int x1), some (.int x2), some (.int x3), some (.int x4), some (.int x5), some (.int x6)]) (S2 := []) (s2 := (l, r, q1.2, j)) rfl (fun _ _ => rfl) e (fun c2 e => ?_) (fun c2 e => ?_)
  · refine g_run 1 44 [some (.ref a), some (.int x1), some (.int x2), some (.int x3), some (.int x4), some (.int x5), some (.int x6)] [.int (-1 : Int32)] (fun _ => rfl) ?_
    cases e
    exact g_ret rfl (fun _ _ => rfl)
  · refine g_run 1 16 [some (.ref a), some (.int x1), some (.int x2), some (.int x3), some (.int x4), some (.int x5), some (.int x6)] [.ref a] (fun _ => rfl) ?_
    refine g_getI 19 rfl rfl (Md_l ka) ?_
    refine g_if (p1 := 43) (L1 := [some (.ref a), some (.int x1), some (.int x2), some (.int x3), some (.int x4), some (.int x5), some (.int x6)]) (S1 := []) (s1 := (l, r, q1.2, j)) (p2 := 22) (L2 := [some (.ref a), some (.int x1), some (.int x2), some (.int x3), some (.int x4), some (.int x5), some (.int x6)]) (S2 := []) (s2 := (l, r, q1.2, j)) rfl (fun _ _ => rfl) e (fun c3 e => ?_) (fun c3 e => ?_)
    · refine g_run 1 44 [some (.ref a), some (.int x1), some (.int x2), some (.int x3), some (.int x4), some (.int x5), some (.int x6)] [.int (-1 : Int32)] (fun _ => rfl) ?_
      cases e
      exact g_ret rfl (fun _ _ => rfl)
    · refine g_run 3 27 [some (.ref a), some (.int x1), some (.int x2), some (.int x3), some (.int x4), some (.int x5), some (.int x6)] [.int (47 : Int32), .int (0 : Int32), .int x4] (fun _ => rfl) ?_
      refine g_cS 30 rfl rfl (by decide) rfl rfl rfl Md_in_s ?_
      refine g_if (p1 := 43) (L1 := [some (.ref a), some (.int x1), some (.int x2), some (.int x3), some (.int x4), some (.int x5), some (.int x6)]) (S1 := []) (s1 := (l, r, q1.2, j)) (p2 := 33) (L2 := [some (.ref a), some (.int x1), some (.int x2), some (.int x3), some (.int x4), some (.int x5), some (.int x6)]) (S2 := []) (s2 := (l, r, q1.2, j)) rfl (fun _ _ => rfl) e (fun c4 e => ?_) (fun c4 e => ?_)
      · refine g_run 1 44 [some (.ref a), some (.int x1), some (.int x2), some (.int x3), some (.int x4), some (.int x5), some (.int x6)] [.int (-1 : Int32)] (fun _ => rfl) ?_
        cases e
        exact g_ret rfl (fun _ _ => rfl)
      · refine g_run 3 37 [some (.ref a), some (.int x1), some (.int x2), some (.int x3), some (.int x4), some (.int x5), some (.int x6)] [.int (2 : Int32), .int (0 : Int32), .int x5] (fun _ => rfl) ?_
        refine g_cS 40 rfl rfl (by decide) rfl rfl rfl Md_in_s ?_
        refine g_if (p1 := 43) (L1 := [some (.ref a), some (.int x1), some (.int x2), some (.int x3), some (.int x4), some (.int x5), some (.int x6)]) (S1 := []) (s1 := (l, r, q1.2, j)) (p2 := 45) (L2 := [some (.ref a), some (.int x1), some (.int x2), some (.int x3), some (.int x4), some (.int x5), some (.int x6)]) (S2 := []) (s2 := (l, r, q1.2, j)) rfl (fun _ _ => rfl) e (fun c5 e => ?_) (fun c5 e => ?_)
        · refine g_run 1 44 [some (.ref a), some (.int x1), some (.int x2), some (.int x3), some (.int x4), some (.int x5), some (.int x6)] [.int (-1 : Int32)] (fun _ => rfl) ?_
          cases e
          exact g_ret rfl (fun _ _ => rfl)
        · refine g_run 3 50 [some (.ref a), some (.int x1), some (.int x2), some (.int x3), some (.int x4), some (.int x5), some (.int x6)] [.int x5, .int x4, .ref a] (fun _ => rfl) ?_
          obtain ⟨q6, eq6, e⟩ := g_bd e
          refine g_cV 53 rfl rfl rfl rfl rfl (Md_l ka) (Md_weightOf_s ka eq6) ?_
          refine g_run 2 55 [some (.ref a), some (.int x1), some (.int x2), some (.int x3), some (.int x4), some (.int x5), some (.int x6)] [.ref a, .long q6.toInt64] (fun _ => rfl) ?_
          refine g_getI 58 rfl rfl (Md_l ka) ?_
          refine g_run 2 61 [some (.ref a), some (.int x1), some (.int x2), some (.int x3), some (.int x4), some (.int x5), some (.int x6)] [.int x6, .long (q1.2 a 45).toInt64, .long q6.toInt64] (fun _ => rfl) ?_
          obtain ⟨q7, eq7, e⟩ := g_bd e
          refine g_cS 64 rfl rfl (by decide) rfl rfl rfl (Md_least_s eq7) ?_
          cases e
          exact g_ret rfl (fun _ _ => rfl)
def Md_actWorth_l12 (x0 : Nat) (x1 : Int32) (x2 : Int32) (x3 : Int32) (h : am_F) : Nat → Int32 → Int32 → Option (Int32)
  | 0, _, _ => none
  | n + 1, x4, x5 =>
    if (3 : Int32) ≤ x5 then
      some x4
    else
      (if x3 = (2 : Int32) then
          (Md_comer x0 x1 (3 : Int32) h).bind fun q5 =>
          (Md_comer x0 x1 (4 : Int32) h).bind fun q6 =>
          (Md_costs q6 x5).bind fun q7 =>
          some (q5 - q7)
        else
          (if x5 = 0 then
              (Md_comer x0 x1 (3 : Int32) h).bind fun q10 =>
              some q10
            else
              some (0 : Int32) : Option (Int32)).bind fun q11 =>
          (Md_comer x0 x1 (5 : Int32) h).bind fun q12 =>
          (Md_costs q12 x5).bind fun q13 =>
          some (q11 - q13) : Option (Int32)).bind fun q14 =>
      (Md_weightOf x0 x2 x5 h).bind fun q15 =>
      Md_actWorth_l12 x0 x1 x2 x3 h n (x4 + (q14 * q15)) (x5 + (1 : Int32))
def Md_actWorth (a : Nat) (x1 : Int32) (x2 : Int32) (x3 : Int32) (h : am_F) : Option (Int32) :=
  if x3 = 0 then
    some (0 : Int32)
  else
    (Md_actWorth_l12 a x1 x2 x3 h g_fu (0 : Int32) (0 : Int32)).bind fun q16 =>
    some q16
theorem Md_actWorth_l12_s {X : Nat × (Nat → Int32)} {l : List (Nat × Nat)} {r : am_R} {x0 : Nat} {x1 : Int32} {x2 : Int32} {x3 : Int32} {h : am_F} {j : am_J} {q : Int32} {R : Option Value × am_S} (kx0 : Md_K l r x0) (hx : ∀ (d6 : Option Value) (y5 : Int32) , Ev X 241 94 [some (.ref x0), some (.int x1), some (.int x2), some (.int x3), some (.int q), some (.int y5), d6] [] (l, r, h, j) R) : ∀ (n : Nat) (x4 : Int32) (x5 : Int32) (d6 : Option Value), Md_actWorth_l12 x0 x1 x2 x3 h n x4 x5 = some q → Ev X 241 12 [some (.ref x0), some (.int x1), some (.int x2), some (.int x3), some (.int x4), some (.int x5), d6] [] (l, r, h, j) R := by
  intro n
  induction n with
  | zero => intro x4 x5 d6 e; cases e
  | succ n ih =>
    intro x4 x5 d6 e
    unfold Md_actWorth_l12 at e
    refine g_run 2 15 [some (.ref x0), some (.int x1), some (.int x2), some (.int x3), some (.int x4), some (.int x5), d6] [.int (3 : Int32), .int x5] (fun _ => rfl) ?_
    refine g_if (p1 := 94) (L1 := [some (.ref x0), some (.int x1), some (.int x2), some (.int x3), some (.int x4), some (.int x5), d6]) (S1 := []) (s1 := (l, r, h, j)) (p2 := 18) (L2 := [some (.ref x0), some (.int x1), some (.int x2), some (.int x3), some (.int x4), some (.int x5), d6]) (S2 := []) (s2 := (l, r, h, j)) rfl (fun _ _ => rfl) e (fun c2 e => ?_) (fun c2 e => ?_)
    · cases e
      exact hx _ _
    · refine g_run 2 20 [some (.ref x0), some (.int x1), some (.int x2), some (.int x3), some (.int x4), some (.int x5), d6] [.int (2 : Int32), .int x3] (fun _ => rfl) ?_
      obtain ⟨q14, eq14, e⟩ := g_bd e
      have hjq14 : ∀ (_ : True), Ev X 241 71 [some (.ref x0), some (.int x1), some (.int x2), some (.int x3), some (.int x4), some (.int x5), d6] [.int q14] (l, r, h, j) R := by
        intro _
        refine g_run 6 81 [some (.ref x0), some (.int x1), some (.int x2), some (.int x3), some (.int x4), some (.int x5), some (.int q14)] [.int x5, .int x2, .ref x0, .int q14, .int x4] (fun _ => rfl) ?_
        obtain ⟨q15, eq15, e⟩ := g_bd e
        refine g_cV 84 rfl rfl rfl rfl rfl (Md_l kx0) (Md_weightOf_s kx0 eq15) ?_
        refine g_run 5 12 [some (.ref x0), some (.int x1), some (.int x2), some (.int x3), some (.int (x4 + (q14 * q15))), some (.int (x5 + (1 : Int32))), some (.int q14)] [] (fun _ => rfl) ?_
        exact ih _ _ _ e
      replace e := eq14
      refine g_if (p1 := 23) (L1 := [some (.ref x0), some (.int x1), some (.int x2), some (.int x3), some (.int x4), some (.int x5), d6]) (S1 := []) (s1 := (l, r, h, j)) (p2 := 44) (L2 := [some (.ref x0), some (.int x1), some (.int x2), some (.int x3), some (.int x4), some (.int x5), d6]) (S2 := []) (s2 := (l, r, h, j)) rfl (fun _ _ => rfl) e (fun c3 e => ?_) (fun c3 e => ?_)
      · refine g_run 3 26 [some (.ref x0), some (.int x1), some (.int x2), some (.int x3), some (.int x4), some (.int x5), d6] [.int (3 : Int32), .int x1, .ref x0] (fun _ => rfl) ?_
        obtain ⟨q5, eq5, e⟩ := g_bd e
        refine g_cV 29 rfl rfl rfl rfl rfl (Md_l kx0) (Md_comer_s kx0 eq5) ?_
        refine g_run 3 32 [some (.ref x0), some (.int x1), some (.int x2), some (.int x3), some (.int x4), some (.int x5), d6] [.int (4 : Int32), .int x1, .ref x0, .int q5] (fun _ => rfl) ?_
        obtain ⟨q6, eq6, e⟩ := g_bd e
        refine g_cV 35 rfl rfl rfl rfl rfl (Md_l kx0) (Md_comer_s kx0 eq6) ?_
        refine g_run 1 37 [some (.ref x0), some (.int x1), some (.int x2), some (.int x3), some (.int x4), some (.int x5), d6] [.int x5, .int q6, .int q5] (fun _ => rfl) ?_
        obtain ⟨q7, eq7, e⟩ := g_bd e
        refine g_cS 40 rfl rfl (by decide) rfl rfl rfl (Md_costs_s eq7) ?_
        refine g_run 2 71 [some (.ref x0), some (.int x1), some (.int x2), some (.int x3), some (.int x4), some (.int x5), d6] [.int (q5 - q7)] (fun _ => rfl) ?_
        cases e
        exact hjq14 trivial
      · refine g_run 1 46 [some (.ref x0), some (.int x1), some (.int x2), some (.int x3), some (.int x4), some (.int x5), d6] [.int x5] (fun _ => rfl) ?_
        obtain ⟨q11, eq11, e⟩ := g_bd e
        have hjq11 : ∀ (_ : True), Ev X 241 59 [some (.ref x0), some (.int x1), some (.int x2), some (.int x3), some (.int x4), some (.int x5), d6] [.int q11] (l, r, h, j) R := by
          intro _
          refine g_run 3 62 [some (.ref x0), some (.int x1), some (.int x2), some (.int x3), some (.int x4), some (.int x5), d6] [.int (5 : Int32), .int x1, .ref x0, .int q11] (fun _ => rfl) ?_
          obtain ⟨q12, eq12, e⟩ := g_bd e
          refine g_cV 65 rfl rfl rfl rfl rfl (Md_l kx0) (Md_comer_s kx0 eq12) ?_
          refine g_run 1 67 [some (.ref x0), some (.int x1), some (.int x2), some (.int x3), some (.int x4), some (.int x5), d6] [.int x5, .int q12, .int q11] (fun _ => rfl) ?_
          obtain ⟨q13, eq13, e⟩ := g_bd e
          refine g_cS 70 rfl rfl (by decide) rfl rfl rfl (Md_costs_s eq13) ?_
          refine g_run 1 71 [some (.ref x0), some (.int x1), some (.int x2), some (.int x3), some (.int x4), some (.int x5), d6] [.int (q11 - q13)] (fun _ => rfl) ?_
          cases e
          exact hjq14 trivial
        replace e := eq11
        refine g_if (p1 := 49) (L1 := [some (.ref x0), some (.int x1), some (.int x2), some (.int x3), some (.int x4), some (.int x5), d6]) (S1 := []) (s1 := (l, r, h, j)) (p2 := 58) (L2 := [some (.ref x0), some (.int x1), some (.int x2), some (.int x3), some (.int x4), some (.int x5), d6]) (S2 := []) (s2 := (l, r, h, j)) rfl (fun _ _ => rfl) e (fun c8 e => ?_) (fun c8 e => ?_)
        · refine g_run 3 52 [some (.ref x0), some (.int x1), some (.int x2), some (.int x3), some (.int x4), some (.int x5), d6] [.int (3 : Int32), .int x1, .ref x0] (fun _ => rfl) ?_
          obtain ⟨q10, eq10, e⟩ := g_bd e
          refine g_cV 55 rfl rfl rfl rfl rfl (Md_l kx0) (Md_comer_s kx0 eq10) ?_
          refine g_run 1 59 [some (.ref x0), some (.int x1), some (.int x2), some (.int x3), some (.int x4), some (.int x5), d6] [.int q10] (fun _ => rfl) ?_
          cases e
          exact hjq11 trivial
        · refine g_run 1 59 [some (.ref x0), some (.int x1), some (.int x2), some (.int x3), some (.int x4), some (.int x5), d6] [.int (0 : Int32)] (fun _ => rfl) ?_
          cases e
          exact hjq11 trivial
theorem Md_actWorth_s {X : Nat × (Nat → Int32)} {l : List (Nat × Nat)} {r : am_R} {h : am_F} {j : am_J} {a : Nat} {x1 : Int32} {x2 : Int32} {x3 : Int32} (ka : Md_K l r a) {q : Int32} (e : Md_actWorth a x1 x2 x3 h = some q) : Call X 241 [.ref a, .int x1, .int x2, .int x3] (l, r, h, j) (some (.int q), (l, r, h, j)) := by
  unfold Md_actWorth at e
  refine ⟨Nat.le_of_ble_eq_true rfl, ?_⟩
  show Ev X 241 0 [some (.ref a), some (.int x1), some (.int x2), some (.int x3), none, none, none] [] (l, r, h, j) _
  refine g_run 1 1 [some (.ref a), some (.int x1), some (.int x2), some (.int x3), none, none, none] [.int x3] (fun _ => rfl) ?_
  refine g_if (p1 := 4) (L1 := [some (.ref a), some (.int x1), some (.int x2), some (.int x3), none, none, none]) (S1 := []) (s1 := (l, r, h, j)) (p2 := 6) (L2 := [some (.ref a), some (.int x1), some (.int x2), some (.int x3), none, none, none]) (S2 := []) (s2 := (l, r, h, j)) rfl (fun _ _ => rfl) e (fun c1 e => ?_) (fun c1 e => ?_)
  · refine g_run 1 5 [some (.ref a), some (.int x1), some (.int x2), some (.int x3), none, none, none] [.int (0 : Int32)] (fun _ => rfl) ?_
    cases e
    exact g_ret rfl (fun _ _ => rfl)
  · refine g_run 4 12 [some (.ref a), some (.int x1), some (.int x2), some (.int x3), some (.int (0 : Int32)), some (.int (0 : Int32)), none] [] (fun _ => rfl) ?_
    obtain ⟨q16, eq16, e⟩ := g_bd e
    refine Md_actWorth_l12_s ka (fun d17 y18 => ?_) _ _ _ _ eq16
    refine g_run 1 96 [some (.ref a), some (.int x1), some (.int x2), some (.int x3), some (.int q16), some (.int y18), d17] [.int q16] (fun _ => rfl) ?_
    cases e
    exact g_ret rfl (fun _ _ => rfl)
def Md_act_l62 (x0 : Nat) (x4 : Int32) (x5 : Int32) (x6 : Int32) (h : am_F) : Nat → Int32 → Int32 → Option (Int32)
  | 0, _, _ => none
  | n + 1, x7, x8 =>
    if (3 : Int32) ≤ x8 then
      some x7
    else
      (Md_actWorth x0 x5 x4 x8 h).bind fun q9 =>
      (Md_actWorth x0 x5 x4 x7 h).bind fun q10 =>
      (if q9 ≤ q10 then
          some x7
        else
          some x8 : Option (Int32)).bind fun q13 =>
      Md_act_l62 x0 x4 x5 x6 h n q13 (x8 + (1 : Int32))
def Md_act (a : Nat) (x1 : Int32) (x2 : Int32) (x3 : Int32) (x4 : Int32) (x5 : Int32) (x6 : Int32) (h : am_F) : Option (Int32 × am_F) :=
  if (Md_in x6 (0 : Int32) (5 : Int32)) = 0 then
    some ((-1000000 : Int32), (am_up h a 0 (0 : Int32)))
  else
    if (Md_in x4 (0 : Int32) (47 : Int32)) = 0 then
      some ((-1000000 : Int32), (am_up h a 0 (0 : Int32)))
    else
      (Md_layFits a x1 x2 x3 (am_up h a 0 (0 : Int32))).bind fun q3 =>
      if q3.1 = 0 then
        some ((-1000000 : Int32), q3.2)
      else
        if (q3.2 a 45) = 0 then
          some ((-1000000 : Int32), q3.2)
        else
          (Md_isComer a x5 q3.2).bind fun q6 =>
          if q6 = 0 then
            some ((-1000000 : Int32), q3.2)
          else
            (Md_act_l62 a x4 x5 x6 q3.2 g_fu (0 : Int32) (1 : Int32)).bind fun q14 =>
            if x6 = 0 then
              some (q14, q3.2)
            else
              if x6 ≤ (2 : Int32) then
                (Md_actWorth a x5 x4 q14 q3.2).bind fun q18 =>
                (if x6 = (2 : Int32) then
                    some (1 : Int32)
                  else
                    some (0 : Int32) : Option (Int32)).bind fun q21 =>
                (Md_least q18.toInt64 ((q3.2 a 45).toInt64) q21).bind fun q22 =>
                some (q22, q3.2)
              else
                (Md_actWorth a x5 x4 (x6 - (3 : Int32)) q3.2).bind fun q23 =>
                some (q23, q3.2)
theorem Md_act_l62_s {X : Nat × (Nat → Int32)} {l : List (Nat × Nat)} {r : am_R} {x0 : Nat} {x4 : Int32} {x5 : Int32} {x6 : Int32} {y1 : Int32} {y2 : Int32} {y3 : Int32} {h : am_F} {j : am_J} {q : Int32} {R : Option Value × am_S} (kx0 : Md_K l r x0) (hx : ∀ (y8 : Int32) , Ev X 242 106 [some (.ref x0), some (.int y1), some (.int y2), some (.int y3), some (.int x4), some (.int x5), some (.int x6), some (.int q), some (.int y8)] [] (l, r, h, j) R) : ∀ (n : Nat) (x7 : Int32) (x8 : Int32), Md_act_l62 x0 x4 x5 x6 h n x7 x8 = some q → Ev X 242 62 [some (.ref x0), some (.int y1), some (.int y2), some (.int y3), some (.int x4), some (.int x5), some (.int x6), some (.int x7), some (.int x8)] [] (l, r, h, j) R := by
  intro n
  induction n with
  | zero => intro x7 x8 e; cases e
  | succ n ih =>
    intro x7 x8 e
    unfold Md_act_l62 at e
    refine g_run 2 65 [some (.ref x0), some (.int y1), some (.int y2), some (.int y3), some (.int x4), some (.int x5), some (.int x6), some (.int x7), some (.int x8)] [.int (3 : Int32), .int x8] (fun _ => rfl) ?_
    refine g_if (p1 := 106) (L1 := [some (.ref x0), some (.int y1), some (.int y2), some (.int y3), some (.int x4), some (.int x5), some (.int x6), some (.int x7), some (.int x8)]) (S1 := []) (s1 := (l, r, h, j)) (p2 := 68) (L2 := [some (.ref x0), some (.int y1), some (.int y2), some (.int y3), some (.int x4), some (.int x5), some (.int x6), some (.int x7), some (.int x8)]) (S2 := []) (s2 := (l, r, h, j)) rfl (fun _ _ => rfl) e (fun c8 e => ?_) (fun c8 e => ?_)
    · cases e
      exact hx _
    · refine g_run 4 75 [some (.ref x0), some (.int y1), some (.int y2), some (.int y3), some (.int x4), some (.int x5), some (.int x6), some (.int x7), some (.int x8)] [.int x8, .int x4, .int x5, .ref x0] (fun _ => rfl) ?_
      obtain ⟨q9, eq9, e⟩ := g_bd e
      refine g_cV 78 rfl rfl rfl rfl rfl (Md_l kx0) (Md_actWorth_s kx0 eq9) ?_
      refine g_run 4 85 [some (.ref x0), some (.int y1), some (.int y2), some (.int y3), some (.int x4), some (.int x5), some (.int x6), some (.int x7), some (.int x8)] [.int x7, .int x4, .int x5, .ref x0, .int q9] (fun _ => rfl) ?_
      obtain ⟨q10, eq10, e⟩ := g_bd e
      refine g_cV 88 rfl rfl rfl rfl rfl (Md_l kx0) (Md_actWorth_s kx0 eq10) ?_
      obtain ⟨q13, eq13, e⟩ := g_bd e
      have hjq13 : ∀ (_ : True), Ev X 242 98 [some (.ref x0), some (.int y1), some (.int y2), some (.int y3), some (.int x4), some (.int x5), some (.int x6), some (.int x7), some (.int x8)] [.int q13] (l, r, h, j) R := by
        intro _
        refine g_run 3 62 [some (.ref x0), some (.int y1), some (.int y2), some (.int y3), some (.int x4), some (.int x5), some (.int x6), some (.int q13), some (.int (x8 + (1 : Int32)))] [] (fun _ => rfl) ?_
        exact ih _ _ e
      replace e := eq13
      refine g_if (p1 := 96) (L1 := [some (.ref x0), some (.int y1), some (.int y2), some (.int y3), some (.int x4), some (.int x5), some (.int x6), some (.int x7), some (.int x8)]) (S1 := []) (s1 := (l, r, h, j)) (p2 := 91) (L2 := [some (.ref x0), some (.int y1), some (.int y2), some (.int y3), some (.int x4), some (.int x5), some (.int x6), some (.int x7), some (.int x8)]) (S2 := []) (s2 := (l, r, h, j)) rfl (fun _ _ => rfl) e (fun c11 e => ?_) (fun c11 e => ?_)
      · refine g_run 1 98 [some (.ref x0), some (.int y1), some (.int y2), some (.int y3), some (.int x4), some (.int x5), some (.int x6), some (.int x7), some (.int x8)] [.int x7] (fun _ => rfl) ?_
        cases e
        exact hjq13 trivial
      · refine g_run 2 98 [some (.ref x0), some (.int y1), some (.int y2), some (.int y3), some (.int x4), some (.int x5), some (.int x6), some (.int x7), some (.int x8)] [.int x8] (fun _ => rfl) ?_
        cases e
        exact hjq13 trivial
theorem Md_act_s {X : Nat × (Nat → Int32)} {l : List (Nat × Nat)} {r : am_R} {h : am_F} {j : am_J} {a : Nat} {x1 : Int32} {x2 : Int32} {x3 : Int32} {x4 : Int32} {x5 : Int32} {x6 : Int32} (ka : Md_K l r a) {q : Int32 × am_F} (e : Md_act a x1 x2 x3 x4 x5 x6 h = some q) : Call X 242 [.ref a, .int x1, .int x2, .int x3, .int x4, .int x5, .int x6] (l, r, h, j) (some (.int q.1), (l, r, q.2, j)) := by
  unfold Md_act at e
  refine ⟨Nat.le_of_ble_eq_true rfl, ?_⟩
  show Ev X 242 0 [some (.ref a), some (.int x1), some (.int x2), some (.int x3), some (.int x4), some (.int x5), some (.int x6), none, none] [] (l, r, h, j) _
  refine g_run 2 2 [some (.ref a), some (.int x1), some (.int x2), some (.int x3), some (.int x4), some (.int x5), some (.int x6), none, none] [.int (0 : Int32), .ref a] (fun _ => rfl) ?_
  refine g_putI 5 rfl rfl (Md_l ka) ?_
  refine g_run 3 9 [some (.ref a), some (.int x1), some (.int x2), some (.int x3), some (.int x4), some (.int x5), some (.int x6), none, none] [.int (5 : Int32), .int (0 : Int32), .int x6] (fun _ => rfl) ?_
  refine g_cS 12 rfl rfl (by decide) rfl rfl rfl Md_in_s ?_
  refine g_if (p1 := 52) (L1 := [some (.ref a), some (.int x1), some (.int x2), some (.int x3), some (.int x4), some (.int x5), some (.int x6), none, none]) (S1 := []) (s1 := (l, r, (am_up h a 0 (0 : Int32)), j)) (p2 := 15) (L2 := [some (.ref a), some (.int x1), some (.int x2), some (.int x3), some (.int x4), some (.int x5), some (.int x6), none, none]) (S2 := []) (s2 := (l, r, (am_up h a 0 (0 : Int32)), j)) rfl (fun _ _ => rfl) e (fun c1 e => ?_) (fun c1 e => ?_)
  · refine g_run 1 55 [some (.ref a), some (.int x1), some (.int x2), some (.int x3), some (.int x4), some (.int x5), some (.int x6), none, none] [.int (-1000000 : Int32)] (fun _ => rfl) ?_
    cases e
    exact g_ret rfl (fun _ _ => rfl)
  · refine g_run 3 20 [some (.ref a), some (.int x1), some (.int x2), some (.int x3), some (.int x4), some (.int x5), some (.int x6), none, none] [.int (47 : Int32), .int (0 : Int32), .int x4] (fun _ => rfl) ?_
    refine g_cS 23 rfl rfl (by decide) rfl rfl rfl Md_in_s ?_
    refine g_if (p1 := 52) (L1 := [some (.ref a), some (.int x1), some (.int x2), some (.int x3), some (.int x4), some (.int x5), some (.int x6), none, none]) (S1 := []) (s1 := (l, r, (am_up h a 0 (0 : Int32)), j)) (p2 := 26) (L2 := [some (.ref a), some (.int x1), some (.int x2), some (.int x3), some (.int x4), some (.int x5), some (.int x6), none, none]) (S2 := []) (s2 := (l, r, (am_up h a 0 (0 : Int32)), j)) rfl (fun _ _ => rfl) e (fun c2 e => ?_) (fun c2 e => ?_)
    · refine g_run 1 55 [some (.ref a), some (.int x1), some (.int x2), some (.int x3), some (.int x4), some (.int x5), some (.int x6), none, none] [.int (-1000000 : Int32)] (fun _ => rfl) ?_
      cases e
      exact g_ret rfl (fun _ _ => rfl)
    · refine g_run 4 30 [some (.ref a), some (.int x1), some (.int x2), some (.int x3), some (.int x4), some (.int x5), some (.int x6), none, none] [.int x3, .int x2, .int x1, .ref a] (fun _ => rfl) ?_
      obtain ⟨q3, eq3, e⟩ := g_bd e
      refine g_cV 33 rfl rfl rfl rfl rfl (Md_l ka) (Md_layFits_s ka eq3) ?_
      refine g_if (p1 := 52) (L1 := [some (.ref a), some (.int x1), some (.int x2), some (.int x3), some (.int x4), some (.int x5), some (.int x6), none, none]) (S1 := []) (s1 := (l, r, q3.2, j)) (p2 := 36) (L2 := [some (.ref a), some (.int x1), some (.int x2), some (.int x3), some (.int x4), some (.int x5), some (.int x6), none, none]) (S2 := []) (s2 := (l, r, q3.2, j)) rfl (fun _ _ => rfl) e (fun c4 e => ?_) (fun c4 e => ?_)
      · refine g_run 1 55 [some (.ref a), some (.int x1), some (.int x2), some (.int x3), some (.int x4), some (.int x5), some (.int x6), none, none] [.int (-1000000 : Int32)] (fun _ => rfl) ?_
        cases e
        exact g_ret rfl (fun _ _ => rfl)
      · refine g_run 1 37 [some (.ref a), some (.int x1), some (.int x2), some (.int x3), some (.int x4), some (.int x5), some (.int x6), none, none] [.ref a] (fun _ => rfl) ?_
        refine g_getI 40 rfl rfl (Md_l ka) ?_
        refine g_if (p1 := 52) (L1 := [some (.ref a), some (.int x1), some (.int x2), some (.int x3), some (.int x4), some (.int x5), some (.int x6), none, none]) (S1 := []) (s1 := (l, r, q3.2, j)) (p2 := 43) (L2 := [some (.ref a), some (.int x1), some (.int x2), some (.int x3), some (.int x4), some (.int x5), some (.int x6), none, none]) (S2 := []) (s2 := (l, r, q3.2, j)) rfl (fun _ _ => rfl) e (fun c5 e => ?_) (fun c5 e => ?_)
        · refine g_run 1 55 [some (.ref a), some (.int x1), some (.int x2), some (.int x3), some (.int x4), some (.int x5), some (.int x6), none, none] [.int (-1000000 : Int32)] (fun _ => rfl) ?_
          cases e
          exact g_ret rfl (fun _ _ => rfl)
        · refine g_run 2 46 [some (.ref a), some (.int x1), some (.int x2), some (.int x3), some (.int x4), some (.int x5), some (.int x6), none, none] [.int x5, .ref a] (fun _ => rfl) ?_
          obtain ⟨q6, eq6, e⟩ := g_bd e
          refine g_cV 49 rfl rfl rfl rfl rfl (Md_l ka) (Md_isComer_s ka eq6) ?_
          refine g_if (p1 := 52) (L1 := [some (.ref a), some (.int x1), some (.int x2), some (.int x3), some (.int x4), some (.int x5), some (.int x6), none, none]) (S1 := []) (s1 := (l, r, q3.2, j)) (p2 := 56) (L2 := [some (.ref a), some (.int x1), some (.int x2), some (.int x3), some (.int x4), some (.int x5), some (.int x6), none, none]) (S2 := []) (s2 := (l, r, q3.2, j)) rfl (fun _ _ => rfl) e (fun c7 e => ?_) (fun c7 e => ?_)
          · refine g_run 1 55 [some (.ref a), some (.int x1), some (.int x2), some (.int x3), some (.int x4), some (.int x5), some (.int x6), none, none] [.int (-1000000 : Int32)] (fun _ => rfl) ?_
            cases e
            exact g_ret rfl (fun _ _ => rfl)
          · refine g_run 4 62 [some (.ref a), some (.int x1), some (.int x2), some (.int x3), some (.int x4), some (.int x5), some (.int x6), some (.int (0 : Int32)), some (.int (1 : Int32))] [] (fun _ => rfl) ?_
            obtain ⟨q14, eq14, e⟩ := g_bd e
            refine Md_act_l62_s ka (fun y15 => ?_) _ _ _ eq14
            refine g_run 1 108 [some (.ref a), some (.int x1), some (.int x2), some (.int x3), some (.int x4), some (.int x5), some (.int x6), some (.int q14), some (.int y15)] [.int x6] (fun _ => rfl) ?_
            refine g_if (p1 := 111) (L1 := [some (.ref a), some (.int x1), some (.int x2), some (.int x3), some (.int x4), some (.int x5), some (.int x6), some (.int q14), some (.int y15)]) (S1 := []) (s1 := (l, r, q3.2, j)) (p2 := 116) (L2 := [some (.ref a), some (.int x1), some (.int x2), some (.int x3), some (.int x4), some (.int x5), some (.int x6), some (.int q14), some (.int y15)]) (S2 := []) (s2 := (l, r, q3.2, j)) rfl (fun _ _ => rfl) e (fun c16 e => ?_) (fun c16 e => ?_)
            · refine g_run 2 167 [some (.ref a), some (.int x1), some (.int x2), some (.int x3), some (.int x4), some (.int x5), some (.int x6), some (.int q14), some (.int y15)] [.int q14] (fun _ => rfl) ?_
              cases e
              exact g_ret rfl (fun _ _ => rfl)
            · refine g_run 2 119 [some (.ref a), some (.int x1), some (.int x2), some (.int x3), some (.int x4), some (.int x5), some (.int x6), some (.int q14), some (.int y15)] [.int (2 : Int32), .int x6] (fun _ => rfl) ?_
              refine g_if (p1 := 137) (L1 := [some (.ref a), some (.int x1), some (.int x2), some (.int x3), some (.int x4), some (.int x5), some (.int x6), some (.int q14), some (.int y15)]) (S1 := []) (s1 := (l, r, q3.2, j)) (p2 := 122) (L2 := [some (.ref a), some (.int x1), some (.int x2), some (.int x3), some (.int x4), some (.int x5), some (.int x6), some (.int q14), some (.int y15)]) (S2 := []) (s2 := (l, r, q3.2, j)) rfl (fun _ _ => rfl) e (fun c17 e => ?_) (fun c17 e => ?_)
              · refine g_run 4 144 [some (.ref a), some (.int x1), some (.int x2), some (.int x3), some (.int x4), some (.int x5), some (.int x6), some (.int q14), some (.int y15)] [.int q14, .int x4, .int x5, .ref a] (fun _ => rfl) ?_
                obtain ⟨q18, eq18, e⟩ := g_bd e
                refine g_cV 147 rfl rfl rfl rfl rfl (Md_l ka) (Md_actWorth_s ka eq18) ?_
                refine g_run 2 149 [some (.ref a), some (.int x1), some (.int x2), some (.int x3), some (.int x4), some (.int x5), some (.int x6), some (.int q14), some (.int y15)] [.ref a, .long q18.toInt64] (fun _ => rfl) ?_
                refine g_getI 152 rfl rfl (Md_l ka) ?_
                refine g_run 3 156 [some (.ref a), some (.int x1), some (.int x2), some (.int x3), some (.int x4), some (.int x5), some (.int x6), some (.int q14), some (.int y15)] [.int (2 : Int32), .int x6, .long (q3.2 a 45).toInt64, .long q18.toInt64] (fun _ => rfl) ?_
                obtain ⟨q21, eq21, e⟩ := g_bd e
                have hjq21 : ∀ (_ : True), Ev X 242 164 [some (.ref a), some (.int x1), some (.int x2), some (.int x3), some (.int x4), some (.int x5), some (.int x6), some (.int q14), some (.int y15)] [.int q21, .long (q3.2 a 45).toInt64, .long q18.toInt64] (l, r, q3.2, j) (some (.int q.1), (l, r, q.2, j)) := by
                  intro _
                  obtain ⟨q22, eq22, e⟩ := g_bd e
                  refine g_cS 167 rfl rfl (by decide) rfl rfl rfl (Md_least_s eq22) ?_
                  cases e
                  exact g_ret rfl (fun _ _ => rfl)
                replace e := eq21
                refine g_if (p1 := 159) (L1 := [some (.ref a), some (.int x1), some (.int x2), some (.int x3), some (.int x4), some (.int x5), some (.int x6), some (.int q14), some (.int y15)]) (S1 := [.long (q3.2 a 45).toInt64, .long q18.toInt64]) (s1 := (l, r, q3.2, j)) (p2 := 163) (L2 := [some (.ref a), some (.int x1), some (.int x2), some (.int x3), some (.int x4), some (.int x5), some (.int x6), some (.int q14), some (.int y15)]) (S2 := [.long (q3.2 a 45).toInt64, .long q18.toInt64]) (s2 := (l, r, q3.2, j)) rfl (fun _ _ => rfl) e (fun c19 e => ?_) (fun c19 e => ?_)
                · refine g_run 2 164 [some (.ref a), some (.int x1), some (.int x2), some (.int x3), some (.int x4), some (.int x5), some (.int x6), some (.int q14), some (.int y15)] [.int (1 : Int32), .long (q3.2 a 45).toInt64, .long q18.toInt64] (fun _ => rfl) ?_
                  cases e
                  exact hjq21 trivial
                · refine g_run 1 164 [some (.ref a), some (.int x1), some (.int x2), some (.int x3), some (.int x4), some (.int x5), some (.int x6), some (.int q14), some (.int y15)] [.int (0 : Int32), .long (q3.2 a 45).toInt64, .long q18.toInt64] (fun _ => rfl) ?_
                  cases e
                  exact hjq21 trivial
              · refine g_run 6 131 [some (.ref a), some (.int x1), some (.int x2), some (.int x3), some (.int x4), some (.int x5), some (.int x6), some (.int q14), some (.int y15)] [.int (x6 - (3 : Int32)), .int x4, .int x5, .ref a] (fun _ => rfl) ?_
                obtain ⟨q23, eq23, e⟩ := g_bd e
                refine g_cV 134 rfl rfl rfl rfl rfl (Md_l ka) (Md_actWorth_s ka eq23) ?_
                refine g_run 1 167 [some (.ref a), some (.int x1), some (.int x2), some (.int x3), some (.int x4), some (.int x5), some (.int x6), some (.int q14), some (.int y15)] [.int q23] (fun _ => rfl) ?_
                cases e
                exact g_ret rfl (fun _ _ => rfl)
