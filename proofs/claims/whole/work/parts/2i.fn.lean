/-! methods as functions, and their runs -/
def Md_costs (x0 : Int32) (x1 : Int32) : Option (Int32) :=
  if x1 = (2 : Int32) then
    some x0
  else
    if x1 = (1 : Int32) then
      some (x0 / (2 : Int32))
    else
      some (0 : Int32)
theorem Md_costs_s {X : Nat × (Nat → Int32)} {l : List (Nat × Nat)} {r : am_R} {h : am_F} {j : am_J} {x0 : Int32} {x1 : Int32}  {q : Int32} (e : Md_costs x0 x1 = some q) : Call X 209 [.int x0, .int x1] (l, r, h, j) (some (.int q), (l, r, h, j)) := by
  unfold Md_costs at e
  refine ⟨Nat.le_of_ble_eq_true rfl, ?_⟩
  show Ev X 209 0 [some (.int x0), some (.int x1)] [] (l, r, h, j) _
  refine g_run 2 2 [some (.int x0), some (.int x1)] [.int (2 : Int32), .int x1] (fun _ => rfl) ?_
  refine g_if (p1 := 5) (L1 := [some (.int x0), some (.int x1)]) (S1 := []) (s1 := (l, r, h, j)) (p2 := 9) (L2 := [some (.int x0), some (.int x1)]) (S2 := []) (s2 := (l, r, h, j)) rfl (fun _ _ => rfl) e (fun c1 e => ?_) (fun c1 e => ?_)
  · refine g_run 2 21 [some (.int x0), some (.int x1)] [.int x0] (fun _ => rfl) ?_
    cases e
    exact g_ret rfl (fun _ _ => rfl)
  · refine g_run 2 11 [some (.int x0), some (.int x1)] [.int (1 : Int32), .int x1] (fun _ => rfl) ?_
    refine g_if (p1 := 14) (L1 := [some (.int x0), some (.int x1)]) (S1 := []) (s1 := (l, r, h, j)) (p2 := 20) (L2 := [some (.int x0), some (.int x1)]) (S2 := []) (s2 := (l, r, h, j)) rfl (fun _ _ => rfl) e (fun c2 e => ?_) (fun c2 e => ?_)
    · refine g_run 4 21 [some (.int x0), some (.int x1)] [.int (x0 / (2 : Int32))] (fun _ => rfl) ?_
      cases e
      exact g_ret rfl (fun _ _ => rfl)
    · refine g_run 1 21 [some (.int x0), some (.int x1)] [.int (0 : Int32)] (fun _ => rfl) ?_
      cases e
      exact g_ret rfl (fun _ _ => rfl)
def Md_choice (a : Nat) (x1 : Int32) (x2 : Int32) (x3 : Int32) (x4 : Int32) (h : am_F) : Option (Int32) :=
  (Md_comer a x1 (0 : Int32) h).bind fun q1 =>
  if q1 = (0 : Int32) then
    (Md_hangs a x2 x3 h).bind fun q2 =>
    if q2 = 0 then
      some (3 : Int32)
    else
      (Md_believes a h).bind fun q4 =>
      if q4 = 0 then
        some (3 : Int32)
      else
        some (0 : Int32)
  else if q1 = (1 : Int32) then
    some (1 : Int32)
  else if q1 = (2 : Int32) then
    (g_ix x2 6).bind fun k8 =>
    (if (h (a + 19) k8) = (-1 : Int32) then
        some (0 : Int32)
      else
        (g_ix x2 6).bind fun k11 =>
        if (3 : Int32) < (x3 - (h (a + 19) k11)) then
          some (0 : Int32)
        else
          some (1 : Int32) : Option (Int32)).bind fun q13 =>
    if q13 = 0 then
      some (3 : Int32)
    else
      (g_ix x2 6).bind fun k15 =>
      if (h (a + 20) k15) = (2 : Int32) then
        some (0 : Int32)
      else
        some (1 : Int32)
  else if q1 = (3 : Int32) then
    (g_ix x2 6).bind fun k18 =>
    if (h (a + 21) k18) = (-1 : Int32) then
      some (0 : Int32)
    else
      (g_ix x2 6).bind fun k20 =>
      (Md_painted a x2 h).bind fun q21 =>
      if (h (a + 21) k20) < q21 then
        some (0 : Int32)
      else
        some (3 : Int32)
  else 
    (Md_comer a x1 (3 : Int32) h).bind fun q24 =>
    (Md_comer a x1 (4 : Int32) h).bind fun q25 =>
    (Md_costs q25 x4).bind fun q26 =>
    if q24 ≤ q26 then
      some (0 : Int32)
    else
      some (3 : Int32)
theorem Md_choice_s {X : Nat × (Nat → Int32)} {l : List (Nat × Nat)} {r : am_R} {h : am_F} {j : am_J} {a : Nat} {x1 : Int32} {x2 : Int32} {x3 : Int32} {x4 : Int32} (ka : Md_K l r a) {q : Int32} (e : Md_choice a x1 x2 x3 x4 h = some q) : Call X 210 [.ref a, .int x1, .int x2, .int x3, .int x4] (l, r, h, j) (some (.int q), (l, r, h, j)) := by
  unfold Md_choice at e
  refine ⟨Nat.le_of_ble_eq_true rfl, ?_⟩
  show Ev X 210 0 [some (.ref a), some (.int x1), some (.int x2), some (.int x3), some (.int x4), none] [] (l, r, h, j) _
  refine g_run 3 3 [some (.ref a), some (.int x1), some (.int x2), some (.int x3), some (.int x4), none] [.int (0 : Int32), .int x1, .ref a] (fun _ => rfl) ?_
  obtain ⟨q1, eq1, e⟩ := g_bd e
  refine g_cV 6 rfl rfl rfl rfl rfl (Md_l ka) (Md_comer_s ka eq1) ?_
  by_cases c6 : q1 = (0 : Int32)
  · replace e := (if_pos c6).symm.trans e
    refine g_sw (p1 := 36) (L1 := [some (.ref a), some (.int x1), some (.int x2), some (.int x3), some (.int x4), none]) (S1 := []) (s1 := (l, r, h, j)) rfl c6 (fun _ _ => rfl) ?_
    refine g_run 3 39 [some (.ref a), some (.int x1), some (.int x2), some (.int x3), some (.int x4), none] [.int x3, .int x2, .ref a] (fun _ => rfl) ?_
    obtain ⟨q2, eq2, e⟩ := g_bd e
    refine g_cV 42 rfl rfl rfl rfl rfl (Md_l ka) (Md_hangs_s ka eq2) ?_
    refine g_if (p1 := 56) (L1 := [some (.ref a), some (.int x1), some (.int x2), some (.int x3), some (.int x4), none]) (S1 := []) (s1 := (l, r, h, j)) (p2 := 45) (L2 := [some (.ref a), some (.int x1), some (.int x2), some (.int x3), some (.int x4), none]) (S2 := []) (s2 := (l, r, h, j)) rfl (fun _ _ => rfl) e (fun c3 e => ?_) (fun c3 e => ?_)
    · refine g_run 1 57 [some (.ref a), some (.int x1), some (.int x2), some (.int x3), some (.int x4), none] [.int (3 : Int32)] (fun _ => rfl) ?_
      cases e
      exact g_ret rfl (fun _ _ => rfl)
    · refine g_run 1 46 [some (.ref a), some (.int x1), some (.int x2), some (.int x3), some (.int x4), none] [.ref a] (fun _ => rfl) ?_
      obtain ⟨q4, eq4, e⟩ := g_bd e
      refine g_cV 49 rfl rfl rfl rfl rfl (Md_l ka) (Md_believes_s ka eq4) ?_
      refine g_if (p1 := 56) (L1 := [some (.ref a), some (.int x1), some (.int x2), some (.int x3), some (.int x4), none]) (S1 := []) (s1 := (l, r, h, j)) (p2 := 52) (L2 := [some (.ref a), some (.int x1), some (.int x2), some (.int x3), some (.int x4), none]) (S2 := []) (s2 := (l, r, h, j)) rfl (fun _ _ => rfl) e (fun c5 e => ?_) (fun c5 e => ?_)
      · refine g_run 1 57 [some (.ref a), some (.int x1), some (.int x2), some (.int x3), some (.int x4), none] [.int (3 : Int32)] (fun _ => rfl) ?_
        cases e
        exact g_ret rfl (fun _ _ => rfl)
      · refine g_run 2 57 [some (.ref a), some (.int x1), some (.int x2), some (.int x3), some (.int x4), none] [.int (0 : Int32)] (fun _ => rfl) ?_
        cases e
        exact g_ret rfl (fun _ _ => rfl)
  replace e := (if_neg c6).symm.trans e
  by_cases c7 : q1 = (1 : Int32)
  · replace e := (if_pos c7).symm.trans e
    refine g_sw (p1 := 58) (L1 := [some (.ref a), some (.int x1), some (.int x2), some (.int x3), some (.int x4), none]) (S1 := []) (s1 := (l, r, h, j)) rfl c7 (fun _ _ => rfl) ?_
    refine g_run 1 59 [some (.ref a), some (.int x1), some (.int x2), some (.int x3), some (.int x4), none] [.int (1 : Int32)] (fun _ => rfl) ?_
    cases e
    exact g_ret rfl (fun _ _ => rfl)
  replace e := (if_neg c7).symm.trans e
  by_cases c17 : q1 = (2 : Int32)
  · replace e := (if_pos c17).symm.trans e
    refine g_sw (p1 := 60) (L1 := [some (.ref a), some (.int x1), some (.int x2), some (.int x3), some (.int x4), none]) (S1 := []) (s1 := (l, r, h, j)) rfl c17 (fun _ _ => rfl) ?_
    refine g_run 1 61 [some (.ref a), some (.int x1), some (.int x2), some (.int x3), some (.int x4), none] [.ref a] (fun _ => rfl) ?_
    refine g_getA 64 rfl rfl (Md_l ka) (Md_r30 ka) ?_
    refine g_run 1 65 [some (.ref a), some (.int x1), some (.int x2), some (.int x3), some (.int x4), none] [.int x2, .ref (a + 19)] (fun _ => rfl) ?_
    obtain ⟨k8, ek8, e⟩ := g_bd e
    refine g_iald 66 rfl rfl (Md_k30 ka) ek8 ?_
    refine g_run 1 67 [some (.ref a), some (.int x1), some (.int x2), some (.int x3), some (.int x4), none] [.int (-1 : Int32), .int (h (a + 19) k8)] (fun _ => rfl) ?_
    obtain ⟨q13, eq13, e⟩ := g_bd e
    have hjq13 : ∀ (_ : True), Ev X 210 87 [some (.ref a), some (.int x1), some (.int x2), some (.int x3), some (.int x4), none] [.int q13] (l, r, h, j) (some (.int q), (l, r, h, j)) := by
      intro _
      refine g_run 2 91 [some (.ref a), some (.int x1), some (.int x2), some (.int x3), some (.int x4), some (.int q13)] [.int q13] (fun _ => rfl) ?_
      refine g_if (p1 := 94) (L1 := [some (.ref a), some (.int x1), some (.int x2), some (.int x3), some (.int x4), some (.int q13)]) (S1 := []) (s1 := (l, r, h, j)) (p2 := 98) (L2 := [some (.ref a), some (.int x1), some (.int x2), some (.int x3), some (.int x4), some (.int q13)]) (S2 := []) (s2 := (l, r, h, j)) rfl (fun _ _ => rfl) e (fun c14 e => ?_) (fun c14 e => ?_)
      · refine g_run 2 113 [some (.ref a), some (.int x1), some (.int x2), some (.int x3), some (.int x4), some (.int q13)] [.int (3 : Int32)] (fun _ => rfl) ?_
        cases e
        exact g_ret rfl (fun _ _ => rfl)
      · refine g_run 1 99 [some (.ref a), some (.int x1), some (.int x2), some (.int x3), some (.int x4), some (.int q13)] [.ref a] (fun _ => rfl) ?_
        refine g_getA 102 rfl rfl (Md_l ka) (Md_r31 ka) ?_
        refine g_run 1 103 [some (.ref a), some (.int x1), some (.int x2), some (.int x3), some (.int x4), some (.int q13)] [.int x2, .ref (a + 20)] (fun _ => rfl) ?_
        obtain ⟨k15, ek15, e⟩ := g_bd e
        refine g_iald 104 rfl rfl (Md_k31 ka) ek15 ?_
        refine g_run 1 105 [some (.ref a), some (.int x1), some (.int x2), some (.int x3), some (.int x4), some (.int q13)] [.int (2 : Int32), .int (h (a + 20) k15)] (fun _ => rfl) ?_
        refine g_if (p1 := 108) (L1 := [some (.ref a), some (.int x1), some (.int x2), some (.int x3), some (.int x4), some (.int q13)]) (S1 := []) (s1 := (l, r, h, j)) (p2 := 112) (L2 := [some (.ref a), some (.int x1), some (.int x2), some (.int x3), some (.int x4), some (.int q13)]) (S2 := []) (s2 := (l, r, h, j)) rfl (fun _ _ => rfl) e (fun c16 e => ?_) (fun c16 e => ?_)
        · refine g_run 2 113 [some (.ref a), some (.int x1), some (.int x2), some (.int x3), some (.int x4), some (.int q13)] [.int (0 : Int32)] (fun _ => rfl) ?_
          cases e
          exact g_ret rfl (fun _ _ => rfl)
        · refine g_run 1 113 [some (.ref a), some (.int x1), some (.int x2), some (.int x3), some (.int x4), some (.int q13)] [.int (1 : Int32)] (fun _ => rfl) ?_
          cases e
          exact g_ret rfl (fun _ _ => rfl)
    replace e := eq13
    refine g_if (p1 := 86) (L1 := [some (.ref a), some (.int x1), some (.int x2), some (.int x3), some (.int x4), none]) (S1 := []) (s1 := (l, r, h, j)) (p2 := 70) (L2 := [some (.ref a), some (.int x1), some (.int x2), some (.int x3), some (.int x4), none]) (S2 := []) (s2 := (l, r, h, j)) rfl (fun _ _ => rfl) e (fun c9 e => ?_) (fun c9 e => ?_)
    · refine g_run 1 87 [some (.ref a), some (.int x1), some (.int x2), some (.int x3), some (.int x4), none] [.int (0 : Int32)] (fun _ => rfl) ?_
      cases e
      exact hjq13 trivial
    · refine g_run 2 72 [some (.ref a), some (.int x1), some (.int x2), some (.int x3), some (.int x4), none] [.ref a, .int x3] (fun _ => rfl) ?_
      refine g_getA 75 rfl rfl (Md_l ka) (Md_r30 ka) ?_
      refine g_run 1 76 [some (.ref a), some (.int x1), some (.int x2), some (.int x3), some (.int x4), none] [.int x2, .ref (a + 19), .int x3] (fun _ => rfl) ?_
      obtain ⟨k11, ek11, e⟩ := g_bd e
      refine g_iald 77 rfl rfl (Md_k30 ka) ek11 ?_
      refine g_run 2 79 [some (.ref a), some (.int x1), some (.int x2), some (.int x3), some (.int x4), none] [.int (3 : Int32), .int (x3 - (h (a + 19) k11))] (fun _ => rfl) ?_
      refine g_if (p1 := 86) (L1 := [some (.ref a), some (.int x1), some (.int x2), some (.int x3), some (.int x4), none]) (S1 := []) (s1 := (l, r, h, j)) (p2 := 82) (L2 := [some (.ref a), some (.int x1), some (.int x2), some (.int x3), some (.int x4), none]) (S2 := []) (s2 := (l, r, h, j)) rfl (fun _ _ => rfl) e (fun c12 e => ?_) (fun c12 e => ?_)
      · refine g_run 1 87 [some (.ref a), some (.int x1), some (.int x2), some (.int x3), some (.int x4), none] [.int (0 : Int32)] (fun _ => rfl) ?_
        cases e
        exact hjq13 trivial
      · refine g_run 2 87 [some (.ref a), some (.int x1), some (.int x2), some (.int x3), some (.int x4), none] [.int (1 : Int32)] (fun _ => rfl) ?_
        cases e
        exact hjq13 trivial
  replace e := (if_neg c17).symm.trans e
  by_cases c23 : q1 = (3 : Int32)
  · replace e := (if_pos c23).symm.trans e
    refine g_sw (p1 := 114) (L1 := [some (.ref a), some (.int x1), some (.int x2), some (.int x3), some (.int x4), none]) (S1 := []) (s1 := (l, r, h, j)) rfl c23 (fun _ _ => rfl) ?_
    refine g_run 1 115 [some (.ref a), some (.int x1), some (.int x2), some (.int x3), some (.int x4), none] [.ref a] (fun _ => rfl) ?_
    refine g_getA 118 rfl rfl (Md_l ka) (Md_r32 ka) ?_
    refine g_run 1 119 [some (.ref a), some (.int x1), some (.int x2), some (.int x3), some (.int x4), none] [.int x2, .ref (a + 21)] (fun _ => rfl) ?_
    obtain ⟨k18, ek18, e⟩ := g_bd e
    refine g_iald 120 rfl rfl (Md_k32 ka) ek18 ?_
    refine g_run 1 121 [some (.ref a), some (.int x1), some (.int x2), some (.int x3), some (.int x4), none] [.int (-1 : Int32), .int (h (a + 21) k18)] (fun _ => rfl) ?_
    refine g_if (p1 := 142) (L1 := [some (.ref a), some (.int x1), some (.int x2), some (.int x3), some (.int x4), none]) (S1 := []) (s1 := (l, r, h, j)) (p2 := 124) (L2 := [some (.ref a), some (.int x1), some (.int x2), some (.int x3), some (.int x4), none]) (S2 := []) (s2 := (l, r, h, j)) rfl (fun _ _ => rfl) e (fun c19 e => ?_) (fun c19 e => ?_)
    · refine g_run 1 143 [some (.ref a), some (.int x1), some (.int x2), some (.int x3), some (.int x4), none] [.int (0 : Int32)] (fun _ => rfl) ?_
      cases e
      exact g_ret rfl (fun _ _ => rfl)
    · refine g_run 1 125 [some (.ref a), some (.int x1), some (.int x2), some (.int x3), some (.int x4), none] [.ref a] (fun _ => rfl) ?_
      refine g_getA 128 rfl rfl (Md_l ka) (Md_r32 ka) ?_
      refine g_run 1 129 [some (.ref a), some (.int x1), some (.int x2), some (.int x3), some (.int x4), none] [.int x2, .ref (a + 21)] (fun _ => rfl) ?_
      obtain ⟨k20, ek20, e⟩ := g_bd e
      refine g_iald 130 rfl rfl (Md_k32 ka) ek20 ?_
      refine g_run 2 132 [some (.ref a), some (.int x1), some (.int x2), some (.int x3), some (.int x4), none] [.int x2, .ref a, .int (h (a + 21) k20)] (fun _ => rfl) ?_
      obtain ⟨q21, eq21, e⟩ := g_bd e
      refine g_cV 135 rfl rfl rfl rfl rfl (Md_l ka) (Md_painted_s ka eq21) ?_
      refine g_if (p1 := 142) (L1 := [some (.ref a), some (.int x1), some (.int x2), some (.int x3), some (.int x4), none]) (S1 := []) (s1 := (l, r, h, j)) (p2 := 138) (L2 := [some (.ref a), some (.int x1), some (.int x2), some (.int x3), some (.int x4), none]) (S2 := []) (s2 := (l, r, h, j)) rfl (fun _ _ => rfl) e (fun c22 e => ?_) (fun c22 e => ?_)
      · refine g_run 1 143 [some (.ref a), some (.int x1), some (.int x2), some (.int x3), some (.int x4), none] [.int (0 : Int32)] (fun _ => rfl) ?_
        cases e
        exact g_ret rfl (fun _ _ => rfl)
      · refine g_run 2 143 [some (.ref a), some (.int x1), some (.int x2), some (.int x3), some (.int x4), none] [.int (3 : Int32)] (fun _ => rfl) ?_
        cases e
        exact g_ret rfl (fun _ _ => rfl)
  replace e := (if_neg c23).symm.trans e
  have ic6 : (Int32.toInt q1) ≠ 0 := g_ne c6
  have ic7 : (Int32.toInt q1) ≠ 1 := g_ne c7
  have ic17 : (Int32.toInt q1) ≠ 2 := g_ne c17
  have ic23 : (Int32.toInt q1) ≠ 3 := g_ne c23
  refine g_swd (p1 := 144) (L1 := [some (.ref a), some (.int x1), some (.int x2), some (.int x3), some (.int x4), none]) (S1 := []) (s1 := (l, r, h, j)) (x := q1) (lo := 0) (hi := 3) rfl (fun _ _ => rfl) (by omega) ?_
  refine g_run 3 147 [some (.ref a), some (.int x1), some (.int x2), some (.int x3), some (.int x4), none] [.int (3 : Int32), .int x1, .ref a] (fun _ => rfl) ?_
  obtain ⟨q24, eq24, e⟩ := g_bd e
  refine g_cV 150 rfl rfl rfl rfl rfl (Md_l ka) (Md_comer_s ka eq24) ?_
  refine g_run 3 153 [some (.ref a), some (.int x1), some (.int x2), some (.int x3), some (.int x4), none] [.int (4 : Int32), .int x1, .ref a, .int q24] (fun _ => rfl) ?_
  obtain ⟨q25, eq25, e⟩ := g_bd e
  refine g_cV 156 rfl rfl rfl rfl rfl (Md_l ka) (Md_comer_s ka eq25) ?_
  refine g_run 1 158 [some (.ref a), some (.int x1), some (.int x2), some (.int x3), some (.int x4), none] [.int x4, .int q25, .int q24] (fun _ => rfl) ?_
  obtain ⟨q26, eq26, e⟩ := g_bd e
  refine g_cS 161 rfl rfl (by decide) rfl rfl rfl (Md_costs_s eq26) ?_
  refine g_if (p1 := 168) (L1 := [some (.ref a), some (.int x1), some (.int x2), some (.int x3), some (.int x4), none]) (S1 := []) (s1 := (l, r, h, j)) (p2 := 164) (L2 := [some (.ref a), some (.int x1), some (.int x2), some (.int x3), some (.int x4), none]) (S2 := []) (s2 := (l, r, h, j)) rfl (fun _ _ => rfl) e (fun c27 e => ?_) (fun c27 e => ?_)
  · refine g_run 1 169 [some (.ref a), some (.int x1), some (.int x2), some (.int x3), some (.int x4), none] [.int (0 : Int32)] (fun _ => rfl) ?_
    cases e
    exact g_ret rfl (fun _ _ => rfl)
  · refine g_run 2 169 [some (.ref a), some (.int x1), some (.int x2), some (.int x3), some (.int x4), none] [.int (3 : Int32)] (fun _ => rfl) ?_
    cases e
    exact g_ret rfl (fun _ _ => rfl)
def Md_sits (a : Nat) (x1 : Int32) (x2 : Int32) (x3 : Int32) (x4 : Int32) (h : am_F) : Option (am_F) :=
  (Md_comer a x1 (3 : Int32) h).bind fun q1 =>
  (g_ix x1 14).bind fun k2 =>
  (Md_comer a x1 (4 : Int32) (am_up (am_up h a 36 ((h a 36) + q1)) a 38 (((am_up h a 36 ((h a 36) + q1)) a 38) + (1 : Int32)))).bind fun q3 =>
  (Md_costs q3 x4).bind fun q4 =>
  (g_ix x1 14).bind fun k5 =>
  (Md_print a x2 x3 x4 (am_up (am_up (am_up h a 36 ((h a 36) + q1)) a 38 (((am_up h a 36 ((h a 36) + q1)) a 38) + (1 : Int32))) (a + 15) k5 (((am_up (am_up h a 36 ((h a 36) + q1)) a 38 (((am_up h a 36 ((h a 36) + q1)) a 38) + (1 : Int32))) (a + 15) k2) + q4))).bind fun q6 =>
  (if x4 = (2 : Int32) then
      (g_ix ((55 : Int32) + ((4 : Int32) * x2)) 195).bind fun k9 =>
      some (q6 (a + 12) k9)
    else
      some (0 : Int32) : Option (Int32)).bind fun q10 =>
  (g_ix x2 6).bind fun k11 =>
  some (am_up (am_up q6 a 37 ((q6 a 37) + q10)) (a + 21) k11 x3)
theorem Md_sits_s {X : Nat × (Nat → Int32)} {l : List (Nat × Nat)} {r : am_R} {h : am_F} {j : am_J} {a : Nat} {x1 : Int32} {x2 : Int32} {x3 : Int32} {x4 : Int32} (ka : Md_K l r a) {q : am_F} (e : Md_sits a x1 x2 x3 x4 h = some q) : Call X 211 [.ref a, .int x1, .int x2, .int x3, .int x4] (l, r, h, j) (none, (l, r, q, j)) := by
  unfold Md_sits at e
  refine ⟨Nat.le_of_ble_eq_true rfl, ?_⟩
  show Ev X 211 0 [some (.ref a), some (.int x1), some (.int x2), some (.int x3), some (.int x4)] [] (l, r, h, j) _
  refine g_run 2 2 [some (.ref a), some (.int x1), some (.int x2), some (.int x3), some (.int x4)] [.ref a, .ref a] (fun _ => rfl) ?_
  refine g_getI 5 rfl rfl (Md_l ka) ?_
  refine g_run 3 8 [some (.ref a), some (.int x1), some (.int x2), some (.int x3), some (.int x4)] [.int (3 : Int32), .int x1, .ref a, .int (h a 36), .ref a] (fun _ => rfl) ?_
  obtain ⟨q1, eq1, e⟩ := g_bd e
  refine g_cV 11 rfl rfl rfl rfl rfl (Md_l ka) (Md_comer_s ka eq1) ?_
  refine g_run 1 12 [some (.ref a), some (.int x1), some (.int x2), some (.int x3), some (.int x4)] [.int ((h a 36) + q1), .ref a] (fun _ => rfl) ?_
  refine g_putI 15 rfl rfl (Md_l ka) ?_
  refine g_run 2 17 [some (.ref a), some (.int x1), some (.int x2), some (.int x3), some (.int x4)] [.ref a, .ref a] (fun _ => rfl) ?_
  refine g_getI 20 rfl rfl (Md_l ka) ?_
  refine g_run 2 22 [some (.ref a), some (.int x1), some (.int x2), some (.int x3), some (.int x4)] [.int (((am_up h a 36 ((h a 36) + q1)) a 38) + (1 : Int32)), .ref a] (fun _ => rfl) ?_
  refine g_putI 25 rfl rfl (Md_l ka) ?_
  refine g_run 1 26 [some (.ref a), some (.int x1), some (.int x2), some (.int x3), some (.int x4)] [.ref a] (fun _ => rfl) ?_
  refine g_getA 29 rfl rfl (Md_l ka) (Md_r26 ka) ?_
  refine g_run 2 31 [some (.ref a), some (.int x1), some (.int x2), some (.int x3), some (.int x4)] [.int x1, .ref (a + 15), .int x1, .ref (a + 15)] (fun _ => rfl) ?_
  obtain ⟨k2, ek2, e⟩ := g_bd e
  refine g_iald 32 rfl rfl (Md_k26 ka) ek2 ?_
  refine g_run 3 35 [some (.ref a), some (.int x1), some (.int x2), some (.int x3), some (.int x4)] [.int (4 : Int32), .int x1, .ref a, .int ((am_up (am_up h a 36 ((h a 36) + q1)) a 38 (((am_up h a 36 ((h a 36) + q1)) a 38) + (1 : Int32))) (a + 15) k2), .int x1, .ref (a + 15)] (fun _ => rfl) ?_
  obtain ⟨q3, eq3, e⟩ := g_bd e
  refine g_cV 38 rfl rfl rfl rfl rfl (Md_l ka) (Md_comer_s ka eq3) ?_
  refine g_run 1 40 [some (.ref a), some (.int x1), some (.int x2), some (.int x3), some (.int x4)] [.int x4, .int q3, .int ((am_up (am_up h a 36 ((h a 36) + q1)) a 38 (((am_up h a 36 ((h a 36) + q1)) a 38) + (1 : Int32))) (a + 15) k2), .int x1, .ref (a + 15)] (fun _ => rfl) ?_
  obtain ⟨q4, eq4, e⟩ := g_bd e
  refine g_cS 43 rfl rfl (by decide) rfl rfl rfl (Md_costs_s eq4) ?_
  refine g_run 1 44 [some (.ref a), some (.int x1), some (.int x2), some (.int x3), some (.int x4)] [.int (((am_up (am_up h a 36 ((h a 36) + q1)) a 38 (((am_up h a 36 ((h a 36) + q1)) a 38) + (1 : Int32))) (a + 15) k2) + q4), .int x1, .ref (a + 15)] (fun _ => rfl) ?_
  obtain ⟨k5, ek5, e⟩ := g_bd e
  refine g_iast 45 rfl rfl (Md_k26 ka) ek5 ?_
  refine g_run 4 50 [some (.ref a), some (.int x1), some (.int x2), some (.int x3), some (.int x4)] [.int x4, .int x3, .int x2, .ref a] (fun _ => rfl) ?_
  obtain ⟨q6, eq6, e⟩ := g_bd e
  refine g_cVv 53 rfl rfl rfl rfl rfl (Md_l ka) (Md_print_s ka eq6) ?_
  refine g_run 2 55 [some (.ref a), some (.int x1), some (.int x2), some (.int x3), some (.int x4)] [.ref a, .ref a] (fun _ => rfl) ?_
  refine g_getI 58 rfl rfl (Md_l ka) ?_
  refine g_run 2 61 [some (.ref a), some (.int x1), some (.int x2), some (.int x3), some (.int x4)] [.int (2 : Int32), .int x4, .int (q6 a 37), .ref a] (fun _ => rfl) ?_
  obtain ⟨q10, eq10, e⟩ := g_bd e
  have hjq10 : ∀ (_ : True), Ev X 211 79 [some (.ref a), some (.int x1), some (.int x2), some (.int x3), some (.int x4)] [.int q10, .int (q6 a 37), .ref a] (l, r, q6, j) (none, (l, r, q, j)) := by
    intro _
    refine g_run 1 80 [some (.ref a), some (.int x1), some (.int x2), some (.int x3), some (.int x4)] [.int ((q6 a 37) + q10), .ref a] (fun _ => rfl) ?_
    refine g_putI 83 rfl rfl (Md_l ka) ?_
    refine g_run 1 84 [some (.ref a), some (.int x1), some (.int x2), some (.int x3), some (.int x4)] [.ref a] (fun _ => rfl) ?_
    refine g_getA 87 rfl rfl (Md_l ka) (Md_r32 ka) ?_
    refine g_run 2 89 [some (.ref a), some (.int x1), some (.int x2), some (.int x3), some (.int x4)] [.int x3, .int x2, .ref (a + 21)] (fun _ => rfl) ?_
    obtain ⟨k11, ek11, e⟩ := g_bd e
    refine g_iast 90 rfl rfl (Md_k32 ka) ek11 ?_
    cases e
    exact g_ret rfl (fun _ _ => rfl)
  replace e := eq10
  refine g_if (p1 := 64) (L1 := [some (.ref a), some (.int x1), some (.int x2), some (.int x3), some (.int x4)]) (S1 := [.int (q6 a 37), .ref a]) (s1 := (l, r, q6, j)) (p2 := 78) (L2 := [some (.ref a), some (.int x1), some (.int x2), some (.int x3), some (.int x4)]) (S2 := [.int (q6 a 37), .ref a]) (s2 := (l, r, q6, j)) rfl (fun _ _ => rfl) e (fun c7 e => ?_) (fun c7 e => ?_)
  · refine g_run 1 65 [some (.ref a), some (.int x1), some (.int x2), some (.int x3), some (.int x4)] [.ref a, .int (q6 a 37), .ref a] (fun _ => rfl) ?_
    refine g_getA 68 rfl rfl (Md_l ka) (Md_r23 ka) ?_
    refine g_run 5 74 [some (.ref a), some (.int x1), some (.int x2), some (.int x3), some (.int x4)] [.int ((55 : Int32) + ((4 : Int32) * x2)), .ref (a + 12), .int (q6 a 37), .ref a] (fun _ => rfl) ?_
    obtain ⟨k9, ek9, e⟩ := g_bd e
    refine g_iald 75 rfl rfl (Md_k23 ka) ek9 ?_
    refine g_run 1 79 [some (.ref a), some (.int x1), some (.int x2), some (.int x3), some (.int x4)] [.int (q6 (a + 12) k9), .int (q6 a 37), .ref a] (fun _ => rfl) ?_
    cases e
    exact hjq10 trivial
  · refine g_run 1 79 [some (.ref a), some (.int x1), some (.int x2), some (.int x3), some (.int x4)] [.int (0 : Int32), .int (q6 a 37), .ref a] (fun _ => rfl) ?_
    cases e
    exact hjq10 trivial
def Md_comes (a : Nat) (x1 : Int32) (h : am_F) : Option (am_F) :=
  (Md_comer a x1 (2 : Int32) h).bind fun q1 =>
  (Md_comer a x1 (1 : Int32) h).bind fun q2 =>
  (Md_painted a q1 h).bind fun q3 =>
  (Md_stage a q3 q2 h).bind fun q4 =>
  (Md_choice a x1 q1 q2 q4 h).bind fun q5 =>
  (g_ix x1 14).bind fun k6 =>
  (Md_hangs a q1 q2 (am_up h (a + 14) k6 q4)).bind fun q7 =>
  (if q7 = 0 then
      some (0 : Int32)
    else
      some (1 : Int32) : Option (Int32)).bind fun q10 =>
  (g_ix x1 14).bind fun k11 =>
  (Md_believes a (am_up (am_up h (a + 14) k6 q4) (a + 17) k11 q10)).bind fun q12 =>
  (if q12 = 0 then
      some (0 : Int32)
    else
      some (1 : Int32) : Option (Int32)).bind fun q15 =>
  (g_ix x1 14).bind fun k16 =>
  (g_ix x1 14).bind fun k17 =>
  (if q5 = (1 : Int32) then
      (Md_comer a x1 (5 : Int32) (am_up (am_up (am_up (am_up h (a + 14) k6 q4) (a + 17) k11 q10) (a + 18) k16 q15) (a + 15) k17 (0 : Int32))).bind fun q20 =>
      (Md_costs q20 q4).bind fun q21 =>
      (g_ix x1 14).bind fun k22 =>
      (Md_print a q1 q2 q4 (am_up (am_up (am_up (am_up (am_up h (a + 14) k6 q4) (a + 17) k11 q10) (a + 18) k16 q15) (a + 15) k17 (0 : Int32)) (a + 15) k22 q21)).bind fun q23 =>
      (if q4 = 0 then
          some (2 : Int32)
        else
          some (1 : Int32) : Option (Int32)).bind fun q26 =>
      some (q26, q23)
    else
      some (q5, (am_up (am_up (am_up (am_up h (a + 14) k6 q4) (a + 17) k11 q10) (a + 18) k16 q15) (a + 15) k17 (0 : Int32))) : Option (Int32 × am_F)).bind fun q27 =>
  (if q27.1 < (2 : Int32) then
      some q27.2
    else
      (Md_sits a x1 q1 q2 q4 q27.2).bind fun q30 =>
      some q30 : Option (am_F)).bind fun q31 =>
  (if (2 : Int32) ≤ q27.1 then
      some (0 : Int32)
    else
      if q4 = 0 then
        (Md_comer a x1 (3 : Int32) q31).bind fun q35 =>
        some q35
      else
        some (0 : Int32) : Option (Int32)).bind fun q36 =>
  (g_ix x1 14).bind fun k37 =>
  (g_ix x1 14).bind fun k38 =>
  (g_ix x1 14).bind fun k39 =>
  (g_ix x1 14).bind fun k40 =>
  if q27.1 = 0 then
    some (am_up (am_up (am_up q31 (a + 16) k37 q36) a 35 (((am_up q31 (a + 16) k37 q36) a 35) + (((am_up q31 (a + 16) k37 q36) (a + 15) k38) + ((am_up q31 (a + 16) k37 q36) (a + 16) k39)))) (a + 13) k40 q27.1)
  else
    (g_ix x1 14).bind fun k42 =>
    if ((am_up (am_up (am_up q31 (a + 16) k37 q36) a 35 (((am_up q31 (a + 16) k37 q36) a 35) + (((am_up q31 (a + 16) k37 q36) (a + 15) k38) + ((am_up q31 (a + 16) k37 q36) (a + 16) k39)))) (a + 13) k40 q27.1) (a + 17) k42) = (1 : Int32) then
      (if q4 = 0 then
          some (0 : Int32)
        else
          some (1 : Int32) : Option (Int32)).bind fun q46 =>
      some (am_up (am_up (am_up (am_up (am_up q31 (a + 16) k37 q36) a 35 (((am_up q31 (a + 16) k37 q36) a 35) + (((am_up q31 (a + 16) k37 q36) (a + 15) k38) + ((am_up q31 (a + 16) k37 q36) (a + 16) k39)))) (a + 13) k40 q27.1) a 40 (((am_up (am_up (am_up q31 (a + 16) k37 q36) a 35 (((am_up q31 (a + 16) k37 q36) a 35) + (((am_up q31 (a + 16) k37 q36) (a + 15) k38) + ((am_up q31 (a + 16) k37 q36) (a + 16) k39)))) (a + 13) k40 q27.1) a 40) + (1 : Int32))) a 39 (((am_up (am_up (am_up (am_up q31 (a + 16) k37 q36) a 35 (((am_up q31 (a + 16) k37 q36) a 35) + (((am_up q31 (a + 16) k37 q36) (a + 15) k38) + ((am_up q31 (a + 16) k37 q36) (a + 16) k39)))) (a + 13) k40 q27.1) a 40 (((am_up (am_up (am_up q31 (a + 16) k37 q36) a 35 (((am_up q31 (a + 16) k37 q36) a 35) + (((am_up q31 (a + 16) k37 q36) (a + 15) k38) + ((am_up q31 (a + 16) k37 q36) (a + 16) k39)))) (a + 13) k40 q27.1) a 40) + (1 : Int32))) a 39) + q46))
    else
      some (am_up (am_up (am_up q31 (a + 16) k37 q36) a 35 (((am_up q31 (a + 16) k37 q36) a 35) + (((am_up q31 (a + 16) k37 q36) (a + 15) k38) + ((am_up q31 (a + 16) k37 q36) (a + 16) k39)))) (a + 13) k40 q27.1)
theorem Md_comes_s {X : Nat × (Nat → Int32)} {l : List (Nat × Nat)} {r : am_R} {h : am_F} {j : am_J} {a : Nat} {x1 : Int32} (ka : Md_K l r a) {q : am_F} (e : Md_comes a x1 h = some q) : Call X 212 [.ref a, .int x1] (l, r, h, j) (none, (l, r, q, j)) := by
  unfold Md_comes at e
  refine ⟨Nat.le_of_ble_eq_true rfl, ?_⟩
  show Ev X 212 0 [some (.ref a), some (.int x1), none, none, none, none] [] (l, r, h, j) _
  refine g_run 3 3 [some (.ref a), some (.int x1), none, none, none, none] [.int (2 : Int32), .int x1, .ref a] (fun _ => rfl) ?_
  obtain ⟨q1, eq1, e⟩ := g_bd e
  refine g_cV 6 rfl rfl rfl rfl rfl (Md_l ka) (Md_comer_s ka eq1) ?_
  refine g_run 4 10 [some (.ref a), some (.int x1), some (.int q1), none, none, none] [.int (1 : Int32), .int x1, .ref a] (fun _ => rfl) ?_
  obtain ⟨q2, eq2, e⟩ := g_bd e
  refine g_cV 13 rfl rfl rfl rfl rfl (Md_l ka) (Md_comer_s ka eq2) ?_
  refine g_run 4 17 [some (.ref a), some (.int x1), some (.int q1), some (.int q2), none, none] [.int q1, .ref a, .ref a] (fun _ => rfl) ?_
  obtain ⟨q3, eq3, e⟩ := g_bd e
  refine g_cV 20 rfl rfl rfl rfl rfl (Md_l ka) (Md_painted_s ka eq3) ?_
  refine g_run 1 21 [some (.ref a), some (.int x1), some (.int q1), some (.int q2), none, none] [.int q2, .int q3, .ref a] (fun _ => rfl) ?_
  obtain ⟨q4, eq4, e⟩ := g_bd e
  refine g_cV 24 rfl rfl rfl rfl rfl (Md_l ka) (Md_stage_s ka eq4) ?_
  refine g_run 6 32 [some (.ref a), some (.int x1), some (.int q1), some (.int q2), some (.int q4), none] [.int q4, .int q2, .int q1, .int x1, .ref a] (fun _ => rfl) ?_
  obtain ⟨q5, eq5, e⟩ := g_bd e
  refine g_cV 35 rfl rfl rfl rfl rfl (Md_l ka) (Md_choice_s ka eq5) ?_
  refine g_run 2 38 [some (.ref a), some (.int x1), some (.int q1), some (.int q2), some (.int q4), some (.int q5)] [.ref a] (fun _ => rfl) ?_
  refine g_getA 41 rfl rfl (Md_l ka) (Md_r25 ka) ?_
  refine g_run 2 44 [some (.ref a), some (.int x1), some (.int q1), some (.int q2), some (.int q4), some (.int q5)] [.int q4, .int x1, .ref (a + 14)] (fun _ => rfl) ?_
  obtain ⟨k6, ek6, e⟩ := g_bd e
  refine g_iast 45 rfl rfl (Md_k25 ka) ek6 ?_
  refine g_run 1 46 [some (.ref a), some (.int x1), some (.int q1), some (.int q2), some (.int q4), some (.int q5)] [.ref a] (fun _ => rfl) ?_
  refine g_getA 49 rfl rfl (Md_l ka) (Md_r28 ka) ?_
  refine g_run 4 53 [some (.ref a), some (.int x1), some (.int q1), some (.int q2), some (.int q4), some (.int q5)] [.int q2, .int q1, .ref a, .int x1, .ref (a + 17)] (fun _ => rfl) ?_
  obtain ⟨q7, eq7, e⟩ := g_bd e
  refine g_cV 56 rfl rfl rfl rfl rfl (Md_l ka) (Md_hangs_s ka eq7) ?_
  obtain ⟨q10, eq10, e⟩ := g_bd e
  have hjq10 : ∀ (_ : True), Ev X 212 64 [some (.ref a), some (.int x1), some (.int q1), some (.int q2), some (.int q4), some (.int q5)] [.int q10, .int x1, .ref (a + 17)] (l, r, (am_up h (a + 14) k6 q4), j) (none, (l, r, q, j)) := by
    intro _
    obtain ⟨k11, ek11, e⟩ := g_bd e
    refine g_iast 65 rfl rfl (Md_k28 ka) ek11 ?_
    refine g_run 1 66 [some (.ref a), some (.int x1), some (.int q1), some (.int q2), some (.int q4), some (.int q5)] [.ref a] (fun _ => rfl) ?_
    refine g_getA 69 rfl rfl (Md_l ka) (Md_r29 ka) ?_
    refine g_run 2 71 [some (.ref a), some (.int x1), some (.int q1), some (.int q2), some (.int q4), some (.int q5)] [.ref a, .int x1, .ref (a + 18)] (fun _ => rfl) ?_
    obtain ⟨q12, eq12, e⟩ := g_bd e
    refine g_cV 74 rfl rfl rfl rfl rfl (Md_l ka) (Md_believes_s ka eq12) ?_
    obtain ⟨q15, eq15, e⟩ := g_bd e
    have hjq15 : ∀ (_ : True), Ev X 212 82 [some (.ref a), some (.int x1), some (.int q1), some (.int q2), some (.int q4), some (.int q5)] [.int q15, .int x1, .ref (a + 18)] (l, r, (am_up (am_up h (a + 14) k6 q4) (a + 17) k11 q10), j) (none, (l, r, q, j)) := by
      intro _
      obtain ⟨k16, ek16, e⟩ := g_bd e
      refine g_iast 83 rfl rfl (Md_k29 ka) ek16 ?_
      refine g_run 1 84 [some (.ref a), some (.int x1), some (.int q1), some (.int q2), some (.int q4), some (.int q5)] [.ref a] (fun _ => rfl) ?_
      refine g_getA 87 rfl rfl (Md_l ka) (Md_r26 ka) ?_
      refine g_run 2 89 [some (.ref a), some (.int x1), some (.int q1), some (.int q2), some (.int q4), some (.int q5)] [.int (0 : Int32), .int x1, .ref (a + 15)] (fun _ => rfl) ?_
      obtain ⟨k17, ek17, e⟩ := g_bd e
      refine g_iast 90 rfl rfl (Md_k26 ka) ek17 ?_
      refine g_run 2 93 [some (.ref a), some (.int x1), some (.int q1), some (.int q2), some (.int q4), some (.int q5)] [.int (1 : Int32), .int q5] (fun _ => rfl) ?_
      obtain ⟨q27, eq27, e⟩ := g_bd e
      have hjq27 : ∀ (_ : True), Ev X 212 133 [some (.ref a), some (.int x1), some (.int q1), some (.int q2), some (.int q4), some (.int q27.1)] [] (l, r, q27.2, j) (none, (l, r, q, j)) := by
        intro _
        refine g_run 2 136 [some (.ref a), some (.int x1), some (.int q1), some (.int q2), some (.int q4), some (.int q27.1)] [.int (2 : Int32), .int q27.1] (fun _ => rfl) ?_
        obtain ⟨q31, eq31, e⟩ := g_bd e
        have hjq31 : ∀ (_ : True), Ev X 212 148 [some (.ref a), some (.int x1), some (.int q1), some (.int q2), some (.int q4), some (.int q27.1)] [] (l, r, q31, j) (none, (l, r, q, j)) := by
          intro _
          refine g_run 1 149 [some (.ref a), some (.int x1), some (.int q1), some (.int q2), some (.int q4), some (.int q27.1)] [.ref a] (fun _ => rfl) ?_
          refine g_getA 152 rfl rfl (Md_l ka) (Md_r27 ka) ?_
          refine g_run 3 156 [some (.ref a), some (.int x1), some (.int q1), some (.int q2), some (.int q4), some (.int q27.1)] [.int (2 : Int32), .int q27.1, .int x1, .ref (a + 16)] (fun _ => rfl) ?_
          obtain ⟨q36, eq36, e⟩ := g_bd e
          have hjq36 : ∀ (_ : True), Ev X 212 174 [some (.ref a), some (.int x1), some (.int q1), some (.int q2), some (.int q4), some (.int q27.1)] [.int q36, .int x1, .ref (a + 16)] (l, r, q31, j) (none, (l, r, q, j)) := by
            intro _
            obtain ⟨k37, ek37, e⟩ := g_bd e
            refine g_iast 175 rfl rfl (Md_k27 ka) ek37 ?_
            refine g_run 2 177 [some (.ref a), some (.int x1), some (.int q1), some (.int q2), some (.int q4), some (.int q27.1)] [.ref a, .ref a] (fun _ => rfl) ?_
            refine g_getI 180 rfl rfl (Md_l ka) ?_
            refine g_run 1 181 [some (.ref a), some (.int x1), some (.int q1), some (.int q2), some (.int q4), some (.int q27.1)] [.ref a, .int ((am_up q31 (a + 16) k37 q36) a 35), .ref a] (fun _ => rfl) ?_
            refine g_getA 184 rfl rfl (Md_l ka) (Md_r26 ka) ?_
            refine g_run 1 185 [some (.ref a), some (.int x1), some (.int q1), some (.int q2), some (.int q4), some (.int q27.1)] [.int x1, .ref (a + 15), .int ((am_up q31 (a + 16) k37 q36) a 35), .ref a] (fun _ => rfl) ?_
            obtain ⟨k38, ek38, e⟩ := g_bd e
            refine g_iald 186 rfl rfl (Md_k26 ka) ek38 ?_
            refine g_run 1 187 [some (.ref a), some (.int x1), some (.int q1), some (.int q2), some (.int q4), some (.int q27.1)] [.ref a, .int ((am_up q31 (a + 16) k37 q36) (a + 15) k38), .int ((am_up q31 (a + 16) k37 q36) a 35), .ref a] (fun _ => rfl) ?_
            refine g_getA 190 rfl rfl (Md_l ka) (Md_r27 ka) ?_
            refine g_run 1 191 [some (.ref a), some (.int x1), some (.int q1), some (.int q2), some (.int q4), some (.int q27.1)] [.int x1, .ref (a + 16), .int ((am_up q31 (a + 16) k37 q36) (a + 15) k38), .int ((am_up q31 (a + 16) k37 q36) a 35), .ref a] (fun _ => rfl) ?_
            obtain ⟨k39, ek39, e⟩ := g_bd e
            refine g_iald 192 rfl rfl (Md_k27 ka) ek39 ?_
            refine g_run 2 194 [some (.ref a), some (.int x1), some (.int q1), some (.int q2), some (.int q4), some (.int q27.1)] [.int (((am_up q31 (a + 16) k37 q36) a 35) + (((am_up q31 (a + 16) k37 q36) (a + 15) k38) + ((am_up q31 (a + 16) k37 q36) (a + 16) k39))), .ref a] (fun _ => rfl) ?_
            refine g_putI 197 rfl rfl (Md_l ka) ?_
            refine g_run 1 198 [some (.ref a), some (.int x1), some (.int q1), some (.int q2), some (.int q4), some (.int q27.1)] [.ref a] (fun _ => rfl) ?_
            refine g_getA 201 rfl rfl (Md_l ka) (Md_r24 ka) ?_
            refine g_run 2 204 [some (.ref a), some (.int x1), some (.int q1), some (.int q2), some (.int q4), some (.int q27.1)] [.int q27.1, .int x1, .ref (a + 13)] (fun _ => rfl) ?_
            obtain ⟨k40, ek40, e⟩ := g_bd e
            refine g_iast 205 rfl rfl (Md_k24 ka) ek40 ?_
            refine g_run 1 207 [some (.ref a), some (.int x1), some (.int q1), some (.int q2), some (.int q4), some (.int q27.1)] [.int q27.1] (fun _ => rfl) ?_
            refine g_if (p1 := 249) (L1 := [some (.ref a), some (.int x1), some (.int q1), some (.int q2), some (.int q4), some (.int q27.1)]) (S1 := []) (s1 := (l, r, (am_up (am_up (am_up q31 (a + 16) k37 q36) a 35 (((am_up q31 (a + 16) k37 q36) a 35) + (((am_up q31 (a + 16) k37 q36) (a + 15) k38) + ((am_up q31 (a + 16) k37 q36) (a + 16) k39)))) (a + 13) k40 q27.1), j)) (p2 := 210) (L2 := [some (.ref a), some (.int x1), some (.int q1), some (.int q2), some (.int q4), some (.int q27.1)]) (S2 := []) (s2 := (l, r, (am_up (am_up (am_up q31 (a + 16) k37 q36) a 35 (((am_up q31 (a + 16) k37 q36) a 35) + (((am_up q31 (a + 16) k37 q36) (a + 15) k38) + ((am_up q31 (a + 16) k37 q36) (a + 16) k39)))) (a + 13) k40 q27.1), j)) rfl (fun _ _ => rfl) e (fun c41 e => ?_) (fun c41 e => ?_)
            · cases e
              exact g_ret rfl (fun _ _ => rfl)
            · refine g_run 1 211 [some (.ref a), some (.int x1), some (.int q1), some (.int q2), some (.int q4), some (.int q27.1)] [.ref a] (fun _ => rfl) ?_
              refine g_getA 214 rfl rfl (Md_l ka) (Md_r28 ka) ?_
              refine g_run 1 215 [some (.ref a), some (.int x1), some (.int q1), some (.int q2), some (.int q4), some (.int q27.1)] [.int x1, .ref (a + 17)] (fun _ => rfl) ?_
              obtain ⟨k42, ek42, e⟩ := g_bd e
              refine g_iald 216 rfl rfl (Md_k28 ka) ek42 ?_
              refine g_run 1 217 [some (.ref a), some (.int x1), some (.int q1), some (.int q2), some (.int q4), some (.int q27.1)] [.int (1 : Int32), .int ((am_up (am_up (am_up q31 (a + 16) k37 q36) a 35 (((am_up q31 (a + 16) k37 q36) a 35) + (((am_up q31 (a + 16) k37 q36) (a + 15) k38) + ((am_up q31 (a + 16) k37 q36) (a + 16) k39)))) (a + 13) k40 q27.1) (a + 17) k42)] (fun _ => rfl) ?_
              refine g_if (p1 := 220) (L1 := [some (.ref a), some (.int x1), some (.int q1), some (.int q2), some (.int q4), some (.int q27.1)]) (S1 := []) (s1 := (l, r, (am_up (am_up (am_up q31 (a + 16) k37 q36) a 35 (((am_up q31 (a + 16) k37 q36) a 35) + (((am_up q31 (a + 16) k37 q36) (a + 15) k38) + ((am_up q31 (a + 16) k37 q36) (a + 16) k39)))) (a + 13) k40 q27.1), j)) (p2 := 249) (L2 := [some (.ref a), some (.int x1), some (.int q1), some (.int q2), some (.int q4), some (.int q27.1)]) (S2 := []) (s2 := (l, r, (am_up (am_up (am_up q31 (a + 16) k37 q36) a 35 (((am_up q31 (a + 16) k37 q36) a 35) + (((am_up q31 (a + 16) k37 q36) (a + 15) k38) + ((am_up q31 (a + 16) k37 q36) (a + 16) k39)))) (a + 13) k40 q27.1), j)) rfl (fun _ _ => rfl) e (fun c43 e => ?_) (fun c43 e => ?_)
              · refine g_run 2 222 [some (.ref a), some (.int x1), some (.int q1), some (.int q2), some (.int q4), some (.int q27.1)] [.ref a, .ref a] (fun _ => rfl) ?_
                refine g_getI 225 rfl rfl (Md_l ka) ?_
                refine g_run 2 227 [some (.ref a), some (.int x1), some (.int q1), some (.int q2), some (.int q4), some (.int q27.1)] [.int (((am_up (am_up (am_up q31 (a + 16) k37 q36) a 35 (((am_up q31 (a + 16) k37 q36) a 35) + (((am_up q31 (a + 16) k37 q36) (a + 15) k38) + ((am_up q31 (a + 16) k37 q36) (a + 16) k39)))) (a + 13) k40 q27.1) a 40) + (1 : Int32)), .ref a] (fun _ => rfl) ?_
                refine g_putI 230 rfl rfl (Md_l ka) ?_
                refine g_run 2 232 [some (.ref a), some (.int x1), some (.int q1), some (.int q2), some (.int q4), some (.int q27.1)] [.ref a, .ref a] (fun _ => rfl) ?_
                refine g_getI 235 rfl rfl (Md_l ka) ?_
                refine g_run 1 237 [some (.ref a), some (.int x1), some (.int q1), some (.int q2), some (.int q4), some (.int q27.1)] [.int q4, .int ((am_up (am_up (am_up (am_up q31 (a + 16) k37 q36) a 35 (((am_up q31 (a + 16) k37 q36) a 35) + (((am_up q31 (a + 16) k37 q36) (a + 15) k38) + ((am_up q31 (a + 16) k37 q36) (a + 16) k39)))) (a + 13) k40 q27.1) a 40 (((am_up (am_up (am_up q31 (a + 16) k37 q36) a 35 (((am_up q31 (a + 16) k37 q36) a 35) + (((am_up q31 (a + 16) k37 q36) (a + 15) k38) + ((am_up q31 (a + 16) k37 q36) (a + 16) k39)))) (a + 13) k40 q27.1) a 40) + (1 : Int32))) a 39), .ref a] (fun _ => rfl) ?_
                obtain ⟨q46, eq46, e⟩ := g_bd e
                have hjq46 : ∀ (_ : True), Ev X 212 245 [some (.ref a), some (.int x1), some (.int q1), some (.int q2), some (.int q4), some (.int q27.1)] [.int q46, .int ((am_up (am_up (am_up (am_up q31 (a + 16) k37 q36) a 35 (((am_up q31 (a + 16) k37 q36) a 35) + (((am_up q31 (a + 16) k37 q36) (a + 15) k38) + ((am_up q31 (a + 16) k37 q36) (a + 16) k39)))) (a + 13) k40 q27.1) a 40 (((am_up (am_up (am_up q31 (a + 16) k37 q36) a 35 (((am_up q31 (a + 16) k37 q36) a 35) + (((am_up q31 (a + 16) k37 q36) (a + 15) k38) + ((am_up q31 (a + 16) k37 q36) (a + 16) k39)))) (a + 13) k40 q27.1) a 40) + (1 : Int32))) a 39), .ref a] (l, r, (am_up (am_up (am_up (am_up q31 (a + 16) k37 q36) a 35 (((am_up q31 (a + 16) k37 q36) a 35) + (((am_up q31 (a + 16) k37 q36) (a + 15) k38) + ((am_up q31 (a + 16) k37 q36) (a + 16) k39)))) (a + 13) k40 q27.1) a 40 (((am_up (am_up (am_up q31 (a + 16) k37 q36) a 35 (((am_up q31 (a + 16) k37 q36) a 35) + (((am_up q31 (a + 16) k37 q36) (a + 15) k38) + ((am_up q31 (a + 16) k37 q36) (a + 16) k39)))) (a + 13) k40 q27.1) a 40) + (1 : Int32))), j) (none, (l, r, q, j)) := by
                  intro _
                  refine g_run 1 246 [some (.ref a), some (.int x1), some (.int q1), some (.int q2), some (.int q4), some (.int q27.1)] [.int (((am_up (am_up (am_up (am_up q31 (a + 16) k37 q36) a 35 (((am_up q31 (a + 16) k37 q36) a 35) + (((am_up q31 (a + 16) k37 q36) (a + 15) k38) + ((am_up q31 (a + 16) k37 q36) (a + 16) k39)))) (a + 13) k40 q27.1) a 40 (((am_up (am_up (am_up q31 (a + 16) k37 q36) a 35 (((am_up q31 (a + 16) k37 q36) a 35) + (((am_up q31 (a + 16) k37 q36) (a + 15) k38) + ((am_up q31 (a + 16) k37 q36) (a + 16) k39)))) (a + 13) k40 q27.1) a 40) + (1 : Int32))) a 39) + q46), .ref a] (fun _ => rfl) ?_
                  refine g_putI 249 rfl rfl (Md_l ka) ?_
                  cases e
                  exact g_ret rfl (fun _ _ => rfl)
                replace e := eq46
                refine g_if (p1 := 240) (L1 := [some (.ref a), some (.int x1), some (.int q1), some (.int q2), some (.int q4), some (.int q27.1)]) (S1 := [.int ((am_up (am_up (am_up (am_up q31 (a + 16) k37 q36) a 35 (((am_up q31 (a + 16) k37 q36) a 35) + (((am_up q31 (a + 16) k37 q36) (a + 15) k38) + ((am_up q31 (a + 16) k37 q36) (a + 16) k39)))) (a + 13) k40 q27.1) a 40 (((am_up (am_up (am_up q31 (a + 16) k37 q36) a 35 (((am_up q31 (a + 16) k37 q36) a 35) + (((am_up q31 (a + 16) k37 q36) (a + 15) k38) + ((am_up q31 (a + 16) k37 q36) (a + 16) k39)))) (a + 13) k40 q27.1) a 40) + (1 : Int32))) a 39), .ref a]) (s1 := (l, r, (am_up (am_up (am_up (am_up q31 (a + 16) k37 q36) a 35 (((am_up q31 (a + 16) k37 q36) a 35) + (((am_up q31 (a + 16) k37 q36) (a + 15) k38) + ((am_up q31 (a + 16) k37 q36) (a + 16) k39)))) (a + 13) k40 q27.1) a 40 (((am_up (am_up (am_up q31 (a + 16) k37 q36) a 35 (((am_up q31 (a + 16) k37 q36) a 35) + (((am_up q31 (a + 16) k37 q36) (a + 15) k38) + ((am_up q31 (a + 16) k37 q36) (a + 16) k39)))) (a + 13) k40 q27.1) a 40) + (1 : Int32))), j)) (p2 := 244) (L2 := [some (.ref a), some (.int x1), some (.int q1), some (.int q2), some (.int q4), some (.int q27.1)]) (S2 := [.int ((am_up (am_up (am_up (am_up q31 (a + 16) k37 q36) a 35 (((am_up q31 (a + 16) k37 q36) a 35) + (((am_up q31 (a + 16) k37 q36) (a + 15) k38) + ((am_up q31 (a + 16) k37 q36) (a + 16) k39)))) (a + 13) k40 q27.1) a 40 (((am_up (am_up (am_up q31 (a + 16) k37 q36) a 35 (((am_up q31 (a + 16) k37 q36) a 35) + (((am_up q31 (a + 16) k37 q36) (a + 15) k38) + ((am_up q31 (a + 16) k37 q36) (a + 16) k39)))) (a + 13) k40 q27.1) a 40) + (1 : Int32))) a 39), .ref a]) (s2 := (l, r, (am_up (am_up (am_up (am_up q31 (a + 16) k37 q36) a 35 (((am_up q31 (a + 16) k37 q36) a 35) + (((am_up q31 (a + 16) k37 q36) (a + 15) k38) + ((am_up q31 (a + 16) k37 q36) (a + 16) k39)))) (a + 13) k40 q27.1) a 40 (((am_up (am_up (am_up q31 (a + 16) k37 q36) a 35 (((am_up q31 (a + 16) k37 q36) a 35) + (((am_up q31 (a + 16) k37 q36) (a + 15) k38) + ((am_up q31 (a + 16) k37 q36) (a + 16) k39)))) (a + 13) k40 q27.1) a 40) + (1 : Int32))), j)) rfl (fun _ _ => rfl) e (fun c44 e => ?_) (fun c44 e => ?_)
                · refine g_run 2 245 [some (.ref a), some (.int x1), some (.int q1), some (.int q2), some (.int q4), some (.int q27.1)] [.int (0 : Int32), .int ((am_up (am_up (am_up (am_up q31 (a + 16) k37 q36) a 35 (((am_up q31 (a + 16) k37 q36) a 35) + (((am_up q31 (a + 16) k37 q36) (a + 15) k38) + ((am_up q31 (a + 16) k37 q36) (a + 16) k39)))) (a + 13) k40 q27.1) a 40 (((am_up (am_up (am_up q31 (a + 16) k37 q36) a 35 (((am_up q31 (a + 16) k37 q36) a 35) + (((am_up q31 (a + 16) k37 q36) (a + 15) k38) + ((am_up q31 (a + 16) k37 q36) (a + 16) k39)))) (a + 13) k40 q27.1) a 40) + (1 : Int32))) a 39), .ref a] (fun _ => rfl) ?_
                  cases e
                  exact hjq46 trivial
                · refine g_run 1 245 [some (.ref a), some (.int x1), some (.int q1), some (.int q2), some (.int q4), some (.int q27.1)] [.int (1 : Int32), .int ((am_up (am_up (am_up (am_up q31 (a + 16) k37 q36) a 35 (((am_up q31 (a + 16) k37 q36) a 35) + (((am_up q31 (a + 16) k37 q36) (a + 15) k38) + ((am_up q31 (a + 16) k37 q36) (a + 16) k39)))) (a + 13) k40 q27.1) a 40 (((am_up (am_up (am_up q31 (a + 16) k37 q36) a 35 (((am_up q31 (a + 16) k37 q36) a 35) + (((am_up q31 (a + 16) k37 q36) (a + 15) k38) + ((am_up q31 (a + 16) k37 q36) (a + 16) k39)))) (a + 13) k40 q27.1) a 40) + (1 : Int32))) a 39), .ref a] (fun _ => rfl) ?_
                  cases e
                  exact hjq46 trivial
              · cases e
                exact g_ret rfl (fun _ _ => rfl)
          replace e := eq36
          refine g_if (p1 := 173) (L1 := [some (.ref a), some (.int x1), some (.int q1), some (.int q2), some (.int q4), some (.int q27.1)]) (S1 := [.int x1, .ref (a + 16)]) (s1 := (l, r, q31, j)) (p2 := 159) (L2 := [some (.ref a), some (.int x1), some (.int q1), some (.int q2), some (.int q4), some (.int q27.1)]) (S2 := [.int x1, .ref (a + 16)]) (s2 := (l, r, q31, j)) rfl (fun _ _ => rfl) e (fun c32 e => ?_) (fun c32 e => ?_)
          · refine g_run 1 174 [some (.ref a), some (.int x1), some (.int q1), some (.int q2), some (.int q4), some (.int q27.1)] [.int (0 : Int32), .int x1, .ref (a + 16)] (fun _ => rfl) ?_
            cases e
            exact hjq36 trivial
          · refine g_run 1 161 [some (.ref a), some (.int x1), some (.int q1), some (.int q2), some (.int q4), some (.int q27.1)] [.int q4, .int x1, .ref (a + 16)] (fun _ => rfl) ?_
            refine g_if (p1 := 164) (L1 := [some (.ref a), some (.int x1), some (.int q1), some (.int q2), some (.int q4), some (.int q27.1)]) (S1 := [.int x1, .ref (a + 16)]) (s1 := (l, r, q31, j)) (p2 := 173) (L2 := [some (.ref a), some (.int x1), some (.int q1), some (.int q2), some (.int q4), some (.int q27.1)]) (S2 := [.int x1, .ref (a + 16)]) (s2 := (l, r, q31, j)) rfl (fun _ _ => rfl) e (fun c34 e => ?_) (fun c34 e => ?_)
            · refine g_run 3 167 [some (.ref a), some (.int x1), some (.int q1), some (.int q2), some (.int q4), some (.int q27.1)] [.int (3 : Int32), .int x1, .ref a, .int x1, .ref (a + 16)] (fun _ => rfl) ?_
              obtain ⟨q35, eq35, e⟩ := g_bd e
              refine g_cV 170 rfl rfl rfl rfl rfl (Md_l ka) (Md_comer_s ka eq35) ?_
              refine g_run 1 174 [some (.ref a), some (.int x1), some (.int q1), some (.int q2), some (.int q4), some (.int q27.1)] [.int q35, .int x1, .ref (a + 16)] (fun _ => rfl) ?_
              cases e
              exact hjq36 trivial
            · refine g_run 1 174 [some (.ref a), some (.int x1), some (.int q1), some (.int q2), some (.int q4), some (.int q27.1)] [.int (0 : Int32), .int x1, .ref (a + 16)] (fun _ => rfl) ?_
              cases e
              exact hjq36 trivial
        replace e := eq31
        refine g_if (p1 := 148) (L1 := [some (.ref a), some (.int x1), some (.int q1), some (.int q2), some (.int q4), some (.int q27.1)]) (S1 := []) (s1 := (l, r, q27.2, j)) (p2 := 139) (L2 := [some (.ref a), some (.int x1), some (.int q1), some (.int q2), some (.int q4), some (.int q27.1)]) (S2 := []) (s2 := (l, r, q27.2, j)) rfl (fun _ _ => rfl) e (fun c28 e => ?_) (fun c28 e => ?_)
        · cases e
          exact hjq31 trivial
        · refine g_run 5 145 [some (.ref a), some (.int x1), some (.int q1), some (.int q2), some (.int q4), some (.int q27.1)] [.int q4, .int q2, .int q1, .int x1, .ref a] (fun _ => rfl) ?_
          obtain ⟨q30, eq30, e⟩ := g_bd e
          refine g_cVv 148 rfl rfl rfl rfl rfl (Md_l ka) (Md_sits_s ka eq30) ?_
          cases e
          exact hjq31 trivial
      replace e := eq27
      refine g_if (p1 := 96) (L1 := [some (.ref a), some (.int x1), some (.int q1), some (.int q2), some (.int q4), some (.int q5)]) (S1 := []) (s1 := (l, r, (am_up (am_up (am_up (am_up h (a + 14) k6 q4) (a + 17) k11 q10) (a + 18) k16 q15) (a + 15) k17 (0 : Int32)), j)) (p2 := 133) (L2 := [some (.ref a), some (.int x1), some (.int q1), some (.int q2), some (.int q4), some (.int q5)]) (S2 := []) (s2 := (l, r, (am_up (am_up (am_up (am_up h (a + 14) k6 q4) (a + 17) k11 q10) (a + 18) k16 q15) (a + 15) k17 (0 : Int32)), j)) rfl (fun _ _ => rfl) e (fun c18 e => ?_) (fun c18 e => ?_)
      · refine g_run 1 97 [some (.ref a), some (.int x1), some (.int q1), some (.int q2), some (.int q4), some (.int q5)] [.ref a] (fun _ => rfl) ?_
        refine g_getA 100 rfl rfl (Md_l ka) (Md_r26 ka) ?_
        refine g_run 4 104 [some (.ref a), some (.int x1), some (.int q1), some (.int q2), some (.int q4), some (.int q5)] [.int (5 : Int32), .int x1, .ref a, .int x1, .ref (a + 15)] (fun _ => rfl) ?_
        obtain ⟨q20, eq20, e⟩ := g_bd e
        refine g_cV 107 rfl rfl rfl rfl rfl (Md_l ka) (Md_comer_s ka eq20) ?_
        refine g_run 1 109 [some (.ref a), some (.int x1), some (.int q1), some (.int q2), some (.int q4), some (.int q5)] [.int q4, .int q20, .int x1, .ref (a + 15)] (fun _ => rfl) ?_
        obtain ⟨q21, eq21, e⟩ := g_bd e
        refine g_cS 112 rfl rfl (by decide) rfl rfl rfl (Md_costs_s eq21) ?_
        obtain ⟨k22, ek22, e⟩ := g_bd e
        refine g_iast 113 rfl rfl (Md_k26 ka) ek22 ?_
        refine g_run 4 118 [some (.ref a), some (.int x1), some (.int q1), some (.int q2), some (.int q4), some (.int q5)] [.int q4, .int q2, .int q1, .ref a] (fun _ => rfl) ?_
        obtain ⟨q23, eq23, e⟩ := g_bd e
        refine g_cVv 121 rfl rfl rfl rfl rfl (Md_l ka) (Md_print_s ka eq23) ?_
        refine g_run 1 123 [some (.ref a), some (.int x1), some (.int q1), some (.int q2), some (.int q4), some (.int q5)] [.int q4] (fun _ => rfl) ?_
        obtain ⟨q26, eq26, e⟩ := g_bd e
        have hjq26 : ∀ (_ : True), Ev X 212 131 [some (.ref a), some (.int x1), some (.int q1), some (.int q2), some (.int q4), some (.int q5)] [.int q26] (l, r, q23, j) (none, (l, r, q, j)) := by
          intro _
          refine g_run 1 133 [some (.ref a), some (.int x1), some (.int q1), some (.int q2), some (.int q4), some (.int q26)] [] (fun _ => rfl) ?_
          cases e
          exact hjq27 trivial
        replace e := eq26
        refine g_if (p1 := 126) (L1 := [some (.ref a), some (.int x1), some (.int q1), some (.int q2), some (.int q4), some (.int q5)]) (S1 := []) (s1 := (l, r, q23, j)) (p2 := 130) (L2 := [some (.ref a), some (.int x1), some (.int q1), some (.int q2), some (.int q4), some (.int q5)]) (S2 := []) (s2 := (l, r, q23, j)) rfl (fun _ _ => rfl) e (fun c24 e => ?_) (fun c24 e => ?_)
        · refine g_run 2 131 [some (.ref a), some (.int x1), some (.int q1), some (.int q2), some (.int q4), some (.int q5)] [.int (2 : Int32)] (fun _ => rfl) ?_
          cases e
          exact hjq26 trivial
        · refine g_run 1 131 [some (.ref a), some (.int x1), some (.int q1), some (.int q2), some (.int q4), some (.int q5)] [.int (1 : Int32)] (fun _ => rfl) ?_
          cases e
          exact hjq26 trivial
      · cases e
        exact hjq27 trivial
    replace e := eq15
    refine g_if (p1 := 81) (L1 := [some (.ref a), some (.int x1), some (.int q1), some (.int q2), some (.int q4), some (.int q5)]) (S1 := [.int x1, .ref (a + 18)]) (s1 := (l, r, (am_up (am_up h (a + 14) k6 q4) (a + 17) k11 q10), j)) (p2 := 77) (L2 := [some (.ref a), some (.int x1), some (.int q1), some (.int q2), some (.int q4), some (.int q5)]) (S2 := [.int x1, .ref (a + 18)]) (s2 := (l, r, (am_up (am_up h (a + 14) k6 q4) (a + 17) k11 q10), j)) rfl (fun _ _ => rfl) e (fun c13 e => ?_) (fun c13 e => ?_)
    · refine g_run 1 82 [some (.ref a), some (.int x1), some (.int q1), some (.int q2), some (.int q4), some (.int q5)] [.int (0 : Int32), .int x1, .ref (a + 18)] (fun _ => rfl) ?_
      cases e
      exact hjq15 trivial
    · refine g_run 2 82 [some (.ref a), some (.int x1), some (.int q1), some (.int q2), some (.int q4), some (.int q5)] [.int (1 : Int32), .int x1, .ref (a + 18)] (fun _ => rfl) ?_
      cases e
      exact hjq15 trivial
  replace e := eq10
  refine g_if (p1 := 63) (L1 := [some (.ref a), some (.int x1), some (.int q1), some (.int q2), some (.int q4), some (.int q5)]) (S1 := [.int x1, .ref (a + 17)]) (s1 := (l, r, (am_up h (a + 14) k6 q4), j)) (p2 := 59) (L2 := [some (.ref a), some (.int x1), some (.int q1), some (.int q2), some (.int q4), some (.int q5)]) (S2 := [.int x1, .ref (a + 17)]) (s2 := (l, r, (am_up h (a + 14) k6 q4), j)) rfl (fun _ _ => rfl) e (fun c8 e => ?_) (fun c8 e => ?_)
  · refine g_run 1 64 [some (.ref a), some (.int x1), some (.int q1), some (.int q2), some (.int q4), some (.int q5)] [.int (0 : Int32), .int x1, .ref (a + 17)] (fun _ => rfl) ?_
    cases e
    exact hjq10 trivial
  · refine g_run 2 64 [some (.ref a), some (.int x1), some (.int q1), some (.int q2), some (.int q4), some (.int q5)] [.int (1 : Int32), .int x1, .ref (a + 17)] (fun _ => rfl) ?_
    cases e
    exact hjq10 trivial
def Md_goDay_l22 (x0 : Nat) : Nat → Int32 → am_F → Option (am_F)
  | 0, _, _ => none
  | n + 1, x1, h =>
    if (6 : Int32) ≤ x1 then
      some h
    else
      (g_ix x1 6).bind fun k2 =>
      (g_ix x1 6).bind fun k3 =>
      (g_ix x1 6).bind fun k4 =>
      (g_ix x1 6).bind fun k5 =>
      Md_goDay_l22 x0 n (x1 + (1 : Int32)) (am_up (am_up (am_up (am_up h (x0 + 19) k2 (-1 : Int32)) (x0 + 21) k3 (-1 : Int32)) (x0 + 22) k4 (0 : Int32)) (x0 + 23) k5 (0 : Int32))
def Md_goDay_l72 (x0 : Nat) (x1 : Int32) : Nat → Int32 → am_F → Option (am_F)
  | 0, _, _ => none
  | n + 1, x2, h =>
    if (h (x0 + 12) 5) ≤ x2 then
      some h
    else
      (g_ix ((103 : Int32) + ((2 : Int32) * x2)) 195).bind fun k10 =>
      (g_ix (((103 : Int32) + ((2 : Int32) * x2)) + (1 : Int32)) 195).bind fun k11 =>
      (if (h (x0 + 12) k11) = x1 then
          (Md_painted x0 (h (x0 + 12) k10) h).bind fun q14 =>
          (Md_stage x0 q14 x1 h).bind fun q15 =>
          (Md_print x0 (h (x0 + 12) k10) x1 q15 h).bind fun q16 =>
          some q16
        else
          some h : Option (am_F)).bind fun q17 =>
      Md_goDay_l72 x0 x1 n (x2 + (1 : Int32)) q17
def Md_goDay_l135 (x0 : Nat) (x1 : Int32) : Nat → Int32 → am_F → Option (am_F)
  | 0, _, _ => none
  | n + 1, x2, h =>
    if (h (x0 + 12) 6) ≤ x2 then
      some h
    else
      (Md_comer x0 x2 (1 : Int32) h).bind fun q22 =>
      (if q22 = x1 then
          (Md_comes x0 x2 h).bind fun q25 =>
          some q25
        else
          some h : Option (am_F)).bind fun q26 =>
      Md_goDay_l135 x0 x1 n (x2 + (1 : Int32)) q26
def Md_goDay_l64 (x0 : Nat) : Nat → Int32 → am_F → Option (am_F)
  | 0, _, _ => none
  | n + 1, x1, h =>
    if (48 : Int32) ≤ x1 then
      some h
    else
      (Md_goDay_l72 x0 x1 g_fu (0 : Int32) h).bind fun q18 =>
      (Md_goDay_l135 x0 x1 g_fu (0 : Int32) q18).bind fun q27 =>
      Md_goDay_l64 x0 n (x1 + (1 : Int32)) q27
def Md_goDay (a : Nat) (h : am_F) : Option (am_F) :=
  (Md_goDay_l22 a g_fu (0 : Int32) (am_up (am_up (am_up (am_up h a 35 (0 : Int32)) a 36 (0 : Int32)) a 37 (0 : Int32)) a 38 (0 : Int32))).bind fun q6 =>
  (Md_goDay_l64 a g_fu (0 : Int32) q6).bind fun q30 =>
  some q30
theorem Md_goDay_l22_s {X : Nat × (Nat → Int32)} {l : List (Nat × Nat)} {r : am_R} {x0 : Nat} {j : am_J} {q : am_F} {R : Option Value × am_S} (kx0 : Md_K l r x0) (hx : ∀ (y1 : Int32) , Ev X 213 62 [some (.ref x0), some (.int y1), none, none] [] (l, r, q, j) R) : ∀ (n : Nat) (x1 : Int32) (h : am_F), Md_goDay_l22 x0 n x1 h = some q → Ev X 213 22 [some (.ref x0), some (.int x1), none, none] [] (l, r, h, j) R := by
  intro n
  induction n with
  | zero => intro x1 h e; cases e
  | succ n ih =>
    intro x1 h e
    unfold Md_goDay_l22 at e
    refine g_run 2 25 [some (.ref x0), some (.int x1), none, none] [.int (6 : Int32), .int x1] (fun _ => rfl) ?_
    refine g_if (p1 := 62) (L1 := [some (.ref x0), some (.int x1), none, none]) (S1 := []) (s1 := (l, r, h, j)) (p2 := 28) (L2 := [some (.ref x0), some (.int x1), none, none]) (S2 := []) (s2 := (l, r, h, j)) rfl (fun _ _ => rfl) e (fun c1 e => ?_) (fun c1 e => ?_)
    · cases e
      exact hx _
    · refine g_run 1 29 [some (.ref x0), some (.int x1), none, none] [.ref x0] (fun _ => rfl) ?_
      refine g_getA 32 rfl rfl (Md_l kx0) (Md_r30 kx0) ?_
      refine g_run 2 34 [some (.ref x0), some (.int x1), none, none] [.int (-1 : Int32), .int x1, .ref (x0 + 19)] (fun _ => rfl) ?_
      obtain ⟨k2, ek2, e⟩ := g_bd e
      refine g_iast 35 rfl rfl (Md_k30 kx0) ek2 ?_
      refine g_run 1 36 [some (.ref x0), some (.int x1), none, none] [.ref x0] (fun _ => rfl) ?_
      refine g_getA 39 rfl rfl (Md_l kx0) (Md_r32 kx0) ?_
      refine g_run 2 41 [some (.ref x0), some (.int x1), none, none] [.int (-1 : Int32), .int x1, .ref (x0 + 21)] (fun _ => rfl) ?_
      obtain ⟨k3, ek3, e⟩ := g_bd e
      refine g_iast 42 rfl rfl (Md_k32 kx0) ek3 ?_
      refine g_run 1 43 [some (.ref x0), some (.int x1), none, none] [.ref x0] (fun _ => rfl) ?_
      refine g_getA 46 rfl rfl (Md_l kx0) (Md_r33 kx0) ?_
      refine g_run 2 48 [some (.ref x0), some (.int x1), none, none] [.int (0 : Int32), .int x1, .ref (x0 + 22)] (fun _ => rfl) ?_
      obtain ⟨k4, ek4, e⟩ := g_bd e
      refine g_iast 49 rfl rfl (Md_k33 kx0) ek4 ?_
      refine g_run 1 50 [some (.ref x0), some (.int x1), none, none] [.ref x0] (fun _ => rfl) ?_
      refine g_getA 53 rfl rfl (Md_l kx0) (Md_r34 kx0) ?_
      refine g_run 2 55 [some (.ref x0), some (.int x1), none, none] [.int (0 : Int32), .int x1, .ref (x0 + 23)] (fun _ => rfl) ?_
      obtain ⟨k5, ek5, e⟩ := g_bd e
      refine g_iast 56 rfl rfl (Md_k34 kx0) ek5 ?_
      refine g_run 2 22 [some (.ref x0), some (.int (x1 + (1 : Int32))), none, none] [] (fun _ => rfl) ?_
      exact ih _ _ e
theorem Md_goDay_l72_s {X : Nat × (Nat → Int32)} {l : List (Nat × Nat)} {r : am_R} {x0 : Nat} {x1 : Int32} {j : am_J} {q : am_F} {R : Option Value × am_S} (kx0 : Md_K l r x0) (hx : ∀ (d3 : Option Value) (y2 : Int32) , Ev X 213 133 [some (.ref x0), some (.int x1), some (.int y2), d3] [] (l, r, q, j) R) : ∀ (n : Nat) (x2 : Int32) (h : am_F) (d3 : Option Value), Md_goDay_l72 x0 x1 n x2 h = some q → Ev X 213 72 [some (.ref x0), some (.int x1), some (.int x2), d3] [] (l, r, h, j) R := by
  intro n
  induction n with
  | zero => intro x2 h d3 e; cases e
  | succ n ih =>
    intro x2 h d3 e
    unfold Md_goDay_l72 at e
    refine g_run 2 74 [some (.ref x0), some (.int x1), some (.int x2), d3] [.ref x0, .int x2] (fun _ => rfl) ?_
    refine g_getA 77 rfl rfl (Md_l kx0) (Md_r23 kx0) ?_
    refine g_run 1 78 [some (.ref x0), some (.int x1), some (.int x2), d3] [.int (5 : Int32), .ref (x0 + 12), .int x2] (fun _ => rfl) ?_
    refine g_iald 79 rfl rfl (Md_k23 kx0) (kx := 5) rfl ?_
    refine g_if (p1 := 133) (L1 := [some (.ref x0), some (.int x1), some (.int x2), d3]) (S1 := []) (s1 := (l, r, h, j)) (p2 := 82) (L2 := [some (.ref x0), some (.int x1), some (.int x2), d3]) (S2 := []) (s2 := (l, r, h, j)) rfl (fun _ _ => rfl) e (fun c9 e => ?_) (fun c9 e => ?_)
    · cases e
      exact hx _ _
    · refine g_run 1 83 [some (.ref x0), some (.int x1), some (.int x2), d3] [.ref x0] (fun _ => rfl) ?_
      refine g_getA 86 rfl rfl (Md_l kx0) (Md_r23 kx0) ?_
      refine g_run 5 92 [some (.ref x0), some (.int x1), some (.int x2), d3] [.int ((103 : Int32) + ((2 : Int32) * x2)), .ref (x0 + 12)] (fun _ => rfl) ?_
      obtain ⟨k10, ek10, e⟩ := g_bd e
      refine g_iald 93 rfl rfl (Md_k23 kx0) ek10 ?_
      refine g_run 2 95 [some (.ref x0), some (.int x1), some (.int x2), some (.int (h (x0 + 12) k10))] [.ref x0] (fun _ => rfl) ?_
      refine g_getA 98 rfl rfl (Md_l kx0) (Md_r23 kx0) ?_
      refine g_run 7 106 [some (.ref x0), some (.int x1), some (.int x2), some (.int (h (x0 + 12) k10))] [.int (((103 : Int32) + ((2 : Int32) * x2)) + (1 : Int32)), .ref (x0 + 12)] (fun _ => rfl) ?_
      obtain ⟨k11, ek11, e⟩ := g_bd e
      refine g_iald 107 rfl rfl (Md_k23 kx0) ek11 ?_
      refine g_run 1 108 [some (.ref x0), some (.int x1), some (.int x2), some (.int (h (x0 + 12) k10))] [.int x1, .int (h (x0 + 12) k11)] (fun _ => rfl) ?_
      obtain ⟨q17, eq17, e⟩ := g_bd e
      have hjq17 : ∀ (_ : True), Ev X 213 127 [some (.ref x0), some (.int x1), some (.int x2), some (.int (h (x0 + 12) k10))] [] (l, r, q17, j) R := by
        intro _
        refine g_run 2 72 [some (.ref x0), some (.int x1), some (.int (x2 + (1 : Int32))), some (.int (h (x0 + 12) k10))] [] (fun _ => rfl) ?_
        exact ih _ _ _ e
      replace e := eq17
      refine g_if (p1 := 111) (L1 := [some (.ref x0), some (.int x1), some (.int x2), some (.int (h (x0 + 12) k10))]) (S1 := []) (s1 := (l, r, h, j)) (p2 := 127) (L2 := [some (.ref x0), some (.int x1), some (.int x2), some (.int (h (x0 + 12) k10))]) (S2 := []) (s2 := (l, r, h, j)) rfl (fun _ _ => rfl) e (fun c12 e => ?_) (fun c12 e => ?_)
      · refine g_run 6 117 [some (.ref x0), some (.int x1), some (.int x2), some (.int (h (x0 + 12) k10))] [.int (h (x0 + 12) k10), .ref x0, .ref x0, .int x1, .int (h (x0 + 12) k10), .ref x0] (fun _ => rfl) ?_
        obtain ⟨q14, eq14, e⟩ := g_bd e
        refine g_cV 120 rfl rfl rfl rfl rfl (Md_l kx0) (Md_painted_s kx0 eq14) ?_
        refine g_run 1 121 [some (.ref x0), some (.int x1), some (.int x2), some (.int (h (x0 + 12) k10))] [.int x1, .int q14, .ref x0, .int x1, .int (h (x0 + 12) k10), .ref x0] (fun _ => rfl) ?_
        obtain ⟨q15, eq15, e⟩ := g_bd e
        refine g_cV 124 rfl rfl rfl rfl rfl (Md_l kx0) (Md_stage_s kx0 eq15) ?_
        obtain ⟨q16, eq16, e⟩ := g_bd e
        refine g_cVv 127 rfl rfl rfl rfl rfl (Md_l kx0) (Md_print_s kx0 eq16) ?_
        cases e
        exact hjq17 trivial
      · cases e
        exact hjq17 trivial
theorem Md_goDay_l135_s {X : Nat × (Nat → Int32)} {l : List (Nat × Nat)} {r : am_R} {x0 : Nat} {x1 : Int32} {j : am_J} {q : am_F} {R : Option Value × am_S} (kx0 : Md_K l r x0) (hx : ∀ (d3 : Option Value) (y2 : Int32) , Ev X 213 167 [some (.ref x0), some (.int x1), some (.int y2), d3] [] (l, r, q, j) R) : ∀ (n : Nat) (x2 : Int32) (h : am_F) (d3 : Option Value), Md_goDay_l135 x0 x1 n x2 h = some q → Ev X 213 135 [some (.ref x0), some (.int x1), some (.int x2), d3] [] (l, r, h, j) R := by
  intro n
  induction n with
  | zero => intro x2 h d3 e; cases e
  | succ n ih =>
    intro x2 h d3 e
    unfold Md_goDay_l135 at e
    refine g_run 2 137 [some (.ref x0), some (.int x1), some (.int x2), d3] [.ref x0, .int x2] (fun _ => rfl) ?_
    refine g_getA 140 rfl rfl (Md_l kx0) (Md_r23 kx0) ?_
    refine g_run 1 142 [some (.ref x0), some (.int x1), some (.int x2), d3] [.int (6 : Int32), .ref (x0 + 12), .int x2] (fun _ => rfl) ?_
    refine g_iald 143 rfl rfl (Md_k23 kx0) (kx := 6) rfl ?_
    refine g_if (p1 := 167) (L1 := [some (.ref x0), some (.int x1), some (.int x2), d3]) (S1 := []) (s1 := (l, r, h, j)) (p2 := 146) (L2 := [some (.ref x0), some (.int x1), some (.int x2), d3]) (S2 := []) (s2 := (l, r, h, j)) rfl (fun _ _ => rfl) e (fun c21 e => ?_) (fun c21 e => ?_)
    · cases e
      exact hx _ _
    · refine g_run 3 149 [some (.ref x0), some (.int x1), some (.int x2), d3] [.int (1 : Int32), .int x2, .ref x0] (fun _ => rfl) ?_
      obtain ⟨q22, eq22, e⟩ := g_bd e
      refine g_cV 152 rfl rfl rfl rfl rfl (Md_l kx0) (Md_comer_s kx0 eq22) ?_
      refine g_run 1 153 [some (.ref x0), some (.int x1), some (.int x2), d3] [.int x1, .int q22] (fun _ => rfl) ?_
      obtain ⟨q26, eq26, e⟩ := g_bd e
      have hjq26 : ∀ (_ : True), Ev X 213 161 [some (.ref x0), some (.int x1), some (.int x2), d3] [] (l, r, q26, j) R := by
        intro _
        refine g_run 2 135 [some (.ref x0), some (.int x1), some (.int (x2 + (1 : Int32))), d3] [] (fun _ => rfl) ?_
        exact ih _ _ _ e
      replace e := eq26
      refine g_if (p1 := 156) (L1 := [some (.ref x0), some (.int x1), some (.int x2), d3]) (S1 := []) (s1 := (l, r, h, j)) (p2 := 161) (L2 := [some (.ref x0), some (.int x1), some (.int x2), d3]) (S2 := []) (s2 := (l, r, h, j)) rfl (fun _ _ => rfl) e (fun c23 e => ?_) (fun c23 e => ?_)
      · refine g_run 2 158 [some (.ref x0), some (.int x1), some (.int x2), d3] [.int x2, .ref x0] (fun _ => rfl) ?_
        obtain ⟨q25, eq25, e⟩ := g_bd e
        refine g_cVv 161 rfl rfl rfl rfl rfl (Md_l kx0) (Md_comes_s kx0 eq25) ?_
        cases e
        exact hjq26 trivial
      · cases e
        exact hjq26 trivial
theorem Md_goDay_l64_s {X : Nat × (Nat → Int32)} {l : List (Nat × Nat)} {r : am_R} {x0 : Nat} {j : am_J} {q : am_F} {R : Option Value × am_S} (kx0 : Md_K l r x0) (hx : ∀ (d2 : Option Value) (d3 : Option Value) (y1 : Int32) , Ev X 213 173 [some (.ref x0), some (.int y1), d2, d3] [] (l, r, q, j) R) : ∀ (n : Nat) (x1 : Int32) (h : am_F) (d2 : Option Value) (d3 : Option Value), Md_goDay_l64 x0 n x1 h = some q → Ev X 213 64 [some (.ref x0), some (.int x1), d2, d3] [] (l, r, h, j) R := by
  intro n
  induction n with
  | zero => intro x1 h d2 d3 e; cases e
  | succ n ih =>
    intro x1 h d2 d3 e
    unfold Md_goDay_l64 at e
    refine g_run 2 67 [some (.ref x0), some (.int x1), d2, d3] [.int (48 : Int32), .int x1] (fun _ => rfl) ?_
    refine g_if (p1 := 173) (L1 := [some (.ref x0), some (.int x1), d2, d3]) (S1 := []) (s1 := (l, r, h, j)) (p2 := 70) (L2 := [some (.ref x0), some (.int x1), d2, d3]) (S2 := []) (s2 := (l, r, h, j)) rfl (fun _ _ => rfl) e (fun c8 e => ?_) (fun c8 e => ?_)
    · cases e
      exact hx _ _ _
    · refine g_run 2 72 [some (.ref x0), some (.int x1), some (.int (0 : Int32)), d3] [] (fun _ => rfl) ?_
      obtain ⟨q18, eq18, e⟩ := g_bd e
      refine Md_goDay_l72_s kx0 (fun d19 y20 => ?_) _ _ _ _ eq18
      refine g_run 2 135 [some (.ref x0), some (.int x1), some (.int (0 : Int32)), d19] [] (fun _ => rfl) ?_
      obtain ⟨q27, eq27, e⟩ := g_bd e
      refine Md_goDay_l135_s kx0 (fun d28 y29 => ?_) _ _ _ _ eq27
      refine g_run 2 64 [some (.ref x0), some (.int (x1 + (1 : Int32))), some (.int y29), d28] [] (fun _ => rfl) ?_
      exact ih _ _ _ _ e
theorem Md_goDay_s {X : Nat × (Nat → Int32)} {l : List (Nat × Nat)} {r : am_R} {h : am_F} {j : am_J} {a : Nat} (ka : Md_K l r a) {q : am_F} (e : Md_goDay a h = some q) : Call X 213 [.ref a] (l, r, h, j) (none, (l, r, q, j)) := by
  unfold Md_goDay at e
  refine ⟨Nat.le_of_ble_eq_true rfl, ?_⟩
  show Ev X 213 0 [some (.ref a), none, none, none] [] (l, r, h, j) _
  refine g_run 2 2 [some (.ref a), none, none, none] [.int (0 : Int32), .ref a] (fun _ => rfl) ?_
  refine g_putI 5 rfl rfl (Md_l ka) ?_
  refine g_run 2 7 [some (.ref a), none, none, none] [.int (0 : Int32), .ref a] (fun _ => rfl) ?_
  refine g_putI 10 rfl rfl (Md_l ka) ?_
  refine g_run 2 12 [some (.ref a), none, none, none] [.int (0 : Int32), .ref a] (fun _ => rfl) ?_
  refine g_putI 15 rfl rfl (Md_l ka) ?_
  refine g_run 2 17 [some (.ref a), none, none, none] [.int (0 : Int32), .ref a] (fun _ => rfl) ?_
  refine g_putI 20 rfl rfl (Md_l ka) ?_
  refine g_run 2 22 [some (.ref a), some (.int (0 : Int32)), none, none] [] (fun _ => rfl) ?_
  obtain ⟨q6, eq6, e⟩ := g_bd e
  refine Md_goDay_l22_s ka (fun y7 => ?_) _ _ _ eq6
  refine g_run 2 64 [some (.ref a), some (.int (0 : Int32)), none, none] [] (fun _ => rfl) ?_
  obtain ⟨q30, eq30, e⟩ := g_bd e
  refine Md_goDay_l64_s ka (fun d31 d32 y33 => ?_) _ _ _ _ _ eq30
  cases e
  exact g_ret rfl (fun _ _ => rfl)
def Md_harmOf (a : Nat) (h : am_F) : Option (Int32 × am_F) :=
  (Md_goDay a (am_up (am_up h a 39 (0 : Int32)) a 40 (0 : Int32))).bind fun q1 =>
  some ((q1 a 35), q1)
theorem Md_harmOf_s {X : Nat × (Nat → Int32)} {l : List (Nat × Nat)} {r : am_R} {h : am_F} {j : am_J} {a : Nat} (ka : Md_K l r a) {q : Int32 × am_F} (e : Md_harmOf a h = some q) : Call X 214 [.ref a] (l, r, h, j) (some (.int q.1), (l, r, q.2, j)) := by
  unfold Md_harmOf at e
  refine ⟨Nat.le_of_ble_eq_true rfl, ?_⟩
  show Ev X 214 0 [some (.ref a)] [] (l, r, h, j) _
  refine g_run 2 2 [some (.ref a)] [.int (0 : Int32), .ref a] (fun _ => rfl) ?_
  refine g_putI 5 rfl rfl (Md_l ka) ?_
  refine g_run 2 7 [some (.ref a)] [.int (0 : Int32), .ref a] (fun _ => rfl) ?_
  refine g_putI 10 rfl rfl (Md_l ka) ?_
  refine g_run 1 11 [some (.ref a)] [.ref a] (fun _ => rfl) ?_
  obtain ⟨q1, eq1, e⟩ := g_bd e
  refine g_cVv 14 rfl rfl rfl rfl rfl (Md_l ka) (Md_goDay_s ka eq1) ?_
  refine g_run 1 15 [some (.ref a)] [.ref a] (fun _ => rfl) ?_
  refine g_getI 18 rfl rfl (Md_l ka) ?_
  cases e
  exact g_ret rfl (fun _ _ => rfl)
def Md_did (a : Nat) (x1 : Int32) (x2 : Int32) (x3 : Int32) (h : am_F) : Option (Int32 × am_F) :=
  (Md_hand a x1 (am_up h a 0 (0 : Int32))).bind fun q1 =>
  if q1.1 = 0 then
    some ((-1 : Int32), q1.2)
  else
    (Md_isComer a x2 q1.2).bind fun q3 =>
    if q3 = 0 then
      some ((-1 : Int32), q1.2)
    else
      (Md_harmOf a q1.2).bind fun q5 =>
      if x3 = 0 then
        (g_ix x2 14).bind fun k7 =>
        some ((q5.2 (a + 13) k7), q5.2)
      else
        if x3 = (1 : Int32) then
          (g_ix x2 14).bind fun k9 =>
          some ((q5.2 (a + 14) k9), q5.2)
        else
          if x3 = (2 : Int32) then
            (g_ix x2 14).bind fun k11 =>
            some ((q5.2 (a + 15) k11), q5.2)
          else
            if x3 = (3 : Int32) then
              (g_ix x2 14).bind fun k13 =>
              some ((q5.2 (a + 16) k13), q5.2)
            else
              if x3 = (4 : Int32) then
                (g_ix x2 14).bind fun k15 =>
                some ((q5.2 (a + 17) k15), q5.2)
              else
                if x3 = (5 : Int32) then
                  (g_ix x2 14).bind fun k17 =>
                  some ((q5.2 (a + 18) k17), q5.2)
                else
                  some ((-1 : Int32), q5.2)
theorem Md_did_s {X : Nat × (Nat → Int32)} {l : List (Nat × Nat)} {r : am_R} {h : am_F} {j : am_J} {a : Nat} {x1 : Int32} {x2 : Int32} {x3 : Int32} (ka : Md_K l r a) {q : Int32 × am_F} (e : Md_did a x1 x2 x3 h = some q) : Call X 215 [.ref a, .int x1, .int x2, .int x3] (l, r, h, j) (some (.int q.1), (l, r, q.2, j)) := by
  unfold Md_did at e
  refine ⟨Nat.le_of_ble_eq_true rfl, ?_⟩
  show Ev X 215 0 [some (.ref a), some (.int x1), some (.int x2), some (.int x3)] [] (l, r, h, j) _
  refine g_run 2 2 [some (.ref a), some (.int x1), some (.int x2), some (.int x3)] [.int (0 : Int32), .ref a] (fun _ => rfl) ?_
  refine g_putI 5 rfl rfl (Md_l ka) ?_
  refine g_run 2 7 [some (.ref a), some (.int x1), some (.int x2), some (.int x3)] [.int x1, .ref a] (fun _ => rfl) ?_
  obtain ⟨q1, eq1, e⟩ := g_bd e
  refine g_cV 10 rfl rfl rfl rfl rfl (Md_l ka) (Md_hand_s ka eq1) ?_
  refine g_if (p1 := 21) (L1 := [some (.ref a), some (.int x1), some (.int x2), some (.int x3)]) (S1 := []) (s1 := (l, r, q1.2, j)) (p2 := 13) (L2 := [some (.ref a), some (.int x1), some (.int x2), some (.int x3)]) (S2 := []) (s2 := (l, r, q1.2, j)) rfl (fun _ _ => rfl) e (fun c2 e => ?_) (fun c2 e => ?_)
  · refine g_run 1 22 [some (.ref a), some (.int x1), some (.int x2), some (.int x3)] [.int (-1 : Int32)] (fun _ => rfl) ?_
    cases e
    exact g_ret rfl (fun _ _ => rfl)
  · refine g_run 2 15 [some (.ref a), some (.int x1), some (.int x2), some (.int x3)] [.int x2, .ref a] (fun _ => rfl) ?_
    obtain ⟨q3, eq3, e⟩ := g_bd e
    refine g_cV 18 rfl rfl rfl rfl rfl (Md_l ka) (Md_isComer_s ka eq3) ?_
    refine g_if (p1 := 21) (L1 := [some (.ref a), some (.int x1), some (.int x2), some (.int x3)]) (S1 := []) (s1 := (l, r, q1.2, j)) (p2 := 23) (L2 := [some (.ref a), some (.int x1), some (.int x2), some (.int x3)]) (S2 := []) (s2 := (l, r, q1.2, j)) rfl (fun _ _ => rfl) e (fun c4 e => ?_) (fun c4 e => ?_)
    · refine g_run 1 22 [some (.ref a), some (.int x1), some (.int x2), some (.int x3)] [.int (-1 : Int32)] (fun _ => rfl) ?_
      cases e
      exact g_ret rfl (fun _ _ => rfl)
    · refine g_run 1 24 [some (.ref a), some (.int x1), some (.int x2), some (.int x3)] [.ref a] (fun _ => rfl) ?_
      obtain ⟨q5, eq5, e⟩ := g_bd e
      refine g_cV 27 rfl rfl rfl rfl rfl (Md_l ka) (Md_harmOf_s ka eq5) ?_
      refine g_run 2 29 [some (.ref a), some (.int x1), some (.int x2), some (.int x3)] [.int x3] (fun _ => rfl) ?_
      refine g_if (p1 := 32) (L1 := [some (.ref a), some (.int x1), some (.int x2), some (.int x3)]) (S1 := []) (s1 := (l, r, q5.2, j)) (p2 := 41) (L2 := [some (.ref a), some (.int x1), some (.int x2), some (.int x3)]) (S2 := []) (s2 := (l, r, q5.2, j)) rfl (fun _ _ => rfl) e (fun c6 e => ?_) (fun c6 e => ?_)
      · refine g_run 1 33 [some (.ref a), some (.int x1), some (.int x2), some (.int x3)] [.ref a] (fun _ => rfl) ?_
        refine g_getA 36 rfl rfl (Md_l ka) (Md_r24 ka) ?_
        refine g_run 1 37 [some (.ref a), some (.int x1), some (.int x2), some (.int x3)] [.int x2, .ref (a + 13)] (fun _ => rfl) ?_
        obtain ⟨k7, ek7, e⟩ := g_bd e
        refine g_iald 38 rfl rfl (Md_k24 ka) ek7 ?_
        refine g_run 1 112 [some (.ref a), some (.int x1), some (.int x2), some (.int x3)] [.int (q5.2 (a + 13) k7)] (fun _ => rfl) ?_
        cases e
        exact g_ret rfl (fun _ _ => rfl)
      · refine g_run 2 43 [some (.ref a), some (.int x1), some (.int x2), some (.int x3)] [.int (1 : Int32), .int x3] (fun _ => rfl) ?_
        refine g_if (p1 := 46) (L1 := [some (.ref a), some (.int x1), some (.int x2), some (.int x3)]) (S1 := []) (s1 := (l, r, q5.2, j)) (p2 := 55) (L2 := [some (.ref a), some (.int x1), some (.int x2), some (.int x3)]) (S2 := []) (s2 := (l, r, q5.2, j)) rfl (fun _ _ => rfl) e (fun c8 e => ?_) (fun c8 e => ?_)
        · refine g_run 1 47 [some (.ref a), some (.int x1), some (.int x2), some (.int x3)] [.ref a] (fun _ => rfl) ?_
          refine g_getA 50 rfl rfl (Md_l ka) (Md_r25 ka) ?_
          refine g_run 1 51 [some (.ref a), some (.int x1), some (.int x2), some (.int x3)] [.int x2, .ref (a + 14)] (fun _ => rfl) ?_
          obtain ⟨k9, ek9, e⟩ := g_bd e
          refine g_iald 52 rfl rfl (Md_k25 ka) ek9 ?_
          refine g_run 1 112 [some (.ref a), some (.int x1), some (.int x2), some (.int x3)] [.int (q5.2 (a + 14) k9)] (fun _ => rfl) ?_
          cases e
          exact g_ret rfl (fun _ _ => rfl)
        · refine g_run 2 57 [some (.ref a), some (.int x1), some (.int x2), some (.int x3)] [.int (2 : Int32), .int x3] (fun _ => rfl) ?_
          refine g_if (p1 := 60) (L1 := [some (.ref a), some (.int x1), some (.int x2), some (.int x3)]) (S1 := []) (s1 := (l, r, q5.2, j)) (p2 := 69) (L2 := [some (.ref a), some (.int x1), some (.int x2), some (.int x3)]) (S2 := []) (s2 := (l, r, q5.2, j)) rfl (fun _ _ => rfl) e (fun c10 e => ?_) (fun c10 e => ?_)
          · refine g_run 1 61 [some (.ref a), some (.int x1), some (.int x2), some (.int x3)] [.ref a] (fun _ => rfl) ?_
            refine g_getA 64 rfl rfl (Md_l ka) (Md_r26 ka) ?_
            refine g_run 1 65 [some (.ref a), some (.int x1), some (.int x2), some (.int x3)] [.int x2, .ref (a + 15)] (fun _ => rfl) ?_
            obtain ⟨k11, ek11, e⟩ := g_bd e
            refine g_iald 66 rfl rfl (Md_k26 ka) ek11 ?_
            refine g_run 1 112 [some (.ref a), some (.int x1), some (.int x2), some (.int x3)] [.int (q5.2 (a + 15) k11)] (fun _ => rfl) ?_
            cases e
            exact g_ret rfl (fun _ _ => rfl)
          · refine g_run 2 71 [some (.ref a), some (.int x1), some (.int x2), some (.int x3)] [.int (3 : Int32), .int x3] (fun _ => rfl) ?_
            refine g_if (p1 := 74) (L1 := [some (.ref a), some (.int x1), some (.int x2), some (.int x3)]) (S1 := []) (s1 := (l, r, q5.2, j)) (p2 := 83) (L2 := [some (.ref a), some (.int x1), some (.int x2), some (.int x3)]) (S2 := []) (s2 := (l, r, q5.2, j)) rfl (fun _ _ => rfl) e (fun c12 e => ?_) (fun c12 e => ?_)
            · refine g_run 1 75 [some (.ref a), some (.int x1), some (.int x2), some (.int x3)] [.ref a] (fun _ => rfl) ?_
              refine g_getA 78 rfl rfl (Md_l ka) (Md_r27 ka) ?_
              refine g_run 1 79 [some (.ref a), some (.int x1), some (.int x2), some (.int x3)] [.int x2, .ref (a + 16)] (fun _ => rfl) ?_
              obtain ⟨k13, ek13, e⟩ := g_bd e
              refine g_iald 80 rfl rfl (Md_k27 ka) ek13 ?_
              refine g_run 1 112 [some (.ref a), some (.int x1), some (.int x2), some (.int x3)] [.int (q5.2 (a + 16) k13)] (fun _ => rfl) ?_
              cases e
              exact g_ret rfl (fun _ _ => rfl)
            · refine g_run 2 85 [some (.ref a), some (.int x1), some (.int x2), some (.int x3)] [.int (4 : Int32), .int x3] (fun _ => rfl) ?_
              refine g_if (p1 := 88) (L1 := [some (.ref a), some (.int x1), some (.int x2), some (.int x3)]) (S1 := []) (s1 := (l, r, q5.2, j)) (p2 := 97) (L2 := [some (.ref a), some (.int x1), some (.int x2), some (.int x3)]) (S2 := []) (s2 := (l, r, q5.2, j)) rfl (fun _ _ => rfl) e (fun c14 e => ?_) (fun c14 e => ?_)
              · refine g_run 1 89 [some (.ref a), some (.int x1), some (.int x2), some (.int x3)] [.ref a] (fun _ => rfl) ?_
                refine g_getA 92 rfl rfl (Md_l ka) (Md_r28 ka) ?_
                refine g_run 1 93 [some (.ref a), some (.int x1), some (.int x2), some (.int x3)] [.int x2, .ref (a + 17)] (fun _ => rfl) ?_
                obtain ⟨k15, ek15, e⟩ := g_bd e
                refine g_iald 94 rfl rfl (Md_k28 ka) ek15 ?_
                refine g_run 1 112 [some (.ref a), some (.int x1), some (.int x2), some (.int x3)] [.int (q5.2 (a + 17) k15)] (fun _ => rfl) ?_
                cases e
                exact g_ret rfl (fun _ _ => rfl)
              · refine g_run 2 99 [some (.ref a), some (.int x1), some (.int x2), some (.int x3)] [.int (5 : Int32), .int x3] (fun _ => rfl) ?_
                refine g_if (p1 := 102) (L1 := [some (.ref a), some (.int x1), some (.int x2), some (.int x3)]) (S1 := []) (s1 := (l, r, q5.2, j)) (p2 := 111) (L2 := [some (.ref a), some (.int x1), some (.int x2), some (.int x3)]) (S2 := []) (s2 := (l, r, q5.2, j)) rfl (fun _ _ => rfl) e (fun c16 e => ?_) (fun c16 e => ?_)
                · refine g_run 1 103 [some (.ref a), some (.int x1), some (.int x2), some (.int x3)] [.ref a] (fun _ => rfl) ?_
                  refine g_getA 106 rfl rfl (Md_l ka) (Md_r29 ka) ?_
                  refine g_run 1 107 [some (.ref a), some (.int x1), some (.int x2), some (.int x3)] [.int x2, .ref (a + 18)] (fun _ => rfl) ?_
                  obtain ⟨k17, ek17, e⟩ := g_bd e
                  refine g_iald 108 rfl rfl (Md_k29 ka) ek17 ?_
                  refine g_run 1 112 [some (.ref a), some (.int x1), some (.int x2), some (.int x3)] [.int (q5.2 (a + 18) k17)] (fun _ => rfl) ?_
                  cases e
                  exact g_ret rfl (fun _ _ => rfl)
                · refine g_run 1 112 [some (.ref a), some (.int x1), some (.int x2), some (.int x3)] [.int (-1 : Int32)] (fun _ => rfl) ?_
                  cases e
                  exact g_ret rfl (fun _ _ => rfl)
def Md_sum_l4 (l : List (Nat × Nat)) (r : am_R) (x0 : Nat) (h : am_F) : Nat → Int32 → Int32 → Option (Int32)
  | 0, _, _ => none
  | n + 1, x1, x2 =>
    if (6 : Int32) ≤ x2 then
      some x1
    else
      (g_ix x2 (g_ln l x0)).bind fun k2 =>
      Md_sum_l4 l r x0 h n (x1 + (h x0 k2)) (x2 + (1 : Int32))
def Md_sum (l : List (Nat × Nat)) (r : am_R) (x0 : Nat) (h : am_F) : Option (Int32) :=
  (Md_sum_l4 l r x0 h g_fu (0 : Int32) (0 : Int32)).bind fun q3 =>
  some q3
theorem Md_sum_l4_s {X : Nat × (Nat → Int32)} {l : List (Nat × Nat)} {r : am_R} {x0 : Nat} {h : am_F} {j : am_J} {q : Int32} {R : Option Value × am_S} (kx0 : l[x0]? = some (10, (g_ln l x0))) (hx : ∀ (y2 : Int32) , Ev X 216 22 [some (.ref x0), some (.int q), some (.int y2)] [] (l, r, h, j) R) : ∀ (n : Nat) (x1 : Int32) (x2 : Int32), Md_sum_l4 l r x0 h n x1 x2 = some q → Ev X 216 4 [some (.ref x0), some (.int x1), some (.int x2)] [] (l, r, h, j) R := by
  intro n
  induction n with
  | zero => intro x1 x2 e; cases e
  | succ n ih =>
    intro x1 x2 e
    unfold Md_sum_l4 at e
    refine g_run 2 7 [some (.ref x0), some (.int x1), some (.int x2)] [.int (6 : Int32), .int x2] (fun _ => rfl) ?_
    refine g_if (p1 := 22) (L1 := [some (.ref x0), some (.int x1), some (.int x2)]) (S1 := []) (s1 := (l, r, h, j)) (p2 := 10) (L2 := [some (.ref x0), some (.int x1), some (.int x2)]) (S2 := []) (s2 := (l, r, h, j)) rfl (fun _ _ => rfl) e (fun c1 e => ?_) (fun c1 e => ?_)
    · cases e
      exact hx _
    · refine g_run 3 13 [some (.ref x0), some (.int x1), some (.int x2)] [.int x2, .ref x0, .int x1] (fun _ => rfl) ?_
      obtain ⟨k2, ek2, e⟩ := g_bd e
      refine g_iald 14 rfl rfl kx0 ek2 ?_
      refine g_run 4 4 [some (.ref x0), some (.int (x1 + (h x0 k2))), some (.int (x2 + (1 : Int32)))] [] (fun _ => rfl) ?_
      exact ih _ _ e
theorem Md_sum_s {X : Nat × (Nat → Int32)} {l : List (Nat × Nat)} {r : am_R} {h : am_F} {j : am_J} {x0 : Nat} (kx0 : l[x0]? = some (10, g_ln l x0)) {q : Int32} (e : Md_sum l r x0 h = some q) : Call X 216 [.ref x0] (l, r, h, j) (some (.int q), (l, r, h, j)) := by
  unfold Md_sum at e
  refine ⟨Nat.le_of_ble_eq_true rfl, ?_⟩
  show Ev X 216 0 [some (.ref x0), none, none] [] (l, r, h, j) _
  refine g_run 4 4 [some (.ref x0), some (.int (0 : Int32)), some (.int (0 : Int32))] [] (fun _ => rfl) ?_
  obtain ⟨q3, eq3, e⟩ := g_bd e
  refine Md_sum_l4_s kx0 (fun y4 => ?_) _ _ _ eq3
  refine g_run 1 23 [some (.ref x0), some (.int q3), some (.int y4)] [.int q3] (fun _ => rfl) ?_
  cases e
  exact g_ret rfl (fun _ _ => rfl)
def Md_ofDay (l : List (Nat × Nat)) (r : am_R) (a : Nat) (x1 : Int32) (h : am_F) : Option (Int32) :=
  if (Md_in x1 (10 : Int32) ((9 : Int32) + (h (a + 12) 3))) = 0 then
    if (Md_in x1 (20 : Int32) ((19 : Int32) + (h (a + 12) 3))) = 0 then
      if x1 = (0 : Int32) then
        some (h a 35)
      else if x1 = (1 : Int32) then
        some (h a 36)
      else if x1 = (2 : Int32) then
        (Md_sum l r (a + 22) h).bind fun q5 =>
        some q5
      else if x1 = (3 : Int32) then
        (Md_sum l r (a + 23) h).bind fun q7 =>
        some q7
      else if x1 = (4 : Int32) then
        some (h a 37)
      else if x1 = (5 : Int32) then
        some (h a 38)
      else if x1 = (6 : Int32) then
        some (h a 39)
      else if x1 = (7 : Int32) then
        some (h a 40)
      else 
        some (-1 : Int32)
    else
      (g_ix (x1 - (20 : Int32)) 6).bind fun k13 =>
      some (h (a + 23) k13)
  else
    (g_ix (x1 - (10 : Int32)) 6).bind fun k14 =>
    some (h (a + 22) k14)
theorem Md_ofDay_s {X : Nat × (Nat → Int32)} {l : List (Nat × Nat)} {r : am_R} {h : am_F} {j : am_J} {a : Nat} {x1 : Int32} (ka : Md_K l r a) {q : Int32} (e : Md_ofDay l r a x1 h = some q) : Call X 217 [.ref a, .int x1] (l, r, h, j) (some (.int q), (l, r, h, j)) := by
  unfold Md_ofDay at e
  refine ⟨Nat.le_of_ble_eq_true rfl, ?_⟩
  show Ev X 217 0 [some (.ref a), some (.int x1)] [] (l, r, h, j) _
  refine g_run 4 6 [some (.ref a), some (.int x1)] [.ref a, .int (9 : Int32), .int (10 : Int32), .int x1] (fun _ => rfl) ?_
  refine g_getA 9 rfl rfl (Md_l ka) (Md_r23 ka) ?_
  refine g_run 1 10 [some (.ref a), some (.int x1)] [.int (3 : Int32), .ref (a + 12), .int (9 : Int32), .int (10 : Int32), .int x1] (fun _ => rfl) ?_
  refine g_iald 11 rfl rfl (Md_k23 ka) (kx := 3) rfl ?_
  refine g_run 1 12 [some (.ref a), some (.int x1)] [.int ((9 : Int32) + (h (a + 12) 3)), .int (10 : Int32), .int x1] (fun _ => rfl) ?_
  refine g_cS 15 rfl rfl (by decide) rfl rfl rfl Md_in_s ?_
  refine g_if (p1 := 28) (L1 := [some (.ref a), some (.int x1)]) (S1 := []) (s1 := (l, r, h, j)) (p2 := 18) (L2 := [some (.ref a), some (.int x1)]) (S2 := []) (s2 := (l, r, h, j)) rfl (fun _ _ => rfl) e (fun c1 e => ?_) (fun c1 e => ?_)
  · refine g_run 4 34 [some (.ref a), some (.int x1)] [.ref a, .int (19 : Int32), .int (20 : Int32), .int x1] (fun _ => rfl) ?_
    refine g_getA 37 rfl rfl (Md_l ka) (Md_r23 ka) ?_
    refine g_run 1 38 [some (.ref a), some (.int x1)] [.int (3 : Int32), .ref (a + 12), .int (19 : Int32), .int (20 : Int32), .int x1] (fun _ => rfl) ?_
    refine g_iald 39 rfl rfl (Md_k23 ka) (kx := 3) rfl ?_
    refine g_run 1 40 [some (.ref a), some (.int x1)] [.int ((19 : Int32) + (h (a + 12) 3)), .int (20 : Int32), .int x1] (fun _ => rfl) ?_
    refine g_cS 43 rfl rfl (by decide) rfl rfl rfl Md_in_s ?_
    refine g_if (p1 := 56) (L1 := [some (.ref a), some (.int x1)]) (S1 := []) (s1 := (l, r, h, j)) (p2 := 46) (L2 := [some (.ref a), some (.int x1)]) (S2 := []) (s2 := (l, r, h, j)) rfl (fun _ _ => rfl) e (fun c2 e => ?_) (fun c2 e => ?_)
    · refine g_run 1 57 [some (.ref a), some (.int x1)] [.int x1] (fun _ => rfl) ?_
      by_cases c3 : x1 = (0 : Int32)
      · replace e := (if_pos c3).symm.trans e
        refine g_sw (p1 := 104) (L1 := [some (.ref a), some (.int x1)]) (S1 := []) (s1 := (l, r, h, j)) rfl c3 (fun _ _ => rfl) ?_
        refine g_run 1 105 [some (.ref a), some (.int x1)] [.ref a] (fun _ => rfl) ?_
        refine g_getI 108 rfl rfl (Md_l ka) ?_
        cases e
        exact g_ret rfl (fun _ _ => rfl)
      replace e := (if_neg c3).symm.trans e
      by_cases c4 : x1 = (1 : Int32)
      · replace e := (if_pos c4).symm.trans e
        refine g_sw (p1 := 109) (L1 := [some (.ref a), some (.int x1)]) (S1 := []) (s1 := (l, r, h, j)) rfl c4 (fun _ _ => rfl) ?_
        refine g_run 1 110 [some (.ref a), some (.int x1)] [.ref a] (fun _ => rfl) ?_
        refine g_getI 113 rfl rfl (Md_l ka) ?_
        cases e
        exact g_ret rfl (fun _ _ => rfl)
      replace e := (if_neg c4).symm.trans e
      by_cases c6 : x1 = (2 : Int32)
      · replace e := (if_pos c6).symm.trans e
        refine g_sw (p1 := 114) (L1 := [some (.ref a), some (.int x1)]) (S1 := []) (s1 := (l, r, h, j)) rfl c6 (fun _ _ => rfl) ?_
        refine g_run 1 115 [some (.ref a), some (.int x1)] [.ref a] (fun _ => rfl) ?_
        refine g_getA 118 rfl rfl (Md_l ka) (Md_r33 ka) ?_
        obtain ⟨q5, eq5, e⟩ := g_bd e
        refine g_cS 121 rfl rfl (by decide) rfl rfl rfl (Md_sum_s (g_lnk (Md_k33 ka)) eq5) ?_
        cases e
        exact g_ret rfl (fun _ _ => rfl)
      replace e := (if_neg c6).symm.trans e
      by_cases c8 : x1 = (3 : Int32)
      · replace e := (if_pos c8).symm.trans e
        refine g_sw (p1 := 122) (L1 := [some (.ref a), some (.int x1)]) (S1 := []) (s1 := (l, r, h, j)) rfl c8 (fun _ _ => rfl) ?_
        refine g_run 1 123 [some (.ref a), some (.int x1)] [.ref a] (fun _ => rfl) ?_
        refine g_getA 126 rfl rfl (Md_l ka) (Md_r34 ka) ?_
        obtain ⟨q7, eq7, e⟩ := g_bd e
        refine g_cS 129 rfl rfl (by decide) rfl rfl rfl (Md_sum_s (g_lnk (Md_k34 ka)) eq7) ?_
        cases e
        exact g_ret rfl (fun _ _ => rfl)
      replace e := (if_neg c8).symm.trans e
      by_cases c9 : x1 = (4 : Int32)
      · replace e := (if_pos c9).symm.trans e
        refine g_sw (p1 := 130) (L1 := [some (.ref a), some (.int x1)]) (S1 := []) (s1 := (l, r, h, j)) rfl c9 (fun _ _ => rfl) ?_
        refine g_run 1 131 [some (.ref a), some (.int x1)] [.ref a] (fun _ => rfl) ?_
        refine g_getI 134 rfl rfl (Md_l ka) ?_
        cases e
        exact g_ret rfl (fun _ _ => rfl)
      replace e := (if_neg c9).symm.trans e
      by_cases c10 : x1 = (5 : Int32)
      · replace e := (if_pos c10).symm.trans e
        refine g_sw (p1 := 135) (L1 := [some (.ref a), some (.int x1)]) (S1 := []) (s1 := (l, r, h, j)) rfl c10 (fun _ _ => rfl) ?_
        refine g_run 1 136 [some (.ref a), some (.int x1)] [.ref a] (fun _ => rfl) ?_
        refine g_getI 139 rfl rfl (Md_l ka) ?_
        cases e
        exact g_ret rfl (fun _ _ => rfl)
      replace e := (if_neg c10).symm.trans e
      by_cases c11 : x1 = (6 : Int32)
      · replace e := (if_pos c11).symm.trans e
        refine g_sw (p1 := 140) (L1 := [some (.ref a), some (.int x1)]) (S1 := []) (s1 := (l, r, h, j)) rfl c11 (fun _ _ => rfl) ?_
        refine g_run 1 141 [some (.ref a), some (.int x1)] [.ref a] (fun _ => rfl) ?_
        refine g_getI 144 rfl rfl (Md_l ka) ?_
        cases e
        exact g_ret rfl (fun _ _ => rfl)
      replace e := (if_neg c11).symm.trans e
      by_cases c12 : x1 = (7 : Int32)
      · replace e := (if_pos c12).symm.trans e
        refine g_sw (p1 := 145) (L1 := [some (.ref a), some (.int x1)]) (S1 := []) (s1 := (l, r, h, j)) rfl c12 (fun _ _ => rfl) ?_
        refine g_run 1 146 [some (.ref a), some (.int x1)] [.ref a] (fun _ => rfl) ?_
        refine g_getI 149 rfl rfl (Md_l ka) ?_
        cases e
        exact g_ret rfl (fun _ _ => rfl)
      replace e := (if_neg c12).symm.trans e
      have ic3 : (Int32.toInt x1) ≠ 0 := g_ne c3
      have ic4 : (Int32.toInt x1) ≠ 1 := g_ne c4
      have ic6 : (Int32.toInt x1) ≠ 2 := g_ne c6
      have ic8 : (Int32.toInt x1) ≠ 3 := g_ne c8
      have ic9 : (Int32.toInt x1) ≠ 4 := g_ne c9
      have ic10 : (Int32.toInt x1) ≠ 5 := g_ne c10
      have ic11 : (Int32.toInt x1) ≠ 6 := g_ne c11
      have ic12 : (Int32.toInt x1) ≠ 7 := g_ne c12
      refine g_swd (p1 := 150) (L1 := [some (.ref a), some (.int x1)]) (S1 := []) (s1 := (l, r, h, j)) (x := x1) (lo := 0) (hi := 7) rfl (fun _ _ => rfl) (by omega) ?_
      refine g_run 1 151 [some (.ref a), some (.int x1)] [.int (-1 : Int32)] (fun _ => rfl) ?_
      cases e
      exact g_ret rfl (fun _ _ => rfl)
    · refine g_run 1 47 [some (.ref a), some (.int x1)] [.ref a] (fun _ => rfl) ?_
      refine g_getA 50 rfl rfl (Md_l ka) (Md_r34 ka) ?_
      refine g_run 3 54 [some (.ref a), some (.int x1)] [.int (x1 - (20 : Int32)), .ref (a + 23)] (fun _ => rfl) ?_
      obtain ⟨k13, ek13, e⟩ := g_bd e
      refine g_iald 55 rfl rfl (Md_k34 ka) ek13 ?_
      cases e
      exact g_ret rfl (fun _ _ => rfl)
  · refine g_run 1 19 [some (.ref a), some (.int x1)] [.ref a] (fun _ => rfl) ?_
    refine g_getA 22 rfl rfl (Md_l ka) (Md_r33 ka) ?_
    refine g_run 3 26 [some (.ref a), some (.int x1)] [.int (x1 - (10 : Int32)), .ref (a + 22)] (fun _ => rfl) ?_
    obtain ⟨k14, ek14, e⟩ := g_bd e
    refine g_iald 27 rfl rfl (Md_k33 ka) ek14 ?_
    cases e
    exact g_ret rfl (fun _ _ => rfl)
def Md_day (l : List (Nat × Nat)) (r : am_R) (a : Nat) (x1 : Int32) (x2 : Int32) (h : am_F) : Option (Int32 × am_F) :=
  (Md_hand a x1 (am_up h a 0 (0 : Int32))).bind fun q1 =>
  if q1.1 = 0 then
    some ((-1 : Int32), q1.2)
  else
    (Md_harmOf a q1.2).bind fun q3 =>
    (Md_ofDay l r a x2 q3.2).bind fun q4 =>
    some (q4, q3.2)
theorem Md_day_s {X : Nat × (Nat → Int32)} {l : List (Nat × Nat)} {r : am_R} {h : am_F} {j : am_J} {a : Nat} {x1 : Int32} {x2 : Int32} (ka : Md_K l r a) {q : Int32 × am_F} (e : Md_day l r a x1 x2 h = some q) : Call X 218 [.ref a, .int x1, .int x2] (l, r, h, j) (some (.int q.1), (l, r, q.2, j)) := by
  unfold Md_day at e
  refine ⟨Nat.le_of_ble_eq_true rfl, ?_⟩
  show Ev X 218 0 [some (.ref a), some (.int x1), some (.int x2)] [] (l, r, h, j) _
  refine g_run 2 2 [some (.ref a), some (.int x1), some (.int x2)] [.int (0 : Int32), .ref a] (fun _ => rfl) ?_
  refine g_putI 5 rfl rfl (Md_l ka) ?_
  refine g_run 2 7 [some (.ref a), some (.int x1), some (.int x2)] [.int x1, .ref a] (fun _ => rfl) ?_
  obtain ⟨q1, eq1, e⟩ := g_bd e
  refine g_cV 10 rfl rfl rfl rfl rfl (Md_l ka) (Md_hand_s ka eq1) ?_
  refine g_if (p1 := 13) (L1 := [some (.ref a), some (.int x1), some (.int x2)]) (S1 := []) (s1 := (l, r, q1.2, j)) (p2 := 15) (L2 := [some (.ref a), some (.int x1), some (.int x2)]) (S2 := []) (s2 := (l, r, q1.2, j)) rfl (fun _ _ => rfl) e (fun c2 e => ?_) (fun c2 e => ?_)
  · refine g_run 1 14 [some (.ref a), some (.int x1), some (.int x2)] [.int (-1 : Int32)] (fun _ => rfl) ?_
    cases e
    exact g_ret rfl (fun _ _ => rfl)
  · refine g_run 1 16 [some (.ref a), some (.int x1), some (.int x2)] [.ref a] (fun _ => rfl) ?_
    obtain ⟨q3, eq3, e⟩ := g_bd e
    refine g_cV 19 rfl rfl rfl rfl rfl (Md_l ka) (Md_harmOf_s ka eq3) ?_
    refine g_run 3 22 [some (.ref a), some (.int x1), some (.int x2)] [.int x2, .ref a] (fun _ => rfl) ?_
    obtain ⟨q4, eq4, e⟩ := g_bd e
    refine g_cV 25 rfl rfl rfl rfl rfl (Md_l ka) (Md_ofDay_s ka eq4) ?_
    cases e
    exact g_ret rfl (fun _ _ => rfl)
def Md_hang_l76 (x0 : Nat) (x3 : Int32) (x4 : Int32) (x7 : Int32) : Nat → Int32 → Int32 → Int32 → am_F → Option (Int32 × Int32 × am_F)
  | 0, _, _, _, _ => none
  | n + 1, x5, x6, x8, h =>
    if (48 : Int32) ≤ x8 then
      some (x5, x6, h)
    else
      (g_ix (x4 + (2 : Int32)) 195).bind fun k10 =>
      (g_ix (x4 + (3 : Int32)) 195).bind fun k11 =>
      (Md_harmOf x0 (am_up (am_up h (x0 + 12) k10 x7) (x0 + 12) k11 x8)).bind fun q12 =>
      (if x6 ≤ q12.1 then
          some x5
        else
          some x8 : Option (Int32)).bind fun q15 =>
      Md_hang_l76 x0 x3 x4 x7 n q15 (Md_lesser x6 q12.1) (x8 + (1 : Int32)) q12.2
def Md_hang (a : Nat) (x1 : Int32) (x2 : Int32) (x3 : Int32) (h : am_F) : Option (Int32 × am_F) :=
  (Md_hand a x1 (am_up h a 0 (0 : Int32))).bind fun q1 =>
  if q1.1 = 0 then
    some ((-2 : Int32), q1.2)
  else
    (Md_isBench a x2 q1.2).bind fun q3 =>
    if q3 = 0 then
      some ((-2 : Int32), q1.2)
    else
      (g_ix (((55 : Int32) + ((4 : Int32) * x2)) + (2 : Int32)) 195).bind fun k5 =>
      (g_ix (((55 : Int32) + ((4 : Int32) * x2)) + (3 : Int32)) 195).bind fun k6 =>
      (Md_harmOf a (am_up (am_up q1.2 (a + 12) k5 (-1 : Int32)) (a + 12) k6 (-1 : Int32))).bind fun q7 =>
      (Md_painted a x2 q7.2).bind fun q8 =>
      (Md_hang_l76 a x3 ((55 : Int32) + ((4 : Int32) * x2)) (Md_greater (0 : Int32) q8) g_fu (-1 : Int32) q7.1 (Md_greater (0 : Int32) q8) q7.2).bind fun q16 =>
      if x3 = 0 then
        some (q16.2.1, q16.2.2)
      else
        some (q16.1, q16.2.2)
theorem Md_hang_l76_s {X : Nat × (Nat → Int32)} {l : List (Nat × Nat)} {r : am_R} {x0 : Nat} {x3 : Int32} {x4 : Int32} {x7 : Int32} {y1 : Int32} {y2 : Int32} {j : am_J} {q : Int32 × Int32 × am_F} {R : Option Value × am_S} (kx0 : Md_K l r x0) (hx : ∀ (d9 : Option Value) (y8 : Int32) , Ev X 219 142 [some (.ref x0), some (.int y1), some (.int y2), some (.int x3), some (.int x4), some (.int q.1), some (.int q.2.1), some (.int x7), some (.int y8), d9] [] (l, r, q.2.2, j) R) : ∀ (n : Nat) (x5 : Int32) (x6 : Int32) (x8 : Int32) (h : am_F) (d9 : Option Value), Md_hang_l76 x0 x3 x4 x7 n x5 x6 x8 h = some q → Ev X 219 76 [some (.ref x0), some (.int y1), some (.int y2), some (.int x3), some (.int x4), some (.int x5), some (.int x6), some (.int x7), some (.int x8), d9] [] (l, r, h, j) R := by
  intro n
  induction n with
  | zero => intro x5 x6 x8 h d9 e; cases e
  | succ n ih =>
    intro x5 x6 x8 h d9 e
    unfold Md_hang_l76 at e
    refine g_run 2 80 [some (.ref x0), some (.int y1), some (.int y2), some (.int x3), some (.int x4), some (.int x5), some (.int x6), some (.int x7), some (.int x8), d9] [.int (48 : Int32), .int x8] (fun _ => rfl) ?_
    refine g_if (p1 := 142) (L1 := [some (.ref x0), some (.int y1), some (.int y2), some (.int x3), some (.int x4), some (.int x5), some (.int x6), some (.int x7), some (.int x8), d9]) (S1 := []) (s1 := (l, r, h, j)) (p2 := 83) (L2 := [some (.ref x0), some (.int y1), some (.int y2), some (.int x3), some (.int x4), some (.int x5), some (.int x6), some (.int x7), some (.int x8), d9]) (S2 := []) (s2 := (l, r, h, j)) rfl (fun _ _ => rfl) e (fun c9 e => ?_) (fun c9 e => ?_)
    · cases e
      exact hx _ _
    · refine g_run 1 84 [some (.ref x0), some (.int y1), some (.int y2), some (.int x3), some (.int x4), some (.int x5), some (.int x6), some (.int x7), some (.int x8), d9] [.ref x0] (fun _ => rfl) ?_
      refine g_getA 87 rfl rfl (Md_l kx0) (Md_r23 kx0) ?_
      refine g_run 4 93 [some (.ref x0), some (.int y1), some (.int y2), some (.int x3), some (.int x4), some (.int x5), some (.int x6), some (.int x7), some (.int x8), d9] [.int x7, .int (x4 + (2 : Int32)), .ref (x0 + 12)] (fun _ => rfl) ?_
      obtain ⟨k10, ek10, e⟩ := g_bd e
      refine g_iast 94 rfl rfl (Md_k23 kx0) ek10 ?_
      refine g_run 1 95 [some (.ref x0), some (.int y1), some (.int y2), some (.int x3), some (.int x4), some (.int x5), some (.int x6), some (.int x7), some (.int x8), d9] [.ref x0] (fun _ => rfl) ?_
      refine g_getA 98 rfl rfl (Md_l kx0) (Md_r23 kx0) ?_
      refine g_run 4 104 [some (.ref x0), some (.int y1), some (.int y2), some (.int x3), some (.int x4), some (.int x5), some (.int x6), some (.int x7), some (.int x8), d9] [.int x8, .int (x4 + (3 : Int32)), .ref (x0 + 12)] (fun _ => rfl) ?_
      obtain ⟨k11, ek11, e⟩ := g_bd e
      refine g_iast 105 rfl rfl (Md_k23 kx0) ek11 ?_
      refine g_run 1 106 [some (.ref x0), some (.int y1), some (.int y2), some (.int x3), some (.int x4), some (.int x5), some (.int x6), some (.int x7), some (.int x8), d9] [.ref x0] (fun _ => rfl) ?_
      obtain ⟨q12, eq12, e⟩ := g_bd e
      refine g_cV 109 rfl rfl rfl rfl rfl (Md_l kx0) (Md_harmOf_s kx0 eq12) ?_
      refine g_run 3 115 [some (.ref x0), some (.int y1), some (.int y2), some (.int x3), some (.int x4), some (.int x5), some (.int x6), some (.int x7), some (.int x8), some (.int q12.1)] [.int x6, .int q12.1] (fun _ => rfl) ?_
      obtain ⟨q15, eq15, e⟩ := g_bd e
      have hjq15 : ∀ (_ : True), Ev X 219 125 [some (.ref x0), some (.int y1), some (.int y2), some (.int x3), some (.int x4), some (.int x5), some (.int x6), some (.int x7), some (.int x8), some (.int q12.1)] [.int q15] (l, r, q12.2, j) R := by
        intro _
        refine g_run 3 131 [some (.ref x0), some (.int y1), some (.int y2), some (.int x3), some (.int x4), some (.int q15), some (.int x6), some (.int x7), some (.int x8), some (.int q12.1)] [.int q12.1, .int x6] (fun _ => rfl) ?_
        refine g_cS 134 rfl rfl (by decide) rfl rfl rfl Md_lesser_s ?_
        refine g_run 3 76 [some (.ref x0), some (.int y1), some (.int y2), some (.int x3), some (.int x4), some (.int q15), some (.int (Md_lesser x6 q12.1)), some (.int x7), some (.int (x8 + (1 : Int32))), some (.int q12.1)] [] (fun _ => rfl) ?_
        exact ih _ _ _ _ _ e
      replace e := eq15
      refine g_if (p1 := 123) (L1 := [some (.ref x0), some (.int y1), some (.int y2), some (.int x3), some (.int x4), some (.int x5), some (.int x6), some (.int x7), some (.int x8), some (.int q12.1)]) (S1 := []) (s1 := (l, r, q12.2, j)) (p2 := 118) (L2 := [some (.ref x0), some (.int y1), some (.int y2), some (.int x3), some (.int x4), some (.int x5), some (.int x6), some (.int x7), some (.int x8), some (.int q12.1)]) (S2 := []) (s2 := (l, r, q12.2, j)) rfl (fun _ _ => rfl) e (fun c13 e => ?_) (fun c13 e => ?_)
      · refine g_run 1 125 [some (.ref x0), some (.int y1), some (.int y2), some (.int x3), some (.int x4), some (.int x5), some (.int x6), some (.int x7), some (.int x8), some (.int q12.1)] [.int x5] (fun _ => rfl) ?_
        cases e
        exact hjq15 trivial
      · refine g_run 2 125 [some (.ref x0), some (.int y1), some (.int y2), some (.int x3), some (.int x4), some (.int x5), some (.int x6), some (.int x7), some (.int x8), some (.int q12.1)] [.int x8] (fun _ => rfl) ?_
        cases e
        exact hjq15 trivial
theorem Md_hang_s {X : Nat × (Nat → Int32)} {l : List (Nat × Nat)} {r : am_R} {h : am_F} {j : am_J} {a : Nat} {x1 : Int32} {x2 : Int32} {x3 : Int32} (ka : Md_K l r a) {q : Int32 × am_F} (e : Md_hang a x1 x2 x3 h = some q) : Call X 219 [.ref a, .int x1, .int x2, .int x3] (l, r, h, j) (some (.int q.1), (l, r, q.2, j)) := by
  unfold Md_hang at e
  refine ⟨Nat.le_of_ble_eq_true rfl, ?_⟩
  show Ev X 219 0 [some (.ref a), some (.int x1), some (.int x2), some (.int x3), none, none, none, none, none, none] [] (l, r, h, j) _
  refine g_run 2 2 [some (.ref a), some (.int x1), some (.int x2), some (.int x3), none, none, none, none, none, none] [.int (0 : Int32), .ref a] (fun _ => rfl) ?_
  refine g_putI 5 rfl rfl (Md_l ka) ?_
  refine g_run 2 7 [some (.ref a), some (.int x1), some (.int x2), some (.int x3), none, none, none, none, none, none] [.int x1, .ref a] (fun _ => rfl) ?_
  obtain ⟨q1, eq1, e⟩ := g_bd e
  refine g_cV 10 rfl rfl rfl rfl rfl (Md_l ka) (Md_hand_s ka eq1) ?_
  refine g_if (p1 := 21) (L1 := [some (.ref a), some (.int x1), some (.int x2), some (.int x3), none, none, none, none, none, none]) (S1 := []) (s1 := (l, r, q1.2, j)) (p2 := 13) (L2 := [some (.ref a), some (.int x1), some (.int x2), some (.int x3), none, none, none, none, none, none]) (S2 := []) (s2 := (l, r, q1.2, j)) rfl (fun _ _ => rfl) e (fun c2 e => ?_) (fun c2 e => ?_)
  · refine g_run 1 23 [some (.ref a), some (.int x1), some (.int x2), some (.int x3), none, none, none, none, none, none] [.int (-2 : Int32)] (fun _ => rfl) ?_
    cases e
    exact g_ret rfl (fun _ _ => rfl)
  · refine g_run 2 15 [some (.ref a), some (.int x1), some (.int x2), some (.int x3), none, none, none, none, none, none] [.int x2, .ref a] (fun _ => rfl) ?_
    obtain ⟨q3, eq3, e⟩ := g_bd e
    refine g_cV 18 rfl rfl rfl rfl rfl (Md_l ka) (Md_isBench_s ka eq3) ?_
    refine g_if (p1 := 21) (L1 := [some (.ref a), some (.int x1), some (.int x2), some (.int x3), none, none, none, none, none, none]) (S1 := []) (s1 := (l, r, q1.2, j)) (p2 := 24) (L2 := [some (.ref a), some (.int x1), some (.int x2), some (.int x3), none, none, none, none, none, none]) (S2 := []) (s2 := (l, r, q1.2, j)) rfl (fun _ _ => rfl) e (fun c4 e => ?_) (fun c4 e => ?_)
    · refine g_run 1 23 [some (.ref a), some (.int x1), some (.int x2), some (.int x3), none, none, none, none, none, none] [.int (-2 : Int32)] (fun _ => rfl) ?_
      cases e
      exact g_ret rfl (fun _ _ => rfl)
    · refine g_run 7 33 [some (.ref a), some (.int x1), some (.int x2), some (.int x3), some (.int ((55 : Int32) + ((4 : Int32) * x2))), none, none, none, none, none] [.ref a] (fun _ => rfl) ?_
      refine g_getA 36 rfl rfl (Md_l ka) (Md_r23 ka) ?_
      refine g_run 4 41 [some (.ref a), some (.int x1), some (.int x2), some (.int x3), some (.int ((55 : Int32) + ((4 : Int32) * x2))), none, none, none, none, none] [.int (-1 : Int32), .int (((55 : Int32) + ((4 : Int32) * x2)) + (2 : Int32)), .ref (a + 12)] (fun _ => rfl) ?_
      obtain ⟨k5, ek5, e⟩ := g_bd e
      refine g_iast 42 rfl rfl (Md_k23 ka) ek5 ?_
      refine g_run 1 43 [some (.ref a), some (.int x1), some (.int x2), some (.int x3), some (.int ((55 : Int32) + ((4 : Int32) * x2))), none, none, none, none, none] [.ref a] (fun _ => rfl) ?_
      refine g_getA 46 rfl rfl (Md_l ka) (Md_r23 ka) ?_
      refine g_run 4 51 [some (.ref a), some (.int x1), some (.int x2), some (.int x3), some (.int ((55 : Int32) + ((4 : Int32) * x2))), none, none, none, none, none] [.int (-1 : Int32), .int (((55 : Int32) + ((4 : Int32) * x2)) + (3 : Int32)), .ref (a + 12)] (fun _ => rfl) ?_
      obtain ⟨k6, ek6, e⟩ := g_bd e
      refine g_iast 52 rfl rfl (Md_k23 ka) ek6 ?_
      refine g_run 3 56 [some (.ref a), some (.int x1), some (.int x2), some (.int x3), some (.int ((55 : Int32) + ((4 : Int32) * x2))), some (.int (-1 : Int32)), none, none, none, none] [.ref a] (fun _ => rfl) ?_
      obtain ⟨q7, eq7, e⟩ := g_bd e
      refine g_cV 59 rfl rfl rfl rfl rfl (Md_l ka) (Md_harmOf_s ka eq7) ?_
      refine g_run 4 64 [some (.ref a), some (.int x1), some (.int x2), some (.int x3), some (.int ((55 : Int32) + ((4 : Int32) * x2))), some (.int (-1 : Int32)), some (.int q7.1), none, none, none] [.int x2, .ref a, .int (0 : Int32)] (fun _ => rfl) ?_
      obtain ⟨q8, eq8, e⟩ := g_bd e
      refine g_cV 67 rfl rfl rfl rfl rfl (Md_l ka) (Md_painted_s ka eq8) ?_
      refine g_cS 70 rfl rfl (by decide) rfl rfl rfl Md_greater_s ?_
      refine g_run 3 76 [some (.ref a), some (.int x1), some (.int x2), some (.int x3), some (.int ((55 : Int32) + ((4 : Int32) * x2))), some (.int (-1 : Int32)), some (.int q7.1), some (.int (Md_greater (0 : Int32) q8)), some (.int (Md_greater (0 : Int32) q8)), none] [] (fun _ => rfl) ?_
      obtain ⟨q16, eq16, e⟩ := g_bd e
      refine Md_hang_l76_s ka (fun d17 y18 => ?_) _ _ _ _ _ _ eq16
      refine g_run 1 143 [some (.ref a), some (.int x1), some (.int x2), some (.int x3), some (.int ((55 : Int32) + ((4 : Int32) * x2))), some (.int q16.1), some (.int q16.2.1), some (.int (Md_greater (0 : Int32) q8)), some (.int y18), d17] [.int x3] (fun _ => rfl) ?_
      refine g_if (p1 := 151) (L1 := [some (.ref a), some (.int x1), some (.int x2), some (.int x3), some (.int ((55 : Int32) + ((4 : Int32) * x2))), some (.int q16.1), some (.int q16.2.1), some (.int (Md_greater (0 : Int32) q8)), some (.int y18), d17]) (S1 := []) (s1 := (l, r, q16.2.2, j)) (p2 := 146) (L2 := [some (.ref a), some (.int x1), some (.int x2), some (.int x3), some (.int ((55 : Int32) + ((4 : Int32) * x2))), some (.int q16.1), some (.int q16.2.1), some (.int (Md_greater (0 : Int32) q8)), some (.int y18), d17]) (S2 := []) (s2 := (l, r, q16.2.2, j)) rfl (fun _ _ => rfl) e (fun c19 e => ?_) (fun c19 e => ?_)
      · refine g_run 1 153 [some (.ref a), some (.int x1), some (.int x2), some (.int x3), some (.int ((55 : Int32) + ((4 : Int32) * x2))), some (.int q16.1), some (.int q16.2.1), some (.int (Md_greater (0 : Int32) q8)), some (.int y18), d17] [.int q16.2.1] (fun _ => rfl) ?_
        cases e
        exact g_ret rfl (fun _ _ => rfl)
      · refine g_run 2 153 [some (.ref a), some (.int x1), some (.int x2), some (.int x3), some (.int ((55 : Int32) + ((4 : Int32) * x2))), some (.int q16.1), some (.int q16.2.1), some (.int (Md_greater (0 : Int32) q8)), some (.int y18), d17] [.int q16.1] (fun _ => rfl) ?_
        cases e
        exact g_ret rfl (fun _ _ => rfl)
def Md_harmBy_l2 (x0 : Nat) (x1 : Int32) : Nat → Int32 → am_F → Option (am_F)
  | 0, _, _ => none
  | n + 1, x2, h =>
    if (h (x0 + 12) 6) ≤ x2 then
      some h
    else
      (g_ix ((111 : Int32) + ((6 : Int32) * x2)) 195).bind fun k2 =>
      Md_harmBy_l2 x0 x1 n (x2 + (1 : Int32)) (am_up h (x0 + 12) k2 x1)
def Md_harmBy (a : Nat) (x1 : Int32) (h : am_F) : Option (Int32 × am_F) :=
  (Md_harmBy_l2 a x1 g_fu (0 : Int32) h).bind fun q3 =>
  (Md_harmOf a q3).bind fun q5 =>
  some (q5.1, q5.2)
theorem Md_harmBy_l2_s {X : Nat × (Nat → Int32)} {l : List (Nat × Nat)} {r : am_R} {x0 : Nat} {x1 : Int32} {j : am_J} {q : am_F} {R : Option Value × am_S} (kx0 : Md_K l r x0) (hx : ∀ (y2 : Int32) , Ev X 220 32 [some (.ref x0), some (.int x1), some (.int y2)] [] (l, r, q, j) R) : ∀ (n : Nat) (x2 : Int32) (h : am_F), Md_harmBy_l2 x0 x1 n x2 h = some q → Ev X 220 2 [some (.ref x0), some (.int x1), some (.int x2)] [] (l, r, h, j) R := by
  intro n
  induction n with
  | zero => intro x2 h e; cases e
  | succ n ih =>
    intro x2 h e
    unfold Md_harmBy_l2 at e
    refine g_run 2 4 [some (.ref x0), some (.int x1), some (.int x2)] [.ref x0, .int x2] (fun _ => rfl) ?_
    refine g_getA 7 rfl rfl (Md_l kx0) (Md_r23 kx0) ?_
    refine g_run 1 9 [some (.ref x0), some (.int x1), some (.int x2)] [.int (6 : Int32), .ref (x0 + 12), .int x2] (fun _ => rfl) ?_
    refine g_iald 10 rfl rfl (Md_k23 kx0) (kx := 6) rfl ?_
    refine g_if (p1 := 32) (L1 := [some (.ref x0), some (.int x1), some (.int x2)]) (S1 := []) (s1 := (l, r, h, j)) (p2 := 13) (L2 := [some (.ref x0), some (.int x1), some (.int x2)]) (S2 := []) (s2 := (l, r, h, j)) rfl (fun _ _ => rfl) e (fun c1 e => ?_) (fun c1 e => ?_)
    · cases e
      exact hx _
    · refine g_run 1 14 [some (.ref x0), some (.int x1), some (.int x2)] [.ref x0] (fun _ => rfl) ?_
      refine g_getA 17 rfl rfl (Md_l kx0) (Md_r23 kx0) ?_
      refine g_run 6 25 [some (.ref x0), some (.int x1), some (.int x2)] [.int x1, .int ((111 : Int32) + ((6 : Int32) * x2)), .ref (x0 + 12)] (fun _ => rfl) ?_
      obtain ⟨k2, ek2, e⟩ := g_bd e
      refine g_iast 26 rfl rfl (Md_k23 kx0) ek2 ?_
      refine g_run 2 2 [some (.ref x0), some (.int x1), some (.int (x2 + (1 : Int32)))] [] (fun _ => rfl) ?_
      exact ih _ _ e
theorem Md_harmBy_s {X : Nat × (Nat → Int32)} {l : List (Nat × Nat)} {r : am_R} {h : am_F} {j : am_J} {a : Nat} {x1 : Int32} (ka : Md_K l r a) {q : Int32 × am_F} (e : Md_harmBy a x1 h = some q) : Call X 220 [.ref a, .int x1] (l, r, h, j) (some (.int q.1), (l, r, q.2, j)) := by
  unfold Md_harmBy at e
  refine ⟨Nat.le_of_ble_eq_true rfl, ?_⟩
  show Ev X 220 0 [some (.ref a), some (.int x1), none] [] (l, r, h, j) _
  refine g_run 2 2 [some (.ref a), some (.int x1), some (.int (0 : Int32))] [] (fun _ => rfl) ?_
  obtain ⟨q3, eq3, e⟩ := g_bd e
  refine Md_harmBy_l2_s ka (fun y4 => ?_) _ _ _ eq3
  refine g_run 1 33 [some (.ref a), some (.int x1), some (.int y4)] [.ref a] (fun _ => rfl) ?_
  obtain ⟨q5, eq5, e⟩ := g_bd e
  refine g_cV 36 rfl rfl rfl rfl rfl (Md_l ka) (Md_harmOf_s ka eq5) ?_
  cases e
  exact g_ret rfl (fun _ _ => rfl)
def Md_rule_l48 (x0 : Nat) : Nat → Int32 → Int32 → Int32 → am_F → Option (Int32 × am_F)
  | 0, _, _, _, _ => none
  | n + 1, x3, x4, x5, h =>
    if (4 : Int32) < x5 then
      some (x3, h)
    else
      (Md_harmBy x0 x5 h).bind fun q7 =>
      (if x4 ≤ q7.1 then
          some x3
        else
          some x5 : Option (Int32)).bind fun q10 =>
      Md_rule_l48 x0 n q10 (Md_lesser x4 q7.1) (x5 + (1 : Int32)) q7.2
def Md_rule (a : Nat) (x1 : Int32) (x2 : Int32) (h : am_F) : Option (Int32 × am_F) :=
  if (Md_in x2 (-1 : Int32) (4 : Int32)) = 0 then
    some ((-2 : Int32), (am_up h a 0 (0 : Int32)))
  else
    (Md_hand a x1 (am_up h a 0 (0 : Int32))).bind fun q2 =>
    if q2.1 = 0 then
      some ((-2 : Int32), q2.2)
    else
      if x2 = (-1 : Int32) then
        (Md_harmBy a (0 : Int32) q2.2).bind fun q5 =>
        (Md_rule_l48 a g_fu (0 : Int32) q5.1 (1 : Int32) q5.2).bind fun q11 =>
        some (q11.1, q11.2)
      else
        (Md_harmBy a x2 q2.2).bind fun q15 =>
        some (q15.1, q15.2)
theorem Md_rule_l48_s {X : Nat × (Nat → Int32)} {l : List (Nat × Nat)} {r : am_R} {x0 : Nat} {y1 : Int32} {y2 : Int32} {j : am_J} {q : Int32 × am_F} {R : Option Value × am_S} (kx0 : Md_K l r x0) (hx : ∀ (d6 : Option Value) (y4 : Int32) (y5 : Int32) , Ev X 221 91 [some (.ref x0), some (.int y1), some (.int y2), some (.int q.1), some (.int y4), some (.int y5), d6] [] (l, r, q.2, j) R) : ∀ (n : Nat) (x3 : Int32) (x4 : Int32) (x5 : Int32) (h : am_F) (d6 : Option Value), Md_rule_l48 x0 n x3 x4 x5 h = some q → Ev X 221 48 [some (.ref x0), some (.int y1), some (.int y2), some (.int x3), some (.int x4), some (.int x5), d6] [] (l, r, h, j) R := by
  intro n
  induction n with
  | zero => intro x3 x4 x5 h d6 e; cases e
  | succ n ih =>
    intro x3 x4 x5 h d6 e
    unfold Md_rule_l48 at e
    refine g_run 2 51 [some (.ref x0), some (.int y1), some (.int y2), some (.int x3), some (.int x4), some (.int x5), d6] [.int (4 : Int32), .int x5] (fun _ => rfl) ?_
    refine g_if (p1 := 91) (L1 := [some (.ref x0), some (.int y1), some (.int y2), some (.int x3), some (.int x4), some (.int x5), d6]) (S1 := []) (s1 := (l, r, h, j)) (p2 := 54) (L2 := [some (.ref x0), some (.int y1), some (.int y2), some (.int x3), some (.int x4), some (.int x5), d6]) (S2 := []) (s2 := (l, r, h, j)) rfl (fun _ _ => rfl) e (fun c6 e => ?_) (fun c6 e => ?_)
    · cases e
      exact hx _ _ _
    · refine g_run 2 57 [some (.ref x0), some (.int y1), some (.int y2), some (.int x3), some (.int x4), some (.int x5), d6] [.int x5, .ref x0] (fun _ => rfl) ?_
      obtain ⟨q7, eq7, e⟩ := g_bd e
      refine g_cV 60 rfl rfl rfl rfl rfl (Md_l kx0) (Md_harmBy_s kx0 eq7) ?_
      refine g_run 3 66 [some (.ref x0), some (.int y1), some (.int y2), some (.int x3), some (.int x4), some (.int x5), some (.int q7.1)] [.int x4, .int q7.1] (fun _ => rfl) ?_
      obtain ⟨q10, eq10, e⟩ := g_bd e
      have hjq10 : ∀ (_ : True), Ev X 221 75 [some (.ref x0), some (.int y1), some (.int y2), some (.int x3), some (.int x4), some (.int x5), some (.int q7.1)] [.int q10] (l, r, q7.2, j) R := by
        intro _
        refine g_run 3 80 [some (.ref x0), some (.int y1), some (.int y2), some (.int q10), some (.int x4), some (.int x5), some (.int q7.1)] [.int q7.1, .int x4] (fun _ => rfl) ?_
        refine g_cS 83 rfl rfl (by decide) rfl rfl rfl Md_lesser_s ?_
        refine g_run 3 48 [some (.ref x0), some (.int y1), some (.int y2), some (.int q10), some (.int (Md_lesser x4 q7.1)), some (.int (x5 + (1 : Int32))), some (.int q7.1)] [] (fun _ => rfl) ?_
        exact ih _ _ _ _ _ e
      replace e := eq10
      refine g_if (p1 := 74) (L1 := [some (.ref x0), some (.int y1), some (.int y2), some (.int x3), some (.int x4), some (.int x5), some (.int q7.1)]) (S1 := []) (s1 := (l, r, q7.2, j)) (p2 := 69) (L2 := [some (.ref x0), some (.int y1), some (.int y2), some (.int x3), some (.int x4), some (.int x5), some (.int q7.1)]) (S2 := []) (s2 := (l, r, q7.2, j)) rfl (fun _ _ => rfl) e (fun c8 e => ?_) (fun c8 e => ?_)
      · refine g_run 1 75 [some (.ref x0), some (.int y1), some (.int y2), some (.int x3), some (.int x4), some (.int x5), some (.int q7.1)] [.int x3] (fun _ => rfl) ?_
        cases e
        exact hjq10 trivial
      · refine g_run 2 75 [some (.ref x0), some (.int y1), some (.int y2), some (.int x3), some (.int x4), some (.int x5), some (.int q7.1)] [.int x5] (fun _ => rfl) ?_
        cases e
        exact hjq10 trivial
theorem Md_rule_s {X : Nat × (Nat → Int32)} {l : List (Nat × Nat)} {r : am_R} {h : am_F} {j : am_J} {a : Nat} {x1 : Int32} {x2 : Int32} (ka : Md_K l r a) {q : Int32 × am_F} (e : Md_rule a x1 x2 h = some q) : Call X 221 [.ref a, .int x1, .int x2] (l, r, h, j) (some (.int q.1), (l, r, q.2, j)) := by
  unfold Md_rule at e
  refine ⟨Nat.le_of_ble_eq_true rfl, ?_⟩
  show Ev X 221 0 [some (.ref a), some (.int x1), some (.int x2), none, none, none, none] [] (l, r, h, j) _
  refine g_run 2 2 [some (.ref a), some (.int x1), some (.int x2), none, none, none, none] [.int (0 : Int32), .ref a] (fun _ => rfl) ?_
  refine g_putI 5 rfl rfl (Md_l ka) ?_
  refine g_run 3 8 [some (.ref a), some (.int x1), some (.int x2), none, none, none, none] [.int (4 : Int32), .int (-1 : Int32), .int x2] (fun _ => rfl) ?_
  refine g_cS 11 rfl rfl (by decide) rfl rfl rfl Md_in_s ?_
  refine g_if (p1 := 22) (L1 := [some (.ref a), some (.int x1), some (.int x2), none, none, none, none]) (S1 := []) (s1 := (l, r, (am_up h a 0 (0 : Int32)), j)) (p2 := 14) (L2 := [some (.ref a), some (.int x1), some (.int x2), none, none, none, none]) (S2 := []) (s2 := (l, r, (am_up h a 0 (0 : Int32)), j)) rfl (fun _ _ => rfl) e (fun c1 e => ?_) (fun c1 e => ?_)
  · refine g_run 1 24 [some (.ref a), some (.int x1), some (.int x2), none, none, none, none] [.int (-2 : Int32)] (fun _ => rfl) ?_
    cases e
    exact g_ret rfl (fun _ _ => rfl)
  · refine g_run 2 16 [some (.ref a), some (.int x1), some (.int x2), none, none, none, none] [.int x1, .ref a] (fun _ => rfl) ?_
    obtain ⟨q2, eq2, e⟩ := g_bd e
    refine g_cV 19 rfl rfl rfl rfl rfl (Md_l ka) (Md_hand_s ka eq2) ?_
    refine g_if (p1 := 22) (L1 := [some (.ref a), some (.int x1), some (.int x2), none, none, none, none]) (S1 := []) (s1 := (l, r, q2.2, j)) (p2 := 25) (L2 := [some (.ref a), some (.int x1), some (.int x2), none, none, none, none]) (S2 := []) (s2 := (l, r, q2.2, j)) rfl (fun _ _ => rfl) e (fun c3 e => ?_) (fun c3 e => ?_)
    · refine g_run 1 24 [some (.ref a), some (.int x1), some (.int x2), none, none, none, none] [.int (-2 : Int32)] (fun _ => rfl) ?_
      cases e
      exact g_ret rfl (fun _ _ => rfl)
    · refine g_run 2 27 [some (.ref a), some (.int x1), some (.int x2), none, none, none, none] [.int (-1 : Int32), .int x2] (fun _ => rfl) ?_
      refine g_if (p1 := 36) (L1 := [some (.ref a), some (.int x1), some (.int x2), none, none, none, none]) (S1 := []) (s1 := (l, r, q2.2, j)) (p2 := 30) (L2 := [some (.ref a), some (.int x1), some (.int x2), none, none, none, none]) (S2 := []) (s2 := (l, r, q2.2, j)) rfl (fun _ _ => rfl) e (fun c4 e => ?_) (fun c4 e => ?_)
      · refine g_run 4 40 [some (.ref a), some (.int x1), some (.int x2), some (.int (0 : Int32)), none, none, none] [.int (0 : Int32), .ref a] (fun _ => rfl) ?_
        obtain ⟨q5, eq5, e⟩ := g_bd e
        refine g_cV 43 rfl rfl rfl rfl rfl (Md_l ka) (Md_harmBy_s ka eq5) ?_
        refine g_run 3 48 [some (.ref a), some (.int x1), some (.int x2), some (.int (0 : Int32)), some (.int q5.1), some (.int (1 : Int32)), none] [] (fun _ => rfl) ?_
        obtain ⟨q11, eq11, e⟩ := g_bd e
        refine Md_rule_l48_s ka (fun d12 y13 y14 => ?_) _ _ _ _ _ _ eq11
        refine g_run 1 92 [some (.ref a), some (.int x1), some (.int x2), some (.int q11.1), some (.int y13), some (.int y14), d12] [.int q11.1] (fun _ => rfl) ?_
        cases e
        exact g_ret rfl (fun _ _ => rfl)
      · refine g_run 2 32 [some (.ref a), some (.int x1), some (.int x2), none, none, none, none] [.int x2, .ref a] (fun _ => rfl) ?_
        obtain ⟨q15, eq15, e⟩ := g_bd e
        refine g_cV 35 rfl rfl rfl rfl rfl (Md_l ka) (Md_harmBy_s ka eq15) ?_
        cases e
        exact g_ret rfl (fun _ _ => rfl)
def Md_late_l4 (x0 : Nat) (x1 : Int32) (h : am_F) : Nat → Int32 → Int32 → Option (Int32)
  | 0, _, _ => none
  | n + 1, x2, x3 =>
    if (h (x0 + 12) 6) ≤ x3 then
      some x2
    else
      (Md_comer x0 x3 (2 : Int32) h).bind fun q2 =>
      (if q2 = x1 then
          (Md_painted x0 x1 h).bind fun q5 =>
          (Md_comer x0 x3 (1 : Int32) h).bind fun q6 =>
          (Md_stage x0 q5 q6 h).bind fun q7 =>
          if q7 = 0 then
            some (0 : Int32)
          else
            some (1 : Int32)
        else
          some (0 : Int32) : Option (Int32)).bind fun q9 =>
      Md_late_l4 x0 x1 h n (x2 + q9) (x3 + (1 : Int32))
def Md_late (a : Nat) (x1 : Int32) (h : am_F) : Option (Int32) :=
  (Md_late_l4 a x1 h g_fu (0 : Int32) (0 : Int32)).bind fun q10 =>
  some q10
theorem Md_late_l4_s {X : Nat × (Nat → Int32)} {l : List (Nat × Nat)} {r : am_R} {x0 : Nat} {x1 : Int32} {h : am_F} {j : am_J} {q : Int32} {R : Option Value × am_S} (kx0 : Md_K l r x0) (hx : ∀ (y3 : Int32) , Ev X 222 57 [some (.ref x0), some (.int x1), some (.int q), some (.int y3)] [] (l, r, h, j) R) : ∀ (n : Nat) (x2 : Int32) (x3 : Int32), Md_late_l4 x0 x1 h n x2 x3 = some q → Ev X 222 4 [some (.ref x0), some (.int x1), some (.int x2), some (.int x3)] [] (l, r, h, j) R := by
  intro n
  induction n with
  | zero => intro x2 x3 e; cases e
  | succ n ih =>
    intro x2 x3 e
    unfold Md_late_l4 at e
    refine g_run 2 6 [some (.ref x0), some (.int x1), some (.int x2), some (.int x3)] [.ref x0, .int x3] (fun _ => rfl) ?_
    refine g_getA 9 rfl rfl (Md_l kx0) (Md_r23 kx0) ?_
    refine g_run 1 11 [some (.ref x0), some (.int x1), some (.int x2), some (.int x3)] [.int (6 : Int32), .ref (x0 + 12), .int x3] (fun _ => rfl) ?_
    refine g_iald 12 rfl rfl (Md_k23 kx0) (kx := 6) rfl ?_
    refine g_if (p1 := 57) (L1 := [some (.ref x0), some (.int x1), some (.int x2), some (.int x3)]) (S1 := []) (s1 := (l, r, h, j)) (p2 := 15) (L2 := [some (.ref x0), some (.int x1), some (.int x2), some (.int x3)]) (S2 := []) (s2 := (l, r, h, j)) rfl (fun _ _ => rfl) e (fun c1 e => ?_) (fun c1 e => ?_)
    · cases e
      exact hx _
    · refine g_run 4 19 [some (.ref x0), some (.int x1), some (.int x2), some (.int x3)] [.int (2 : Int32), .int x3, .ref x0, .int x2] (fun _ => rfl) ?_
      obtain ⟨q2, eq2, e⟩ := g_bd e
      refine g_cV 22 rfl rfl rfl rfl rfl (Md_l kx0) (Md_comer_s kx0 eq2) ?_
      refine g_run 1 23 [some (.ref x0), some (.int x1), some (.int x2), some (.int x3)] [.int x1, .int q2, .int x2] (fun _ => rfl) ?_
      obtain ⟨q9, eq9, e⟩ := g_bd e
      have hjq9 : ∀ (_ : True), Ev X 222 49 [some (.ref x0), some (.int x1), some (.int x2), some (.int x3)] [.int q9, .int x2] (l, r, h, j) R := by
        intro _
        refine g_run 4 4 [some (.ref x0), some (.int x1), some (.int (x2 + q9)), some (.int (x3 + (1 : Int32)))] [] (fun _ => rfl) ?_
        exact ih _ _ e
      replace e := eq9
      refine g_if (p1 := 26) (L1 := [some (.ref x0), some (.int x1), some (.int x2), some (.int x3)]) (S1 := [.int x2]) (s1 := (l, r, h, j)) (p2 := 48) (L2 := [some (.ref x0), some (.int x1), some (.int x2), some (.int x3)]) (S2 := [.int x2]) (s2 := (l, r, h, j)) rfl (fun _ _ => rfl) e (fun c3 e => ?_) (fun c3 e => ?_)
      · refine g_run 3 29 [some (.ref x0), some (.int x1), some (.int x2), some (.int x3)] [.int x1, .ref x0, .ref x0, .int x2] (fun _ => rfl) ?_
        obtain ⟨q5, eq5, e⟩ := g_bd e
        refine g_cV 32 rfl rfl rfl rfl rfl (Md_l kx0) (Md_painted_s kx0 eq5) ?_
        refine g_run 3 35 [some (.ref x0), some (.int x1), some (.int x2), some (.int x3)] [.int (1 : Int32), .int x3, .ref x0, .int q5, .ref x0, .int x2] (fun _ => rfl) ?_
        obtain ⟨q6, eq6, e⟩ := g_bd e
        refine g_cV 38 rfl rfl rfl rfl rfl (Md_l kx0) (Md_comer_s kx0 eq6) ?_
        obtain ⟨q7, eq7, e⟩ := g_bd e
        refine g_cV 41 rfl rfl rfl rfl rfl (Md_l kx0) (Md_stage_s kx0 eq7) ?_
        refine g_if (p1 := 48) (L1 := [some (.ref x0), some (.int x1), some (.int x2), some (.int x3)]) (S1 := [.int x2]) (s1 := (l, r, h, j)) (p2 := 44) (L2 := [some (.ref x0), some (.int x1), some (.int x2), some (.int x3)]) (S2 := [.int x2]) (s2 := (l, r, h, j)) rfl (fun _ _ => rfl) e (fun c8 e => ?_) (fun c8 e => ?_)
        · refine g_run 1 49 [some (.ref x0), some (.int x1), some (.int x2), some (.int x3)] [.int (0 : Int32), .int x2] (fun _ => rfl) ?_
          cases e
          exact hjq9 trivial
        · refine g_run 2 49 [some (.ref x0), some (.int x1), some (.int x2), some (.int x3)] [.int (1 : Int32), .int x2] (fun _ => rfl) ?_
          cases e
          exact hjq9 trivial
      · refine g_run 1 49 [some (.ref x0), some (.int x1), some (.int x2), some (.int x3)] [.int (0 : Int32), .int x2] (fun _ => rfl) ?_
        cases e
        exact hjq9 trivial
theorem Md_late_s {X : Nat × (Nat → Int32)} {l : List (Nat × Nat)} {r : am_R} {h : am_F} {j : am_J} {a : Nat} {x1 : Int32} (ka : Md_K l r a) {q : Int32} (e : Md_late a x1 h = some q) : Call X 222 [.ref a, .int x1] (l, r, h, j) (some (.int q), (l, r, h, j)) := by
  unfold Md_late at e
  refine ⟨Nat.le_of_ble_eq_true rfl, ?_⟩
  show Ev X 222 0 [some (.ref a), some (.int x1), none, none] [] (l, r, h, j) _
  refine g_run 4 4 [some (.ref a), some (.int x1), some (.int (0 : Int32)), some (.int (0 : Int32))] [] (fun _ => rfl) ?_
  obtain ⟨q10, eq10, e⟩ := g_bd e
  refine Md_late_l4_s ka (fun y11 => ?_) _ _ _ eq10
  refine g_run 1 58 [some (.ref a), some (.int x1), some (.int q10), some (.int y11)] [.int q10] (fun _ => rfl) ?_
  cases e
  exact g_ret rfl (fun _ _ => rfl)
def Md_longest_l7 (x0 : Nat) (x1 : Int32) (h : am_F) : Nat → Int32 → Int32 → Int32 → Option (Int32)
  | 0, _, _, _ => none
  | n + 1, x2, x3, x4 =>
    if (48 : Int32) ≤ x4 then
      some x2
    else
      (Md_painted x0 x1 h).bind fun q2 =>
      (Md_stage x0 q2 x4 h).bind fun q3 =>
      (if q3 = 0 then
          some (x3 + (1 : Int32))
        else
          some (0 : Int32) : Option (Int32)).bind fun q6 =>
      Md_longest_l7 x0 x1 h n (Md_greater x2 q6) q6 (x4 + (1 : Int32))
def Md_longest (a : Nat) (x1 : Int32) (h : am_F) : Option (Int32) :=
  (Md_longest_l7 a x1 h g_fu (0 : Int32) (0 : Int32) (0 : Int32)).bind fun q7 =>
  some q7
theorem Md_longest_l7_s {X : Nat × (Nat → Int32)} {l : List (Nat × Nat)} {r : am_R} {x0 : Nat} {x1 : Int32} {h : am_F} {j : am_J} {q : Int32} {R : Option Value × am_S} (kx0 : Md_K l r x0) (hx : ∀ (y3 : Int32) (y4 : Int32) , Ev X 223 48 [some (.ref x0), some (.int x1), some (.int q), some (.int y3), some (.int y4)] [] (l, r, h, j) R) : ∀ (n : Nat) (x2 : Int32) (x3 : Int32) (x4 : Int32), Md_longest_l7 x0 x1 h n x2 x3 x4 = some q → Ev X 223 7 [some (.ref x0), some (.int x1), some (.int x2), some (.int x3), some (.int x4)] [] (l, r, h, j) R := by
  intro n
  induction n with
  | zero => intro x2 x3 x4 e; cases e
  | succ n ih =>
    intro x2 x3 x4 e
    unfold Md_longest_l7 at e
    refine g_run 2 11 [some (.ref x0), some (.int x1), some (.int x2), some (.int x3), some (.int x4)] [.int (48 : Int32), .int x4] (fun _ => rfl) ?_
    refine g_if (p1 := 48) (L1 := [some (.ref x0), some (.int x1), some (.int x2), some (.int x3), some (.int x4)]) (S1 := []) (s1 := (l, r, h, j)) (p2 := 14) (L2 := [some (.ref x0), some (.int x1), some (.int x2), some (.int x3), some (.int x4)]) (S2 := []) (s2 := (l, r, h, j)) rfl (fun _ _ => rfl) e (fun c1 e => ?_) (fun c1 e => ?_)
    · cases e
      exact hx _ _
    · refine g_run 3 17 [some (.ref x0), some (.int x1), some (.int x2), some (.int x3), some (.int x4)] [.int x1, .ref x0, .ref x0] (fun _ => rfl) ?_
      obtain ⟨q2, eq2, e⟩ := g_bd e
      refine g_cV 20 rfl rfl rfl rfl rfl (Md_l kx0) (Md_painted_s kx0 eq2) ?_
      refine g_run 1 22 [some (.ref x0), some (.int x1), some (.int x2), some (.int x3), some (.int x4)] [.int x4, .int q2, .ref x0] (fun _ => rfl) ?_
      obtain ⟨q3, eq3, e⟩ := g_bd e
      refine g_cV 25 rfl rfl rfl rfl rfl (Md_l kx0) (Md_stage_s kx0 eq3) ?_
      obtain ⟨q6, eq6, e⟩ := g_bd e
      have hjq6 : ∀ (_ : True), Ev X 223 35 [some (.ref x0), some (.int x1), some (.int x2), some (.int x3), some (.int x4)] [.int q6] (l, r, h, j) R := by
        intro _
        refine g_run 3 38 [some (.ref x0), some (.int x1), some (.int x2), some (.int q6), some (.int x4)] [.int q6, .int x2] (fun _ => rfl) ?_
        refine g_cS 41 rfl rfl (by decide) rfl rfl rfl Md_greater_s ?_
        refine g_run 3 7 [some (.ref x0), some (.int x1), some (.int (Md_greater x2 q6)), some (.int q6), some (.int (x4 + (1 : Int32)))] [] (fun _ => rfl) ?_
        exact ih _ _ _ e
      replace e := eq6
      refine g_if (p1 := 28) (L1 := [some (.ref x0), some (.int x1), some (.int x2), some (.int x3), some (.int x4)]) (S1 := []) (s1 := (l, r, h, j)) (p2 := 34) (L2 := [some (.ref x0), some (.int x1), some (.int x2), some (.int x3), some (.int x4)]) (S2 := []) (s2 := (l, r, h, j)) rfl (fun _ _ => rfl) e (fun c4 e => ?_) (fun c4 e => ?_)
      · refine g_run 4 35 [some (.ref x0), some (.int x1), some (.int x2), some (.int x3), some (.int x4)] [.int (x3 + (1 : Int32))] (fun _ => rfl) ?_
        cases e
        exact hjq6 trivial
      · refine g_run 1 35 [some (.ref x0), some (.int x1), some (.int x2), some (.int x3), some (.int x4)] [.int (0 : Int32)] (fun _ => rfl) ?_
        cases e
        exact hjq6 trivial
theorem Md_longest_s {X : Nat × (Nat → Int32)} {l : List (Nat × Nat)} {r : am_R} {h : am_F} {j : am_J} {a : Nat} {x1 : Int32} (ka : Md_K l r a) {q : Int32} (e : Md_longest a x1 h = some q) : Call X 223 [.ref a, .int x1] (l, r, h, j) (some (.int q), (l, r, h, j)) := by
  unfold Md_longest at e
  refine ⟨Nat.le_of_ble_eq_true rfl, ?_⟩
  show Ev X 223 0 [some (.ref a), some (.int x1), none, none, none] [] (l, r, h, j) _
  refine g_run 6 7 [some (.ref a), some (.int x1), some (.int (0 : Int32)), some (.int (0 : Int32)), some (.int (0 : Int32))] [] (fun _ => rfl) ?_
  obtain ⟨q7, eq7, e⟩ := g_bd e
  refine Md_longest_l7_s ka (fun y8 y9 => ?_) _ _ _ _ eq7
  refine g_run 1 49 [some (.ref a), some (.int x1), some (.int q7), some (.int y8), some (.int y9)] [.int q7] (fun _ => rfl) ?_
  cases e
  exact g_ret rfl (fun _ _ => rfl)
def Md_card (a : Nat) (x1 : Int32) (x2 : Int32) (x3 : Int32) (h : am_F) : Option (Int32 × am_F) :=
  (Md_hand a x1 (am_up h a 0 (0 : Int32))).bind fun q1 =>
  if q1.1 = 0 then
    some ((-1 : Int32), q1.2)
  else
    (Md_isBench a x2 q1.2).bind fun q3 =>
    if q3 = 0 then
      some ((-1 : Int32), q1.2)
    else
      if x3 = 0 then
        (Md_painted a x2 q1.2).bind fun q6 =>
        (Md_dries a q6 (47 : Int32) q1.2).bind fun q7 =>
        some (q7, q1.2)
      else
        if x3 = (1 : Int32) then
          (Md_late a x2 q1.2).bind fun q9 =>
          some (q9, q1.2)
        else
          if x3 = (2 : Int32) then
            (Md_longest a x2 q1.2).bind fun q11 =>
            some (q11, q1.2)
          else
            some ((-1 : Int32), q1.2)
theorem Md_card_s {X : Nat × (Nat → Int32)} {l : List (Nat × Nat)} {r : am_R} {h : am_F} {j : am_J} {a : Nat} {x1 : Int32} {x2 : Int32} {x3 : Int32} (ka : Md_K l r a) {q : Int32 × am_F} (e : Md_card a x1 x2 x3 h = some q) : Call X 224 [.ref a, .int x1, .int x2, .int x3] (l, r, h, j) (some (.int q.1), (l, r, q.2, j)) := by
  unfold Md_card at e
  refine ⟨Nat.le_of_ble_eq_true rfl, ?_⟩
  show Ev X 224 0 [some (.ref a), some (.int x1), some (.int x2), some (.int x3)] [] (l, r, h, j) _
  refine g_run 2 2 [some (.ref a), some (.int x1), some (.int x2), some (.int x3)] [.int (0 : Int32), .ref a] (fun _ => rfl) ?_
  refine g_putI 5 rfl rfl (Md_l ka) ?_
  refine g_run 2 7 [some (.ref a), some (.int x1), some (.int x2), some (.int x3)] [.int x1, .ref a] (fun _ => rfl) ?_
  obtain ⟨q1, eq1, e⟩ := g_bd e
  refine g_cV 10 rfl rfl rfl rfl rfl (Md_l ka) (Md_hand_s ka eq1) ?_
  refine g_if (p1 := 21) (L1 := [some (.ref a), some (.int x1), some (.int x2), some (.int x3)]) (S1 := []) (s1 := (l, r, q1.2, j)) (p2 := 13) (L2 := [some (.ref a), some (.int x1), some (.int x2), some (.int x3)]) (S2 := []) (s2 := (l, r, q1.2, j)) rfl (fun _ _ => rfl) e (fun c2 e => ?_) (fun c2 e => ?_)
  · refine g_run 1 22 [some (.ref a), some (.int x1), some (.int x2), some (.int x3)] [.int (-1 : Int32)] (fun _ => rfl) ?_
    cases e
    exact g_ret rfl (fun _ _ => rfl)
  · refine g_run 2 15 [some (.ref a), some (.int x1), some (.int x2), some (.int x3)] [.int x2, .ref a] (fun _ => rfl) ?_
    obtain ⟨q3, eq3, e⟩ := g_bd e
    refine g_cV 18 rfl rfl rfl rfl rfl (Md_l ka) (Md_isBench_s ka eq3) ?_
    refine g_if (p1 := 21) (L1 := [some (.ref a), some (.int x1), some (.int x2), some (.int x3)]) (S1 := []) (s1 := (l, r, q1.2, j)) (p2 := 23) (L2 := [some (.ref a), some (.int x1), some (.int x2), some (.int x3)]) (S2 := []) (s2 := (l, r, q1.2, j)) rfl (fun _ _ => rfl) e (fun c4 e => ?_) (fun c4 e => ?_)
    · refine g_run 1 22 [some (.ref a), some (.int x1), some (.int x2), some (.int x3)] [.int (-1 : Int32)] (fun _ => rfl) ?_
      cases e
      exact g_ret rfl (fun _ _ => rfl)
    · refine g_run 1 24 [some (.ref a), some (.int x1), some (.int x2), some (.int x3)] [.int x3] (fun _ => rfl) ?_
      refine g_if (p1 := 27) (L1 := [some (.ref a), some (.int x1), some (.int x2), some (.int x3)]) (S1 := []) (s1 := (l, r, q1.2, j)) (p2 := 41) (L2 := [some (.ref a), some (.int x1), some (.int x2), some (.int x3)]) (S2 := []) (s2 := (l, r, q1.2, j)) rfl (fun _ _ => rfl) e (fun c5 e => ?_) (fun c5 e => ?_)
      · refine g_run 3 30 [some (.ref a), some (.int x1), some (.int x2), some (.int x3)] [.int x2, .ref a, .ref a] (fun _ => rfl) ?_
        obtain ⟨q6, eq6, e⟩ := g_bd e
        refine g_cV 33 rfl rfl rfl rfl rfl (Md_l ka) (Md_painted_s ka eq6) ?_
        refine g_run 1 35 [some (.ref a), some (.int x1), some (.int x2), some (.int x3)] [.int (47 : Int32), .int q6, .ref a] (fun _ => rfl) ?_
        obtain ⟨q7, eq7, e⟩ := g_bd e
        refine g_cV 38 rfl rfl rfl rfl rfl (Md_l ka) (Md_dries_s ka eq7) ?_
        refine g_run 1 68 [some (.ref a), some (.int x1), some (.int x2), some (.int x3)] [.int q7] (fun _ => rfl) ?_
        cases e
        exact g_ret rfl (fun _ _ => rfl)
      · refine g_run 2 43 [some (.ref a), some (.int x1), some (.int x2), some (.int x3)] [.int (1 : Int32), .int x3] (fun _ => rfl) ?_
        refine g_if (p1 := 46) (L1 := [some (.ref a), some (.int x1), some (.int x2), some (.int x3)]) (S1 := []) (s1 := (l, r, q1.2, j)) (p2 := 54) (L2 := [some (.ref a), some (.int x1), some (.int x2), some (.int x3)]) (S2 := []) (s2 := (l, r, q1.2, j)) rfl (fun _ _ => rfl) e (fun c8 e => ?_) (fun c8 e => ?_)
        · refine g_run 2 48 [some (.ref a), some (.int x1), some (.int x2), some (.int x3)] [.int x2, .ref a] (fun _ => rfl) ?_
          obtain ⟨q9, eq9, e⟩ := g_bd e
          refine g_cV 51 rfl rfl rfl rfl rfl (Md_l ka) (Md_late_s ka eq9) ?_
          refine g_run 1 68 [some (.ref a), some (.int x1), some (.int x2), some (.int x3)] [.int q9] (fun _ => rfl) ?_
          cases e
          exact g_ret rfl (fun _ _ => rfl)
        · refine g_run 2 56 [some (.ref a), some (.int x1), some (.int x2), some (.int x3)] [.int (2 : Int32), .int x3] (fun _ => rfl) ?_
          refine g_if (p1 := 59) (L1 := [some (.ref a), some (.int x1), some (.int x2), some (.int x3)]) (S1 := []) (s1 := (l, r, q1.2, j)) (p2 := 67) (L2 := [some (.ref a), some (.int x1), some (.int x2), some (.int x3)]) (S2 := []) (s2 := (l, r, q1.2, j)) rfl (fun _ _ => rfl) e (fun c10 e => ?_) (fun c10 e => ?_)
          · refine g_run 2 61 [some (.ref a), some (.int x1), some (.int x2), some (.int x3)] [.int x2, .ref a] (fun _ => rfl) ?_
            obtain ⟨q11, eq11, e⟩ := g_bd e
            refine g_cV 64 rfl rfl rfl rfl rfl (Md_l ka) (Md_longest_s ka eq11) ?_
            refine g_run 1 68 [some (.ref a), some (.int x1), some (.int x2), some (.int x3)] [.int q11] (fun _ => rfl) ?_
            cases e
            exact g_ret rfl (fun _ _ => rfl)
          · refine g_run 1 68 [some (.ref a), some (.int x1), some (.int x2), some (.int x3)] [.int (-1 : Int32)] (fun _ => rfl) ?_
            cases e
            exact g_ret rfl (fun _ _ => rfl)
