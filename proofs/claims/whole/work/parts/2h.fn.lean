/-! methods as functions, and their runs -/
def Md_alarmLine (a : Nat) (x1 : Int64) (x3 : Int32) (h : am_F) (j : am_J) : Option (Int32 × am_F × am_J) :=
  if (lg_cmp x1 (418430153325 : Int64)) = 0 then
    (Md_full a (0 : Int32) (8 : Int32) x3 h).bind fun q2 =>
    (Md_token a q2 j).bind fun q3 =>
    (Md_take a (0 : Int32) (0 : Int32) (20 : Int32) q3.1 q3.2).bind fun q4 =>
    if q4.1 = 0 then
      some ((0 : Int32), q4.2.1, q4.2.2)
    else
      (Md_take a (1 : Int32) (Md_greater (1 : Int32) (q4.2.1 (a + 11) 0)) (20 : Int32) q4.2.1 q4.2.2).bind fun q6 =>
      if q6.1 = 0 then
        some ((0 : Int32), q6.2.1, q6.2.2)
      else
        (Md_take a (2 : Int32) (0 : Int32) (99 : Int32) q6.2.1 q6.2.2).bind fun q8 =>
        if q8.1 = 0 then
          some ((0 : Int32), q8.2.1, q8.2.2)
        else
          (Md_take a (3 : Int32) (0 : Int32) (99 : Int32) q8.2.1 q8.2.2).bind fun q10 =>
          if q10.1 = 0 then
            some ((0 : Int32), q10.2.1, q10.2.2)
          else
            (Md_keep a (0 : Int32) (1 : Int32) (4 : Int32) (4 : Int32) (8 : Int32) q10.2.1).bind fun q12 =>
            some ((1 : Int32), q12, q10.2.2)
  else
    (Md_fails a h).bind fun q13 =>
    (g_bz q13.1).bind fun z9 =>
    some (z9, q13.2, j)
theorem Md_alarmLine_s {X : Nat × (Nat → Int32)} {l : List (Nat × Nat)} {r : am_R} {h : am_F} {j : am_J} {a : Nat} {x1 : Int64} {x3 : Int32} (ka : Md_K l r a) {q : Int32 × am_F × am_J} (e : Md_alarmLine a x1 x3 h j = some q) : Call X 183 [.ref a, .long x1, .int x3] (l, r, h, j) (some (.int q.1), (l, r, q.2.1, q.2.2)) := by
  unfold Md_alarmLine at e
  refine ⟨Nat.le_of_ble_eq_true rfl, ?_⟩
  show Ev X 183 0 [some (.ref a), some (.long x1), none, some (.int x3)] [] (l, r, h, j) _
  refine g_run 3 5 [some (.ref a), some (.long x1), none, some (.int x3)] [.int (lg_cmp x1 (418430153325 : Int64))] (fun _ => rfl) ?_
  refine g_if (p1 := 13) (L1 := [some (.ref a), some (.long x1), none, some (.int x3)]) (S1 := []) (s1 := (l, r, h, j)) (p2 := 8) (L2 := [some (.ref a), some (.long x1), none, some (.int x3)]) (S2 := []) (s2 := (l, r, h, j)) rfl (fun _ _ => rfl) e (fun c1 e => ?_) (fun c1 e => ?_)
  · refine g_run 4 18 [some (.ref a), some (.long x1), none, some (.int x3)] [.int x3, .int (8 : Int32), .int (0 : Int32), .ref a] (fun _ => rfl) ?_
    obtain ⟨q2, eq2, e⟩ := g_bd e
    refine g_cVv 21 rfl rfl rfl rfl rfl (Md_l ka) (Md_full_s ka eq2) ?_
    refine g_run 1 22 [some (.ref a), some (.long x1), none, some (.int x3)] [.ref a] (fun _ => rfl) ?_
    obtain ⟨q3, eq3, e⟩ := g_bd e
    refine g_cVv 25 rfl rfl rfl rfl rfl (Md_l ka) (Md_token_s ka eq3) ?_
    refine g_run 4 30 [some (.ref a), some (.long x1), none, some (.int x3)] [.int (20 : Int32), .int (0 : Int32), .int (0 : Int32), .ref a] (fun _ => rfl) ?_
    obtain ⟨q4, eq4, e⟩ := g_bd e
    refine g_cV 33 rfl rfl rfl rfl rfl (Md_l ka) (Md_take_s ka eq4) ?_
    refine g_if (p1 := 78) (L1 := [some (.ref a), some (.long x1), none, some (.int x3)]) (S1 := []) (s1 := (l, r, q4.2.1, q4.2.2)) (p2 := 36) (L2 := [some (.ref a), some (.long x1), none, some (.int x3)]) (S2 := []) (s2 := (l, r, q4.2.1, q4.2.2)) rfl (fun _ _ => rfl) e (fun c5 e => ?_) (fun c5 e => ?_)
    · refine g_run 1 79 [some (.ref a), some (.long x1), none, some (.int x3)] [.int (0 : Int32)] (fun _ => rfl) ?_
      cases e
      exact g_retZ rfl (y := (0 : Int32)) rfl rfl
    · refine g_run 4 40 [some (.ref a), some (.long x1), none, some (.int x3)] [.ref a, .int (1 : Int32), .int (1 : Int32), .ref a] (fun _ => rfl) ?_
      refine g_getA 43 rfl rfl (Md_l ka) (Md_r20 ka) ?_
      refine g_run 1 44 [some (.ref a), some (.long x1), none, some (.int x3)] [.int (0 : Int32), .ref (a + 11), .int (1 : Int32), .int (1 : Int32), .ref a] (fun _ => rfl) ?_
      refine g_iald 45 rfl rfl (Md_k20 ka) (kx := 0) rfl ?_
      refine g_cS 48 rfl rfl (by decide) rfl rfl rfl Md_greater_s ?_
      refine g_run 1 50 [some (.ref a), some (.long x1), none, some (.int x3)] [.int (20 : Int32), .int (Md_greater (1 : Int32) (q4.2.1 (a + 11) 0)), .int (1 : Int32), .ref a] (fun _ => rfl) ?_
      obtain ⟨q6, eq6, e⟩ := g_bd e
      refine g_cV 53 rfl rfl rfl rfl rfl (Md_l ka) (Md_take_s ka eq6) ?_
      refine g_if (p1 := 78) (L1 := [some (.ref a), some (.long x1), none, some (.int x3)]) (S1 := []) (s1 := (l, r, q6.2.1, q6.2.2)) (p2 := 56) (L2 := [some (.ref a), some (.long x1), none, some (.int x3)]) (S2 := []) (s2 := (l, r, q6.2.1, q6.2.2)) rfl (fun _ _ => rfl) e (fun c7 e => ?_) (fun c7 e => ?_)
      · refine g_run 1 79 [some (.ref a), some (.long x1), none, some (.int x3)] [.int (0 : Int32)] (fun _ => rfl) ?_
        cases e
        exact g_retZ rfl (y := (0 : Int32)) rfl rfl
      · refine g_run 4 61 [some (.ref a), some (.long x1), none, some (.int x3)] [.int (99 : Int32), .int (0 : Int32), .int (2 : Int32), .ref a] (fun _ => rfl) ?_
        obtain ⟨q8, eq8, e⟩ := g_bd e
        refine g_cV 64 rfl rfl rfl rfl rfl (Md_l ka) (Md_take_s ka eq8) ?_
        refine g_if (p1 := 78) (L1 := [some (.ref a), some (.long x1), none, some (.int x3)]) (S1 := []) (s1 := (l, r, q8.2.1, q8.2.2)) (p2 := 67) (L2 := [some (.ref a), some (.long x1), none, some (.int x3)]) (S2 := []) (s2 := (l, r, q8.2.1, q8.2.2)) rfl (fun _ _ => rfl) e (fun c9 e => ?_) (fun c9 e => ?_)
        · refine g_run 1 79 [some (.ref a), some (.long x1), none, some (.int x3)] [.int (0 : Int32)] (fun _ => rfl) ?_
          cases e
          exact g_retZ rfl (y := (0 : Int32)) rfl rfl
        · refine g_run 4 72 [some (.ref a), some (.long x1), none, some (.int x3)] [.int (99 : Int32), .int (0 : Int32), .int (3 : Int32), .ref a] (fun _ => rfl) ?_
          obtain ⟨q10, eq10, e⟩ := g_bd e
          refine g_cV 75 rfl rfl rfl rfl rfl (Md_l ka) (Md_take_s ka eq10) ?_
          refine g_if (p1 := 78) (L1 := [some (.ref a), some (.long x1), none, some (.int x3)]) (S1 := []) (s1 := (l, r, q10.2.1, q10.2.2)) (p2 := 80) (L2 := [some (.ref a), some (.long x1), none, some (.int x3)]) (S2 := []) (s2 := (l, r, q10.2.1, q10.2.2)) rfl (fun _ _ => rfl) e (fun c11 e => ?_) (fun c11 e => ?_)
          · refine g_run 1 79 [some (.ref a), some (.long x1), none, some (.int x3)] [.int (0 : Int32)] (fun _ => rfl) ?_
            cases e
            exact g_retZ rfl (y := (0 : Int32)) rfl rfl
          · refine g_run 6 87 [some (.ref a), some (.long x1), none, some (.int x3)] [.int (8 : Int32), .int (4 : Int32), .int (4 : Int32), .int (1 : Int32), .int (0 : Int32), .ref a] (fun _ => rfl) ?_
            obtain ⟨q12, eq12, e⟩ := g_bd e
            refine g_cVv 90 rfl rfl rfl rfl rfl (Md_l ka) (Md_keep_s ka eq12) ?_
            refine g_run 1 91 [some (.ref a), some (.long x1), none, some (.int x3)] [.int (1 : Int32)] (fun _ => rfl) ?_
            cases e
            exact g_retZ rfl (y := (1 : Int32)) rfl rfl
  · refine g_run 1 9 [some (.ref a), some (.long x1), none, some (.int x3)] [.ref a] (fun _ => rfl) ?_
    obtain ⟨q13, eq13, e⟩ := g_bd e
    refine g_cV 12 rfl rfl rfl rfl rfl (Md_l ka) (Md_fails_s ka eq13) ?_
    obtain ⟨z9, ez9, e⟩ := g_bd e
    cases e
    exact g_retZ rfl ez9 rfl
def Md_planLine (a : Nat) (x1 : Int64) (x3 : Int32) (h : am_F) (j : am_J) : Option (Int32 × am_F × am_J) :=
  if (lg_cmp x1 (114767640814963 : Int64)) = 0 then
    (Md_full a (0 : Int32) (6 : Int32) x3 h).bind fun q2 =>
    (Md_token a q2 j).bind fun q3 =>
    (Md_take a (0 : Int32) (0 : Int32) (5 : Int32) q3.1 q3.2).bind fun q4 =>
    if q4.1 = 0 then
      some ((0 : Int32), q4.2.1, q4.2.2)
    else
      (Md_take a (1 : Int32) (0 : Int32) (47 : Int32) q4.2.1 q4.2.2).bind fun q6 =>
      if q6.1 = 0 then
        some ((0 : Int32), q6.2.1, q6.2.2)
      else
        (Md_take a (2 : Int32) (0 : Int32) (47 : Int32) q6.2.1 q6.2.2).bind fun q8 =>
        if q8.1 = 0 then
          some ((0 : Int32), q8.2.1, q8.2.2)
        else
          (Md_keep a (0 : Int32) (1 : Int32) (3 : Int32) (3 : Int32) (6 : Int32) q8.2.1).bind fun q10 =>
          some ((1 : Int32), q10, q8.2.2)
  else
    (Md_fails a h).bind fun q11 =>
    (g_bz q11.1).bind fun z9 =>
    some (z9, q11.2, j)
theorem Md_planLine_s {X : Nat × (Nat → Int32)} {l : List (Nat × Nat)} {r : am_R} {h : am_F} {j : am_J} {a : Nat} {x1 : Int64} {x3 : Int32} (ka : Md_K l r a) {q : Int32 × am_F × am_J} (e : Md_planLine a x1 x3 h j = some q) : Call X 184 [.ref a, .long x1, .int x3] (l, r, h, j) (some (.int q.1), (l, r, q.2.1, q.2.2)) := by
  unfold Md_planLine at e
  refine ⟨Nat.le_of_ble_eq_true rfl, ?_⟩
  show Ev X 184 0 [some (.ref a), some (.long x1), none, some (.int x3)] [] (l, r, h, j) _
  refine g_run 3 5 [some (.ref a), some (.long x1), none, some (.int x3)] [.int (lg_cmp x1 (114767640814963 : Int64))] (fun _ => rfl) ?_
  refine g_if (p1 := 13) (L1 := [some (.ref a), some (.long x1), none, some (.int x3)]) (S1 := []) (s1 := (l, r, h, j)) (p2 := 8) (L2 := [some (.ref a), some (.long x1), none, some (.int x3)]) (S2 := []) (s2 := (l, r, h, j)) rfl (fun _ _ => rfl) e (fun c1 e => ?_) (fun c1 e => ?_)
  · refine g_run 4 18 [some (.ref a), some (.long x1), none, some (.int x3)] [.int x3, .int (6 : Int32), .int (0 : Int32), .ref a] (fun _ => rfl) ?_
    obtain ⟨q2, eq2, e⟩ := g_bd e
    refine g_cVv 21 rfl rfl rfl rfl rfl (Md_l ka) (Md_full_s ka eq2) ?_
    refine g_run 1 22 [some (.ref a), some (.long x1), none, some (.int x3)] [.ref a] (fun _ => rfl) ?_
    obtain ⟨q3, eq3, e⟩ := g_bd e
    refine g_cVv 25 rfl rfl rfl rfl rfl (Md_l ka) (Md_token_s ka eq3) ?_
    refine g_run 4 29 [some (.ref a), some (.long x1), none, some (.int x3)] [.int (5 : Int32), .int (0 : Int32), .int (0 : Int32), .ref a] (fun _ => rfl) ?_
    obtain ⟨q4, eq4, e⟩ := g_bd e
    refine g_cV 32 rfl rfl rfl rfl rfl (Md_l ka) (Md_take_s ka eq4) ?_
    refine g_if (p1 := 57) (L1 := [some (.ref a), some (.long x1), none, some (.int x3)]) (S1 := []) (s1 := (l, r, q4.2.1, q4.2.2)) (p2 := 35) (L2 := [some (.ref a), some (.long x1), none, some (.int x3)]) (S2 := []) (s2 := (l, r, q4.2.1, q4.2.2)) rfl (fun _ _ => rfl) e (fun c5 e => ?_) (fun c5 e => ?_)
    · refine g_run 1 58 [some (.ref a), some (.long x1), none, some (.int x3)] [.int (0 : Int32)] (fun _ => rfl) ?_
      cases e
      exact g_retZ rfl (y := (0 : Int32)) rfl rfl
    · refine g_run 4 40 [some (.ref a), some (.long x1), none, some (.int x3)] [.int (47 : Int32), .int (0 : Int32), .int (1 : Int32), .ref a] (fun _ => rfl) ?_
      obtain ⟨q6, eq6, e⟩ := g_bd e
      refine g_cV 43 rfl rfl rfl rfl rfl (Md_l ka) (Md_take_s ka eq6) ?_
      refine g_if (p1 := 57) (L1 := [some (.ref a), some (.long x1), none, some (.int x3)]) (S1 := []) (s1 := (l, r, q6.2.1, q6.2.2)) (p2 := 46) (L2 := [some (.ref a), some (.long x1), none, some (.int x3)]) (S2 := []) (s2 := (l, r, q6.2.1, q6.2.2)) rfl (fun _ _ => rfl) e (fun c7 e => ?_) (fun c7 e => ?_)
      · refine g_run 1 58 [some (.ref a), some (.long x1), none, some (.int x3)] [.int (0 : Int32)] (fun _ => rfl) ?_
        cases e
        exact g_retZ rfl (y := (0 : Int32)) rfl rfl
      · refine g_run 4 51 [some (.ref a), some (.long x1), none, some (.int x3)] [.int (47 : Int32), .int (0 : Int32), .int (2 : Int32), .ref a] (fun _ => rfl) ?_
        obtain ⟨q8, eq8, e⟩ := g_bd e
        refine g_cV 54 rfl rfl rfl rfl rfl (Md_l ka) (Md_take_s ka eq8) ?_
        refine g_if (p1 := 57) (L1 := [some (.ref a), some (.long x1), none, some (.int x3)]) (S1 := []) (s1 := (l, r, q8.2.1, q8.2.2)) (p2 := 59) (L2 := [some (.ref a), some (.long x1), none, some (.int x3)]) (S2 := []) (s2 := (l, r, q8.2.1, q8.2.2)) rfl (fun _ _ => rfl) e (fun c9 e => ?_) (fun c9 e => ?_)
        · refine g_run 1 58 [some (.ref a), some (.long x1), none, some (.int x3)] [.int (0 : Int32)] (fun _ => rfl) ?_
          cases e
          exact g_retZ rfl (y := (0 : Int32)) rfl rfl
        · refine g_run 6 66 [some (.ref a), some (.long x1), none, some (.int x3)] [.int (6 : Int32), .int (3 : Int32), .int (3 : Int32), .int (1 : Int32), .int (0 : Int32), .ref a] (fun _ => rfl) ?_
          obtain ⟨q10, eq10, e⟩ := g_bd e
          refine g_cVv 69 rfl rfl rfl rfl rfl (Md_l ka) (Md_keep_s ka eq10) ?_
          refine g_run 1 70 [some (.ref a), some (.long x1), none, some (.int x3)] [.int (1 : Int32)] (fun _ => rfl) ?_
          cases e
          exact g_retZ rfl (y := (1 : Int32)) rfl rfl
  · refine g_run 1 9 [some (.ref a), some (.long x1), none, some (.int x3)] [.ref a] (fun _ => rfl) ?_
    obtain ⟨q11, eq11, e⟩ := g_bd e
    refine g_cV 12 rfl rfl rfl rfl rfl (Md_l ka) (Md_fails_s ka eq11) ?_
    obtain ⟨z9, ez9, e⟩ := g_bd e
    cases e
    exact g_retZ rfl ez9 rfl
def Md_lineOf (a : Nat) (x1 : Int32) (x2 : Int64) (x4 : Int32) (h : am_F) (j : am_J) : Option (Int32 × am_F × am_J) :=
  if x1 = (0 : Int32) then
    (Md_parkLine a x2 x4 h j).bind fun q1 =>
    (g_bz q1.1).bind fun z9 =>
    some (z9, q1.2.1, q1.2.2)
  else if x1 = (1 : Int32) then
    (Md_sightLine a x2 x4 h j).bind fun q3 =>
    (g_bz q3.1).bind fun z9 =>
    some (z9, q3.2.1, q3.2.2)
  else if x1 = (2 : Int32) then
    (Md_alarmLine a x2 x4 h j).bind fun q5 =>
    (g_bz q5.1).bind fun z9 =>
    some (z9, q5.2.1, q5.2.2)
  else 
    (Md_planLine a x2 x4 h j).bind fun q7 =>
    (g_bz q7.1).bind fun z9 =>
    some (z9, q7.2.1, q7.2.2)
theorem Md_lineOf_s {X : Nat × (Nat → Int32)} {l : List (Nat × Nat)} {r : am_R} {h : am_F} {j : am_J} {a : Nat} {x1 : Int32} {x2 : Int64} {x4 : Int32} (ka : Md_K l r a) {q : Int32 × am_F × am_J} (e : Md_lineOf a x1 x2 x4 h j = some q) : Call X 185 [.ref a, .int x1, .long x2, .int x4] (l, r, h, j) (some (.int q.1), (l, r, q.2.1, q.2.2)) := by
  unfold Md_lineOf at e
  refine ⟨Nat.le_of_ble_eq_true rfl, ?_⟩
  show Ev X 185 0 [some (.ref a), some (.int x1), some (.long x2), none, some (.int x4)] [] (l, r, h, j) _
  refine g_run 1 1 [some (.ref a), some (.int x1), some (.long x2), none, some (.int x4)] [.int x1] (fun _ => rfl) ?_
  by_cases c2 : x1 = (0 : Int32)
  · replace e := (if_pos c2).symm.trans e
    refine g_sw (p1 := 28) (L1 := [some (.ref a), some (.int x1), some (.long x2), none, some (.int x4)]) (S1 := []) (s1 := (l, r, h, j)) rfl c2 (fun _ _ => rfl) ?_
    refine g_run 3 32 [some (.ref a), some (.int x1), some (.long x2), none, some (.int x4)] [.int x4, .long x2, .ref a] (fun _ => rfl) ?_
    obtain ⟨q1, eq1, e⟩ := g_bd e
    refine g_cV 35 rfl rfl rfl rfl rfl (Md_l ka) (Md_parkLine_s ka eq1) ?_
    obtain ⟨z9, ez9, e⟩ := g_bd e
    cases e
    exact g_retZ rfl ez9 rfl
  replace e := (if_neg c2).symm.trans e
  by_cases c4 : x1 = (1 : Int32)
  · replace e := (if_pos c4).symm.trans e
    refine g_sw (p1 := 36) (L1 := [some (.ref a), some (.int x1), some (.long x2), none, some (.int x4)]) (S1 := []) (s1 := (l, r, h, j)) rfl c4 (fun _ _ => rfl) ?_
    refine g_run 3 40 [some (.ref a), some (.int x1), some (.long x2), none, some (.int x4)] [.int x4, .long x2, .ref a] (fun _ => rfl) ?_
    obtain ⟨q3, eq3, e⟩ := g_bd e
    refine g_cV 43 rfl rfl rfl rfl rfl (Md_l ka) (Md_sightLine_s ka eq3) ?_
    obtain ⟨z9, ez9, e⟩ := g_bd e
    cases e
    exact g_retZ rfl ez9 rfl
  replace e := (if_neg c4).symm.trans e
  by_cases c6 : x1 = (2 : Int32)
  · replace e := (if_pos c6).symm.trans e
    refine g_sw (p1 := 44) (L1 := [some (.ref a), some (.int x1), some (.long x2), none, some (.int x4)]) (S1 := []) (s1 := (l, r, h, j)) rfl c6 (fun _ _ => rfl) ?_
    refine g_run 3 48 [some (.ref a), some (.int x1), some (.long x2), none, some (.int x4)] [.int x4, .long x2, .ref a] (fun _ => rfl) ?_
    obtain ⟨q5, eq5, e⟩ := g_bd e
    refine g_cV 51 rfl rfl rfl rfl rfl (Md_l ka) (Md_alarmLine_s ka eq5) ?_
    obtain ⟨z9, ez9, e⟩ := g_bd e
    cases e
    exact g_retZ rfl ez9 rfl
  replace e := (if_neg c6).symm.trans e
  have ic2 : (Int32.toInt x1) ≠ 0 := g_ne c2
  have ic4 : (Int32.toInt x1) ≠ 1 := g_ne c4
  have ic6 : (Int32.toInt x1) ≠ 2 := g_ne c6
  refine g_swd (p1 := 52) (L1 := [some (.ref a), some (.int x1), some (.long x2), none, some (.int x4)]) (S1 := []) (s1 := (l, r, h, j)) (x := x1) (lo := 0) (hi := 2) rfl (fun _ _ => rfl) (by omega) ?_
  refine g_run 3 56 [some (.ref a), some (.int x1), some (.long x2), none, some (.int x4)] [.int x4, .long x2, .ref a] (fun _ => rfl) ?_
  obtain ⟨q7, eq7, e⟩ := g_bd e
  refine g_cV 59 rfl rfl rfl rfl rfl (Md_l ka) (Md_planLine_s ka eq7) ?_
  obtain ⟨z9, ez9, e⟩ := g_bd e
  cases e
  exact g_retZ rfl ez9 rfl
def Md_lines_l2 (x0 : Nat) (x1 : Int32) : Nat → Int32 → am_F → am_J → Option (Int32 × am_F × am_J)
  | 0, _, _, _ => none
  | n + 1, x2, h, j =>
    if x2 = 0 then
      some (x2, h, j)
    else
      if (h x0 13) = 0 then
        some (x2, h, j)
      else
        (if ((am_up h x0 22 (1 : Int32)) x0 13) = (2 : Int32) then
            some (j x0 15)
          else
            some (0 : Int64) : Option (Int64)).bind fun q5 =>
        (Md_lineOf x0 x1 q5 (h x0 12) (am_up h x0 22 (1 : Int32)) j).bind fun q6 =>
        (if q6.1 = 0 then
            some (q6.1, q6.2.1)
          else
            if (q6.2.1 x0 13) = (4 : Int32) then
              some (q6.1, q6.2.1)
            else
              (Md_fails x0 q6.2.1).bind fun q10 =>
              some (q10.1, q10.2) : Option (Int32 × am_F)).bind fun q11 =>
        (if q11.1 = 0 then
            some (q11.2, q6.2.2)
          else
            (Md_token x0 q11.2 q6.2.2).bind fun q14 =>
            some (q14.1, q14.2) : Option (am_F × am_J)).bind fun q15 =>
        Md_lines_l2 x0 x1 n q11.1 q15.1 q15.2
def Md_lines (a : Nat) (x1 : Int32) (h : am_F) (j : am_J) : Option (Int32 × am_F × am_J) :=
  (Md_lines_l2 a x1 g_fu (1 : Int32) h j).bind fun q16 =>
  (g_bz q16.1).bind fun z9 =>
  some (z9, q16.2.1, q16.2.2)
theorem Md_lines_l2_s {X : Nat × (Nat → Int32)} {l : List (Nat × Nat)} {r : am_R} {x0 : Nat} {x1 : Int32} {q : Int32 × am_F × am_J} {R : Option Value × am_S} (kx0 : Md_K l r x0) (hx : ∀ (d3 : Option Value) , Ev X 186 74 [some (.ref x0), some (.int x1), some (.int q.1), d3] [] (l, r, q.2.1, q.2.2) R) : ∀ (n : Nat) (x2 : Int32) (h : am_F) (j : am_J) (d3 : Option Value), Md_lines_l2 x0 x1 n x2 h j = some q → Ev X 186 2 [some (.ref x0), some (.int x1), some (.int x2), d3] [] (l, r, h, j) R := by
  intro n
  induction n with
  | zero => intro x2 h j d3 e; cases e
  | succ n ih =>
    intro x2 h j d3 e
    unfold Md_lines_l2 at e
    refine g_run 1 3 [some (.ref x0), some (.int x1), some (.int x2), d3] [.int x2] (fun _ => rfl) ?_
    refine g_if (p1 := 74) (L1 := [some (.ref x0), some (.int x1), some (.int x2), d3]) (S1 := []) (s1 := (l, r, h, j)) (p2 := 6) (L2 := [some (.ref x0), some (.int x1), some (.int x2), d3]) (S2 := []) (s2 := (l, r, h, j)) rfl (fun _ _ => rfl) e (fun c1 e => ?_) (fun c1 e => ?_)
    · cases e
      exact hx _
    · refine g_run 1 7 [some (.ref x0), some (.int x1), some (.int x2), d3] [.ref x0] (fun _ => rfl) ?_
      refine g_getI 10 rfl rfl (Md_l kx0) ?_
      refine g_if (p1 := 74) (L1 := [some (.ref x0), some (.int x1), some (.int x2), d3]) (S1 := []) (s1 := (l, r, h, j)) (p2 := 13) (L2 := [some (.ref x0), some (.int x1), some (.int x2), d3]) (S2 := []) (s2 := (l, r, h, j)) rfl (fun _ _ => rfl) e (fun c2 e => ?_) (fun c2 e => ?_)
      · cases e
        exact hx _
      · refine g_run 1 14 [some (.ref x0), some (.int x1), some (.int x2), d3] [.ref x0] (fun _ => rfl) ?_
        refine g_getI 17 rfl rfl (Md_l kx0) ?_
        refine g_run 3 20 [some (.ref x0), some (.int x1), some (.int x2), some (.int (h x0 12))] [.int (1 : Int32), .ref x0] (fun _ => rfl) ?_
        refine g_putZ 23 rfl rfl (Md_l kx0) (by decide) ?_
        refine g_run 3 26 [some (.ref x0), some (.int x1), some (.int x2), some (.int (h x0 12))] [.ref x0, .int x1, .ref x0] (fun _ => rfl) ?_
        refine g_getI 29 rfl rfl (Md_l kx0) ?_
        refine g_run 1 30 [some (.ref x0), some (.int x1), some (.int x2), some (.int (h x0 12))] [.int (2 : Int32), .int ((am_up h x0 22 (1 : Int32)) x0 13), .int x1, .ref x0] (fun _ => rfl) ?_
        obtain ⟨q5, eq5, e⟩ := g_bd e
        have hjq5 : ∀ (_ : True), Ev X 186 41 [some (.ref x0), some (.int x1), some (.int x2), some (.int (h x0 12))] [.long q5, .int x1, .ref x0] (l, r, (am_up h x0 22 (1 : Int32)), j) R := by
          intro _
          refine g_run 1 42 [some (.ref x0), some (.int x1), some (.int x2), some (.int (h x0 12))] [.int (h x0 12), .long q5, .int x1, .ref x0] (fun _ => rfl) ?_
          obtain ⟨q6, eq6, e⟩ := g_bd e
          refine g_cV 45 rfl rfl rfl rfl rfl (Md_l kx0) (Md_lineOf_s kx0 eq6) ?_
          refine g_run 2 47 [some (.ref x0), some (.int x1), some (.int q6.1), some (.int (h x0 12))] [.int q6.1] (fun _ => rfl) ?_
          obtain ⟨q11, eq11, e⟩ := g_bd e
          have hjq11 : ∀ (_ : True), Ev X 186 63 [some (.ref x0), some (.int x1), some (.int q11.1), some (.int (h x0 12))] [] (l, r, q11.2, q6.2.2) R := by
            intro _
            refine g_run 1 64 [some (.ref x0), some (.int x1), some (.int q11.1), some (.int (h x0 12))] [.int q11.1] (fun _ => rfl) ?_
            obtain ⟨q15, eq15, e⟩ := g_bd e
            have hjq15 : ∀ (_ : True), Ev X 186 71 [some (.ref x0), some (.int x1), some (.int q11.1), some (.int (h x0 12))] [] (l, r, q15.1, q15.2) R := by
              intro _
              refine g_run 1 2 [some (.ref x0), some (.int x1), some (.int q11.1), some (.int (h x0 12))] [] (fun _ => rfl) ?_
              exact ih _ _ _ _ e
            replace e := eq15
            refine g_if (p1 := 71) (L1 := [some (.ref x0), some (.int x1), some (.int q11.1), some (.int (h x0 12))]) (S1 := []) (s1 := (l, r, q11.2, q6.2.2)) (p2 := 67) (L2 := [some (.ref x0), some (.int x1), some (.int q11.1), some (.int (h x0 12))]) (S2 := []) (s2 := (l, r, q11.2, q6.2.2)) rfl (fun _ _ => rfl) e (fun c12 e => ?_) (fun c12 e => ?_)
            · cases e
              exact hjq15 trivial
            · refine g_run 1 68 [some (.ref x0), some (.int x1), some (.int q11.1), some (.int (h x0 12))] [.ref x0] (fun _ => rfl) ?_
              obtain ⟨q14, eq14, e⟩ := g_bd e
              refine g_cVv 71 rfl rfl rfl rfl rfl (Md_l kx0) (Md_token_s kx0 eq14) ?_
              cases e
              exact hjq15 trivial
          replace e := eq11
          refine g_if (p1 := 63) (L1 := [some (.ref x0), some (.int x1), some (.int q6.1), some (.int (h x0 12))]) (S1 := []) (s1 := (l, r, q6.2.1, q6.2.2)) (p2 := 50) (L2 := [some (.ref x0), some (.int x1), some (.int q6.1), some (.int (h x0 12))]) (S2 := []) (s2 := (l, r, q6.2.1, q6.2.2)) rfl (fun _ _ => rfl) e (fun c7 e => ?_) (fun c7 e => ?_)
          · cases e
            exact hjq11 trivial
          · refine g_run 1 51 [some (.ref x0), some (.int x1), some (.int q6.1), some (.int (h x0 12))] [.ref x0] (fun _ => rfl) ?_
            refine g_getI 54 rfl rfl (Md_l kx0) ?_
            refine g_run 1 55 [some (.ref x0), some (.int x1), some (.int q6.1), some (.int (h x0 12))] [.int (4 : Int32), .int (q6.2.1 x0 13)] (fun _ => rfl) ?_
            refine g_if (p1 := 63) (L1 := [some (.ref x0), some (.int x1), some (.int q6.1), some (.int (h x0 12))]) (S1 := []) (s1 := (l, r, q6.2.1, q6.2.2)) (p2 := 58) (L2 := [some (.ref x0), some (.int x1), some (.int q6.1), some (.int (h x0 12))]) (S2 := []) (s2 := (l, r, q6.2.1, q6.2.2)) rfl (fun _ _ => rfl) e (fun c9 e => ?_) (fun c9 e => ?_)
            · cases e
              exact hjq11 trivial
            · refine g_run 1 59 [some (.ref x0), some (.int x1), some (.int q6.1), some (.int (h x0 12))] [.ref x0] (fun _ => rfl) ?_
              obtain ⟨q10, eq10, e⟩ := g_bd e
              refine g_cV 62 rfl rfl rfl rfl rfl (Md_l kx0) (Md_fails_s kx0 eq10) ?_
              refine g_run 1 63 [some (.ref x0), some (.int x1), some (.int q10.1), some (.int (h x0 12))] [] (fun _ => rfl) ?_
              cases e
              exact hjq11 trivial
        replace e := eq5
        refine g_if (p1 := 33) (L1 := [some (.ref x0), some (.int x1), some (.int x2), some (.int (h x0 12))]) (S1 := [.int x1, .ref x0]) (s1 := (l, r, (am_up h x0 22 (1 : Int32)), j)) (p2 := 40) (L2 := [some (.ref x0), some (.int x1), some (.int x2), some (.int (h x0 12))]) (S2 := [.int x1, .ref x0]) (s2 := (l, r, (am_up h x0 22 (1 : Int32)), j)) rfl (fun _ _ => rfl) e (fun c3 e => ?_) (fun c3 e => ?_)
        · refine g_run 1 34 [some (.ref x0), some (.int x1), some (.int x2), some (.int (h x0 12))] [.ref x0, .int x1, .ref x0] (fun _ => rfl) ?_
          refine g_getJ 37 rfl rfl (Md_l kx0) ?_
          refine g_run 1 41 [some (.ref x0), some (.int x1), some (.int x2), some (.int (h x0 12))] [.long (j x0 15), .int x1, .ref x0] (fun _ => rfl) ?_
          cases e
          exact hjq5 trivial
        · refine g_run 1 41 [some (.ref x0), some (.int x1), some (.int x2), some (.int (h x0 12))] [.long (0 : Int64), .int x1, .ref x0] (fun _ => rfl) ?_
          cases e
          exact hjq5 trivial
theorem Md_lines_s {X : Nat × (Nat → Int32)} {l : List (Nat × Nat)} {r : am_R} {h : am_F} {j : am_J} {a : Nat} {x1 : Int32} (ka : Md_K l r a) {q : Int32 × am_F × am_J} (e : Md_lines a x1 h j = some q) : Call X 186 [.ref a, .int x1] (l, r, h, j) (some (.int q.1), (l, r, q.2.1, q.2.2)) := by
  unfold Md_lines at e
  refine ⟨Nat.le_of_ble_eq_true rfl, ?_⟩
  show Ev X 186 0 [some (.ref a), some (.int x1), none, none] [] (l, r, h, j) _
  refine g_run 2 2 [some (.ref a), some (.int x1), some (.int (1 : Int32)), none] [] (fun _ => rfl) ?_
  obtain ⟨q16, eq16, e⟩ := g_bd e
  refine Md_lines_l2_s ka (fun d17 => ?_) _ _ _ _ _ eq16
  refine g_run 1 75 [some (.ref a), some (.int x1), some (.int q16.1), d17] [.int q16.1] (fun _ => rfl) ?_
  obtain ⟨z9, ez9, e⟩ := g_bd e
  cases e
  exact g_retZ rfl ez9 rfl
def Md_blank_l2 (x0 : Nat) (x1 : Int32) : Nat → Int32 → am_F → Option (am_F)
  | 0, _, _ => none
  | n + 1, x2, h =>
    if (195 : Int32) ≤ x2 then
      some h
    else
      (if x1 = 0 then
          if (Md_in x2 (7 : Int32) (54 : Int32)) = 0 then
            if x1 = 0 then
              if (Md_in x2 (55 : Int32) (78 : Int32)) = 0 then
                some (0 : Int32)
              else
                some (-1 : Int32)
            else
              some (0 : Int32)
          else
            some (2 : Int32)
        else
          if x1 = 0 then
            if (Md_in x2 (55 : Int32) (78 : Int32)) = 0 then
              some (0 : Int32)
            else
              some (-1 : Int32)
          else
            some (0 : Int32) : Option (Int32)).bind fun q9 =>
      (g_ix x2 195).bind fun k10 =>
      Md_blank_l2 x0 x1 n (x2 + (1 : Int32)) (am_up h (x0 + 10) k10 q9)
def Md_blank (a : Nat) (x1 : Int32) (h : am_F) : Option (am_F) :=
  (Md_blank_l2 a x1 g_fu (0 : Int32) h).bind fun q11 =>
  if x1 = 0 then
    some (am_up (am_up q11 (a + 10) 0 (20 : Int32)) (a + 10) 1 (8 : Int32))
  else
    some q11
theorem Md_blank_l2_s {X : Nat × (Nat → Int32)} {l : List (Nat × Nat)} {r : am_R} {x0 : Nat} {x1 : Int32} {j : am_J} {q : am_F} {R : Option Value × am_S} (kx0 : Md_K l r x0) (hx : ∀ (y2 : Int32) , Ev X 187 60 [some (.ref x0), some (.int x1), some (.int y2)] [] (l, r, q, j) R) : ∀ (n : Nat) (x2 : Int32) (h : am_F), Md_blank_l2 x0 x1 n x2 h = some q → Ev X 187 2 [some (.ref x0), some (.int x1), some (.int x2)] [] (l, r, h, j) R := by
  intro n
  induction n with
  | zero => intro x2 h e; cases e
  | succ n ih =>
    intro x2 h e
    unfold Md_blank_l2 at e
    refine g_run 2 6 [some (.ref x0), some (.int x1), some (.int x2)] [.int (195 : Int32), .int x2] (fun _ => rfl) ?_
    refine g_if (p1 := 60) (L1 := [some (.ref x0), some (.int x1), some (.int x2)]) (S1 := []) (s1 := (l, r, h, j)) (p2 := 9) (L2 := [some (.ref x0), some (.int x1), some (.int x2)]) (S2 := []) (s2 := (l, r, h, j)) rfl (fun _ _ => rfl) e (fun c1 e => ?_) (fun c1 e => ?_)
    · cases e
      exact hx _
    · refine g_run 1 10 [some (.ref x0), some (.int x1), some (.int x2)] [.ref x0] (fun _ => rfl) ?_
      refine g_getA 13 rfl rfl (Md_l kx0) (Md_r19 kx0) ?_
      refine g_run 2 15 [some (.ref x0), some (.int x1), some (.int x2)] [.int x1, .int x2, .ref (x0 + 10)] (fun _ => rfl) ?_
      obtain ⟨q9, eq9, e⟩ := g_bd e
      have hjq9 : ∀ (_ : True), Ev X 187 53 [some (.ref x0), some (.int x1), some (.int x2)] [.int q9, .int x2, .ref (x0 + 10)] (l, r, h, j) R := by
        intro _
        obtain ⟨k10, ek10, e⟩ := g_bd e
        refine g_iast 54 rfl rfl (Md_k19 kx0) ek10 ?_
        refine g_run 2 2 [some (.ref x0), some (.int x1), some (.int (x2 + (1 : Int32)))] [] (fun _ => rfl) ?_
        exact ih _ _ e
      replace e := eq9
      refine g_if (p1 := 18) (L1 := [some (.ref x0), some (.int x1), some (.int x2)]) (S1 := [.int x2, .ref (x0 + 10)]) (s1 := (l, r, h, j)) (p2 := 33) (L2 := [some (.ref x0), some (.int x1), some (.int x2)]) (S2 := [.int x2, .ref (x0 + 10)]) (s2 := (l, r, h, j)) rfl (fun _ _ => rfl) e (fun c2 e => ?_) (fun c2 e => ?_)
      · refine g_run 3 23 [some (.ref x0), some (.int x1), some (.int x2)] [.int (54 : Int32), .int (7 : Int32), .int x2, .int x2, .ref (x0 + 10)] (fun _ => rfl) ?_
        refine g_cS 26 rfl rfl (by decide) rfl rfl rfl Md_in_s ?_
        refine g_if (p1 := 33) (L1 := [some (.ref x0), some (.int x1), some (.int x2)]) (S1 := [.int x2, .ref (x0 + 10)]) (s1 := (l, r, h, j)) (p2 := 29) (L2 := [some (.ref x0), some (.int x1), some (.int x2)]) (S2 := [.int x2, .ref (x0 + 10)]) (s2 := (l, r, h, j)) rfl (fun _ _ => rfl) e (fun c4 e => ?_) (fun c4 e => ?_)
        · refine g_run 1 34 [some (.ref x0), some (.int x1), some (.int x2)] [.int x1, .int x2, .ref (x0 + 10)] (fun _ => rfl) ?_
          refine g_if (p1 := 37) (L1 := [some (.ref x0), some (.int x1), some (.int x2)]) (S1 := [.int x2, .ref (x0 + 10)]) (s1 := (l, r, h, j)) (p2 := 52) (L2 := [some (.ref x0), some (.int x1), some (.int x2)]) (S2 := [.int x2, .ref (x0 + 10)]) (s2 := (l, r, h, j)) rfl (fun _ _ => rfl) e (fun c5 e => ?_) (fun c5 e => ?_)
          · refine g_run 3 42 [some (.ref x0), some (.int x1), some (.int x2)] [.int (78 : Int32), .int (55 : Int32), .int x2, .int x2, .ref (x0 + 10)] (fun _ => rfl) ?_
            refine g_cS 45 rfl rfl (by decide) rfl rfl rfl Md_in_s ?_
            refine g_if (p1 := 52) (L1 := [some (.ref x0), some (.int x1), some (.int x2)]) (S1 := [.int x2, .ref (x0 + 10)]) (s1 := (l, r, h, j)) (p2 := 48) (L2 := [some (.ref x0), some (.int x1), some (.int x2)]) (S2 := [.int x2, .ref (x0 + 10)]) (s2 := (l, r, h, j)) rfl (fun _ _ => rfl) e (fun c6 e => ?_) (fun c6 e => ?_)
            · refine g_run 1 53 [some (.ref x0), some (.int x1), some (.int x2)] [.int (0 : Int32), .int x2, .ref (x0 + 10)] (fun _ => rfl) ?_
              cases e
              exact hjq9 trivial
            · refine g_run 2 53 [some (.ref x0), some (.int x1), some (.int x2)] [.int (-1 : Int32), .int x2, .ref (x0 + 10)] (fun _ => rfl) ?_
              cases e
              exact hjq9 trivial
          · refine g_run 1 53 [some (.ref x0), some (.int x1), some (.int x2)] [.int (0 : Int32), .int x2, .ref (x0 + 10)] (fun _ => rfl) ?_
            cases e
            exact hjq9 trivial
        · refine g_run 2 53 [some (.ref x0), some (.int x1), some (.int x2)] [.int (2 : Int32), .int x2, .ref (x0 + 10)] (fun _ => rfl) ?_
          cases e
          exact hjq9 trivial
      · refine g_run 1 34 [some (.ref x0), some (.int x1), some (.int x2)] [.int x1, .int x2, .ref (x0 + 10)] (fun _ => rfl) ?_
        refine g_if (p1 := 37) (L1 := [some (.ref x0), some (.int x1), some (.int x2)]) (S1 := [.int x2, .ref (x0 + 10)]) (s1 := (l, r, h, j)) (p2 := 52) (L2 := [some (.ref x0), some (.int x1), some (.int x2)]) (S2 := [.int x2, .ref (x0 + 10)]) (s2 := (l, r, h, j)) rfl (fun _ _ => rfl) e (fun c7 e => ?_) (fun c7 e => ?_)
        · refine g_run 3 42 [some (.ref x0), some (.int x1), some (.int x2)] [.int (78 : Int32), .int (55 : Int32), .int x2, .int x2, .ref (x0 + 10)] (fun _ => rfl) ?_
          refine g_cS 45 rfl rfl (by decide) rfl rfl rfl Md_in_s ?_
          refine g_if (p1 := 52) (L1 := [some (.ref x0), some (.int x1), some (.int x2)]) (S1 := [.int x2, .ref (x0 + 10)]) (s1 := (l, r, h, j)) (p2 := 48) (L2 := [some (.ref x0), some (.int x1), some (.int x2)]) (S2 := [.int x2, .ref (x0 + 10)]) (s2 := (l, r, h, j)) rfl (fun _ _ => rfl) e (fun c8 e => ?_) (fun c8 e => ?_)
          · refine g_run 1 53 [some (.ref x0), some (.int x1), some (.int x2)] [.int (0 : Int32), .int x2, .ref (x0 + 10)] (fun _ => rfl) ?_
            cases e
            exact hjq9 trivial
          · refine g_run 2 53 [some (.ref x0), some (.int x1), some (.int x2)] [.int (-1 : Int32), .int x2, .ref (x0 + 10)] (fun _ => rfl) ?_
            cases e
            exact hjq9 trivial
        · refine g_run 1 53 [some (.ref x0), some (.int x1), some (.int x2)] [.int (0 : Int32), .int x2, .ref (x0 + 10)] (fun _ => rfl) ?_
          cases e
          exact hjq9 trivial
theorem Md_blank_s {X : Nat × (Nat → Int32)} {l : List (Nat × Nat)} {r : am_R} {h : am_F} {j : am_J} {a : Nat} {x1 : Int32} (ka : Md_K l r a) {q : am_F} (e : Md_blank a x1 h = some q) : Call X 187 [.ref a, .int x1] (l, r, h, j) (none, (l, r, q, j)) := by
  unfold Md_blank at e
  refine ⟨Nat.le_of_ble_eq_true rfl, ?_⟩
  show Ev X 187 0 [some (.ref a), some (.int x1), none] [] (l, r, h, j) _
  refine g_run 2 2 [some (.ref a), some (.int x1), some (.int (0 : Int32))] [] (fun _ => rfl) ?_
  obtain ⟨q11, eq11, e⟩ := g_bd e
  refine Md_blank_l2_s ka (fun y12 => ?_) _ _ _ eq11
  refine g_run 1 61 [some (.ref a), some (.int x1), some (.int y12)] [.int x1] (fun _ => rfl) ?_
  refine g_if (p1 := 64) (L1 := [some (.ref a), some (.int x1), some (.int y12)]) (S1 := []) (s1 := (l, r, q11, j)) (p2 := 80) (L2 := [some (.ref a), some (.int x1), some (.int y12)]) (S2 := []) (s2 := (l, r, q11, j)) rfl (fun _ _ => rfl) e (fun c13 e => ?_) (fun c13 e => ?_)
  · refine g_run 1 65 [some (.ref a), some (.int x1), some (.int y12)] [.ref a] (fun _ => rfl) ?_
    refine g_getA 68 rfl rfl (Md_l ka) (Md_r19 ka) ?_
    refine g_run 2 71 [some (.ref a), some (.int x1), some (.int y12)] [.int (20 : Int32), .int (0 : Int32), .ref (a + 10)] (fun _ => rfl) ?_
    refine g_iast 72 rfl rfl (Md_k19 ka) (kx := 0) rfl ?_
    refine g_run 1 73 [some (.ref a), some (.int x1), some (.int y12)] [.ref a] (fun _ => rfl) ?_
    refine g_getA 76 rfl rfl (Md_l ka) (Md_r19 ka) ?_
    refine g_run 2 79 [some (.ref a), some (.int x1), some (.int y12)] [.int (8 : Int32), .int (1 : Int32), .ref (a + 10)] (fun _ => rfl) ?_
    refine g_iast 80 rfl rfl (Md_k19 ka) (kx := 1) rfl ?_
    cases e
    exact g_ret rfl (fun _ _ => rfl)
  · cases e
    exact g_ret rfl (fun _ _ => rfl)
def Md_readText (a : Nat) (x1 : Int32) (h : am_F) (j : am_J) : Option (Int32 × am_F × am_J) :=
  (Md_blank a x1 h).bind fun q1 =>
  (Md_token a (am_up (am_up (am_up q1 a 21 (-1 : Int32)) a 10 (0 : Int32)) a 17 (0 : Int32)) j).bind fun q2 =>
  (Md_lines a x1 q2.1 q2.2).bind fun q3 =>
  (if q3.1 = 0 then
      some q3.2.1
    else
      if x1 = 0 then
        if (q3.2.1 a 17) = 0 then
          if (q3.2.1 a 21) < (q3.2.1 (a + 10) 3) then
            if (q3.2.1 (a + 10) 1) ≤ (q3.2.1 (a + 10) 0) then
              some q3.2.1
            else
              (Md_later a (5 : Int32) (q3.2.1 a 12) q3.2.1).bind fun q10 =>
              some q10
          else
            (Md_later a (4 : Int32) (q3.2.1 a 12) q3.2.1).bind fun q11 =>
            some q11
        else
          some q3.2.1
      else
        some q3.2.1 : Option (am_F)).bind fun q12 =>
  (if q3.1 = 0 then
      some (1 : Int32)
    else
      some (q12 a 17) : Option (Int32)).bind fun q15 =>
  (if q3.1 = 0 then
      some ((am_up q12 (a + 3) 0 q15) a 16)
    else
      if ((am_up q12 (a + 3) 0 q15) a 17) ≤ 0 then
        some (-1 : Int32)
      else
        some ((am_up q12 (a + 3) 0 q15) a 18) : Option (Int32)).bind fun q19 =>
  if ((am_up (am_up q12 (a + 3) 0 q15) (a + 4) 0 q19) (a + 3) 0) = 0 then
    some ((1 : Int32), (am_up (am_up q12 (a + 3) 0 q15) (a + 4) 0 q19), q3.2.2)
  else
    some ((0 : Int32), (am_up (am_up q12 (a + 3) 0 q15) (a + 4) 0 q19), q3.2.2)
theorem Md_readText_s {X : Nat × (Nat → Int32)} {l : List (Nat × Nat)} {r : am_R} {h : am_F} {j : am_J} {a : Nat} {x1 : Int32} (ka : Md_K l r a) {q : Int32 × am_F × am_J} (e : Md_readText a x1 h j = some q) : Call X 188 [.ref a, .int x1] (l, r, h, j) (some (.int q.1), (l, r, q.2.1, q.2.2)) := by
  unfold Md_readText at e
  refine ⟨Nat.le_of_ble_eq_true rfl, ?_⟩
  show Ev X 188 0 [some (.ref a), some (.int x1), none] [] (l, r, h, j) _
  refine g_run 2 2 [some (.ref a), some (.int x1), none] [.int x1, .ref a] (fun _ => rfl) ?_
  obtain ⟨q1, eq1, e⟩ := g_bd e
  refine g_cVv 5 rfl rfl rfl rfl rfl (Md_l ka) (Md_blank_s ka eq1) ?_
  refine g_run 2 7 [some (.ref a), some (.int x1), none] [.int (-1 : Int32), .ref a] (fun _ => rfl) ?_
  refine g_putI 10 rfl rfl (Md_l ka) ?_
  refine g_run 2 12 [some (.ref a), some (.int x1), none] [.int (0 : Int32), .ref a] (fun _ => rfl) ?_
  refine g_putI 15 rfl rfl (Md_l ka) ?_
  refine g_run 2 17 [some (.ref a), some (.int x1), none] [.int (0 : Int32), .ref a] (fun _ => rfl) ?_
  refine g_putI 20 rfl rfl (Md_l ka) ?_
  refine g_run 1 21 [some (.ref a), some (.int x1), none] [.ref a] (fun _ => rfl) ?_
  obtain ⟨q2, eq2, e⟩ := g_bd e
  refine g_cVv 24 rfl rfl rfl rfl rfl (Md_l ka) (Md_token_s ka eq2) ?_
  refine g_run 2 26 [some (.ref a), some (.int x1), none] [.int x1, .ref a] (fun _ => rfl) ?_
  obtain ⟨q3, eq3, e⟩ := g_bd e
  refine g_cV 29 rfl rfl rfl rfl rfl (Md_l ka) (Md_lines_s ka eq3) ?_
  refine g_run 2 31 [some (.ref a), some (.int x1), some (.int q3.1)] [.int q3.1] (fun _ => rfl) ?_
  obtain ⟨q12, eq12, e⟩ := g_bd e
  have hjq12 : ∀ (_ : True), Ev X 188 94 [some (.ref a), some (.int x1), some (.int q3.1)] [] (l, r, q12, q3.2.2) (some (.int q.1), (l, r, q.2.1, q.2.2)) := by
    intro _
    refine g_run 1 95 [some (.ref a), some (.int x1), some (.int q3.1)] [.ref a] (fun _ => rfl) ?_
    refine g_getA 98 rfl rfl (Md_l ka) (Md_r3 ka) ?_
    refine g_run 2 100 [some (.ref a), some (.int x1), some (.int q3.1)] [.int q3.1, .int (0 : Int32), .ref (a + 3)] (fun _ => rfl) ?_
    obtain ⟨q15, eq15, e⟩ := g_bd e
    have hjq15 : ∀ (_ : True), Ev X 188 111 [some (.ref a), some (.int x1), some (.int q3.1)] [.int q15, .int (0 : Int32), .ref (a + 3)] (l, r, q12, q3.2.2) (some (.int q.1), (l, r, q.2.1, q.2.2)) := by
      intro _
      refine g_iast 112 rfl rfl (Md_k3 ka) (kx := 0) rfl ?_
      refine g_run 1 113 [some (.ref a), some (.int x1), some (.int q3.1)] [.ref a] (fun _ => rfl) ?_
      refine g_getA 116 rfl rfl (Md_l ka) (Md_r4 ka) ?_
      refine g_run 2 118 [some (.ref a), some (.int x1), some (.int q3.1)] [.int q3.1, .int (0 : Int32), .ref (a + 4)] (fun _ => rfl) ?_
      obtain ⟨q19, eq19, e⟩ := g_bd e
      have hjq19 : ∀ (_ : True), Ev X 188 143 [some (.ref a), some (.int x1), some (.int q3.1)] [.int q19, .int (0 : Int32), .ref (a + 4)] (l, r, (am_up q12 (a + 3) 0 q15), q3.2.2) (some (.int q.1), (l, r, q.2.1, q.2.2)) := by
        intro _
        refine g_iast 144 rfl rfl (Md_k4 ka) (kx := 0) rfl ?_
        refine g_run 1 145 [some (.ref a), some (.int x1), some (.int q3.1)] [.ref a] (fun _ => rfl) ?_
        refine g_getA 148 rfl rfl (Md_l ka) (Md_r3 ka) ?_
        refine g_run 1 149 [some (.ref a), some (.int x1), some (.int q3.1)] [.int (0 : Int32), .ref (a + 3)] (fun _ => rfl) ?_
        refine g_iald 150 rfl rfl (Md_k3 ka) (kx := 0) rfl ?_
        refine g_if (p1 := 153) (L1 := [some (.ref a), some (.int x1), some (.int q3.1)]) (S1 := []) (s1 := (l, r, (am_up (am_up q12 (a + 3) 0 q15) (a + 4) 0 q19), q3.2.2)) (p2 := 157) (L2 := [some (.ref a), some (.int x1), some (.int q3.1)]) (S2 := []) (s2 := (l, r, (am_up (am_up q12 (a + 3) 0 q15) (a + 4) 0 q19), q3.2.2)) rfl (fun _ _ => rfl) e (fun c20 e => ?_) (fun c20 e => ?_)
        · refine g_run 2 158 [some (.ref a), some (.int x1), some (.int q3.1)] [.int (1 : Int32)] (fun _ => rfl) ?_
          cases e
          exact g_retZ rfl (y := (1 : Int32)) rfl rfl
        · refine g_run 1 158 [some (.ref a), some (.int x1), some (.int q3.1)] [.int (0 : Int32)] (fun _ => rfl) ?_
          cases e
          exact g_retZ rfl (y := (0 : Int32)) rfl rfl
      replace e := eq19
      refine g_if (p1 := 121) (L1 := [some (.ref a), some (.int x1), some (.int q3.1)]) (S1 := [.int (0 : Int32), .ref (a + 4)]) (s1 := (l, r, (am_up q12 (a + 3) 0 q15), q3.2.2)) (p2 := 128) (L2 := [some (.ref a), some (.int x1), some (.int q3.1)]) (S2 := [.int (0 : Int32), .ref (a + 4)]) (s2 := (l, r, (am_up q12 (a + 3) 0 q15), q3.2.2)) rfl (fun _ _ => rfl) e (fun c16 e => ?_) (fun c16 e => ?_)
      · refine g_run 1 122 [some (.ref a), some (.int x1), some (.int q3.1)] [.ref a, .int (0 : Int32), .ref (a + 4)] (fun _ => rfl) ?_
        refine g_getI 125 rfl rfl (Md_l ka) ?_
        refine g_run 1 143 [some (.ref a), some (.int x1), some (.int q3.1)] [.int ((am_up q12 (a + 3) 0 q15) a 16), .int (0 : Int32), .ref (a + 4)] (fun _ => rfl) ?_
        cases e
        exact hjq19 trivial
      · refine g_run 1 129 [some (.ref a), some (.int x1), some (.int q3.1)] [.ref a, .int (0 : Int32), .ref (a + 4)] (fun _ => rfl) ?_
        refine g_getI 132 rfl rfl (Md_l ka) ?_
        refine g_if (p1 := 142) (L1 := [some (.ref a), some (.int x1), some (.int q3.1)]) (S1 := [.int (0 : Int32), .ref (a + 4)]) (s1 := (l, r, (am_up q12 (a + 3) 0 q15), q3.2.2)) (p2 := 135) (L2 := [some (.ref a), some (.int x1), some (.int q3.1)]) (S2 := [.int (0 : Int32), .ref (a + 4)]) (s2 := (l, r, (am_up q12 (a + 3) 0 q15), q3.2.2)) rfl (fun _ _ => rfl) e (fun c18 e => ?_) (fun c18 e => ?_)
        · refine g_run 1 143 [some (.ref a), some (.int x1), some (.int q3.1)] [.int (-1 : Int32), .int (0 : Int32), .ref (a + 4)] (fun _ => rfl) ?_
          cases e
          exact hjq19 trivial
        · refine g_run 1 136 [some (.ref a), some (.int x1), some (.int q3.1)] [.ref a, .int (0 : Int32), .ref (a + 4)] (fun _ => rfl) ?_
          refine g_getI 139 rfl rfl (Md_l ka) ?_
          refine g_run 1 143 [some (.ref a), some (.int x1), some (.int q3.1)] [.int ((am_up q12 (a + 3) 0 q15) a 18), .int (0 : Int32), .ref (a + 4)] (fun _ => rfl) ?_
          cases e
          exact hjq19 trivial
    replace e := eq15
    refine g_if (p1 := 110) (L1 := [some (.ref a), some (.int x1), some (.int q3.1)]) (S1 := [.int (0 : Int32), .ref (a + 3)]) (s1 := (l, r, q12, q3.2.2)) (p2 := 103) (L2 := [some (.ref a), some (.int x1), some (.int q3.1)]) (S2 := [.int (0 : Int32), .ref (a + 3)]) (s2 := (l, r, q12, q3.2.2)) rfl (fun _ _ => rfl) e (fun c13 e => ?_) (fun c13 e => ?_)
    · refine g_run 1 111 [some (.ref a), some (.int x1), some (.int q3.1)] [.int (1 : Int32), .int (0 : Int32), .ref (a + 3)] (fun _ => rfl) ?_
      cases e
      exact hjq15 trivial
    · refine g_run 1 104 [some (.ref a), some (.int x1), some (.int q3.1)] [.ref a, .int (0 : Int32), .ref (a + 3)] (fun _ => rfl) ?_
      refine g_getI 107 rfl rfl (Md_l ka) ?_
      refine g_run 1 111 [some (.ref a), some (.int x1), some (.int q3.1)] [.int (q12 a 17), .int (0 : Int32), .ref (a + 3)] (fun _ => rfl) ?_
      cases e
      exact hjq15 trivial
  replace e := eq12
  refine g_if (p1 := 94) (L1 := [some (.ref a), some (.int x1), some (.int q3.1)]) (S1 := []) (s1 := (l, r, q3.2.1, q3.2.2)) (p2 := 34) (L2 := [some (.ref a), some (.int x1), some (.int q3.1)]) (S2 := []) (s2 := (l, r, q3.2.1, q3.2.2)) rfl (fun _ _ => rfl) e (fun c4 e => ?_) (fun c4 e => ?_)
  · cases e
    exact hjq12 trivial
  · refine g_run 1 35 [some (.ref a), some (.int x1), some (.int q3.1)] [.int x1] (fun _ => rfl) ?_
    refine g_if (p1 := 38) (L1 := [some (.ref a), some (.int x1), some (.int q3.1)]) (S1 := []) (s1 := (l, r, q3.2.1, q3.2.2)) (p2 := 94) (L2 := [some (.ref a), some (.int x1), some (.int q3.1)]) (S2 := []) (s2 := (l, r, q3.2.1, q3.2.2)) rfl (fun _ _ => rfl) e (fun c6 e => ?_) (fun c6 e => ?_)
    · refine g_run 1 39 [some (.ref a), some (.int x1), some (.int q3.1)] [.ref a] (fun _ => rfl) ?_
      refine g_getI 42 rfl rfl (Md_l ka) ?_
      refine g_if (p1 := 45) (L1 := [some (.ref a), some (.int x1), some (.int q3.1)]) (S1 := []) (s1 := (l, r, q3.2.1, q3.2.2)) (p2 := 94) (L2 := [some (.ref a), some (.int x1), some (.int q3.1)]) (S2 := []) (s2 := (l, r, q3.2.1, q3.2.2)) rfl (fun _ _ => rfl) e (fun c7 e => ?_) (fun c7 e => ?_)
      · refine g_run 1 46 [some (.ref a), some (.int x1), some (.int q3.1)] [.ref a] (fun _ => rfl) ?_
        refine g_getI 49 rfl rfl (Md_l ka) ?_
        refine g_run 1 50 [some (.ref a), some (.int x1), some (.int q3.1)] [.ref a, .int (q3.2.1 a 21)] (fun _ => rfl) ?_
        refine g_getA 53 rfl rfl (Md_l ka) (Md_r19 ka) ?_
        refine g_run 1 54 [some (.ref a), some (.int x1), some (.int q3.1)] [.int (3 : Int32), .ref (a + 10), .int (q3.2.1 a 21)] (fun _ => rfl) ?_
        refine g_iald 55 rfl rfl (Md_k19 ka) (kx := 3) rfl ?_
        refine g_if (p1 := 70) (L1 := [some (.ref a), some (.int x1), some (.int q3.1)]) (S1 := []) (s1 := (l, r, q3.2.1, q3.2.2)) (p2 := 58) (L2 := [some (.ref a), some (.int x1), some (.int q3.1)]) (S2 := []) (s2 := (l, r, q3.2.1, q3.2.2)) rfl (fun _ _ => rfl) e (fun c8 e => ?_) (fun c8 e => ?_)
        · refine g_run 1 71 [some (.ref a), some (.int x1), some (.int q3.1)] [.ref a] (fun _ => rfl) ?_
          refine g_getA 74 rfl rfl (Md_l ka) (Md_r19 ka) ?_
          refine g_run 1 75 [some (.ref a), some (.int x1), some (.int q3.1)] [.int (1 : Int32), .ref (a + 10)] (fun _ => rfl) ?_
          refine g_iald 76 rfl rfl (Md_k19 ka) (kx := 1) rfl ?_
          refine g_run 1 77 [some (.ref a), some (.int x1), some (.int q3.1)] [.ref a, .int (q3.2.1 (a + 10) 1)] (fun _ => rfl) ?_
          refine g_getA 80 rfl rfl (Md_l ka) (Md_r19 ka) ?_
          refine g_run 1 81 [some (.ref a), some (.int x1), some (.int q3.1)] [.int (0 : Int32), .ref (a + 10), .int (q3.2.1 (a + 10) 1)] (fun _ => rfl) ?_
          refine g_iald 82 rfl rfl (Md_k19 ka) (kx := 0) rfl ?_
          refine g_if (p1 := 94) (L1 := [some (.ref a), some (.int x1), some (.int q3.1)]) (S1 := []) (s1 := (l, r, q3.2.1, q3.2.2)) (p2 := 85) (L2 := [some (.ref a), some (.int x1), some (.int q3.1)]) (S2 := []) (s2 := (l, r, q3.2.1, q3.2.2)) rfl (fun _ _ => rfl) e (fun c9 e => ?_) (fun c9 e => ?_)
          · cases e
            exact hjq12 trivial
          · refine g_run 3 88 [some (.ref a), some (.int x1), some (.int q3.1)] [.ref a, .int (5 : Int32), .ref a] (fun _ => rfl) ?_
            refine g_getI 91 rfl rfl (Md_l ka) ?_
            obtain ⟨q10, eq10, e⟩ := g_bd e
            refine g_cVv 94 rfl rfl rfl rfl rfl (Md_l ka) (Md_later_s ka eq10) ?_
            cases e
            exact hjq12 trivial
        · refine g_run 3 61 [some (.ref a), some (.int x1), some (.int q3.1)] [.ref a, .int (4 : Int32), .ref a] (fun _ => rfl) ?_
          refine g_getI 64 rfl rfl (Md_l ka) ?_
          obtain ⟨q11, eq11, e⟩ := g_bd e
          refine g_cVv 67 rfl rfl rfl rfl rfl (Md_l ka) (Md_later_s ka eq11) ?_
          refine g_run 1 94 [some (.ref a), some (.int x1), some (.int q3.1)] [] (fun _ => rfl) ?_
          cases e
          exact hjq12 trivial
      · cases e
        exact hjq12 trivial
    · cases e
      exact hjq12 trivial
def Md_store_l3 (l : List (Nat × Nat)) (r : am_R) (x0 : Nat) (x1 : Nat) (x2 : Int32) (x3 : Int32) : Nat → Int32 → am_F → Option (am_F)
  | 0, _, _ => none
  | n + 1, x4, h =>
    if x2 ≤ x4 then
      some h
    else
      (g_ix x4 195).bind fun k2 =>
      (g_ix ((x2 * x3) + x4) (g_ln l x1)).bind fun k3 =>
      Md_store_l3 l r x0 x1 x2 x3 n (x4 + (1 : Int32)) (am_up h x1 k3 (h (x0 + 10) k2))
def Md_store (l : List (Nat × Nat)) (r : am_R) (a : Nat) (x1 : Nat) (x2 : Int32) (x3 : Int32) (h : am_F) : Option (am_F) :=
  (Md_store_l3 l r a x1 x2 x3 g_fu (0 : Int32) h).bind fun q4 =>
  some q4
theorem Md_store_l3_s {X : Nat × (Nat → Int32)} {l : List (Nat × Nat)} {r : am_R} {x0 : Nat} {x1 : Nat} {x2 : Int32} {x3 : Int32} {j : am_J} {q : am_F} {R : Option Value × am_S} (kx0 : Md_K l r x0) (kx1 : l[x1]? = some (10, (g_ln l x1))) (hx : ∀ (y4 : Int32) , Ev X 189 30 [some (.ref x0), some (.ref x1), some (.int x2), some (.int x3), some (.int y4)] [] (l, r, q, j) R) : ∀ (n : Nat) (x4 : Int32) (h : am_F), Md_store_l3 l r x0 x1 x2 x3 n x4 h = some q → Ev X 189 3 [some (.ref x0), some (.ref x1), some (.int x2), some (.int x3), some (.int x4)] [] (l, r, h, j) R := by
  intro n
  induction n with
  | zero => intro x4 h e; cases e
  | succ n ih =>
    intro x4 h e
    unfold Md_store_l3 at e
    refine g_run 2 6 [some (.ref x0), some (.ref x1), some (.int x2), some (.int x3), some (.int x4)] [.int x2, .int x4] (fun _ => rfl) ?_
    refine g_if (p1 := 30) (L1 := [some (.ref x0), some (.ref x1), some (.int x2), some (.int x3), some (.int x4)]) (S1 := []) (s1 := (l, r, h, j)) (p2 := 9) (L2 := [some (.ref x0), some (.ref x1), some (.int x2), some (.int x3), some (.int x4)]) (S2 := []) (s2 := (l, r, h, j)) rfl (fun _ _ => rfl) e (fun c1 e => ?_) (fun c1 e => ?_)
    · cases e
      exact hx _
    · refine g_run 7 17 [some (.ref x0), some (.ref x1), some (.int x2), some (.int x3), some (.int x4)] [.ref x0, .int ((x2 * x3) + x4), .ref x1] (fun _ => rfl) ?_
      refine g_getA 20 rfl rfl (Md_l kx0) (Md_r19 kx0) ?_
      refine g_run 1 22 [some (.ref x0), some (.ref x1), some (.int x2), some (.int x3), some (.int x4)] [.int x4, .ref (x0 + 10), .int ((x2 * x3) + x4), .ref x1] (fun _ => rfl) ?_
      obtain ⟨k2, ek2, e⟩ := g_bd e
      refine g_iald 23 rfl rfl (Md_k19 kx0) ek2 ?_
      obtain ⟨k3, ek3, e⟩ := g_bd e
      refine g_iast 24 rfl rfl kx1 ek3 ?_
      refine g_run 2 3 [some (.ref x0), some (.ref x1), some (.int x2), some (.int x3), some (.int (x4 + (1 : Int32)))] [] (fun _ => rfl) ?_
      exact ih _ _ e
theorem Md_store_s {X : Nat × (Nat → Int32)} {l : List (Nat × Nat)} {r : am_R} {h : am_F} {j : am_J} {a : Nat} {x1 : Nat} {x2 : Int32} {x3 : Int32} (ka : Md_K l r a) (kx1 : l[x1]? = some (10, g_ln l x1)) {q : am_F} (e : Md_store l r a x1 x2 x3 h = some q) : Call X 189 [.ref a, .ref x1, .int x2, .int x3] (l, r, h, j) (none, (l, r, q, j)) := by
  unfold Md_store at e
  refine ⟨Nat.le_of_ble_eq_true rfl, ?_⟩
  show Ev X 189 0 [some (.ref a), some (.ref x1), some (.int x2), some (.int x3), none] [] (l, r, h, j) _
  refine g_run 2 3 [some (.ref a), some (.ref x1), some (.int x2), some (.int x3), some (.int (0 : Int32))] [] (fun _ => rfl) ?_
  obtain ⟨q4, eq4, e⟩ := g_bd e
  refine Md_store_l3_s ka kx1 (fun y5 => ?_) _ _ _ eq4
  cases e
  exact g_ret rfl (fun _ _ => rfl)
def Md_storeAll (l : List (Nat × Nat)) (r : am_R) (a : Nat) (x1 : Int32) (x2 : Int32) (h : am_F) : Option (am_F) :=
  if x1 = (0 : Int32) then
    (Md_store l r a (a + 6) (195 : Int32) x2 h).bind fun q1 =>
    some q1
  else if x1 = (1 : Int32) then
    (Md_store l r a (a + 7) (31 : Int32) x2 h).bind fun q3 =>
    some q3
  else if x1 = (2 : Int32) then
    (Md_store l r a (a + 8) (33 : Int32) x2 h).bind fun q5 =>
    some q5
  else 
    (Md_store l r a (a + 9) (19 : Int32) x2 h).bind fun q7 =>
    some q7
theorem Md_storeAll_s {X : Nat × (Nat → Int32)} {l : List (Nat × Nat)} {r : am_R} {h : am_F} {j : am_J} {a : Nat} {x1 : Int32} {x2 : Int32} (ka : Md_K l r a) {q : am_F} (e : Md_storeAll l r a x1 x2 h = some q) : Call X 190 [.ref a, .int x1, .int x2] (l, r, h, j) (none, (l, r, q, j)) := by
  unfold Md_storeAll at e
  refine ⟨Nat.le_of_ble_eq_true rfl, ?_⟩
  show Ev X 190 0 [some (.ref a), some (.int x1), some (.int x2)] [] (l, r, h, j) _
  refine g_run 1 1 [some (.ref a), some (.int x1), some (.int x2)] [.int x1] (fun _ => rfl) ?_
  by_cases c2 : x1 = (0 : Int32)
  · replace e := (if_pos c2).symm.trans e
    refine g_sw (p1 := 28) (L1 := [some (.ref a), some (.int x1), some (.int x2)]) (S1 := []) (s1 := (l, r, h, j)) rfl c2 (fun _ _ => rfl) ?_
    refine g_run 2 30 [some (.ref a), some (.int x1), some (.int x2)] [.ref a, .ref a] (fun _ => rfl) ?_
    refine g_getA 33 rfl rfl (Md_l ka) (Md_r6 ka) ?_
    refine g_run 2 37 [some (.ref a), some (.int x1), some (.int x2)] [.int x2, .int (195 : Int32), .ref (a + 6), .ref a] (fun _ => rfl) ?_
    obtain ⟨q1, eq1, e⟩ := g_bd e
    refine g_cVv 40 rfl rfl rfl rfl rfl (Md_l ka) (Md_store_s ka (g_lnk (Md_k6 ka)) eq1) ?_
    cases e
    exact g_ret rfl (fun _ _ => rfl)
  replace e := (if_neg c2).symm.trans e
  by_cases c4 : x1 = (1 : Int32)
  · replace e := (if_pos c4).symm.trans e
    refine g_sw (p1 := 41) (L1 := [some (.ref a), some (.int x1), some (.int x2)]) (S1 := []) (s1 := (l, r, h, j)) rfl c4 (fun _ _ => rfl) ?_
    refine g_run 2 43 [some (.ref a), some (.int x1), some (.int x2)] [.ref a, .ref a] (fun _ => rfl) ?_
    refine g_getA 46 rfl rfl (Md_l ka) (Md_r7 ka) ?_
    refine g_run 2 49 [some (.ref a), some (.int x1), some (.int x2)] [.int x2, .int (31 : Int32), .ref (a + 7), .ref a] (fun _ => rfl) ?_
    obtain ⟨q3, eq3, e⟩ := g_bd e
    refine g_cVv 52 rfl rfl rfl rfl rfl (Md_l ka) (Md_store_s ka (g_lnk (Md_k7 ka)) eq3) ?_
    cases e
    exact g_ret rfl (fun _ _ => rfl)
  replace e := (if_neg c4).symm.trans e
  by_cases c6 : x1 = (2 : Int32)
  · replace e := (if_pos c6).symm.trans e
    refine g_sw (p1 := 53) (L1 := [some (.ref a), some (.int x1), some (.int x2)]) (S1 := []) (s1 := (l, r, h, j)) rfl c6 (fun _ _ => rfl) ?_
    refine g_run 2 55 [some (.ref a), some (.int x1), some (.int x2)] [.ref a, .ref a] (fun _ => rfl) ?_
    refine g_getA 58 rfl rfl (Md_l ka) (Md_r8 ka) ?_
    refine g_run 2 61 [some (.ref a), some (.int x1), some (.int x2)] [.int x2, .int (33 : Int32), .ref (a + 8), .ref a] (fun _ => rfl) ?_
    obtain ⟨q5, eq5, e⟩ := g_bd e
    refine g_cVv 64 rfl rfl rfl rfl rfl (Md_l ka) (Md_store_s ka (g_lnk (Md_k8 ka)) eq5) ?_
    cases e
    exact g_ret rfl (fun _ _ => rfl)
  replace e := (if_neg c6).symm.trans e
  have ic2 : (Int32.toInt x1) ≠ 0 := g_ne c2
  have ic4 : (Int32.toInt x1) ≠ 1 := g_ne c4
  have ic6 : (Int32.toInt x1) ≠ 2 := g_ne c6
  refine g_swd (p1 := 65) (L1 := [some (.ref a), some (.int x1), some (.int x2)]) (S1 := []) (s1 := (l, r, h, j)) (x := x1) (lo := 0) (hi := 2) rfl (fun _ _ => rfl) (by omega) ?_
  refine g_run 2 67 [some (.ref a), some (.int x1), some (.int x2)] [.ref a, .ref a] (fun _ => rfl) ?_
  refine g_getA 70 rfl rfl (Md_l ka) (Md_r9 ka) ?_
  refine g_run 2 73 [some (.ref a), some (.int x1), some (.int x2)] [.int x2, .int (19 : Int32), .ref (a + 9), .ref a] (fun _ => rfl) ?_
  obtain ⟨q7, eq7, e⟩ := g_bd e
  refine g_cVv 76 rfl rfl rfl rfl rfl (Md_l ka) (Md_store_s ka (g_lnk (Md_k9 ka)) eq7) ?_
  cases e
  exact g_ret rfl (fun _ _ => rfl)
def Md_text (l : List (Nat × Nat)) (r : am_R) (a : Nat) (x1 : Int32) (x2 : Int32) (h : am_F) (j : am_J) : Option (Int32 × am_F × am_J) :=
  if (Md_in x1 (0 : Int32) (3 : Int32)) = 0 then
    some ((-2 : Int32), (am_up (am_up (am_up (am_up (am_up h a 0 (0 : Int32)) a 11 ((am_up h a 0 (0 : Int32)) (a + 2) 0)) (a + 2) 0 (0 : Int32)) (a + 3) 0 (0 : Int32)) (a + 4) 0 (-1 : Int32)), j)
  else
    if x2 = (-1 : Int32) then
      (g_ix x1 16).bind fun k3 =>
      if ((am_up (am_up (am_up (am_up (am_up h a 0 (0 : Int32)) a 11 ((am_up h a 0 (0 : Int32)) (a + 2) 0)) (a + 2) 0 (0 : Int32)) (a + 3) 0 (0 : Int32)) (a + 4) 0 (-1 : Int32)) (a + 5) k3) = (2 : Int32) then
        some ((-2 : Int32), (am_up (am_up (am_up (am_up (am_up h a 0 (0 : Int32)) a 11 ((am_up h a 0 (0 : Int32)) (a + 2) 0)) (a + 2) 0 (0 : Int32)) (a + 3) 0 (0 : Int32)) (a + 4) 0 (-1 : Int32)), j)
      else
        (Md_readText a x1 (am_up (am_up (am_up (am_up (am_up h a 0 (0 : Int32)) a 11 ((am_up h a 0 (0 : Int32)) (a + 2) 0)) (a + 2) 0 (0 : Int32)) (a + 3) 0 (0 : Int32)) (a + 4) 0 (-1 : Int32)) j).bind fun q5 =>
        if q5.1 = 0 then
          some ((-1 : Int32), q5.2.1, q5.2.2)
        else
          (if x2 = (-1 : Int32) then
              (g_ix x1 16).bind fun k9 =>
              some (q5.2.1 (a + 5) k9)
            else
              some x2 : Option (Int32)).bind fun q10 =>
          (g_ix x1 16).bind fun k11 =>
          (if x2 = (-1 : Int32) then
              some (1 : Int32)
            else
              some (0 : Int32) : Option (Int32)).bind fun q14 =>
          (g_ix x1 16).bind fun k15 =>
          (Md_storeAll l r a x1 q10 (am_up q5.2.1 (a + 5) k15 ((q5.2.1 (a + 5) k11) + q14))).bind fun q16 =>
          some (q10, q16, q5.2.2)
    else
      (Md_is a x1 x2 (am_up (am_up (am_up (am_up (am_up h a 0 (0 : Int32)) a 11 ((am_up h a 0 (0 : Int32)) (a + 2) 0)) (a + 2) 0 (0 : Int32)) (a + 3) 0 (0 : Int32)) (a + 4) 0 (-1 : Int32))).bind fun q17 =>
      if q17 = 0 then
        some ((-2 : Int32), (am_up (am_up (am_up (am_up (am_up h a 0 (0 : Int32)) a 11 ((am_up h a 0 (0 : Int32)) (a + 2) 0)) (a + 2) 0 (0 : Int32)) (a + 3) 0 (0 : Int32)) (a + 4) 0 (-1 : Int32)), j)
      else
        (Md_readText a x1 (am_up (am_up (am_up (am_up (am_up h a 0 (0 : Int32)) a 11 ((am_up h a 0 (0 : Int32)) (a + 2) 0)) (a + 2) 0 (0 : Int32)) (a + 3) 0 (0 : Int32)) (a + 4) 0 (-1 : Int32)) j).bind fun q19 =>
        if q19.1 = 0 then
          some ((-1 : Int32), q19.2.1, q19.2.2)
        else
          (if x2 = (-1 : Int32) then
              (g_ix x1 16).bind fun k23 =>
              some (q19.2.1 (a + 5) k23)
            else
              some x2 : Option (Int32)).bind fun q24 =>
          (g_ix x1 16).bind fun k25 =>
          (if x2 = (-1 : Int32) then
              some (1 : Int32)
            else
              some (0 : Int32) : Option (Int32)).bind fun q28 =>
          (g_ix x1 16).bind fun k29 =>
          (Md_storeAll l r a x1 q24 (am_up q19.2.1 (a + 5) k29 ((q19.2.1 (a + 5) k25) + q28))).bind fun q30 =>
          some (q24, q30, q19.2.2)
theorem Md_text_s {X : Nat × (Nat → Int32)} {l : List (Nat × Nat)} {r : am_R} {h : am_F} {j : am_J} {a : Nat} {x1 : Int32} {x2 : Int32} (ka : Md_K l r a) {q : Int32 × am_F × am_J} (e : Md_text l r a x1 x2 h j = some q) : Call X 191 [.ref a, .int x1, .int x2] (l, r, h, j) (some (.int q.1), (l, r, q.2.1, q.2.2)) := by
  unfold Md_text at e
  refine ⟨Nat.le_of_ble_eq_true rfl, ?_⟩
  show Ev X 191 0 [some (.ref a), some (.int x1), some (.int x2), none] [] (l, r, h, j) _
  refine g_run 2 2 [some (.ref a), some (.int x1), some (.int x2), none] [.int (0 : Int32), .ref a] (fun _ => rfl) ?_
  refine g_putI 5 rfl rfl (Md_l ka) ?_
  refine g_run 2 7 [some (.ref a), some (.int x1), some (.int x2), none] [.ref a, .ref a] (fun _ => rfl) ?_
  refine g_getA 10 rfl rfl (Md_l ka) (Md_r2 ka) ?_
  refine g_run 1 11 [some (.ref a), some (.int x1), some (.int x2), none] [.int (0 : Int32), .ref (a + 2), .ref a] (fun _ => rfl) ?_
  refine g_iald 12 rfl rfl (Md_k2 ka) (kx := 0) rfl ?_
  refine g_putI 15 rfl rfl (Md_l ka) ?_
  refine g_run 1 16 [some (.ref a), some (.int x1), some (.int x2), none] [.ref a] (fun _ => rfl) ?_
  refine g_getA 19 rfl rfl (Md_l ka) (Md_r2 ka) ?_
  refine g_run 2 21 [some (.ref a), some (.int x1), some (.int x2), none] [.int (0 : Int32), .int (0 : Int32), .ref (a + 2)] (fun _ => rfl) ?_
  refine g_iast 22 rfl rfl (Md_k2 ka) (kx := 0) rfl ?_
  refine g_run 1 23 [some (.ref a), some (.int x1), some (.int x2), none] [.ref a] (fun _ => rfl) ?_
  refine g_getA 26 rfl rfl (Md_l ka) (Md_r3 ka) ?_
  refine g_run 2 28 [some (.ref a), some (.int x1), some (.int x2), none] [.int (0 : Int32), .int (0 : Int32), .ref (a + 3)] (fun _ => rfl) ?_
  refine g_iast 29 rfl rfl (Md_k3 ka) (kx := 0) rfl ?_
  refine g_run 1 30 [some (.ref a), some (.int x1), some (.int x2), none] [.ref a] (fun _ => rfl) ?_
  refine g_getA 33 rfl rfl (Md_l ka) (Md_r4 ka) ?_
  refine g_run 2 35 [some (.ref a), some (.int x1), some (.int x2), none] [.int (-1 : Int32), .int (0 : Int32), .ref (a + 4)] (fun _ => rfl) ?_
  refine g_iast 36 rfl rfl (Md_k4 ka) (kx := 0) rfl ?_
  refine g_run 3 39 [some (.ref a), some (.int x1), some (.int x2), none] [.int (3 : Int32), .int (0 : Int32), .int x1] (fun _ => rfl) ?_
  refine g_cS 42 rfl rfl (by decide) rfl rfl rfl Md_in_s ?_
  refine g_if (p1 := 72) (L1 := [some (.ref a), some (.int x1), some (.int x2), none]) (S1 := []) (s1 := (l, r, (am_up (am_up (am_up (am_up (am_up h a 0 (0 : Int32)) a 11 ((am_up h a 0 (0 : Int32)) (a + 2) 0)) (a + 2) 0 (0 : Int32)) (a + 3) 0 (0 : Int32)) (a + 4) 0 (-1 : Int32)), j)) (p2 := 45) (L2 := [some (.ref a), some (.int x1), some (.int x2), none]) (S2 := []) (s2 := (l, r, (am_up (am_up (am_up (am_up (am_up h a 0 (0 : Int32)) a 11 ((am_up h a 0 (0 : Int32)) (a + 2) 0)) (a + 2) 0 (0 : Int32)) (a + 3) 0 (0 : Int32)) (a + 4) 0 (-1 : Int32)), j)) rfl (fun _ _ => rfl) e (fun c1 e => ?_) (fun c1 e => ?_)
  · refine g_run 1 74 [some (.ref a), some (.int x1), some (.int x2), none] [.int (-2 : Int32)] (fun _ => rfl) ?_
    cases e
    exact g_ret rfl (fun _ _ => rfl)
  · refine g_run 2 47 [some (.ref a), some (.int x1), some (.int x2), none] [.int (-1 : Int32), .int x2] (fun _ => rfl) ?_
    refine g_if (p1 := 50) (L1 := [some (.ref a), some (.int x1), some (.int x2), none]) (S1 := []) (s1 := (l, r, (am_up (am_up (am_up (am_up (am_up h a 0 (0 : Int32)) a 11 ((am_up h a 0 (0 : Int32)) (a + 2) 0)) (a + 2) 0 (0 : Int32)) (a + 3) 0 (0 : Int32)) (a + 4) 0 (-1 : Int32)), j)) (p2 := 63) (L2 := [some (.ref a), some (.int x1), some (.int x2), none]) (S2 := []) (s2 := (l, r, (am_up (am_up (am_up (am_up (am_up h a 0 (0 : Int32)) a 11 ((am_up h a 0 (0 : Int32)) (a + 2) 0)) (a + 2) 0 (0 : Int32)) (a + 3) 0 (0 : Int32)) (a + 4) 0 (-1 : Int32)), j)) rfl (fun _ _ => rfl) e (fun c2 e => ?_) (fun c2 e => ?_)
    · refine g_run 1 51 [some (.ref a), some (.int x1), some (.int x2), none] [.ref a] (fun _ => rfl) ?_
      refine g_getA 54 rfl rfl (Md_l ka) (Md_r5 ka) ?_
      refine g_run 1 55 [some (.ref a), some (.int x1), some (.int x2), none] [.int x1, .ref (a + 5)] (fun _ => rfl) ?_
      obtain ⟨k3, ek3, e⟩ := g_bd e
      refine g_iald 56 rfl rfl (Md_k5 ka) ek3 ?_
      refine g_run 1 57 [some (.ref a), some (.int x1), some (.int x2), none] [.int (2 : Int32), .int ((am_up (am_up (am_up (am_up (am_up h a 0 (0 : Int32)) a 11 ((am_up h a 0 (0 : Int32)) (a + 2) 0)) (a + 2) 0 (0 : Int32)) (a + 3) 0 (0 : Int32)) (a + 4) 0 (-1 : Int32)) (a + 5) k3)] (fun _ => rfl) ?_
      refine g_if (p1 := 60) (L1 := [some (.ref a), some (.int x1), some (.int x2), none]) (S1 := []) (s1 := (l, r, (am_up (am_up (am_up (am_up (am_up h a 0 (0 : Int32)) a 11 ((am_up h a 0 (0 : Int32)) (a + 2) 0)) (a + 2) 0 (0 : Int32)) (a + 3) 0 (0 : Int32)) (a + 4) 0 (-1 : Int32)), j)) (p2 := 75) (L2 := [some (.ref a), some (.int x1), some (.int x2), none]) (S2 := []) (s2 := (l, r, (am_up (am_up (am_up (am_up (am_up h a 0 (0 : Int32)) a 11 ((am_up h a 0 (0 : Int32)) (a + 2) 0)) (a + 2) 0 (0 : Int32)) (a + 3) 0 (0 : Int32)) (a + 4) 0 (-1 : Int32)), j)) rfl (fun _ _ => rfl) e (fun c4 e => ?_) (fun c4 e => ?_)
      · refine g_run 2 74 [some (.ref a), some (.int x1), some (.int x2), none] [.int (-2 : Int32)] (fun _ => rfl) ?_
        cases e
        exact g_ret rfl (fun _ _ => rfl)
      · refine g_run 2 77 [some (.ref a), some (.int x1), some (.int x2), none] [.int x1, .ref a] (fun _ => rfl) ?_
        obtain ⟨q5, eq5, e⟩ := g_bd e
        refine g_cV 80 rfl rfl rfl rfl rfl (Md_l ka) (Md_readText_s ka eq5) ?_
        refine g_if (p1 := 83) (L1 := [some (.ref a), some (.int x1), some (.int x2), none]) (S1 := []) (s1 := (l, r, q5.2.1, q5.2.2)) (p2 := 85) (L2 := [some (.ref a), some (.int x1), some (.int x2), none]) (S2 := []) (s2 := (l, r, q5.2.1, q5.2.2)) rfl (fun _ _ => rfl) e (fun c6 e => ?_) (fun c6 e => ?_)
        · refine g_run 1 84 [some (.ref a), some (.int x1), some (.int x2), none] [.int (-1 : Int32)] (fun _ => rfl) ?_
          cases e
          exact g_ret rfl (fun _ _ => rfl)
        · refine g_run 2 87 [some (.ref a), some (.int x1), some (.int x2), none] [.int (-1 : Int32), .int x2] (fun _ => rfl) ?_
          obtain ⟨q10, eq10, e⟩ := g_bd e
          have hjq10 : ∀ (_ : True), Ev X 191 100 [some (.ref a), some (.int x1), some (.int x2), none] [.int q10] (l, r, q5.2.1, q5.2.2) (some (.int q.1), (l, r, q.2.1, q.2.2)) := by
            intro _
            refine g_run 2 102 [some (.ref a), some (.int x1), some (.int x2), some (.int q10)] [.ref a] (fun _ => rfl) ?_
            refine g_getA 105 rfl rfl (Md_l ka) (Md_r5 ka) ?_
            refine g_run 2 107 [some (.ref a), some (.int x1), some (.int x2), some (.int q10)] [.int x1, .ref (a + 5), .int x1, .ref (a + 5)] (fun _ => rfl) ?_
            obtain ⟨k11, ek11, e⟩ := g_bd e
            refine g_iald 108 rfl rfl (Md_k5 ka) ek11 ?_
            refine g_run 2 110 [some (.ref a), some (.int x1), some (.int x2), some (.int q10)] [.int (-1 : Int32), .int x2, .int (q5.2.1 (a + 5) k11), .int x1, .ref (a + 5)] (fun _ => rfl) ?_
            obtain ⟨q14, eq14, e⟩ := g_bd e
            have hjq14 : ∀ (_ : True), Ev X 191 118 [some (.ref a), some (.int x1), some (.int x2), some (.int q10)] [.int q14, .int (q5.2.1 (a + 5) k11), .int x1, .ref (a + 5)] (l, r, q5.2.1, q5.2.2) (some (.int q.1), (l, r, q.2.1, q.2.2)) := by
              intro _
              refine g_run 1 119 [some (.ref a), some (.int x1), some (.int x2), some (.int q10)] [.int ((q5.2.1 (a + 5) k11) + q14), .int x1, .ref (a + 5)] (fun _ => rfl) ?_
              obtain ⟨k15, ek15, e⟩ := g_bd e
              refine g_iast 120 rfl rfl (Md_k5 ka) ek15 ?_
              refine g_run 3 123 [some (.ref a), some (.int x1), some (.int x2), some (.int q10)] [.int q10, .int x1, .ref a] (fun _ => rfl) ?_
              obtain ⟨q16, eq16, e⟩ := g_bd e
              refine g_cVv 126 rfl rfl rfl rfl rfl (Md_l ka) (Md_storeAll_s ka eq16) ?_
              refine g_run 1 127 [some (.ref a), some (.int x1), some (.int x2), some (.int q10)] [.int q10] (fun _ => rfl) ?_
              cases e
              exact g_ret rfl (fun _ _ => rfl)
            replace e := eq14
            refine g_if (p1 := 113) (L1 := [some (.ref a), some (.int x1), some (.int x2), some (.int q10)]) (S1 := [.int (q5.2.1 (a + 5) k11), .int x1, .ref (a + 5)]) (s1 := (l, r, q5.2.1, q5.2.2)) (p2 := 117) (L2 := [some (.ref a), some (.int x1), some (.int x2), some (.int q10)]) (S2 := [.int (q5.2.1 (a + 5) k11), .int x1, .ref (a + 5)]) (s2 := (l, r, q5.2.1, q5.2.2)) rfl (fun _ _ => rfl) e (fun c12 e => ?_) (fun c12 e => ?_)
            · refine g_run 2 118 [some (.ref a), some (.int x1), some (.int x2), some (.int q10)] [.int (1 : Int32), .int (q5.2.1 (a + 5) k11), .int x1, .ref (a + 5)] (fun _ => rfl) ?_
              cases e
              exact hjq14 trivial
            · refine g_run 1 118 [some (.ref a), some (.int x1), some (.int x2), some (.int q10)] [.int (0 : Int32), .int (q5.2.1 (a + 5) k11), .int x1, .ref (a + 5)] (fun _ => rfl) ?_
              cases e
              exact hjq14 trivial
          replace e := eq10
          refine g_if (p1 := 90) (L1 := [some (.ref a), some (.int x1), some (.int x2), none]) (S1 := []) (s1 := (l, r, q5.2.1, q5.2.2)) (p2 := 99) (L2 := [some (.ref a), some (.int x1), some (.int x2), none]) (S2 := []) (s2 := (l, r, q5.2.1, q5.2.2)) rfl (fun _ _ => rfl) e (fun c7 e => ?_) (fun c7 e => ?_)
          · refine g_run 1 91 [some (.ref a), some (.int x1), some (.int x2), none] [.ref a] (fun _ => rfl) ?_
            refine g_getA 94 rfl rfl (Md_l ka) (Md_r5 ka) ?_
            refine g_run 1 95 [some (.ref a), some (.int x1), some (.int x2), none] [.int x1, .ref (a + 5)] (fun _ => rfl) ?_
            obtain ⟨k9, ek9, e⟩ := g_bd e
            refine g_iald 96 rfl rfl (Md_k5 ka) ek9 ?_
            refine g_run 1 100 [some (.ref a), some (.int x1), some (.int x2), none] [.int (q5.2.1 (a + 5) k9)] (fun _ => rfl) ?_
            cases e
            exact hjq10 trivial
          · refine g_run 1 100 [some (.ref a), some (.int x1), some (.int x2), none] [.int x2] (fun _ => rfl) ?_
            cases e
            exact hjq10 trivial
    · refine g_run 3 66 [some (.ref a), some (.int x1), some (.int x2), none] [.int x2, .int x1, .ref a] (fun _ => rfl) ?_
      obtain ⟨q17, eq17, e⟩ := g_bd e
      refine g_cV 69 rfl rfl rfl rfl rfl (Md_l ka) (Md_is_s ka eq17) ?_
      refine g_if (p1 := 72) (L1 := [some (.ref a), some (.int x1), some (.int x2), none]) (S1 := []) (s1 := (l, r, (am_up (am_up (am_up (am_up (am_up h a 0 (0 : Int32)) a 11 ((am_up h a 0 (0 : Int32)) (a + 2) 0)) (a + 2) 0 (0 : Int32)) (a + 3) 0 (0 : Int32)) (a + 4) 0 (-1 : Int32)), j)) (p2 := 75) (L2 := [some (.ref a), some (.int x1), some (.int x2), none]) (S2 := []) (s2 := (l, r, (am_up (am_up (am_up (am_up (am_up h a 0 (0 : Int32)) a 11 ((am_up h a 0 (0 : Int32)) (a + 2) 0)) (a + 2) 0 (0 : Int32)) (a + 3) 0 (0 : Int32)) (a + 4) 0 (-1 : Int32)), j)) rfl (fun _ _ => rfl) e (fun c18 e => ?_) (fun c18 e => ?_)
      · refine g_run 1 74 [some (.ref a), some (.int x1), some (.int x2), none] [.int (-2 : Int32)] (fun _ => rfl) ?_
        cases e
        exact g_ret rfl (fun _ _ => rfl)
      · refine g_run 2 77 [some (.ref a), some (.int x1), some (.int x2), none] [.int x1, .ref a] (fun _ => rfl) ?_
        obtain ⟨q19, eq19, e⟩ := g_bd e
        refine g_cV 80 rfl rfl rfl rfl rfl (Md_l ka) (Md_readText_s ka eq19) ?_
        refine g_if (p1 := 83) (L1 := [some (.ref a), some (.int x1), some (.int x2), none]) (S1 := []) (s1 := (l, r, q19.2.1, q19.2.2)) (p2 := 85) (L2 := [some (.ref a), some (.int x1), some (.int x2), none]) (S2 := []) (s2 := (l, r, q19.2.1, q19.2.2)) rfl (fun _ _ => rfl) e (fun c20 e => ?_) (fun c20 e => ?_)
        · refine g_run 1 84 [some (.ref a), some (.int x1), some (.int x2), none] [.int (-1 : Int32)] (fun _ => rfl) ?_
          cases e
          exact g_ret rfl (fun _ _ => rfl)
        · refine g_run 2 87 [some (.ref a), some (.int x1), some (.int x2), none] [.int (-1 : Int32), .int x2] (fun _ => rfl) ?_
          obtain ⟨q24, eq24, e⟩ := g_bd e
          have hjq24 : ∀ (_ : True), Ev X 191 100 [some (.ref a), some (.int x1), some (.int x2), none] [.int q24] (l, r, q19.2.1, q19.2.2) (some (.int q.1), (l, r, q.2.1, q.2.2)) := by
            intro _
            refine g_run 2 102 [some (.ref a), some (.int x1), some (.int x2), some (.int q24)] [.ref a] (fun _ => rfl) ?_
            refine g_getA 105 rfl rfl (Md_l ka) (Md_r5 ka) ?_
            refine g_run 2 107 [some (.ref a), some (.int x1), some (.int x2), some (.int q24)] [.int x1, .ref (a + 5), .int x1, .ref (a + 5)] (fun _ => rfl) ?_
            obtain ⟨k25, ek25, e⟩ := g_bd e
            refine g_iald 108 rfl rfl (Md_k5 ka) ek25 ?_
            refine g_run 2 110 [some (.ref a), some (.int x1), some (.int x2), some (.int q24)] [.int (-1 : Int32), .int x2, .int (q19.2.1 (a + 5) k25), .int x1, .ref (a + 5)] (fun _ => rfl) ?_
            obtain ⟨q28, eq28, e⟩ := g_bd e
            have hjq28 : ∀ (_ : True), Ev X 191 118 [some (.ref a), some (.int x1), some (.int x2), some (.int q24)] [.int q28, .int (q19.2.1 (a + 5) k25), .int x1, .ref (a + 5)] (l, r, q19.2.1, q19.2.2) (some (.int q.1), (l, r, q.2.1, q.2.2)) := by
              intro _
              refine g_run 1 119 [some (.ref a), some (.int x1), some (.int x2), some (.int q24)] [.int ((q19.2.1 (a + 5) k25) + q28), .int x1, .ref (a + 5)] (fun _ => rfl) ?_
              obtain ⟨k29, ek29, e⟩ := g_bd e
              refine g_iast 120 rfl rfl (Md_k5 ka) ek29 ?_
              refine g_run 3 123 [some (.ref a), some (.int x1), some (.int x2), some (.int q24)] [.int q24, .int x1, .ref a] (fun _ => rfl) ?_
              obtain ⟨q30, eq30, e⟩ := g_bd e
              refine g_cVv 126 rfl rfl rfl rfl rfl (Md_l ka) (Md_storeAll_s ka eq30) ?_
              refine g_run 1 127 [some (.ref a), some (.int x1), some (.int x2), some (.int q24)] [.int q24] (fun _ => rfl) ?_
              cases e
              exact g_ret rfl (fun _ _ => rfl)
            replace e := eq28
            refine g_if (p1 := 113) (L1 := [some (.ref a), some (.int x1), some (.int x2), some (.int q24)]) (S1 := [.int (q19.2.1 (a + 5) k25), .int x1, .ref (a + 5)]) (s1 := (l, r, q19.2.1, q19.2.2)) (p2 := 117) (L2 := [some (.ref a), some (.int x1), some (.int x2), some (.int q24)]) (S2 := [.int (q19.2.1 (a + 5) k25), .int x1, .ref (a + 5)]) (s2 := (l, r, q19.2.1, q19.2.2)) rfl (fun _ _ => rfl) e (fun c26 e => ?_) (fun c26 e => ?_)
            · refine g_run 2 118 [some (.ref a), some (.int x1), some (.int x2), some (.int q24)] [.int (1 : Int32), .int (q19.2.1 (a + 5) k25), .int x1, .ref (a + 5)] (fun _ => rfl) ?_
              cases e
              exact hjq28 trivial
            · refine g_run 1 118 [some (.ref a), some (.int x1), some (.int x2), some (.int q24)] [.int (0 : Int32), .int (q19.2.1 (a + 5) k25), .int x1, .ref (a + 5)] (fun _ => rfl) ?_
              cases e
              exact hjq28 trivial
          replace e := eq24
          refine g_if (p1 := 90) (L1 := [some (.ref a), some (.int x1), some (.int x2), none]) (S1 := []) (s1 := (l, r, q19.2.1, q19.2.2)) (p2 := 99) (L2 := [some (.ref a), some (.int x1), some (.int x2), none]) (S2 := []) (s2 := (l, r, q19.2.1, q19.2.2)) rfl (fun _ _ => rfl) e (fun c21 e => ?_) (fun c21 e => ?_)
          · refine g_run 1 91 [some (.ref a), some (.int x1), some (.int x2), none] [.ref a] (fun _ => rfl) ?_
            refine g_getA 94 rfl rfl (Md_l ka) (Md_r5 ka) ?_
            refine g_run 1 95 [some (.ref a), some (.int x1), some (.int x2), none] [.int x1, .ref (a + 5)] (fun _ => rfl) ?_
            obtain ⟨k23, ek23, e⟩ := g_bd e
            refine g_iald 96 rfl rfl (Md_k5 ka) ek23 ?_
            refine g_run 1 100 [some (.ref a), some (.int x1), some (.int x2), none] [.int (q19.2.1 (a + 5) k23)] (fun _ => rfl) ?_
            cases e
            exact hjq24 trivial
          · refine g_run 1 100 [some (.ref a), some (.int x1), some (.int x2), none] [.int x2] (fun _ => rfl) ?_
            cases e
            exact hjq24 trivial
def Md_fault (a : Nat) (x1 : Int32) (h : am_F) : Option (Int32 × am_F) :=
  if x1 = 0 then
    some (((am_up h a 0 (0 : Int32)) (a + 3) 0), (am_up h a 0 (0 : Int32)))
  else
    if x1 = (1 : Int32) then
      some (((am_up h a 0 (0 : Int32)) (a + 4) 0), (am_up h a 0 (0 : Int32)))
    else
      some ((-1 : Int32), (am_up h a 0 (0 : Int32)))
theorem Md_fault_s {X : Nat × (Nat → Int32)} {l : List (Nat × Nat)} {r : am_R} {h : am_F} {j : am_J} {a : Nat} {x1 : Int32} (ka : Md_K l r a) {q : Int32 × am_F} (e : Md_fault a x1 h = some q) : Call X 192 [.ref a, .int x1] (l, r, h, j) (some (.int q.1), (l, r, q.2, j)) := by
  unfold Md_fault at e
  refine ⟨Nat.le_of_ble_eq_true rfl, ?_⟩
  show Ev X 192 0 [some (.ref a), some (.int x1)] [] (l, r, h, j) _
  refine g_run 2 2 [some (.ref a), some (.int x1)] [.int (0 : Int32), .ref a] (fun _ => rfl) ?_
  refine g_putI 5 rfl rfl (Md_l ka) ?_
  refine g_run 1 6 [some (.ref a), some (.int x1)] [.int x1] (fun _ => rfl) ?_
  refine g_if (p1 := 9) (L1 := [some (.ref a), some (.int x1)]) (S1 := []) (s1 := (l, r, (am_up h a 0 (0 : Int32)), j)) (p2 := 18) (L2 := [some (.ref a), some (.int x1)]) (S2 := []) (s2 := (l, r, (am_up h a 0 (0 : Int32)), j)) rfl (fun _ _ => rfl) e (fun c1 e => ?_) (fun c1 e => ?_)
  · refine g_run 1 10 [some (.ref a), some (.int x1)] [.ref a] (fun _ => rfl) ?_
    refine g_getA 13 rfl rfl (Md_l ka) (Md_r3 ka) ?_
    refine g_run 1 14 [some (.ref a), some (.int x1)] [.int (0 : Int32), .ref (a + 3)] (fun _ => rfl) ?_
    refine g_iald 15 rfl rfl (Md_k3 ka) (kx := 0) rfl ?_
    refine g_run 1 33 [some (.ref a), some (.int x1)] [.int ((am_up h a 0 (0 : Int32)) (a + 3) 0)] (fun _ => rfl) ?_
    cases e
    exact g_ret rfl (fun _ _ => rfl)
  · refine g_run 2 20 [some (.ref a), some (.int x1)] [.int (1 : Int32), .int x1] (fun _ => rfl) ?_
    refine g_if (p1 := 23) (L1 := [some (.ref a), some (.int x1)]) (S1 := []) (s1 := (l, r, (am_up h a 0 (0 : Int32)), j)) (p2 := 32) (L2 := [some (.ref a), some (.int x1)]) (S2 := []) (s2 := (l, r, (am_up h a 0 (0 : Int32)), j)) rfl (fun _ _ => rfl) e (fun c2 e => ?_) (fun c2 e => ?_)
    · refine g_run 1 24 [some (.ref a), some (.int x1)] [.ref a] (fun _ => rfl) ?_
      refine g_getA 27 rfl rfl (Md_l ka) (Md_r4 ka) ?_
      refine g_run 1 28 [some (.ref a), some (.int x1)] [.int (0 : Int32), .ref (a + 4)] (fun _ => rfl) ?_
      refine g_iald 29 rfl rfl (Md_k4 ka) (kx := 0) rfl ?_
      refine g_run 1 33 [some (.ref a), some (.int x1)] [.int ((am_up h a 0 (0 : Int32)) (a + 4) 0)] (fun _ => rfl) ?_
      cases e
      exact g_ret rfl (fun _ _ => rfl)
    · refine g_run 1 33 [some (.ref a), some (.int x1)] [.int (-1 : Int32)] (fun _ => rfl) ?_
      cases e
      exact g_ret rfl (fun _ _ => rfl)
def Md_hand_l13 (x0 : Nat) (x1 : Int32) : Nat → Int32 → am_F → Option (am_F)
  | 0, _, _ => none
  | n + 1, x2, h =>
    if (195 : Int32) ≤ x2 then
      some h
    else
      (g_ix (((195 : Int32) * x1) + x2) 1560).bind fun k4 =>
      (g_ix x2 195).bind fun k5 =>
      Md_hand_l13 x0 x1 n (x2 + (1 : Int32)) (am_up h (x0 + 12) k5 (h (x0 + 6) k4))
def Md_hand (a : Nat) (x1 : Int32) (h : am_F) : Option (Int32 × am_F) :=
  (Md_is a (0 : Int32) x1 h).bind fun q1 =>
  if q1 = 0 then
    some ((0 : Int32), h)
  else
    (Md_hand_l13 a x1 g_fu (0 : Int32) h).bind fun q6 =>
    some ((1 : Int32), q6)
theorem Md_hand_l13_s {X : Nat × (Nat → Int32)} {l : List (Nat × Nat)} {r : am_R} {x0 : Nat} {x1 : Int32} {j : am_J} {q : am_F} {R : Option Value × am_S} (kx0 : Md_K l r x0) (hx : ∀ (y2 : Int32) , Ev X 193 44 [some (.ref x0), some (.int x1), some (.int y2)] [] (l, r, q, j) R) : ∀ (n : Nat) (x2 : Int32) (h : am_F), Md_hand_l13 x0 x1 n x2 h = some q → Ev X 193 13 [some (.ref x0), some (.int x1), some (.int x2)] [] (l, r, h, j) R := by
  intro n
  induction n with
  | zero => intro x2 h e; cases e
  | succ n ih =>
    intro x2 h e
    unfold Md_hand_l13 at e
    refine g_run 2 17 [some (.ref x0), some (.int x1), some (.int x2)] [.int (195 : Int32), .int x2] (fun _ => rfl) ?_
    refine g_if (p1 := 44) (L1 := [some (.ref x0), some (.int x1), some (.int x2)]) (S1 := []) (s1 := (l, r, h, j)) (p2 := 20) (L2 := [some (.ref x0), some (.int x1), some (.int x2)]) (S2 := []) (s2 := (l, r, h, j)) rfl (fun _ _ => rfl) e (fun c3 e => ?_) (fun c3 e => ?_)
    · cases e
      exact hx _
    · refine g_run 1 21 [some (.ref x0), some (.int x1), some (.int x2)] [.ref x0] (fun _ => rfl) ?_
      refine g_getA 24 rfl rfl (Md_l kx0) (Md_r23 kx0) ?_
      refine g_run 2 26 [some (.ref x0), some (.int x1), some (.int x2)] [.ref x0, .int x2, .ref (x0 + 12)] (fun _ => rfl) ?_
      refine g_getA 29 rfl rfl (Md_l kx0) (Md_r6 kx0) ?_
      refine g_run 5 36 [some (.ref x0), some (.int x1), some (.int x2)] [.int (((195 : Int32) * x1) + x2), .ref (x0 + 6), .int x2, .ref (x0 + 12)] (fun _ => rfl) ?_
      obtain ⟨k4, ek4, e⟩ := g_bd e
      refine g_iald 37 rfl rfl (Md_k6 kx0) ek4 ?_
      obtain ⟨k5, ek5, e⟩ := g_bd e
      refine g_iast 38 rfl rfl (Md_k23 kx0) ek5 ?_
      refine g_run 2 13 [some (.ref x0), some (.int x1), some (.int (x2 + (1 : Int32)))] [] (fun _ => rfl) ?_
      exact ih _ _ e
theorem Md_hand_s {X : Nat × (Nat → Int32)} {l : List (Nat × Nat)} {r : am_R} {h : am_F} {j : am_J} {a : Nat} {x1 : Int32} (ka : Md_K l r a) {q : Int32 × am_F} (e : Md_hand a x1 h = some q) : Call X 193 [.ref a, .int x1] (l, r, h, j) (some (.int q.1), (l, r, q.2, j)) := by
  unfold Md_hand at e
  refine ⟨Nat.le_of_ble_eq_true rfl, ?_⟩
  show Ev X 193 0 [some (.ref a), some (.int x1), none] [] (l, r, h, j) _
  refine g_run 3 3 [some (.ref a), some (.int x1), none] [.int x1, .int (0 : Int32), .ref a] (fun _ => rfl) ?_
  obtain ⟨q1, eq1, e⟩ := g_bd e
  refine g_cV 6 rfl rfl rfl rfl rfl (Md_l ka) (Md_is_s ka eq1) ?_
  refine g_if (p1 := 9) (L1 := [some (.ref a), some (.int x1), none]) (S1 := []) (s1 := (l, r, h, j)) (p2 := 11) (L2 := [some (.ref a), some (.int x1), none]) (S2 := []) (s2 := (l, r, h, j)) rfl (fun _ _ => rfl) e (fun c2 e => ?_) (fun c2 e => ?_)
  · refine g_run 1 10 [some (.ref a), some (.int x1), none] [.int (0 : Int32)] (fun _ => rfl) ?_
    cases e
    exact g_retZ rfl (y := (0 : Int32)) rfl rfl
  · refine g_run 2 13 [some (.ref a), some (.int x1), some (.int (0 : Int32))] [] (fun _ => rfl) ?_
    obtain ⟨q6, eq6, e⟩ := g_bd e
    refine Md_hand_l13_s ka (fun y7 => ?_) _ _ _ eq6
    refine g_run 1 45 [some (.ref a), some (.int x1), some (.int y7)] [.int (1 : Int32)] (fun _ => rfl) ?_
    cases e
    exact g_retZ rfl (y := (1 : Int32)) rfl rfl
def Md_isBench (a : Nat) (x1 : Int32) (h : am_F) : Option (Int32) :=
  (g_bz (Md_in x1 (0 : Int32) ((h (a + 12) 3) - (1 : Int32)))).bind fun z9 =>
  some z9
theorem Md_isBench_s {X : Nat × (Nat → Int32)} {l : List (Nat × Nat)} {r : am_R} {h : am_F} {j : am_J} {a : Nat} {x1 : Int32} (ka : Md_K l r a) {q : Int32} (e : Md_isBench a x1 h = some q) : Call X 194 [.ref a, .int x1] (l, r, h, j) (some (.int q), (l, r, h, j)) := by
  unfold Md_isBench at e
  refine ⟨Nat.le_of_ble_eq_true rfl, ?_⟩
  show Ev X 194 0 [some (.ref a), some (.int x1)] [] (l, r, h, j) _
  refine g_run 3 3 [some (.ref a), some (.int x1)] [.ref a, .int (0 : Int32), .int x1] (fun _ => rfl) ?_
  refine g_getA 6 rfl rfl (Md_l ka) (Md_r23 ka) ?_
  refine g_run 1 7 [some (.ref a), some (.int x1)] [.int (3 : Int32), .ref (a + 12), .int (0 : Int32), .int x1] (fun _ => rfl) ?_
  refine g_iald 8 rfl rfl (Md_k23 ka) (kx := 3) rfl ?_
  refine g_run 2 10 [some (.ref a), some (.int x1)] [.int ((h (a + 12) 3) - (1 : Int32)), .int (0 : Int32), .int x1] (fun _ => rfl) ?_
  refine g_cS 13 rfl rfl (by decide) rfl rfl rfl Md_in_s ?_
  obtain ⟨z9, ez9, e⟩ := g_bd e
  cases e
  exact g_retZ rfl ez9 rfl
def Md_isComer (a : Nat) (x1 : Int32) (h : am_F) : Option (Int32) :=
  (g_bz (Md_in x1 (0 : Int32) ((h (a + 12) 6) - (1 : Int32)))).bind fun z9 =>
  some z9
theorem Md_isComer_s {X : Nat × (Nat → Int32)} {l : List (Nat × Nat)} {r : am_R} {h : am_F} {j : am_J} {a : Nat} {x1 : Int32} (ka : Md_K l r a) {q : Int32} (e : Md_isComer a x1 h = some q) : Call X 195 [.ref a, .int x1] (l, r, h, j) (some (.int q), (l, r, h, j)) := by
  unfold Md_isComer at e
  refine ⟨Nat.le_of_ble_eq_true rfl, ?_⟩
  show Ev X 195 0 [some (.ref a), some (.int x1)] [] (l, r, h, j) _
  refine g_run 3 3 [some (.ref a), some (.int x1)] [.ref a, .int (0 : Int32), .int x1] (fun _ => rfl) ?_
  refine g_getA 6 rfl rfl (Md_l ka) (Md_r23 ka) ?_
  refine g_run 1 8 [some (.ref a), some (.int x1)] [.int (6 : Int32), .ref (a + 12), .int (0 : Int32), .int x1] (fun _ => rfl) ?_
  refine g_iald 9 rfl rfl (Md_k23 ka) (kx := 6) rfl ?_
  refine g_run 2 11 [some (.ref a), some (.int x1)] [.int ((h (a + 12) 6) - (1 : Int32)), .int (0 : Int32), .int x1] (fun _ => rfl) ?_
  refine g_cS 14 rfl rfl (by decide) rfl rfl rfl Md_in_s ?_
  obtain ⟨z9, ez9, e⟩ := g_bd e
  cases e
  exact g_retZ rfl ez9 rfl
def Md_painted (a : Nat) (x1 : Int32) (h : am_F) : Option (Int32) :=
  (g_ix (((55 : Int32) + ((4 : Int32) * x1)) + (1 : Int32)) 195).bind fun k1 =>
  some (h (a + 12) k1)
theorem Md_painted_s {X : Nat × (Nat → Int32)} {l : List (Nat × Nat)} {r : am_R} {h : am_F} {j : am_J} {a : Nat} {x1 : Int32} (ka : Md_K l r a) {q : Int32} (e : Md_painted a x1 h = some q) : Call X 196 [.ref a, .int x1] (l, r, h, j) (some (.int q), (l, r, h, j)) := by
  unfold Md_painted at e
  refine ⟨Nat.le_of_ble_eq_true rfl, ?_⟩
  show Ev X 196 0 [some (.ref a), some (.int x1)] [] (l, r, h, j) _
  refine g_run 1 1 [some (.ref a), some (.int x1)] [.ref a] (fun _ => rfl) ?_
  refine g_getA 4 rfl rfl (Md_l ka) (Md_r23 ka) ?_
  refine g_run 7 12 [some (.ref a), some (.int x1)] [.int (((55 : Int32) + ((4 : Int32) * x1)) + (1 : Int32)), .ref (a + 12)] (fun _ => rfl) ?_
  obtain ⟨k1, ek1, e⟩ := g_bd e
  refine g_iald 13 rfl rfl (Md_k23 ka) ek1 ?_
  cases e
  exact g_ret rfl (fun _ _ => rfl)
def Md_comer (a : Nat) (x1 : Int32) (x2 : Int32) (h : am_F) : Option (Int32) :=
  (g_ix (((111 : Int32) + ((6 : Int32) * x1)) + x2) 195).bind fun k1 =>
  some (h (a + 12) k1)
theorem Md_comer_s {X : Nat × (Nat → Int32)} {l : List (Nat × Nat)} {r : am_R} {h : am_F} {j : am_J} {a : Nat} {x1 : Int32} {x2 : Int32} (ka : Md_K l r a) {q : Int32} (e : Md_comer a x1 x2 h = some q) : Call X 197 [.ref a, .int x1, .int x2] (l, r, h, j) (some (.int q), (l, r, h, j)) := by
  unfold Md_comer at e
  refine ⟨Nat.le_of_ble_eq_true rfl, ?_⟩
  show Ev X 197 0 [some (.ref a), some (.int x1), some (.int x2)] [] (l, r, h, j) _
  refine g_run 1 1 [some (.ref a), some (.int x1), some (.int x2)] [.ref a] (fun _ => rfl) ?_
  refine g_getA 4 rfl rfl (Md_l ka) (Md_r23 ka) ?_
  refine g_run 7 13 [some (.ref a), some (.int x1), some (.int x2)] [.int (((111 : Int32) + ((6 : Int32) * x1)) + x2), .ref (a + 12)] (fun _ => rfl) ?_
  obtain ⟨k1, ek1, e⟩ := g_bd e
  refine g_iald 14 rfl rfl (Md_k23 ka) ek1 ?_
  cases e
  exact g_ret rfl (fun _ _ => rfl)
def Md_park (a : Nat) (x1 : Int32) (x2 : Int32) (h : am_F) : Option (Int32 × am_F) :=
  (Md_hand a x1 (am_up h a 0 (0 : Int32))).bind fun q1 =>
  if q1.1 = 0 then
    some ((-1 : Int32), q1.2)
  else
    if (Md_in x2 (0 : Int32) (6 : Int32)) = 0 then
      if (Md_in x2 (10 : Int32) (57 : Int32)) = 0 then
        some ((-1 : Int32), q1.2)
      else
        (g_ix (((7 : Int32) + x2) - (10 : Int32)) 195).bind fun k5 =>
        some ((q1.2 (a + 12) k5), q1.2)
    else
      (g_ix x2 195).bind fun k6 =>
      some ((q1.2 (a + 12) k6), q1.2)
theorem Md_park_s {X : Nat × (Nat → Int32)} {l : List (Nat × Nat)} {r : am_R} {h : am_F} {j : am_J} {a : Nat} {x1 : Int32} {x2 : Int32} (ka : Md_K l r a) {q : Int32 × am_F} (e : Md_park a x1 x2 h = some q) : Call X 198 [.ref a, .int x1, .int x2] (l, r, h, j) (some (.int q.1), (l, r, q.2, j)) := by
  unfold Md_park at e
  refine ⟨Nat.le_of_ble_eq_true rfl, ?_⟩
  show Ev X 198 0 [some (.ref a), some (.int x1), some (.int x2)] [] (l, r, h, j) _
  refine g_run 2 2 [some (.ref a), some (.int x1), some (.int x2)] [.int (0 : Int32), .ref a] (fun _ => rfl) ?_
  refine g_putI 5 rfl rfl (Md_l ka) ?_
  refine g_run 2 7 [some (.ref a), some (.int x1), some (.int x2)] [.int x1, .ref a] (fun _ => rfl) ?_
  obtain ⟨q1, eq1, e⟩ := g_bd e
  refine g_cV 10 rfl rfl rfl rfl rfl (Md_l ka) (Md_hand_s ka eq1) ?_
  refine g_if (p1 := 13) (L1 := [some (.ref a), some (.int x1), some (.int x2)]) (S1 := []) (s1 := (l, r, q1.2, j)) (p2 := 17) (L2 := [some (.ref a), some (.int x1), some (.int x2)]) (S2 := []) (s2 := (l, r, q1.2, j)) rfl (fun _ _ => rfl) e (fun c2 e => ?_) (fun c2 e => ?_)
  · refine g_run 2 63 [some (.ref a), some (.int x1), some (.int x2)] [.int (-1 : Int32)] (fun _ => rfl) ?_
    cases e
    exact g_ret rfl (fun _ _ => rfl)
  · refine g_run 3 21 [some (.ref a), some (.int x1), some (.int x2)] [.int (6 : Int32), .int (0 : Int32), .int x2] (fun _ => rfl) ?_
    refine g_cS 24 rfl rfl (by decide) rfl rfl rfl Md_in_s ?_
    refine g_if (p1 := 36) (L1 := [some (.ref a), some (.int x1), some (.int x2)]) (S1 := []) (s1 := (l, r, q1.2, j)) (p2 := 27) (L2 := [some (.ref a), some (.int x1), some (.int x2)]) (S2 := []) (s2 := (l, r, q1.2, j)) rfl (fun _ _ => rfl) e (fun c3 e => ?_) (fun c3 e => ?_)
    · refine g_run 3 41 [some (.ref a), some (.int x1), some (.int x2)] [.int (57 : Int32), .int (10 : Int32), .int x2] (fun _ => rfl) ?_
      refine g_cS 44 rfl rfl (by decide) rfl rfl rfl Md_in_s ?_
      refine g_if (p1 := 62) (L1 := [some (.ref a), some (.int x1), some (.int x2)]) (S1 := []) (s1 := (l, r, q1.2, j)) (p2 := 47) (L2 := [some (.ref a), some (.int x1), some (.int x2)]) (S2 := []) (s2 := (l, r, q1.2, j)) rfl (fun _ _ => rfl) e (fun c4 e => ?_) (fun c4 e => ?_)
      · refine g_run 1 63 [some (.ref a), some (.int x1), some (.int x2)] [.int (-1 : Int32)] (fun _ => rfl) ?_
        cases e
        exact g_ret rfl (fun _ _ => rfl)
      · refine g_run 1 48 [some (.ref a), some (.int x1), some (.int x2)] [.ref a] (fun _ => rfl) ?_
        refine g_getA 51 rfl rfl (Md_l ka) (Md_r23 ka) ?_
        refine g_run 5 58 [some (.ref a), some (.int x1), some (.int x2)] [.int (((7 : Int32) + x2) - (10 : Int32)), .ref (a + 12)] (fun _ => rfl) ?_
        obtain ⟨k5, ek5, e⟩ := g_bd e
        refine g_iald 59 rfl rfl (Md_k23 ka) ek5 ?_
        refine g_run 1 63 [some (.ref a), some (.int x1), some (.int x2)] [.int (q1.2 (a + 12) k5)] (fun _ => rfl) ?_
        cases e
        exact g_ret rfl (fun _ _ => rfl)
    · refine g_run 1 28 [some (.ref a), some (.int x1), some (.int x2)] [.ref a] (fun _ => rfl) ?_
      refine g_getA 31 rfl rfl (Md_l ka) (Md_r23 ka) ?_
      refine g_run 1 32 [some (.ref a), some (.int x1), some (.int x2)] [.int x2, .ref (a + 12)] (fun _ => rfl) ?_
      obtain ⟨k6, ek6, e⟩ := g_bd e
      refine g_iald 33 rfl rfl (Md_k23 ka) ek6 ?_
      refine g_run 1 63 [some (.ref a), some (.int x1), some (.int x2)] [.int (q1.2 (a + 12) k6)] (fun _ => rfl) ?_
      cases e
      exact g_ret rfl (fun _ _ => rfl)
def Md_bench (a : Nat) (x1 : Int32) (x2 : Int32) (x3 : Int32) (h : am_F) : Option (Int32 × am_F) :=
  (Md_hand a x1 (am_up h a 0 (0 : Int32))).bind fun q1 =>
  if q1.1 = 0 then
    some ((-2 : Int32), q1.2)
  else
    (Md_isBench a x2 q1.2).bind fun q3 =>
    if q3 = 0 then
      some ((-2 : Int32), q1.2)
    else
      if (Md_in x3 (0 : Int32) (3 : Int32)) = 0 then
        some ((-2 : Int32), q1.2)
      else
        (g_ix (((55 : Int32) + ((4 : Int32) * x2)) + x3) 195).bind fun k6 =>
        some ((q1.2 (a + 12) k6), q1.2)
theorem Md_bench_s {X : Nat × (Nat → Int32)} {l : List (Nat × Nat)} {r : am_R} {h : am_F} {j : am_J} {a : Nat} {x1 : Int32} {x2 : Int32} {x3 : Int32} (ka : Md_K l r a) {q : Int32 × am_F} (e : Md_bench a x1 x2 x3 h = some q) : Call X 199 [.ref a, .int x1, .int x2, .int x3] (l, r, h, j) (some (.int q.1), (l, r, q.2, j)) := by
  unfold Md_bench at e
  refine ⟨Nat.le_of_ble_eq_true rfl, ?_⟩
  show Ev X 199 0 [some (.ref a), some (.int x1), some (.int x2), some (.int x3)] [] (l, r, h, j) _
  refine g_run 2 2 [some (.ref a), some (.int x1), some (.int x2), some (.int x3)] [.int (0 : Int32), .ref a] (fun _ => rfl) ?_
  refine g_putI 5 rfl rfl (Md_l ka) ?_
  refine g_run 2 7 [some (.ref a), some (.int x1), some (.int x2), some (.int x3)] [.int x1, .ref a] (fun _ => rfl) ?_
  obtain ⟨q1, eq1, e⟩ := g_bd e
  refine g_cV 10 rfl rfl rfl rfl rfl (Md_l ka) (Md_hand_s ka eq1) ?_
  refine g_if (p1 := 46) (L1 := [some (.ref a), some (.int x1), some (.int x2), some (.int x3)]) (S1 := []) (s1 := (l, r, q1.2, j)) (p2 := 13) (L2 := [some (.ref a), some (.int x1), some (.int x2), some (.int x3)]) (S2 := []) (s2 := (l, r, q1.2, j)) rfl (fun _ _ => rfl) e (fun c2 e => ?_) (fun c2 e => ?_)
  · refine g_run 1 48 [some (.ref a), some (.int x1), some (.int x2), some (.int x3)] [.int (-2 : Int32)] (fun _ => rfl) ?_
    cases e
    exact g_ret rfl (fun _ _ => rfl)
  · refine g_run 2 15 [some (.ref a), some (.int x1), some (.int x2), some (.int x3)] [.int x2, .ref a] (fun _ => rfl) ?_
    obtain ⟨q3, eq3, e⟩ := g_bd e
    refine g_cV 18 rfl rfl rfl rfl rfl (Md_l ka) (Md_isBench_s ka eq3) ?_
    refine g_if (p1 := 46) (L1 := [some (.ref a), some (.int x1), some (.int x2), some (.int x3)]) (S1 := []) (s1 := (l, r, q1.2, j)) (p2 := 21) (L2 := [some (.ref a), some (.int x1), some (.int x2), some (.int x3)]) (S2 := []) (s2 := (l, r, q1.2, j)) rfl (fun _ _ => rfl) e (fun c4 e => ?_) (fun c4 e => ?_)
    · refine g_run 1 48 [some (.ref a), some (.int x1), some (.int x2), some (.int x3)] [.int (-2 : Int32)] (fun _ => rfl) ?_
      cases e
      exact g_ret rfl (fun _ _ => rfl)
    · refine g_run 3 24 [some (.ref a), some (.int x1), some (.int x2), some (.int x3)] [.int (3 : Int32), .int (0 : Int32), .int x3] (fun _ => rfl) ?_
      refine g_cS 27 rfl rfl (by decide) rfl rfl rfl Md_in_s ?_
      refine g_if (p1 := 46) (L1 := [some (.ref a), some (.int x1), some (.int x2), some (.int x3)]) (S1 := []) (s1 := (l, r, q1.2, j)) (p2 := 30) (L2 := [some (.ref a), some (.int x1), some (.int x2), some (.int x3)]) (S2 := []) (s2 := (l, r, q1.2, j)) rfl (fun _ _ => rfl) e (fun c5 e => ?_) (fun c5 e => ?_)
      · refine g_run 1 48 [some (.ref a), some (.int x1), some (.int x2), some (.int x3)] [.int (-2 : Int32)] (fun _ => rfl) ?_
        cases e
        exact g_ret rfl (fun _ _ => rfl)
      · refine g_run 1 31 [some (.ref a), some (.int x1), some (.int x2), some (.int x3)] [.ref a] (fun _ => rfl) ?_
        refine g_getA 34 rfl rfl (Md_l ka) (Md_r23 ka) ?_
        refine g_run 7 42 [some (.ref a), some (.int x1), some (.int x2), some (.int x3)] [.int (((55 : Int32) + ((4 : Int32) * x2)) + x3), .ref (a + 12)] (fun _ => rfl) ?_
        obtain ⟨k6, ek6, e⟩ := g_bd e
        refine g_iald 43 rfl rfl (Md_k23 ka) ek6 ?_
        refine g_run 1 48 [some (.ref a), some (.int x1), some (.int x2), some (.int x3)] [.int (q1.2 (a + 12) k6)] (fun _ => rfl) ?_
        cases e
        exact g_ret rfl (fun _ _ => rfl)
def Md_told (a : Nat) (x1 : Int32) (x2 : Int32) (x3 : Int32) (x4 : Int32) (h : am_F) : Option (Int32 × am_F) :=
  (Md_hand a x1 (am_up h a 0 (0 : Int32))).bind fun q1 =>
  if q1.1 = 0 then
    some ((-1 : Int32), q1.2)
  else
    if (Md_in x2 (0 : Int32) (2 : Int32)) = 0 then
      some ((-1 : Int32), q1.2)
    else
      (g_ix ((4 : Int32) + x2) 195).bind fun k4 =>
      if (Md_in x3 (0 : Int32) ((q1.2 (a + 12) k4) - (1 : Int32))) = 0 then
        some ((-1 : Int32), q1.2)
      else
        (if x2 = 0 then
            some (3 : Int32)
          else
            if x2 = (1 : Int32) then
              some (2 : Int32)
            else
              some (6 : Int32) : Option (Int32)).bind fun q9 =>
        (if x2 = 0 then
            some (79 : Int32)
          else
            if x2 = (1 : Int32) then
              some (103 : Int32)
            else
              some (111 : Int32) : Option (Int32)).bind fun q13 =>
        if (Md_in x4 (0 : Int32) (q9 - (1 : Int32))) = 0 then
          some ((-1 : Int32), q1.2)
        else
          (g_ix ((q13 + (q9 * x3)) + x4) 195).bind fun k15 =>
          some ((q1.2 (a + 12) k15), q1.2)
theorem Md_told_s {X : Nat × (Nat → Int32)} {l : List (Nat × Nat)} {r : am_R} {h : am_F} {j : am_J} {a : Nat} {x1 : Int32} {x2 : Int32} {x3 : Int32} {x4 : Int32} (ka : Md_K l r a) {q : Int32 × am_F} (e : Md_told a x1 x2 x3 x4 h = some q) : Call X 200 [.ref a, .int x1, .int x2, .int x3, .int x4] (l, r, h, j) (some (.int q.1), (l, r, q.2, j)) := by
  unfold Md_told at e
  refine ⟨Nat.le_of_ble_eq_true rfl, ?_⟩
  show Ev X 200 0 [some (.ref a), some (.int x1), some (.int x2), some (.int x3), some (.int x4), none, none] [] (l, r, h, j) _
  refine g_run 2 2 [some (.ref a), some (.int x1), some (.int x2), some (.int x3), some (.int x4), none, none] [.int (0 : Int32), .ref a] (fun _ => rfl) ?_
  refine g_putI 5 rfl rfl (Md_l ka) ?_
  refine g_run 2 7 [some (.ref a), some (.int x1), some (.int x2), some (.int x3), some (.int x4), none, none] [.int x1, .ref a] (fun _ => rfl) ?_
  obtain ⟨q1, eq1, e⟩ := g_bd e
  refine g_cV 10 rfl rfl rfl rfl rfl (Md_l ka) (Md_hand_s ka eq1) ?_
  refine g_if (p1 := 40) (L1 := [some (.ref a), some (.int x1), some (.int x2), some (.int x3), some (.int x4), none, none]) (S1 := []) (s1 := (l, r, q1.2, j)) (p2 := 13) (L2 := [some (.ref a), some (.int x1), some (.int x2), some (.int x3), some (.int x4), none, none]) (S2 := []) (s2 := (l, r, q1.2, j)) rfl (fun _ _ => rfl) e (fun c2 e => ?_) (fun c2 e => ?_)
  · refine g_run 1 41 [some (.ref a), some (.int x1), some (.int x2), some (.int x3), some (.int x4), none, none] [.int (-1 : Int32)] (fun _ => rfl) ?_
    cases e
    exact g_ret rfl (fun _ _ => rfl)
  · refine g_run 3 16 [some (.ref a), some (.int x1), some (.int x2), some (.int x3), some (.int x4), none, none] [.int (2 : Int32), .int (0 : Int32), .int x2] (fun _ => rfl) ?_
    refine g_cS 19 rfl rfl (by decide) rfl rfl rfl Md_in_s ?_
    refine g_if (p1 := 40) (L1 := [some (.ref a), some (.int x1), some (.int x2), some (.int x3), some (.int x4), none, none]) (S1 := []) (s1 := (l, r, q1.2, j)) (p2 := 22) (L2 := [some (.ref a), some (.int x1), some (.int x2), some (.int x3), some (.int x4), none, none]) (S2 := []) (s2 := (l, r, q1.2, j)) rfl (fun _ _ => rfl) e (fun c3 e => ?_) (fun c3 e => ?_)
    · refine g_run 1 41 [some (.ref a), some (.int x1), some (.int x2), some (.int x3), some (.int x4), none, none] [.int (-1 : Int32)] (fun _ => rfl) ?_
      cases e
      exact g_ret rfl (fun _ _ => rfl)
    · refine g_run 3 25 [some (.ref a), some (.int x1), some (.int x2), some (.int x3), some (.int x4), none, none] [.ref a, .int (0 : Int32), .int x3] (fun _ => rfl) ?_
      refine g_getA 28 rfl rfl (Md_l ka) (Md_r23 ka) ?_
      refine g_run 3 31 [some (.ref a), some (.int x1), some (.int x2), some (.int x3), some (.int x4), none, none] [.int ((4 : Int32) + x2), .ref (a + 12), .int (0 : Int32), .int x3] (fun _ => rfl) ?_
      obtain ⟨k4, ek4, e⟩ := g_bd e
      refine g_iald 32 rfl rfl (Md_k23 ka) ek4 ?_
      refine g_run 2 34 [some (.ref a), some (.int x1), some (.int x2), some (.int x3), some (.int x4), none, none] [.int ((q1.2 (a + 12) k4) - (1 : Int32)), .int (0 : Int32), .int x3] (fun _ => rfl) ?_
      refine g_cS 37 rfl rfl (by decide) rfl rfl rfl Md_in_s ?_
      refine g_if (p1 := 40) (L1 := [some (.ref a), some (.int x1), some (.int x2), some (.int x3), some (.int x4), none, none]) (S1 := []) (s1 := (l, r, q1.2, j)) (p2 := 42) (L2 := [some (.ref a), some (.int x1), some (.int x2), some (.int x3), some (.int x4), none, none]) (S2 := []) (s2 := (l, r, q1.2, j)) rfl (fun _ _ => rfl) e (fun c5 e => ?_) (fun c5 e => ?_)
      · refine g_run 1 41 [some (.ref a), some (.int x1), some (.int x2), some (.int x3), some (.int x4), none, none] [.int (-1 : Int32)] (fun _ => rfl) ?_
        cases e
        exact g_ret rfl (fun _ _ => rfl)
      · refine g_run 1 43 [some (.ref a), some (.int x1), some (.int x2), some (.int x3), some (.int x4), none, none] [.int x2] (fun _ => rfl) ?_
        obtain ⟨q9, eq9, e⟩ := g_bd e
        have hjq9 : ∀ (_ : True), Ev X 200 61 [some (.ref a), some (.int x1), some (.int x2), some (.int x3), some (.int x4), none, none] [.int q9] (l, r, q1.2, j) (some (.int q.1), (l, r, q.2, j)) := by
          intro _
          refine g_run 2 64 [some (.ref a), some (.int x1), some (.int x2), some (.int x3), some (.int x4), some (.int q9), none] [.int x2] (fun _ => rfl) ?_
          obtain ⟨q13, eq13, e⟩ := g_bd e
          have hjq13 : ∀ (_ : True), Ev X 200 84 [some (.ref a), some (.int x1), some (.int x2), some (.int x3), some (.int x4), some (.int q9), none] [.int q13] (l, r, q1.2, j) (some (.int q.1), (l, r, q.2, j)) := by
            intro _
            refine g_run 6 93 [some (.ref a), some (.int x1), some (.int x2), some (.int x3), some (.int x4), some (.int q9), some (.int q13)] [.int (q9 - (1 : Int32)), .int (0 : Int32), .int x4] (fun _ => rfl) ?_
            refine g_cS 96 rfl rfl (by decide) rfl rfl rfl Md_in_s ?_
            refine g_if (p1 := 117) (L1 := [some (.ref a), some (.int x1), some (.int x2), some (.int x3), some (.int x4), some (.int q9), some (.int q13)]) (S1 := []) (s1 := (l, r, q1.2, j)) (p2 := 99) (L2 := [some (.ref a), some (.int x1), some (.int x2), some (.int x3), some (.int x4), some (.int q9), some (.int q13)]) (S2 := []) (s2 := (l, r, q1.2, j)) rfl (fun _ _ => rfl) e (fun c14 e => ?_) (fun c14 e => ?_)
            · refine g_run 1 118 [some (.ref a), some (.int x1), some (.int x2), some (.int x3), some (.int x4), some (.int q9), some (.int q13)] [.int (-1 : Int32)] (fun _ => rfl) ?_
              cases e
              exact g_ret rfl (fun _ _ => rfl)
            · refine g_run 1 100 [some (.ref a), some (.int x1), some (.int x2), some (.int x3), some (.int x4), some (.int q9), some (.int q13)] [.ref a] (fun _ => rfl) ?_
              refine g_getA 103 rfl rfl (Md_l ka) (Md_r23 ka) ?_
              refine g_run 7 113 [some (.ref a), some (.int x1), some (.int x2), some (.int x3), some (.int x4), some (.int q9), some (.int q13)] [.int ((q13 + (q9 * x3)) + x4), .ref (a + 12)] (fun _ => rfl) ?_
              obtain ⟨k15, ek15, e⟩ := g_bd e
              refine g_iald 114 rfl rfl (Md_k23 ka) ek15 ?_
              refine g_run 1 118 [some (.ref a), some (.int x1), some (.int x2), some (.int x3), some (.int x4), some (.int q9), some (.int q13)] [.int (q1.2 (a + 12) k15)] (fun _ => rfl) ?_
              cases e
              exact g_ret rfl (fun _ _ => rfl)
          replace e := eq13
          refine g_if (p1 := 67) (L1 := [some (.ref a), some (.int x1), some (.int x2), some (.int x3), some (.int x4), some (.int q9), none]) (S1 := []) (s1 := (l, r, q1.2, j)) (p2 := 72) (L2 := [some (.ref a), some (.int x1), some (.int x2), some (.int x3), some (.int x4), some (.int q9), none]) (S2 := []) (s2 := (l, r, q1.2, j)) rfl (fun _ _ => rfl) e (fun c10 e => ?_) (fun c10 e => ?_)
          · refine g_run 2 84 [some (.ref a), some (.int x1), some (.int x2), some (.int x3), some (.int x4), some (.int q9), none] [.int (79 : Int32)] (fun _ => rfl) ?_
            cases e
            exact hjq13 trivial
          · refine g_run 2 74 [some (.ref a), some (.int x1), some (.int x2), some (.int x3), some (.int x4), some (.int q9), none] [.int (1 : Int32), .int x2] (fun _ => rfl) ?_
            refine g_if (p1 := 77) (L1 := [some (.ref a), some (.int x1), some (.int x2), some (.int x3), some (.int x4), some (.int q9), none]) (S1 := []) (s1 := (l, r, q1.2, j)) (p2 := 82) (L2 := [some (.ref a), some (.int x1), some (.int x2), some (.int x3), some (.int x4), some (.int q9), none]) (S2 := []) (s2 := (l, r, q1.2, j)) rfl (fun _ _ => rfl) e (fun c12 e => ?_) (fun c12 e => ?_)
            · refine g_run 2 84 [some (.ref a), some (.int x1), some (.int x2), some (.int x3), some (.int x4), some (.int q9), none] [.int (103 : Int32)] (fun _ => rfl) ?_
              cases e
              exact hjq13 trivial
            · refine g_run 1 84 [some (.ref a), some (.int x1), some (.int x2), some (.int x3), some (.int x4), some (.int q9), none] [.int (111 : Int32)] (fun _ => rfl) ?_
              cases e
              exact hjq13 trivial
        replace e := eq9
        refine g_if (p1 := 46) (L1 := [some (.ref a), some (.int x1), some (.int x2), some (.int x3), some (.int x4), none, none]) (S1 := []) (s1 := (l, r, q1.2, j)) (p2 := 50) (L2 := [some (.ref a), some (.int x1), some (.int x2), some (.int x3), some (.int x4), none, none]) (S2 := []) (s2 := (l, r, q1.2, j)) rfl (fun _ _ => rfl) e (fun c6 e => ?_) (fun c6 e => ?_)
        · refine g_run 2 61 [some (.ref a), some (.int x1), some (.int x2), some (.int x3), some (.int x4), none, none] [.int (3 : Int32)] (fun _ => rfl) ?_
          cases e
          exact hjq9 trivial
        · refine g_run 2 52 [some (.ref a), some (.int x1), some (.int x2), some (.int x3), some (.int x4), none, none] [.int (1 : Int32), .int x2] (fun _ => rfl) ?_
          refine g_if (p1 := 55) (L1 := [some (.ref a), some (.int x1), some (.int x2), some (.int x3), some (.int x4), none, none]) (S1 := []) (s1 := (l, r, q1.2, j)) (p2 := 59) (L2 := [some (.ref a), some (.int x1), some (.int x2), some (.int x3), some (.int x4), none, none]) (S2 := []) (s2 := (l, r, q1.2, j)) rfl (fun _ _ => rfl) e (fun c8 e => ?_) (fun c8 e => ?_)
          · refine g_run 2 61 [some (.ref a), some (.int x1), some (.int x2), some (.int x3), some (.int x4), none, none] [.int (2 : Int32)] (fun _ => rfl) ?_
            cases e
            exact hjq9 trivial
          · refine g_run 1 61 [some (.ref a), some (.int x1), some (.int x2), some (.int x3), some (.int x4), none, none] [.int (6 : Int32)] (fun _ => rfl) ?_
            cases e
            exact hjq9 trivial
def Md_rateOf (a : Nat) (x1 : Int32) (h : am_F) : Option (Int32) :=
  (g_ix ((7 : Int32) + (Md_lesser x1 (47 : Int32))) 195).bind fun k1 =>
  some (h (a + 12) k1)
theorem Md_rateOf_s {X : Nat × (Nat → Int32)} {l : List (Nat × Nat)} {r : am_R} {h : am_F} {j : am_J} {a : Nat} {x1 : Int32} (ka : Md_K l r a) {q : Int32} (e : Md_rateOf a x1 h = some q) : Call X 201 [.ref a, .int x1] (l, r, h, j) (some (.int q), (l, r, h, j)) := by
  unfold Md_rateOf at e
  refine ⟨Nat.le_of_ble_eq_true rfl, ?_⟩
  show Ev X 201 0 [some (.ref a), some (.int x1)] [] (l, r, h, j) _
  refine g_run 1 1 [some (.ref a), some (.int x1)] [.ref a] (fun _ => rfl) ?_
  refine g_getA 4 rfl rfl (Md_l ka) (Md_r23 ka) ?_
  refine g_run 3 9 [some (.ref a), some (.int x1)] [.int (47 : Int32), .int x1, .int (7 : Int32), .ref (a + 12)] (fun _ => rfl) ?_
  refine g_cS 12 rfl rfl (by decide) rfl rfl rfl Md_lesser_s ?_
  refine g_run 1 13 [some (.ref a), some (.int x1)] [.int ((7 : Int32) + (Md_lesser x1 (47 : Int32))), .ref (a + 12)] (fun _ => rfl) ?_
  obtain ⟨k1, ek1, e⟩ := g_bd e
  refine g_iald 14 rfl rfl (Md_k23 ka) ek1 ?_
  cases e
  exact g_ret rfl (fun _ _ => rfl)
def Md_wetness_l22 (x0 : Nat) (x2 : Int32) (h : am_F) : Nat → Int32 → Int32 → Option (Int32)
  | 0, _, _ => none
  | n + 1, x3, x4 =>
    if x2 ≤ x4 then
      some x3
    else
      if x3 ≤ 0 then
        some x3
      else
        (Md_rateOf x0 x4 h).bind fun q5 =>
        Md_wetness_l22 x0 x2 h n (x3 - q5) (x4 + (1 : Int32))
def Md_wetness (a : Nat) (x1 : Int32) (x2 : Int32) (h : am_F) : Option (Int32) :=
  if x1 = (-1 : Int32) then
    some (0 : Int32)
  else
    if x1 ≤ x2 then
      (Md_wetness_l22 a x2 h g_fu (h (a + 12) 0) x1).bind fun q6 =>
      some (Md_greater (0 : Int32) q6)
    else
      some (0 : Int32)
theorem Md_wetness_l22_s {X : Nat × (Nat → Int32)} {l : List (Nat × Nat)} {r : am_R} {x0 : Nat} {x2 : Int32} {y1 : Int32} {h : am_F} {j : am_J} {q : Int32} {R : Option Value × am_S} (kx0 : Md_K l r x0) (hx : ∀ (y4 : Int32) , Ev X 202 47 [some (.ref x0), some (.int y1), some (.int x2), some (.int q), some (.int y4)] [] (l, r, h, j) R) : ∀ (n : Nat) (x3 : Int32) (x4 : Int32), Md_wetness_l22 x0 x2 h n x3 x4 = some q → Ev X 202 22 [some (.ref x0), some (.int y1), some (.int x2), some (.int x3), some (.int x4)] [] (l, r, h, j) R := by
  intro n
  induction n with
  | zero => intro x3 x4 e; cases e
  | succ n ih =>
    intro x3 x4 e
    unfold Md_wetness_l22 at e
    refine g_run 2 25 [some (.ref x0), some (.int y1), some (.int x2), some (.int x3), some (.int x4)] [.int x2, .int x4] (fun _ => rfl) ?_
    refine g_if (p1 := 47) (L1 := [some (.ref x0), some (.int y1), some (.int x2), some (.int x3), some (.int x4)]) (S1 := []) (s1 := (l, r, h, j)) (p2 := 28) (L2 := [some (.ref x0), some (.int y1), some (.int x2), some (.int x3), some (.int x4)]) (S2 := []) (s2 := (l, r, h, j)) rfl (fun _ _ => rfl) e (fun c3 e => ?_) (fun c3 e => ?_)
    · cases e
      exact hx _
    · refine g_run 1 29 [some (.ref x0), some (.int y1), some (.int x2), some (.int x3), some (.int x4)] [.int x3] (fun _ => rfl) ?_
      refine g_if (p1 := 47) (L1 := [some (.ref x0), some (.int y1), some (.int x2), some (.int x3), some (.int x4)]) (S1 := []) (s1 := (l, r, h, j)) (p2 := 32) (L2 := [some (.ref x0), some (.int y1), some (.int x2), some (.int x3), some (.int x4)]) (S2 := []) (s2 := (l, r, h, j)) rfl (fun _ _ => rfl) e (fun c4 e => ?_) (fun c4 e => ?_)
      · cases e
        exact hx _
      · refine g_run 3 36 [some (.ref x0), some (.int y1), some (.int x2), some (.int x3), some (.int x4)] [.int x4, .ref x0, .int x3] (fun _ => rfl) ?_
        obtain ⟨q5, eq5, e⟩ := g_bd e
        refine g_cV 39 rfl rfl rfl rfl rfl (Md_l kx0) (Md_rateOf_s kx0 eq5) ?_
        refine g_run 4 22 [some (.ref x0), some (.int y1), some (.int x2), some (.int (x3 - q5)), some (.int (x4 + (1 : Int32)))] [] (fun _ => rfl) ?_
        exact ih _ _ e
theorem Md_wetness_s {X : Nat × (Nat → Int32)} {l : List (Nat × Nat)} {r : am_R} {h : am_F} {j : am_J} {a : Nat} {x1 : Int32} {x2 : Int32} (ka : Md_K l r a) {q : Int32} (e : Md_wetness a x1 x2 h = some q) : Call X 202 [.ref a, .int x1, .int x2] (l, r, h, j) (some (.int q), (l, r, h, j)) := by
  unfold Md_wetness at e
  refine ⟨Nat.le_of_ble_eq_true rfl, ?_⟩
  show Ev X 202 0 [some (.ref a), some (.int x1), some (.int x2), none, none] [] (l, r, h, j) _
  refine g_run 2 2 [some (.ref a), some (.int x1), some (.int x2), none, none] [.int (-1 : Int32), .int x1] (fun _ => rfl) ?_
  refine g_if (p1 := 10) (L1 := [some (.ref a), some (.int x1), some (.int x2), none, none]) (S1 := []) (s1 := (l, r, h, j)) (p2 := 5) (L2 := [some (.ref a), some (.int x1), some (.int x2), none, none]) (S2 := []) (s2 := (l, r, h, j)) rfl (fun _ _ => rfl) e (fun c1 e => ?_) (fun c1 e => ?_)
  · refine g_run 1 11 [some (.ref a), some (.int x1), some (.int x2), none, none] [.int (0 : Int32)] (fun _ => rfl) ?_
    cases e
    exact g_ret rfl (fun _ _ => rfl)
  · refine g_run 2 7 [some (.ref a), some (.int x1), some (.int x2), none, none] [.int x1, .int x2] (fun _ => rfl) ?_
    refine g_if (p1 := 12) (L1 := [some (.ref a), some (.int x1), some (.int x2), none, none]) (S1 := []) (s1 := (l, r, h, j)) (p2 := 10) (L2 := [some (.ref a), some (.int x1), some (.int x2), none, none]) (S2 := []) (s2 := (l, r, h, j)) rfl (fun _ _ => rfl) e (fun c2 e => ?_) (fun c2 e => ?_)
    · refine g_run 1 13 [some (.ref a), some (.int x1), some (.int x2), none, none] [.ref a] (fun _ => rfl) ?_
      refine g_getA 16 rfl rfl (Md_l ka) (Md_r23 ka) ?_
      refine g_run 1 17 [some (.ref a), some (.int x1), some (.int x2), none, none] [.int (0 : Int32), .ref (a + 12)] (fun _ => rfl) ?_
      refine g_iald 18 rfl rfl (Md_k23 ka) (kx := 0) rfl ?_
      refine g_run 3 22 [some (.ref a), some (.int x1), some (.int x2), some (.int (h (a + 12) 0)), some (.int x1)] [] (fun _ => rfl) ?_
      obtain ⟨q6, eq6, e⟩ := g_bd e
      refine Md_wetness_l22_s ka (fun y7 => ?_) _ _ _ eq6
      refine g_run 2 49 [some (.ref a), some (.int x1), some (.int x2), some (.int q6), some (.int y7)] [.int q6, .int (0 : Int32)] (fun _ => rfl) ?_
      refine g_cS 52 rfl rfl (by decide) rfl rfl rfl Md_greater_s ?_
      cases e
      exact g_ret rfl (fun _ _ => rfl)
    · refine g_run 1 11 [some (.ref a), some (.int x1), some (.int x2), none, none] [.int (0 : Int32)] (fun _ => rfl) ?_
      cases e
      exact g_ret rfl (fun _ _ => rfl)
def Md_stage (a : Nat) (x1 : Int32) (x2 : Int32) (h : am_F) : Option (Int32) :=
  (Md_wetness a x1 x2 h).bind fun q1 =>
  if q1 ≤ (h (a + 12) 1) then
    if q1 ≤ 0 then
      some (0 : Int32)
    else
      some (1 : Int32)
  else
    some (2 : Int32)
theorem Md_stage_s {X : Nat × (Nat → Int32)} {l : List (Nat × Nat)} {r : am_R} {h : am_F} {j : am_J} {a : Nat} {x1 : Int32} {x2 : Int32} (ka : Md_K l r a) {q : Int32} (e : Md_stage a x1 x2 h = some q) : Call X 203 [.ref a, .int x1, .int x2] (l, r, h, j) (some (.int q), (l, r, h, j)) := by
  unfold Md_stage at e
  refine ⟨Nat.le_of_ble_eq_true rfl, ?_⟩
  show Ev X 203 0 [some (.ref a), some (.int x1), some (.int x2), none] [] (l, r, h, j) _
  refine g_run 3 3 [some (.ref a), some (.int x1), some (.int x2), none] [.int x2, .int x1, .ref a] (fun _ => rfl) ?_
  obtain ⟨q1, eq1, e⟩ := g_bd e
  refine g_cV 6 rfl rfl rfl rfl rfl (Md_l ka) (Md_wetness_s ka eq1) ?_
  refine g_run 3 9 [some (.ref a), some (.int x1), some (.int x2), some (.int q1)] [.ref a, .int q1] (fun _ => rfl) ?_
  refine g_getA 12 rfl rfl (Md_l ka) (Md_r23 ka) ?_
  refine g_run 1 13 [some (.ref a), some (.int x1), some (.int x2), some (.int q1)] [.int (1 : Int32), .ref (a + 12), .int q1] (fun _ => rfl) ?_
  refine g_iald 14 rfl rfl (Md_k23 ka) (kx := 1) rfl ?_
  refine g_if (p1 := 21) (L1 := [some (.ref a), some (.int x1), some (.int x2), some (.int q1)]) (S1 := []) (s1 := (l, r, h, j)) (p2 := 17) (L2 := [some (.ref a), some (.int x1), some (.int x2), some (.int q1)]) (S2 := []) (s2 := (l, r, h, j)) rfl (fun _ _ => rfl) e (fun c2 e => ?_) (fun c2 e => ?_)
  · refine g_run 1 22 [some (.ref a), some (.int x1), some (.int x2), some (.int q1)] [.int q1] (fun _ => rfl) ?_
    refine g_if (p1 := 29) (L1 := [some (.ref a), some (.int x1), some (.int x2), some (.int q1)]) (S1 := []) (s1 := (l, r, h, j)) (p2 := 25) (L2 := [some (.ref a), some (.int x1), some (.int x2), some (.int q1)]) (S2 := []) (s2 := (l, r, h, j)) rfl (fun _ _ => rfl) e (fun c3 e => ?_) (fun c3 e => ?_)
    · refine g_run 1 30 [some (.ref a), some (.int x1), some (.int x2), some (.int q1)] [.int (0 : Int32)] (fun _ => rfl) ?_
      cases e
      exact g_ret rfl (fun _ _ => rfl)
    · refine g_run 2 30 [some (.ref a), some (.int x1), some (.int x2), some (.int q1)] [.int (1 : Int32)] (fun _ => rfl) ?_
      cases e
      exact g_ret rfl (fun _ _ => rfl)
  · refine g_run 2 30 [some (.ref a), some (.int x1), some (.int x2), some (.int q1)] [.int (2 : Int32)] (fun _ => rfl) ?_
    cases e
    exact g_ret rfl (fun _ _ => rfl)
def Md_dries_l17 (x0 : Nat) (x2 : Int32) (h : am_F) : Nat → Int32 → Int32 → Option (Int32)
  | 0, _, _ => none
  | n + 1, x3, x4 =>
    if x3 ≤ 0 then
      some x4
    else
      if x2 < x4 then
        some x4
      else
        (Md_rateOf x0 x4 h).bind fun q4 =>
        Md_dries_l17 x0 x2 h n (x3 - q4) (x4 + (1 : Int32))
def Md_dries (a : Nat) (x1 : Int32) (x2 : Int32) (h : am_F) : Option (Int32) :=
  if x1 = (-1 : Int32) then
    some (0 : Int32)
  else
    (Md_dries_l17 a x2 h g_fu (h (a + 12) 0) x1).bind fun q5 =>
    some (Md_lesser q5 (x2 + (1 : Int32)))
theorem Md_dries_l17_s {X : Nat × (Nat → Int32)} {l : List (Nat × Nat)} {r : am_R} {x0 : Nat} {x2 : Int32} {y1 : Int32} {h : am_F} {j : am_J} {q : Int32} {R : Option Value × am_S} (kx0 : Md_K l r x0) (hx : ∀ (y3 : Int32) , Ev X 204 42 [some (.ref x0), some (.int y1), some (.int x2), some (.int y3), some (.int q)] [] (l, r, h, j) R) : ∀ (n : Nat) (x3 : Int32) (x4 : Int32), Md_dries_l17 x0 x2 h n x3 x4 = some q → Ev X 204 17 [some (.ref x0), some (.int y1), some (.int x2), some (.int x3), some (.int x4)] [] (l, r, h, j) R := by
  intro n
  induction n with
  | zero => intro x3 x4 e; cases e
  | succ n ih =>
    intro x3 x4 e
    unfold Md_dries_l17 at e
    refine g_run 1 18 [some (.ref x0), some (.int y1), some (.int x2), some (.int x3), some (.int x4)] [.int x3] (fun _ => rfl) ?_
    refine g_if (p1 := 42) (L1 := [some (.ref x0), some (.int y1), some (.int x2), some (.int x3), some (.int x4)]) (S1 := []) (s1 := (l, r, h, j)) (p2 := 21) (L2 := [some (.ref x0), some (.int y1), some (.int x2), some (.int x3), some (.int x4)]) (S2 := []) (s2 := (l, r, h, j)) rfl (fun _ _ => rfl) e (fun c2 e => ?_) (fun c2 e => ?_)
    · cases e
      exact hx _
    · refine g_run 2 24 [some (.ref x0), some (.int y1), some (.int x2), some (.int x3), some (.int x4)] [.int x2, .int x4] (fun _ => rfl) ?_
      refine g_if (p1 := 42) (L1 := [some (.ref x0), some (.int y1), some (.int x2), some (.int x3), some (.int x4)]) (S1 := []) (s1 := (l, r, h, j)) (p2 := 27) (L2 := [some (.ref x0), some (.int y1), some (.int x2), some (.int x3), some (.int x4)]) (S2 := []) (s2 := (l, r, h, j)) rfl (fun _ _ => rfl) e (fun c3 e => ?_) (fun c3 e => ?_)
      · cases e
        exact hx _
      · refine g_run 3 31 [some (.ref x0), some (.int y1), some (.int x2), some (.int x3), some (.int x4)] [.int x4, .ref x0, .int x3] (fun _ => rfl) ?_
        obtain ⟨q4, eq4, e⟩ := g_bd e
        refine g_cV 34 rfl rfl rfl rfl rfl (Md_l kx0) (Md_rateOf_s kx0 eq4) ?_
        refine g_run 4 17 [some (.ref x0), some (.int y1), some (.int x2), some (.int (x3 - q4)), some (.int (x4 + (1 : Int32)))] [] (fun _ => rfl) ?_
        exact ih _ _ e
theorem Md_dries_s {X : Nat × (Nat → Int32)} {l : List (Nat × Nat)} {r : am_R} {h : am_F} {j : am_J} {a : Nat} {x1 : Int32} {x2 : Int32} (ka : Md_K l r a) {q : Int32} (e : Md_dries a x1 x2 h = some q) : Call X 204 [.ref a, .int x1, .int x2] (l, r, h, j) (some (.int q), (l, r, h, j)) := by
  unfold Md_dries at e
  refine ⟨Nat.le_of_ble_eq_true rfl, ?_⟩
  show Ev X 204 0 [some (.ref a), some (.int x1), some (.int x2), none, none] [] (l, r, h, j) _
  refine g_run 2 2 [some (.ref a), some (.int x1), some (.int x2), none, none] [.int (-1 : Int32), .int x1] (fun _ => rfl) ?_
  refine g_if (p1 := 5) (L1 := [some (.ref a), some (.int x1), some (.int x2), none, none]) (S1 := []) (s1 := (l, r, h, j)) (p2 := 7) (L2 := [some (.ref a), some (.int x1), some (.int x2), none, none]) (S2 := []) (s2 := (l, r, h, j)) rfl (fun _ _ => rfl) e (fun c1 e => ?_) (fun c1 e => ?_)
  · refine g_run 1 6 [some (.ref a), some (.int x1), some (.int x2), none, none] [.int (0 : Int32)] (fun _ => rfl) ?_
    cases e
    exact g_ret rfl (fun _ _ => rfl)
  · refine g_run 1 8 [some (.ref a), some (.int x1), some (.int x2), none, none] [.ref a] (fun _ => rfl) ?_
    refine g_getA 11 rfl rfl (Md_l ka) (Md_r23 ka) ?_
    refine g_run 1 12 [some (.ref a), some (.int x1), some (.int x2), none, none] [.int (0 : Int32), .ref (a + 12)] (fun _ => rfl) ?_
    refine g_iald 13 rfl rfl (Md_k23 ka) (kx := 0) rfl ?_
    refine g_run 3 17 [some (.ref a), some (.int x1), some (.int x2), some (.int (h (a + 12) 0)), some (.int x1)] [] (fun _ => rfl) ?_
    obtain ⟨q5, eq5, e⟩ := g_bd e
    refine Md_dries_l17_s ka (fun y6 => ?_) _ _ _ eq5
    refine g_run 4 47 [some (.ref a), some (.int x1), some (.int x2), some (.int y6), some (.int q5)] [.int (x2 + (1 : Int32)), .int q5] (fun _ => rfl) ?_
    refine g_cS 50 rfl rfl (by decide) rfl rfl rfl Md_lesser_s ?_
    cases e
    exact g_ret rfl (fun _ _ => rfl)
def Md_wet (a : Nat) (x1 : Int32) (x2 : Int32) (x3 : Int32) (x4 : Int32) (h : am_F) : Option (Int32 × am_F) :=
  (Md_hand a x1 (am_up h a 0 (0 : Int32))).bind fun q1 =>
  if q1.1 = 0 then
    some ((-1 : Int32), q1.2)
  else
    (Md_isBench a x2 q1.2).bind fun q3 =>
    if q3 = 0 then
      some ((-1 : Int32), q1.2)
    else
      if (Md_in x3 (0 : Int32) (47 : Int32)) = 0 then
        some ((-1 : Int32), q1.2)
      else
        (Md_painted a x2 q1.2).bind fun q6 =>
        if x4 = 0 then
          (Md_wetness a q6 x3 q1.2).bind fun q8 =>
          some (q8, q1.2)
        else
          if x4 = (1 : Int32) then
            (Md_stage a q6 x3 q1.2).bind fun q10 =>
            some (q10, q1.2)
          else
            if x4 = (2 : Int32) then
              (Md_dries a q6 (47 : Int32) q1.2).bind fun q12 =>
              some (q12, q1.2)
            else
              some ((-1 : Int32), q1.2)
theorem Md_wet_s {X : Nat × (Nat → Int32)} {l : List (Nat × Nat)} {r : am_R} {h : am_F} {j : am_J} {a : Nat} {x1 : Int32} {x2 : Int32} {x3 : Int32} {x4 : Int32} (ka : Md_K l r a) {q : Int32 × am_F} (e : Md_wet a x1 x2 x3 x4 h = some q) : Call X 205 [.ref a, .int x1, .int x2, .int x3, .int x4] (l, r, h, j) (some (.int q.1), (l, r, q.2, j)) := by
  unfold Md_wet at e
  refine ⟨Nat.le_of_ble_eq_true rfl, ?_⟩
  show Ev X 205 0 [some (.ref a), some (.int x1), some (.int x2), some (.int x3), some (.int x4), none] [] (l, r, h, j) _
  refine g_run 2 2 [some (.ref a), some (.int x1), some (.int x2), some (.int x3), some (.int x4), none] [.int (0 : Int32), .ref a] (fun _ => rfl) ?_
  refine g_putI 5 rfl rfl (Md_l ka) ?_
  refine g_run 2 7 [some (.ref a), some (.int x1), some (.int x2), some (.int x3), some (.int x4), none] [.int x1, .ref a] (fun _ => rfl) ?_
  obtain ⟨q1, eq1, e⟩ := g_bd e
  refine g_cV 10 rfl rfl rfl rfl rfl (Md_l ka) (Md_hand_s ka eq1) ?_
  refine g_if (p1 := 31) (L1 := [some (.ref a), some (.int x1), some (.int x2), some (.int x3), some (.int x4), none]) (S1 := []) (s1 := (l, r, q1.2, j)) (p2 := 13) (L2 := [some (.ref a), some (.int x1), some (.int x2), some (.int x3), some (.int x4), none]) (S2 := []) (s2 := (l, r, q1.2, j)) rfl (fun _ _ => rfl) e (fun c2 e => ?_) (fun c2 e => ?_)
  · refine g_run 1 32 [some (.ref a), some (.int x1), some (.int x2), some (.int x3), some (.int x4), none] [.int (-1 : Int32)] (fun _ => rfl) ?_
    cases e
    exact g_ret rfl (fun _ _ => rfl)
  · refine g_run 2 15 [some (.ref a), some (.int x1), some (.int x2), some (.int x3), some (.int x4), none] [.int x2, .ref a] (fun _ => rfl) ?_
    obtain ⟨q3, eq3, e⟩ := g_bd e
    refine g_cV 18 rfl rfl rfl rfl rfl (Md_l ka) (Md_isBench_s ka eq3) ?_
    refine g_if (p1 := 31) (L1 := [some (.ref a), some (.int x1), some (.int x2), some (.int x3), some (.int x4), none]) (S1 := []) (s1 := (l, r, q1.2, j)) (p2 := 21) (L2 := [some (.ref a), some (.int x1), some (.int x2), some (.int x3), some (.int x4), none]) (S2 := []) (s2 := (l, r, q1.2, j)) rfl (fun _ _ => rfl) e (fun c4 e => ?_) (fun c4 e => ?_)
    · refine g_run 1 32 [some (.ref a), some (.int x1), some (.int x2), some (.int x3), some (.int x4), none] [.int (-1 : Int32)] (fun _ => rfl) ?_
      cases e
      exact g_ret rfl (fun _ _ => rfl)
    · refine g_run 3 25 [some (.ref a), some (.int x1), some (.int x2), some (.int x3), some (.int x4), none] [.int (47 : Int32), .int (0 : Int32), .int x3] (fun _ => rfl) ?_
      refine g_cS 28 rfl rfl (by decide) rfl rfl rfl Md_in_s ?_
      refine g_if (p1 := 31) (L1 := [some (.ref a), some (.int x1), some (.int x2), some (.int x3), some (.int x4), none]) (S1 := []) (s1 := (l, r, q1.2, j)) (p2 := 33) (L2 := [some (.ref a), some (.int x1), some (.int x2), some (.int x3), some (.int x4), none]) (S2 := []) (s2 := (l, r, q1.2, j)) rfl (fun _ _ => rfl) e (fun c5 e => ?_) (fun c5 e => ?_)
      · refine g_run 1 32 [some (.ref a), some (.int x1), some (.int x2), some (.int x3), some (.int x4), none] [.int (-1 : Int32)] (fun _ => rfl) ?_
        cases e
        exact g_ret rfl (fun _ _ => rfl)
      · refine g_run 2 35 [some (.ref a), some (.int x1), some (.int x2), some (.int x3), some (.int x4), none] [.int x2, .ref a] (fun _ => rfl) ?_
        obtain ⟨q6, eq6, e⟩ := g_bd e
        refine g_cV 38 rfl rfl rfl rfl rfl (Md_l ka) (Md_painted_s ka eq6) ?_
        refine g_run 2 42 [some (.ref a), some (.int x1), some (.int x2), some (.int x3), some (.int x4), some (.int q6)] [.int x4] (fun _ => rfl) ?_
        refine g_if (p1 := 45) (L1 := [some (.ref a), some (.int x1), some (.int x2), some (.int x3), some (.int x4), some (.int q6)]) (S1 := []) (s1 := (l, r, q1.2, j)) (p2 := 55) (L2 := [some (.ref a), some (.int x1), some (.int x2), some (.int x3), some (.int x4), some (.int q6)]) (S2 := []) (s2 := (l, r, q1.2, j)) rfl (fun _ _ => rfl) e (fun c7 e => ?_) (fun c7 e => ?_)
        · refine g_run 3 49 [some (.ref a), some (.int x1), some (.int x2), some (.int x3), some (.int x4), some (.int q6)] [.int x3, .int q6, .ref a] (fun _ => rfl) ?_
          obtain ⟨q8, eq8, e⟩ := g_bd e
          refine g_cV 52 rfl rfl rfl rfl rfl (Md_l ka) (Md_wetness_s ka eq8) ?_
          refine g_run 1 89 [some (.ref a), some (.int x1), some (.int x2), some (.int x3), some (.int x4), some (.int q6)] [.int q8] (fun _ => rfl) ?_
          cases e
          exact g_ret rfl (fun _ _ => rfl)
        · refine g_run 2 58 [some (.ref a), some (.int x1), some (.int x2), some (.int x3), some (.int x4), some (.int q6)] [.int (1 : Int32), .int x4] (fun _ => rfl) ?_
          refine g_if (p1 := 61) (L1 := [some (.ref a), some (.int x1), some (.int x2), some (.int x3), some (.int x4), some (.int q6)]) (S1 := []) (s1 := (l, r, q1.2, j)) (p2 := 71) (L2 := [some (.ref a), some (.int x1), some (.int x2), some (.int x3), some (.int x4), some (.int q6)]) (S2 := []) (s2 := (l, r, q1.2, j)) rfl (fun _ _ => rfl) e (fun c9 e => ?_) (fun c9 e => ?_)
          · refine g_run 3 65 [some (.ref a), some (.int x1), some (.int x2), some (.int x3), some (.int x4), some (.int q6)] [.int x3, .int q6, .ref a] (fun _ => rfl) ?_
            obtain ⟨q10, eq10, e⟩ := g_bd e
            refine g_cV 68 rfl rfl rfl rfl rfl (Md_l ka) (Md_stage_s ka eq10) ?_
            refine g_run 1 89 [some (.ref a), some (.int x1), some (.int x2), some (.int x3), some (.int x4), some (.int q6)] [.int q10] (fun _ => rfl) ?_
            cases e
            exact g_ret rfl (fun _ _ => rfl)
          · refine g_run 2 74 [some (.ref a), some (.int x1), some (.int x2), some (.int x3), some (.int x4), some (.int q6)] [.int (2 : Int32), .int x4] (fun _ => rfl) ?_
            refine g_if (p1 := 77) (L1 := [some (.ref a), some (.int x1), some (.int x2), some (.int x3), some (.int x4), some (.int q6)]) (S1 := []) (s1 := (l, r, q1.2, j)) (p2 := 88) (L2 := [some (.ref a), some (.int x1), some (.int x2), some (.int x3), some (.int x4), some (.int q6)]) (S2 := []) (s2 := (l, r, q1.2, j)) rfl (fun _ _ => rfl) e (fun c11 e => ?_) (fun c11 e => ?_)
            · refine g_run 3 82 [some (.ref a), some (.int x1), some (.int x2), some (.int x3), some (.int x4), some (.int q6)] [.int (47 : Int32), .int q6, .ref a] (fun _ => rfl) ?_
              obtain ⟨q12, eq12, e⟩ := g_bd e
              refine g_cV 85 rfl rfl rfl rfl rfl (Md_l ka) (Md_dries_s ka eq12) ?_
              refine g_run 1 89 [some (.ref a), some (.int x1), some (.int x2), some (.int x3), some (.int x4), some (.int q6)] [.int q12] (fun _ => rfl) ?_
              cases e
              exact g_ret rfl (fun _ _ => rfl)
            · refine g_run 1 89 [some (.ref a), some (.int x1), some (.int x2), some (.int x3), some (.int x4), some (.int q6)] [.int (-1 : Int32)] (fun _ => rfl) ?_
              cases e
              exact g_ret rfl (fun _ _ => rfl)
def Md_hangs (a : Nat) (x1 : Int32) (x2 : Int32) (h : am_F) : Option (Int32) :=
  (g_ix (((55 : Int32) + ((4 : Int32) * x1)) + (2 : Int32)) 195).bind fun k1 =>
  if (h (a + 12) k1) = (-1 : Int32) then
    some (0 : Int32)
  else
    (g_ix (((55 : Int32) + ((4 : Int32) * x1)) + (3 : Int32)) 195).bind fun k3 =>
    if (Md_in x2 (h (a + 12) k1) (h (a + 12) k3)) = 0 then
      some (0 : Int32)
    else
      some (1 : Int32)
theorem Md_hangs_s {X : Nat × (Nat → Int32)} {l : List (Nat × Nat)} {r : am_R} {h : am_F} {j : am_J} {a : Nat} {x1 : Int32} {x2 : Int32} (ka : Md_K l r a) {q : Int32} (e : Md_hangs a x1 x2 h = some q) : Call X 206 [.ref a, .int x1, .int x2] (l, r, h, j) (some (.int q), (l, r, h, j)) := by
  unfold Md_hangs at e
  refine ⟨Nat.le_of_ble_eq_true rfl, ?_⟩
  show Ev X 206 0 [some (.ref a), some (.int x1), some (.int x2), none] [] (l, r, h, j) _
  refine g_run 1 1 [some (.ref a), some (.int x1), some (.int x2), none] [.ref a] (fun _ => rfl) ?_
  refine g_getA 4 rfl rfl (Md_l ka) (Md_r23 ka) ?_
  refine g_run 7 12 [some (.ref a), some (.int x1), some (.int x2), none] [.int (((55 : Int32) + ((4 : Int32) * x1)) + (2 : Int32)), .ref (a + 12)] (fun _ => rfl) ?_
  obtain ⟨k1, ek1, e⟩ := g_bd e
  refine g_iald 13 rfl rfl (Md_k23 ka) ek1 ?_
  refine g_run 3 16 [some (.ref a), some (.int x1), some (.int x2), some (.int (h (a + 12) k1))] [.int (-1 : Int32), .int (h (a + 12) k1)] (fun _ => rfl) ?_
  refine g_if (p1 := 44) (L1 := [some (.ref a), some (.int x1), some (.int x2), some (.int (h (a + 12) k1))]) (S1 := []) (s1 := (l, r, h, j)) (p2 := 19) (L2 := [some (.ref a), some (.int x1), some (.int x2), some (.int (h (a + 12) k1))]) (S2 := []) (s2 := (l, r, h, j)) rfl (fun _ _ => rfl) e (fun c2 e => ?_) (fun c2 e => ?_)
  · refine g_run 1 45 [some (.ref a), some (.int x1), some (.int x2), some (.int (h (a + 12) k1))] [.int (0 : Int32)] (fun _ => rfl) ?_
    cases e
    exact g_retZ rfl (y := (0 : Int32)) rfl rfl
  · refine g_run 3 22 [some (.ref a), some (.int x1), some (.int x2), some (.int (h (a + 12) k1))] [.ref a, .int (h (a + 12) k1), .int x2] (fun _ => rfl) ?_
    refine g_getA 25 rfl rfl (Md_l ka) (Md_r23 ka) ?_
    refine g_run 7 33 [some (.ref a), some (.int x1), some (.int x2), some (.int (h (a + 12) k1))] [.int (((55 : Int32) + ((4 : Int32) * x1)) + (3 : Int32)), .ref (a + 12), .int (h (a + 12) k1), .int x2] (fun _ => rfl) ?_
    obtain ⟨k3, ek3, e⟩ := g_bd e
    refine g_iald 34 rfl rfl (Md_k23 ka) ek3 ?_
    refine g_cS 37 rfl rfl (by decide) rfl rfl rfl Md_in_s ?_
    refine g_if (p1 := 44) (L1 := [some (.ref a), some (.int x1), some (.int x2), some (.int (h (a + 12) k1))]) (S1 := []) (s1 := (l, r, h, j)) (p2 := 40) (L2 := [some (.ref a), some (.int x1), some (.int x2), some (.int (h (a + 12) k1))]) (S2 := []) (s2 := (l, r, h, j)) rfl (fun _ _ => rfl) e (fun c4 e => ?_) (fun c4 e => ?_)
    · refine g_run 1 45 [some (.ref a), some (.int x1), some (.int x2), some (.int (h (a + 12) k1))] [.int (0 : Int32)] (fun _ => rfl) ?_
      cases e
      exact g_retZ rfl (y := (0 : Int32)) rfl rfl
    · refine g_run 2 45 [some (.ref a), some (.int x1), some (.int x2), some (.int (h (a + 12) k1))] [.int (1 : Int32)] (fun _ => rfl) ?_
      cases e
      exact g_retZ rfl (y := (1 : Int32)) rfl rfl
def Md_believes (a : Nat) (h : am_F) : Option (Int32) :=
  if (h a 40) = 0 then
    some (1 : Int32)
  else
    if ((100 : Int32) * (h a 39)) < ((h (a + 12) 2) * (h a 40)) then
      some (0 : Int32)
    else
      some (1 : Int32)
theorem Md_believes_s {X : Nat × (Nat → Int32)} {l : List (Nat × Nat)} {r : am_R} {h : am_F} {j : am_J} {a : Nat} (ka : Md_K l r a) {q : Int32} (e : Md_believes a h = some q) : Call X 207 [.ref a] (l, r, h, j) (some (.int q), (l, r, h, j)) := by
  unfold Md_believes at e
  refine ⟨Nat.le_of_ble_eq_true rfl, ?_⟩
  show Ev X 207 0 [some (.ref a)] [] (l, r, h, j) _
  refine g_run 1 1 [some (.ref a)] [.ref a] (fun _ => rfl) ?_
  refine g_getI 4 rfl rfl (Md_l ka) ?_
  refine g_if (p1 := 28) (L1 := [some (.ref a)]) (S1 := []) (s1 := (l, r, h, j)) (p2 := 7) (L2 := [some (.ref a)]) (S2 := []) (s2 := (l, r, h, j)) rfl (fun _ _ => rfl) e (fun c1 e => ?_) (fun c1 e => ?_)
  · refine g_run 2 33 [some (.ref a)] [.int (1 : Int32)] (fun _ => rfl) ?_
    cases e
    exact g_retZ rfl (y := (1 : Int32)) rfl rfl
  · refine g_run 2 10 [some (.ref a)] [.ref a, .int (100 : Int32)] (fun _ => rfl) ?_
    refine g_getI 13 rfl rfl (Md_l ka) ?_
    refine g_run 2 15 [some (.ref a)] [.ref a, .int ((100 : Int32) * (h a 39))] (fun _ => rfl) ?_
    refine g_getA 18 rfl rfl (Md_l ka) (Md_r23 ka) ?_
    refine g_run 1 19 [some (.ref a)] [.int (2 : Int32), .ref (a + 12), .int ((100 : Int32) * (h a 39))] (fun _ => rfl) ?_
    refine g_iald 20 rfl rfl (Md_k23 ka) (kx := 2) rfl ?_
    refine g_run 1 21 [some (.ref a)] [.ref a, .int (h (a + 12) 2), .int ((100 : Int32) * (h a 39))] (fun _ => rfl) ?_
    refine g_getI 24 rfl rfl (Md_l ka) ?_
    refine g_run 1 25 [some (.ref a)] [.int ((h (a + 12) 2) * (h a 40)), .int ((100 : Int32) * (h a 39))] (fun _ => rfl) ?_
    refine g_if (p1 := 32) (L1 := [some (.ref a)]) (S1 := []) (s1 := (l, r, h, j)) (p2 := 28) (L2 := [some (.ref a)]) (S2 := []) (s2 := (l, r, h, j)) rfl (fun _ _ => rfl) e (fun c2 e => ?_) (fun c2 e => ?_)
    · refine g_run 1 33 [some (.ref a)] [.int (0 : Int32)] (fun _ => rfl) ?_
      cases e
      exact g_retZ rfl (y := (0 : Int32)) rfl rfl
    · refine g_run 2 33 [some (.ref a)] [.int (1 : Int32)] (fun _ => rfl) ?_
      cases e
      exact g_retZ rfl (y := (1 : Int32)) rfl rfl
def Md_print (a : Nat) (x1 : Int32) (x2 : Int32) (x3 : Int32) (h : am_F) : Option (am_F) :=
  if x3 = 0 then
    some h
  else
    (g_ix x1 6).bind fun k2 =>
    (g_ix x1 6).bind fun k3 =>
    (g_ix x1 6).bind fun k4 =>
    (if x3 = (2 : Int32) then
        some (1 : Int32)
      else
        some (0 : Int32) : Option (Int32)).bind fun q7 =>
    (g_ix x1 6).bind fun k8 =>
    (g_ix x1 6).bind fun k9 =>
    (if x3 = (1 : Int32) then
        some (1 : Int32)
      else
        some (0 : Int32) : Option (Int32)).bind fun q12 =>
    (g_ix x1 6).bind fun k13 =>
    some (am_up (am_up (am_up (am_up h (a + 19) k2 x2) (a + 20) k3 x3) (a + 22) k8 (((am_up (am_up h (a + 19) k2 x2) (a + 20) k3 x3) (a + 22) k4) + q7)) (a + 23) k13 (((am_up (am_up (am_up h (a + 19) k2 x2) (a + 20) k3 x3) (a + 22) k8 (((am_up (am_up h (a + 19) k2 x2) (a + 20) k3 x3) (a + 22) k4) + q7)) (a + 23) k9) + q12))
theorem Md_print_s {X : Nat × (Nat → Int32)} {l : List (Nat × Nat)} {r : am_R} {h : am_F} {j : am_J} {a : Nat} {x1 : Int32} {x2 : Int32} {x3 : Int32} (ka : Md_K l r a) {q : am_F} (e : Md_print a x1 x2 x3 h = some q) : Call X 208 [.ref a, .int x1, .int x2, .int x3] (l, r, h, j) (none, (l, r, q, j)) := by
  unfold Md_print at e
  refine ⟨Nat.le_of_ble_eq_true rfl, ?_⟩
  show Ev X 208 0 [some (.ref a), some (.int x1), some (.int x2), some (.int x3)] [] (l, r, h, j) _
  refine g_run 1 1 [some (.ref a), some (.int x1), some (.int x2), some (.int x3)] [.int x3] (fun _ => rfl) ?_
  refine g_if (p1 := 4) (L1 := [some (.ref a), some (.int x1), some (.int x2), some (.int x3)]) (S1 := []) (s1 := (l, r, h, j)) (p2 := 5) (L2 := [some (.ref a), some (.int x1), some (.int x2), some (.int x3)]) (S2 := []) (s2 := (l, r, h, j)) rfl (fun _ _ => rfl) e (fun c1 e => ?_) (fun c1 e => ?_)
  · cases e
    exact g_ret rfl (fun _ _ => rfl)
  · refine g_run 1 6 [some (.ref a), some (.int x1), some (.int x2), some (.int x3)] [.ref a] (fun _ => rfl) ?_
    refine g_getA 9 rfl rfl (Md_l ka) (Md_r30 ka) ?_
    refine g_run 2 11 [some (.ref a), some (.int x1), some (.int x2), some (.int x3)] [.int x2, .int x1, .ref (a + 19)] (fun _ => rfl) ?_
    obtain ⟨k2, ek2, e⟩ := g_bd e
    refine g_iast 12 rfl rfl (Md_k30 ka) ek2 ?_
    refine g_run 1 13 [some (.ref a), some (.int x1), some (.int x2), some (.int x3)] [.ref a] (fun _ => rfl) ?_
    refine g_getA 16 rfl rfl (Md_l ka) (Md_r31 ka) ?_
    refine g_run 2 18 [some (.ref a), some (.int x1), some (.int x2), some (.int x3)] [.int x3, .int x1, .ref (a + 20)] (fun _ => rfl) ?_
    obtain ⟨k3, ek3, e⟩ := g_bd e
    refine g_iast 19 rfl rfl (Md_k31 ka) ek3 ?_
    refine g_run 1 20 [some (.ref a), some (.int x1), some (.int x2), some (.int x3)] [.ref a] (fun _ => rfl) ?_
    refine g_getA 23 rfl rfl (Md_l ka) (Md_r33 ka) ?_
    refine g_run 2 25 [some (.ref a), some (.int x1), some (.int x2), some (.int x3)] [.int x1, .ref (a + 22), .int x1, .ref (a + 22)] (fun _ => rfl) ?_
    obtain ⟨k4, ek4, e⟩ := g_bd e
    refine g_iald 26 rfl rfl (Md_k33 ka) ek4 ?_
    refine g_run 2 28 [some (.ref a), some (.int x1), some (.int x2), some (.int x3)] [.int (2 : Int32), .int x3, .int ((am_up (am_up h (a + 19) k2 x2) (a + 20) k3 x3) (a + 22) k4), .int x1, .ref (a + 22)] (fun _ => rfl) ?_
    obtain ⟨q7, eq7, e⟩ := g_bd e
    have hjq7 : ∀ (_ : True), Ev X 208 36 [some (.ref a), some (.int x1), some (.int x2), some (.int x3)] [.int q7, .int ((am_up (am_up h (a + 19) k2 x2) (a + 20) k3 x3) (a + 22) k4), .int x1, .ref (a + 22)] (l, r, (am_up (am_up h (a + 19) k2 x2) (a + 20) k3 x3), j) (none, (l, r, q, j)) := by
      intro _
      refine g_run 1 37 [some (.ref a), some (.int x1), some (.int x2), some (.int x3)] [.int (((am_up (am_up h (a + 19) k2 x2) (a + 20) k3 x3) (a + 22) k4) + q7), .int x1, .ref (a + 22)] (fun _ => rfl) ?_
      obtain ⟨k8, ek8, e⟩ := g_bd e
      refine g_iast 38 rfl rfl (Md_k33 ka) ek8 ?_
      refine g_run 1 39 [some (.ref a), some (.int x1), some (.int x2), some (.int x3)] [.ref a] (fun _ => rfl) ?_
      refine g_getA 42 rfl rfl (Md_l ka) (Md_r34 ka) ?_
      refine g_run 2 44 [some (.ref a), some (.int x1), some (.int x2), some (.int x3)] [.int x1, .ref (a + 23), .int x1, .ref (a + 23)] (fun _ => rfl) ?_
      obtain ⟨k9, ek9, e⟩ := g_bd e
      refine g_iald 45 rfl rfl (Md_k34 ka) ek9 ?_
      refine g_run 2 47 [some (.ref a), some (.int x1), some (.int x2), some (.int x3)] [.int (1 : Int32), .int x3, .int ((am_up (am_up (am_up h (a + 19) k2 x2) (a + 20) k3 x3) (a + 22) k8 (((am_up (am_up h (a + 19) k2 x2) (a + 20) k3 x3) (a + 22) k4) + q7)) (a + 23) k9), .int x1, .ref (a + 23)] (fun _ => rfl) ?_
      obtain ⟨q12, eq12, e⟩ := g_bd e
      have hjq12 : ∀ (_ : True), Ev X 208 55 [some (.ref a), some (.int x1), some (.int x2), some (.int x3)] [.int q12, .int ((am_up (am_up (am_up h (a + 19) k2 x2) (a + 20) k3 x3) (a + 22) k8 (((am_up (am_up h (a + 19) k2 x2) (a + 20) k3 x3) (a + 22) k4) + q7)) (a + 23) k9), .int x1, .ref (a + 23)] (l, r, (am_up (am_up (am_up h (a + 19) k2 x2) (a + 20) k3 x3) (a + 22) k8 (((am_up (am_up h (a + 19) k2 x2) (a + 20) k3 x3) (a + 22) k4) + q7)), j) (none, (l, r, q, j)) := by
        intro _
        refine g_run 1 56 [some (.ref a), some (.int x1), some (.int x2), some (.int x3)] [.int (((am_up (am_up (am_up h (a + 19) k2 x2) (a + 20) k3 x3) (a + 22) k8 (((am_up (am_up h (a + 19) k2 x2) (a + 20) k3 x3) (a + 22) k4) + q7)) (a + 23) k9) + q12), .int x1, .ref (a + 23)] (fun _ => rfl) ?_
        obtain ⟨k13, ek13, e⟩ := g_bd e
        refine g_iast 57 rfl rfl (Md_k34 ka) ek13 ?_
        cases e
        exact g_ret rfl (fun _ _ => rfl)
      replace e := eq12
      refine g_if (p1 := 50) (L1 := [some (.ref a), some (.int x1), some (.int x2), some (.int x3)]) (S1 := [.int ((am_up (am_up (am_up h (a + 19) k2 x2) (a + 20) k3 x3) (a + 22) k8 (((am_up (am_up h (a + 19) k2 x2) (a + 20) k3 x3) (a + 22) k4) + q7)) (a + 23) k9), .int x1, .ref (a + 23)]) (s1 := (l, r, (am_up (am_up (am_up h (a + 19) k2 x2) (a + 20) k3 x3) (a + 22) k8 (((am_up (am_up h (a + 19) k2 x2) (a + 20) k3 x3) (a + 22) k4) + q7)), j)) (p2 := 54) (L2 := [some (.ref a), some (.int x1), some (.int x2), some (.int x3)]) (S2 := [.int ((am_up (am_up (am_up h (a + 19) k2 x2) (a + 20) k3 x3) (a + 22) k8 (((am_up (am_up h (a + 19) k2 x2) (a + 20) k3 x3) (a + 22) k4) + q7)) (a + 23) k9), .int x1, .ref (a + 23)]) (s2 := (l, r, (am_up (am_up (am_up h (a + 19) k2 x2) (a + 20) k3 x3) (a + 22) k8 (((am_up (am_up h (a + 19) k2 x2) (a + 20) k3 x3) (a + 22) k4) + q7)), j)) rfl (fun _ _ => rfl) e (fun c10 e => ?_) (fun c10 e => ?_)
      · refine g_run 2 55 [some (.ref a), some (.int x1), some (.int x2), some (.int x3)] [.int (1 : Int32), .int ((am_up (am_up (am_up h (a + 19) k2 x2) (a + 20) k3 x3) (a + 22) k8 (((am_up (am_up h (a + 19) k2 x2) (a + 20) k3 x3) (a + 22) k4) + q7)) (a + 23) k9), .int x1, .ref (a + 23)] (fun _ => rfl) ?_
        cases e
        exact hjq12 trivial
      · refine g_run 1 55 [some (.ref a), some (.int x1), some (.int x2), some (.int x3)] [.int (0 : Int32), .int ((am_up (am_up (am_up h (a + 19) k2 x2) (a + 20) k3 x3) (a + 22) k8 (((am_up (am_up h (a + 19) k2 x2) (a + 20) k3 x3) (a + 22) k4) + q7)) (a + 23) k9), .int x1, .ref (a + 23)] (fun _ => rfl) ?_
        cases e
        exact hjq12 trivial
    replace e := eq7
    refine g_if (p1 := 31) (L1 := [some (.ref a), some (.int x1), some (.int x2), some (.int x3)]) (S1 := [.int ((am_up (am_up h (a + 19) k2 x2) (a + 20) k3 x3) (a + 22) k4), .int x1, .ref (a + 22)]) (s1 := (l, r, (am_up (am_up h (a + 19) k2 x2) (a + 20) k3 x3), j)) (p2 := 35) (L2 := [some (.ref a), some (.int x1), some (.int x2), some (.int x3)]) (S2 := [.int ((am_up (am_up h (a + 19) k2 x2) (a + 20) k3 x3) (a + 22) k4), .int x1, .ref (a + 22)]) (s2 := (l, r, (am_up (am_up h (a + 19) k2 x2) (a + 20) k3 x3), j)) rfl (fun _ _ => rfl) e (fun c5 e => ?_) (fun c5 e => ?_)
    · refine g_run 2 36 [some (.ref a), some (.int x1), some (.int x2), some (.int x3)] [.int (1 : Int32), .int ((am_up (am_up h (a + 19) k2 x2) (a + 20) k3 x3) (a + 22) k4), .int x1, .ref (a + 22)] (fun _ => rfl) ?_
      cases e
      exact hjq7 trivial
    · refine g_run 1 36 [some (.ref a), some (.int x1), some (.int x2), some (.int x3)] [.int (0 : Int32), .int ((am_up (am_up h (a + 19) k2 x2) (a + 20) k3 x3) (a + 22) k4), .int x1, .ref (a + 22)] (fun _ => rfl) ?_
      cases e
      exact hjq7 trivial
