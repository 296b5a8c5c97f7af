/-! methods as functions, and their runs -/
def Md_otherwise (a : Nat) (x1 : Int32) (x2 : Int32) (x3 : Int32) (h : am_F) : Option (Int32 × am_F) :=
  if (Md_in x3 (0 : Int32) (4 : Int32)) = 0 then
    some ((-1000000 : Int32), (am_up h a 0 (0 : Int32)))
  else
    (Md_hand a x1 (am_up h a 0 (0 : Int32))).bind fun q2 =>
    if q2.1 = 0 then
      some ((-1000000 : Int32), q2.2)
    else
      (Md_isComer a x2 q2.2).bind fun q4 =>
      if q4 = 0 then
        some ((-1000000 : Int32), q2.2)
      else
        if x3 = 0 then
          (Md_hasOf a x2 q2.2).bind fun q7 =>
          some (q7.1, q7.2)
        else
          if (3 : Int32) ≤ x3 then
            (Md_tryAll a x2 (2 : Int32) (0 : Int32) ((q2.2 (a + 12) 3) - (1 : Int32)) (0 : Int32) q2.2).bind fun q9 =>
            if x3 = (3 : Int32) then
              some ((q9 a 49), q9)
            else
              some ((q9 a 50), q9)
          else
            (Md_comer a x2 (1 : Int32) q2.2).bind fun q11 =>
            (Md_tryAll a x2 (1 : Int32) q11 (47 : Int32) (1 : Int32) q2.2).bind fun q12 =>
            if x3 = (1 : Int32) then
              some (((q12 a 49) - q11), q12)
            else
              some ((q12 a 50), q12)
theorem Md_otherwise_s {X : Nat × (Nat → Int32)} {l : List (Nat × Nat)} {r : am_R} {h : am_F} {j : am_J} {a : Nat} {x1 : Int32} {x2 : Int32} {x3 : Int32} (ka : Md_K l r a) {q : Int32 × am_F} (e : Md_otherwise a x1 x2 x3 h = some q) : Call X 264 [.ref a, .int x1, .int x2, .int x3] (l, r, h, j) (some (.int q.1), (l, r, q.2, j)) := by
  unfold Md_otherwise at e
  refine ⟨Nat.le_of_ble_eq_true rfl, ?_⟩
  show Ev X 264 0 [some (.ref a), some (.int x1), some (.int x2), some (.int x3), none] [] (l, r, h, j) _
  refine g_run 2 2 [some (.ref a), some (.int x1), some (.int x2), some (.int x3), none] [.int (0 : Int32), .ref a] (fun _ => rfl) ?_
  refine g_putI 5 rfl rfl (Md_l ka) ?_
  refine g_run 3 8 [some (.ref a), some (.int x1), some (.int x2), some (.int x3), none] [.int (4 : Int32), .int (0 : Int32), .int x3] (fun _ => rfl) ?_
  refine g_cS 11 rfl rfl (by decide) rfl rfl rfl Md_in_s ?_
  refine g_if (p1 := 30) (L1 := [some (.ref a), some (.int x1), some (.int x2), some (.int x3), none]) (S1 := []) (s1 := (l, r, (am_up h a 0 (0 : Int32)), j)) (p2 := 14) (L2 := [some (.ref a), some (.int x1), some (.int x2), some (.int x3), none]) (S2 := []) (s2 := (l, r, (am_up h a 0 (0 : Int32)), j)) rfl (fun _ _ => rfl) e (fun c1 e => ?_) (fun c1 e => ?_)
  · refine g_run 1 33 [some (.ref a), some (.int x1), some (.int x2), some (.int x3), none] [.int (-1000000 : Int32)] (fun _ => rfl) ?_
    cases e
    exact g_ret rfl (fun _ _ => rfl)
  · refine g_run 2 16 [some (.ref a), some (.int x1), some (.int x2), some (.int x3), none] [.int x1, .ref a] (fun _ => rfl) ?_
    obtain ⟨q2, eq2, e⟩ := g_bd e
    refine g_cV 19 rfl rfl rfl rfl rfl (Md_l ka) (Md_hand_s ka eq2) ?_
    refine g_if (p1 := 30) (L1 := [some (.ref a), some (.int x1), some (.int x2), some (.int x3), none]) (S1 := []) (s1 := (l, r, q2.2, j)) (p2 := 22) (L2 := [some (.ref a), some (.int x1), some (.int x2), some (.int x3), none]) (S2 := []) (s2 := (l, r, q2.2, j)) rfl (fun _ _ => rfl) e (fun c3 e => ?_) (fun c3 e => ?_)
    · refine g_run 1 33 [some (.ref a), some (.int x1), some (.int x2), some (.int x3), none] [.int (-1000000 : Int32)] (fun _ => rfl) ?_
      cases e
      exact g_ret rfl (fun _ _ => rfl)
    · refine g_run 2 24 [some (.ref a), some (.int x1), some (.int x2), some (.int x3), none] [.int x2, .ref a] (fun _ => rfl) ?_
      obtain ⟨q4, eq4, e⟩ := g_bd e
      refine g_cV 27 rfl rfl rfl rfl rfl (Md_l ka) (Md_isComer_s ka eq4) ?_
      refine g_if (p1 := 30) (L1 := [some (.ref a), some (.int x1), some (.int x2), some (.int x3), none]) (S1 := []) (s1 := (l, r, q2.2, j)) (p2 := 34) (L2 := [some (.ref a), some (.int x1), some (.int x2), some (.int x3), none]) (S2 := []) (s2 := (l, r, q2.2, j)) rfl (fun _ _ => rfl) e (fun c5 e => ?_) (fun c5 e => ?_)
      · refine g_run 1 33 [some (.ref a), some (.int x1), some (.int x2), some (.int x3), none] [.int (-1000000 : Int32)] (fun _ => rfl) ?_
        cases e
        exact g_ret rfl (fun _ _ => rfl)
      · refine g_run 1 35 [some (.ref a), some (.int x1), some (.int x2), some (.int x3), none] [.int x3] (fun _ => rfl) ?_
        refine g_if (p1 := 38) (L1 := [some (.ref a), some (.int x1), some (.int x2), some (.int x3), none]) (S1 := []) (s1 := (l, r, q2.2, j)) (p2 := 44) (L2 := [some (.ref a), some (.int x1), some (.int x2), some (.int x3), none]) (S2 := []) (s2 := (l, r, q2.2, j)) rfl (fun _ _ => rfl) e (fun c6 e => ?_) (fun c6 e => ?_)
        · refine g_run 2 40 [some (.ref a), some (.int x1), some (.int x2), some (.int x3), none] [.int x2, .ref a] (fun _ => rfl) ?_
          obtain ⟨q7, eq7, e⟩ := g_bd e
          refine g_cV 43 rfl rfl rfl rfl rfl (Md_l ka) (Md_hasOf_s ka eq7) ?_
          cases e
          exact g_ret rfl (fun _ _ => rfl)
        · refine g_run 2 46 [some (.ref a), some (.int x1), some (.int x2), some (.int x3), none] [.int (3 : Int32), .int x3] (fun _ => rfl) ?_
          refine g_if (p1 := 88) (L1 := [some (.ref a), some (.int x1), some (.int x2), some (.int x3), none]) (S1 := []) (s1 := (l, r, q2.2, j)) (p2 := 49) (L2 := [some (.ref a), some (.int x1), some (.int x2), some (.int x3), none]) (S2 := []) (s2 := (l, r, q2.2, j)) rfl (fun _ _ => rfl) e (fun c8 e => ?_) (fun c8 e => ?_)
          · refine g_run 5 93 [some (.ref a), some (.int x1), some (.int x2), some (.int x3), none] [.ref a, .int (0 : Int32), .int (2 : Int32), .int x2, .ref a] (fun _ => rfl) ?_
            refine g_getA 96 rfl rfl (Md_l ka) (Md_r23 ka) ?_
            refine g_run 1 97 [some (.ref a), some (.int x1), some (.int x2), some (.int x3), none] [.int (3 : Int32), .ref (a + 12), .int (0 : Int32), .int (2 : Int32), .int x2, .ref a] (fun _ => rfl) ?_
            refine g_iald 98 rfl rfl (Md_k23 ka) (kx := 3) rfl ?_
            refine g_run 3 101 [some (.ref a), some (.int x1), some (.int x2), some (.int x3), none] [.int (0 : Int32), .int ((q2.2 (a + 12) 3) - (1 : Int32)), .int (0 : Int32), .int (2 : Int32), .int x2, .ref a] (fun _ => rfl) ?_
            obtain ⟨q9, eq9, e⟩ := g_bd e
            refine g_cVv 104 rfl rfl rfl rfl rfl (Md_l ka) (Md_tryAll_s ka eq9) ?_
            refine g_run 2 106 [some (.ref a), some (.int x1), some (.int x2), some (.int x3), none] [.int (3 : Int32), .int x3] (fun _ => rfl) ?_
            refine g_if (p1 := 109) (L1 := [some (.ref a), some (.int x1), some (.int x2), some (.int x3), none]) (S1 := []) (s1 := (l, r, q9, j)) (p2 := 116) (L2 := [some (.ref a), some (.int x1), some (.int x2), some (.int x3), none]) (S2 := []) (s2 := (l, r, q9, j)) rfl (fun _ _ => rfl) e (fun c10 e => ?_) (fun c10 e => ?_)
            · refine g_run 1 110 [some (.ref a), some (.int x1), some (.int x2), some (.int x3), none] [.ref a] (fun _ => rfl) ?_
              refine g_getI 113 rfl rfl (Md_l ka) ?_
              refine g_run 1 120 [some (.ref a), some (.int x1), some (.int x2), some (.int x3), none] [.int (q9 a 49)] (fun _ => rfl) ?_
              cases e
              exact g_ret rfl (fun _ _ => rfl)
            · refine g_run 1 117 [some (.ref a), some (.int x1), some (.int x2), some (.int x3), none] [.ref a] (fun _ => rfl) ?_
              refine g_getI 120 rfl rfl (Md_l ka) ?_
              cases e
              exact g_ret rfl (fun _ _ => rfl)
          · refine g_run 3 52 [some (.ref a), some (.int x1), some (.int x2), some (.int x3), none] [.int (1 : Int32), .int x2, .ref a] (fun _ => rfl) ?_
            obtain ⟨q11, eq11, e⟩ := g_bd e
            refine g_cV 55 rfl rfl rfl rfl rfl (Md_l ka) (Md_comer_s ka eq11) ?_
            refine g_run 7 65 [some (.ref a), some (.int x1), some (.int x2), some (.int x3), some (.int q11)] [.int (1 : Int32), .int (47 : Int32), .int q11, .int (1 : Int32), .int x2, .ref a] (fun _ => rfl) ?_
            obtain ⟨q12, eq12, e⟩ := g_bd e
            refine g_cVv 68 rfl rfl rfl rfl rfl (Md_l ka) (Md_tryAll_s ka eq12) ?_
            refine g_run 2 70 [some (.ref a), some (.int x1), some (.int x2), some (.int x3), some (.int q11)] [.int (1 : Int32), .int x3] (fun _ => rfl) ?_
            refine g_if (p1 := 73) (L1 := [some (.ref a), some (.int x1), some (.int x2), some (.int x3), some (.int q11)]) (S1 := []) (s1 := (l, r, q12, j)) (p2 := 83) (L2 := [some (.ref a), some (.int x1), some (.int x2), some (.int x3), some (.int q11)]) (S2 := []) (s2 := (l, r, q12, j)) rfl (fun _ _ => rfl) e (fun c13 e => ?_) (fun c13 e => ?_)
            · refine g_run 1 74 [some (.ref a), some (.int x1), some (.int x2), some (.int x3), some (.int q11)] [.ref a] (fun _ => rfl) ?_
              refine g_getI 77 rfl rfl (Md_l ka) ?_
              refine g_run 3 87 [some (.ref a), some (.int x1), some (.int x2), some (.int x3), some (.int q11)] [.int ((q12 a 49) - q11)] (fun _ => rfl) ?_
              cases e
              exact g_ret rfl (fun _ _ => rfl)
            · refine g_run 1 84 [some (.ref a), some (.int x1), some (.int x2), some (.int x3), some (.int q11)] [.ref a] (fun _ => rfl) ?_
              refine g_getI 87 rfl rfl (Md_l ka) ?_
              cases e
              exact g_ret rfl (fun _ _ => rfl)
def Md_without_l8 (x0 : Nat) (x1 : Int32) : Nat → Int32 → am_F → Option (am_F)
  | 0, _, _ => none
  | n + 1, x3, h =>
    if (189 : Int32) ≤ x3 then
      some h
    else
      (g_ix (x3 + (6 : Int32)) 195).bind fun k2 =>
      (g_ix x3 195).bind fun k3 =>
      Md_without_l8 x0 x1 n (x3 + (1 : Int32)) (am_up h (x0 + 12) k3 (h (x0 + 12) k2))
def Md_without (a : Nat) (x1 : Int32) (x2 : Int32) (h : am_F) : Option (Int32 × am_F) :=
  (Md_without_l8 a x1 g_fu ((111 : Int32) + ((6 : Int32) * x2)) h).bind fun q4 =>
  (Md_harmOf a (am_up q4 (a + 12) 6 ((q4 (a + 12) 6) - (1 : Int32)))).bind fun q6 =>
  (Md_hand a x1 q6.2).bind fun q7 =>
  some (q6.1, q7.2)
theorem Md_without_l8_s {X : Nat × (Nat → Int32)} {l : List (Nat × Nat)} {r : am_R} {x0 : Nat} {x1 : Int32} {y2 : Int32} {j : am_J} {q : am_F} {R : Option Value × am_S} (kx0 : Md_K l r x0) (hx : ∀ (y3 : Int32) , Ev X 265 36 [some (.ref x0), some (.int x1), some (.int y2), some (.int y3)] [] (l, r, q, j) R) : ∀ (n : Nat) (x3 : Int32) (h : am_F), Md_without_l8 x0 x1 n x3 h = some q → Ev X 265 8 [some (.ref x0), some (.int x1), some (.int y2), some (.int x3)] [] (l, r, h, j) R := by
  intro n
  induction n with
  | zero => intro x3 h e; cases e
  | succ n ih =>
    intro x3 h e
    unfold Md_without_l8 at e
    refine g_run 2 12 [some (.ref x0), some (.int x1), some (.int y2), some (.int x3)] [.int (189 : Int32), .int x3] (fun _ => rfl) ?_
    refine g_if (p1 := 36) (L1 := [some (.ref x0), some (.int x1), some (.int y2), some (.int x3)]) (S1 := []) (s1 := (l, r, h, j)) (p2 := 15) (L2 := [some (.ref x0), some (.int x1), some (.int y2), some (.int x3)]) (S2 := []) (s2 := (l, r, h, j)) rfl (fun _ _ => rfl) e (fun c1 e => ?_) (fun c1 e => ?_)
    · cases e
      exact hx _
    · refine g_run 1 16 [some (.ref x0), some (.int x1), some (.int y2), some (.int x3)] [.ref x0] (fun _ => rfl) ?_
      refine g_getA 19 rfl rfl (Md_l kx0) (Md_r23 kx0) ?_
      refine g_run 2 21 [some (.ref x0), some (.int x1), some (.int y2), some (.int x3)] [.ref x0, .int x3, .ref (x0 + 12)] (fun _ => rfl) ?_
      refine g_getA 24 rfl rfl (Md_l kx0) (Md_r23 kx0) ?_
      refine g_run 3 28 [some (.ref x0), some (.int x1), some (.int y2), some (.int x3)] [.int (x3 + (6 : Int32)), .ref (x0 + 12), .int x3, .ref (x0 + 12)] (fun _ => rfl) ?_
      obtain ⟨k2, ek2, e⟩ := g_bd e
      refine g_iald 29 rfl rfl (Md_k23 kx0) ek2 ?_
      obtain ⟨k3, ek3, e⟩ := g_bd e
      refine g_iast 30 rfl rfl (Md_k23 kx0) ek3 ?_
      refine g_run 2 8 [some (.ref x0), some (.int x1), some (.int y2), some (.int (x3 + (1 : Int32)))] [] (fun _ => rfl) ?_
      exact ih _ _ e
theorem Md_without_s {X : Nat × (Nat → Int32)} {l : List (Nat × Nat)} {r : am_R} {h : am_F} {j : am_J} {a : Nat} {x1 : Int32} {x2 : Int32} (ka : Md_K l r a) {q : Int32 × am_F} (e : Md_without a x1 x2 h = some q) : Call X 265 [.ref a, .int x1, .int x2] (l, r, h, j) (some (.int q.1), (l, r, q.2, j)) := by
  unfold Md_without at e
  refine ⟨Nat.le_of_ble_eq_true rfl, ?_⟩
  show Ev X 265 0 [some (.ref a), some (.int x1), some (.int x2), none] [] (l, r, h, j) _
  refine g_run 6 8 [some (.ref a), some (.int x1), some (.int x2), some (.int ((111 : Int32) + ((6 : Int32) * x2)))] [] (fun _ => rfl) ?_
  obtain ⟨q4, eq4, e⟩ := g_bd e
  refine Md_without_l8_s ka (fun y5 => ?_) _ _ _ eq4
  refine g_run 1 37 [some (.ref a), some (.int x1), some (.int x2), some (.int y5)] [.ref a] (fun _ => rfl) ?_
  refine g_getA 40 rfl rfl (Md_l ka) (Md_r23 ka) ?_
  refine g_run 2 43 [some (.ref a), some (.int x1), some (.int x2), some (.int y5)] [.int (6 : Int32), .ref (a + 12), .int (6 : Int32), .ref (a + 12)] (fun _ => rfl) ?_
  refine g_iald 44 rfl rfl (Md_k23 ka) (kx := 6) rfl ?_
  refine g_run 2 46 [some (.ref a), some (.int x1), some (.int x2), some (.int y5)] [.int ((q4 (a + 12) 6) - (1 : Int32)), .int (6 : Int32), .ref (a + 12)] (fun _ => rfl) ?_
  refine g_iast 47 rfl rfl (Md_k23 ka) (kx := 6) rfl ?_
  refine g_run 1 48 [some (.ref a), some (.int x1), some (.int x2), some (.int y5)] [.ref a] (fun _ => rfl) ?_
  obtain ⟨q6, eq6, e⟩ := g_bd e
  refine g_cV 51 rfl rfl rfl rfl rfl (Md_l ka) (Md_harmOf_s ka eq6) ?_
  refine g_run 3 54 [some (.ref a), some (.int x1), some (.int x2), some (.int q6.1)] [.int x1, .ref a] (fun _ => rfl) ?_
  obtain ⟨q7, eq7, e⟩ := g_bd e
  refine g_cV 57 rfl rfl rfl rfl rfl (Md_l ka) (Md_hand_s ka eq7) ?_
  refine g_run 2 59 [some (.ref a), some (.int x1), some (.int x2), some (.int q6.1)] [.int q6.1] (fun _ => rfl) ?_
  cases e
  exact g_ret rfl (fun _ _ => rfl)
def Md_spare_l124 (x0 : Nat) (x2 : Int32) (h : am_F) : Nat → Int32 → Int32 → Option (Int32)
  | 0, _, _ => none
  | n + 1, x3, x4 =>
    if (h (x0 + 12) 6) ≤ x4 then
      some x3
    else
      (g_ix x4 14).bind fun k8 =>
      (g_ix x4 14).bind fun k9 =>
      (g_ix x3 14).bind fun k10 =>
      (g_ix x3 14).bind fun k11 =>
      (if ((h (x0 + 15) k8) + (h (x0 + 16) k9)) ≤ ((h (x0 + 15) k10) + (h (x0 + 16) k11)) then
          some x3
        else
          some x4 : Option (Int32)).bind fun q14 =>
      Md_spare_l124 x0 x2 h n q14 (x4 + (1 : Int32))
def Md_spare_l55 (x0 : Nat) (x1 : Int32) (x2 : Int32) : Nat → Int32 → Int32 → Int32 → am_F → Option (Int32 × Int32 × am_F)
  | 0, _, _, _, _ => none
  | n + 1, x3, x4, x5, h =>
    if (h (x0 + 12) 6) ≤ x5 then
      some (x3, x4, h)
    else
      (Md_without x0 x1 x5 h).bind fun q22 =>
      (if x4 ≤ q22.1 then
          some x3
        else
          some x5 : Option (Int32)).bind fun q25 =>
      Md_spare_l55 x0 x1 x2 n q25 (Md_lesser x4 q22.1) (x5 + (1 : Int32)) q22.2
def Md_spare (a : Nat) (x1 : Int32) (x2 : Int32) (h : am_F) : Option (Int32 × am_F) :=
  if (Md_in x2 (0 : Int32) (3 : Int32)) = 0 then
    some ((-2 : Int32), (am_up h a 0 (0 : Int32)))
  else
    (Md_hand a x1 (am_up h a 0 (0 : Int32))).bind fun q2 =>
    if q2.1 = 0 then
      some ((-2 : Int32), q2.2)
    else
      if (q2.2 (a + 12) 6) = 0 then
        some ((-1 : Int32), q2.2)
      else
        if (2 : Int32) ≤ x2 then
          (Md_harmOf a q2.2).bind fun q6 =>
          (Md_spare_l124 a x2 q6.2 g_fu (0 : Int32) (1 : Int32)).bind fun q15 =>
          if x2 = (2 : Int32) then
            some (q15, q6.2)
          else
            (g_ix q15 14).bind fun k18 =>
            (g_ix q15 14).bind fun k19 =>
            some (((q6.2 (a + 15) k18) + (q6.2 (a + 16) k19)), q6.2)
        else
          (Md_without a x1 (0 : Int32) q2.2).bind fun q20 =>
          (Md_spare_l55 a x1 x2 g_fu (0 : Int32) q20.1 (1 : Int32) q20.2).bind fun q26 =>
          if x2 = 0 then
            some (q26.1, q26.2.2)
          else
            some (q26.2.1, q26.2.2)
theorem Md_spare_l124_s {X : Nat × (Nat → Int32)} {l : List (Nat × Nat)} {r : am_R} {x0 : Nat} {x2 : Int32} {y1 : Int32} {h : am_F} {j : am_J} {q : Int32} {R : Option Value × am_S} (kx0 : Md_K l r x0) (hx : ∀ (y4 : Int32) , Ev X 266 180 [some (.ref x0), some (.int y1), some (.int x2), some (.int q), some (.int y4), none, none] [] (l, r, h, j) R) : ∀ (n : Nat) (x3 : Int32) (x4 : Int32), Md_spare_l124 x0 x2 h n x3 x4 = some q → Ev X 266 124 [some (.ref x0), some (.int y1), some (.int x2), some (.int x3), some (.int x4), none, none] [] (l, r, h, j) R := by
  intro n
  induction n with
  | zero => intro x3 x4 e; cases e
  | succ n ih =>
    intro x3 x4 e
    unfold Md_spare_l124 at e
    refine g_run 2 127 [some (.ref x0), some (.int y1), some (.int x2), some (.int x3), some (.int x4), none, none] [.ref x0, .int x4] (fun _ => rfl) ?_
    refine g_getA 130 rfl rfl (Md_l kx0) (Md_r23 kx0) ?_
    refine g_run 1 132 [some (.ref x0), some (.int y1), some (.int x2), some (.int x3), some (.int x4), none, none] [.int (6 : Int32), .ref (x0 + 12), .int x4] (fun _ => rfl) ?_
    refine g_iald 133 rfl rfl (Md_k23 kx0) (kx := 6) rfl ?_
    refine g_if (p1 := 180) (L1 := [some (.ref x0), some (.int y1), some (.int x2), some (.int x3), some (.int x4), none, none]) (S1 := []) (s1 := (l, r, h, j)) (p2 := 136) (L2 := [some (.ref x0), some (.int y1), some (.int x2), some (.int x3), some (.int x4), none, none]) (S2 := []) (s2 := (l, r, h, j)) rfl (fun _ _ => rfl) e (fun c7 e => ?_) (fun c7 e => ?_)
    · cases e
      exact hx _
    · refine g_run 1 137 [some (.ref x0), some (.int y1), some (.int x2), some (.int x3), some (.int x4), none, none] [.ref x0] (fun _ => rfl) ?_
      refine g_getA 140 rfl rfl (Md_l kx0) (Md_r26 kx0) ?_
      refine g_run 1 142 [some (.ref x0), some (.int y1), some (.int x2), some (.int x3), some (.int x4), none, none] [.int x4, .ref (x0 + 15)] (fun _ => rfl) ?_
      obtain ⟨k8, ek8, e⟩ := g_bd e
      refine g_iald 143 rfl rfl (Md_k26 kx0) ek8 ?_
      refine g_run 1 144 [some (.ref x0), some (.int y1), some (.int x2), some (.int x3), some (.int x4), none, none] [.ref x0, .int (h (x0 + 15) k8)] (fun _ => rfl) ?_
      refine g_getA 147 rfl rfl (Md_l kx0) (Md_r27 kx0) ?_
      refine g_run 1 149 [some (.ref x0), some (.int y1), some (.int x2), some (.int x3), some (.int x4), none, none] [.int x4, .ref (x0 + 16), .int (h (x0 + 15) k8)] (fun _ => rfl) ?_
      obtain ⟨k9, ek9, e⟩ := g_bd e
      refine g_iald 150 rfl rfl (Md_k27 kx0) ek9 ?_
      refine g_run 2 152 [some (.ref x0), some (.int y1), some (.int x2), some (.int x3), some (.int x4), none, none] [.ref x0, .int ((h (x0 + 15) k8) + (h (x0 + 16) k9))] (fun _ => rfl) ?_
      refine g_getA 155 rfl rfl (Md_l kx0) (Md_r26 kx0) ?_
      refine g_run 1 156 [some (.ref x0), some (.int y1), some (.int x2), some (.int x3), some (.int x4), none, none] [.int x3, .ref (x0 + 15), .int ((h (x0 + 15) k8) + (h (x0 + 16) k9))] (fun _ => rfl) ?_
      obtain ⟨k10, ek10, e⟩ := g_bd e
      refine g_iald 157 rfl rfl (Md_k26 kx0) ek10 ?_
      refine g_run 1 158 [some (.ref x0), some (.int y1), some (.int x2), some (.int x3), some (.int x4), none, none] [.ref x0, .int (h (x0 + 15) k10), .int ((h (x0 + 15) k8) + (h (x0 + 16) k9))] (fun _ => rfl) ?_
      refine g_getA 161 rfl rfl (Md_l kx0) (Md_r27 kx0) ?_
      refine g_run 1 162 [some (.ref x0), some (.int y1), some (.int x2), some (.int x3), some (.int x4), none, none] [.int x3, .ref (x0 + 16), .int (h (x0 + 15) k10), .int ((h (x0 + 15) k8) + (h (x0 + 16) k9))] (fun _ => rfl) ?_
      obtain ⟨k11, ek11, e⟩ := g_bd e
      refine g_iald 163 rfl rfl (Md_k27 kx0) ek11 ?_
      refine g_run 1 164 [some (.ref x0), some (.int y1), some (.int x2), some (.int x3), some (.int x4), none, none] [.int ((h (x0 + 15) k10) + (h (x0 + 16) k11)), .int ((h (x0 + 15) k8) + (h (x0 + 16) k9))] (fun _ => rfl) ?_
      obtain ⟨q14, eq14, e⟩ := g_bd e
      have hjq14 : ∀ (_ : True), Ev X 266 173 [some (.ref x0), some (.int y1), some (.int x2), some (.int x3), some (.int x4), none, none] [.int q14] (l, r, h, j) R := by
        intro _
        refine g_run 3 124 [some (.ref x0), some (.int y1), some (.int x2), some (.int q14), some (.int (x4 + (1 : Int32))), none, none] [] (fun _ => rfl) ?_
        exact ih _ _ e
      replace e := eq14
      refine g_if (p1 := 172) (L1 := [some (.ref x0), some (.int y1), some (.int x2), some (.int x3), some (.int x4), none, none]) (S1 := []) (s1 := (l, r, h, j)) (p2 := 167) (L2 := [some (.ref x0), some (.int y1), some (.int x2), some (.int x3), some (.int x4), none, none]) (S2 := []) (s2 := (l, r, h, j)) rfl (fun _ _ => rfl) e (fun c12 e => ?_) (fun c12 e => ?_)
      · refine g_run 1 173 [some (.ref x0), some (.int y1), some (.int x2), some (.int x3), some (.int x4), none, none] [.int x3] (fun _ => rfl) ?_
        cases e
        exact hjq14 trivial
      · refine g_run 2 173 [some (.ref x0), some (.int y1), some (.int x2), some (.int x3), some (.int x4), none, none] [.int x4] (fun _ => rfl) ?_
        cases e
        exact hjq14 trivial
theorem Md_spare_l55_s {X : Nat × (Nat → Int32)} {l : List (Nat × Nat)} {r : am_R} {x0 : Nat} {x1 : Int32} {x2 : Int32} {j : am_J} {q : Int32 × Int32 × am_F} {R : Option Value × am_S} (kx0 : Md_K l r x0) (hx : ∀ (d6 : Option Value) (y5 : Int32) , Ev X 266 105 [some (.ref x0), some (.int x1), some (.int x2), some (.int q.1), some (.int q.2.1), some (.int y5), d6] [] (l, r, q.2.2, j) R) : ∀ (n : Nat) (x3 : Int32) (x4 : Int32) (x5 : Int32) (h : am_F) (d6 : Option Value), Md_spare_l55 x0 x1 x2 n x3 x4 x5 h = some q → Ev X 266 55 [some (.ref x0), some (.int x1), some (.int x2), some (.int x3), some (.int x4), some (.int x5), d6] [] (l, r, h, j) R := by
  intro n
  induction n with
  | zero => intro x3 x4 x5 h d6 e; cases e
  | succ n ih =>
    intro x3 x4 x5 h d6 e
    unfold Md_spare_l55 at e
    refine g_run 2 58 [some (.ref x0), some (.int x1), some (.int x2), some (.int x3), some (.int x4), some (.int x5), d6] [.ref x0, .int x5] (fun _ => rfl) ?_
    refine g_getA 61 rfl rfl (Md_l kx0) (Md_r23 kx0) ?_
    refine g_run 1 63 [some (.ref x0), some (.int x1), some (.int x2), some (.int x3), some (.int x4), some (.int x5), d6] [.int (6 : Int32), .ref (x0 + 12), .int x5] (fun _ => rfl) ?_
    refine g_iald 64 rfl rfl (Md_k23 kx0) (kx := 6) rfl ?_
    refine g_if (p1 := 105) (L1 := [some (.ref x0), some (.int x1), some (.int x2), some (.int x3), some (.int x4), some (.int x5), d6]) (S1 := []) (s1 := (l, r, h, j)) (p2 := 67) (L2 := [some (.ref x0), some (.int x1), some (.int x2), some (.int x3), some (.int x4), some (.int x5), d6]) (S2 := []) (s2 := (l, r, h, j)) rfl (fun _ _ => rfl) e (fun c21 e => ?_) (fun c21 e => ?_)
    · cases e
      exact hx _ _
    · refine g_run 3 71 [some (.ref x0), some (.int x1), some (.int x2), some (.int x3), some (.int x4), some (.int x5), d6] [.int x5, .int x1, .ref x0] (fun _ => rfl) ?_
      obtain ⟨q22, eq22, e⟩ := g_bd e
      refine g_cV 74 rfl rfl rfl rfl rfl (Md_l kx0) (Md_without_s kx0 eq22) ?_
      refine g_run 3 80 [some (.ref x0), some (.int x1), some (.int x2), some (.int x3), some (.int x4), some (.int x5), some (.int q22.1)] [.int x4, .int q22.1] (fun _ => rfl) ?_
      obtain ⟨q25, eq25, e⟩ := g_bd e
      have hjq25 : ∀ (_ : True), Ev X 266 89 [some (.ref x0), some (.int x1), some (.int x2), some (.int x3), some (.int x4), some (.int x5), some (.int q22.1)] [.int q25] (l, r, q22.2, j) R := by
        intro _
        refine g_run 3 94 [some (.ref x0), some (.int x1), some (.int x2), some (.int q25), some (.int x4), some (.int x5), some (.int q22.1)] [.int q22.1, .int x4] (fun _ => rfl) ?_
        refine g_cS 97 rfl rfl (by decide) rfl rfl rfl Md_lesser_s ?_
        refine g_run 3 55 [some (.ref x0), some (.int x1), some (.int x2), some (.int q25), some (.int (Md_lesser x4 q22.1)), some (.int (x5 + (1 : Int32))), some (.int q22.1)] [] (fun _ => rfl) ?_
        exact ih _ _ _ _ _ e
      replace e := eq25
      refine g_if (p1 := 88) (L1 := [some (.ref x0), some (.int x1), some (.int x2), some (.int x3), some (.int x4), some (.int x5), some (.int q22.1)]) (S1 := []) (s1 := (l, r, q22.2, j)) (p2 := 83) (L2 := [some (.ref x0), some (.int x1), some (.int x2), some (.int x3), some (.int x4), some (.int x5), some (.int q22.1)]) (S2 := []) (s2 := (l, r, q22.2, j)) rfl (fun _ _ => rfl) e (fun c23 e => ?_) (fun c23 e => ?_)
      · refine g_run 1 89 [some (.ref x0), some (.int x1), some (.int x2), some (.int x3), some (.int x4), some (.int x5), some (.int q22.1)] [.int x3] (fun _ => rfl) ?_
        cases e
        exact hjq25 trivial
      · refine g_run 2 89 [some (.ref x0), some (.int x1), some (.int x2), some (.int x3), some (.int x4), some (.int x5), some (.int q22.1)] [.int x5] (fun _ => rfl) ?_
        cases e
        exact hjq25 trivial
theorem Md_spare_s {X : Nat × (Nat → Int32)} {l : List (Nat × Nat)} {r : am_R} {h : am_F} {j : am_J} {a : Nat} {x1 : Int32} {x2 : Int32} (ka : Md_K l r a) {q : Int32 × am_F} (e : Md_spare a x1 x2 h = some q) : Call X 266 [.ref a, .int x1, .int x2] (l, r, h, j) (some (.int q.1), (l, r, q.2, j)) := by
  unfold Md_spare at e
  refine ⟨Nat.le_of_ble_eq_true rfl, ?_⟩
  show Ev X 266 0 [some (.ref a), some (.int x1), some (.int x2), none, none, none, none] [] (l, r, h, j) _
  refine g_run 2 2 [some (.ref a), some (.int x1), some (.int x2), none, none, none, none] [.int (0 : Int32), .ref a] (fun _ => rfl) ?_
  refine g_putI 5 rfl rfl (Md_l ka) ?_
  refine g_run 3 8 [some (.ref a), some (.int x1), some (.int x2), none, none, none, none] [.int (3 : Int32), .int (0 : Int32), .int x2] (fun _ => rfl) ?_
  refine g_cS 11 rfl rfl (by decide) rfl rfl rfl Md_in_s ?_
  refine g_if (p1 := 22) (L1 := [some (.ref a), some (.int x1), some (.int x2), none, none, none, none]) (S1 := []) (s1 := (l, r, (am_up h a 0 (0 : Int32)), j)) (p2 := 14) (L2 := [some (.ref a), some (.int x1), some (.int x2), none, none, none, none]) (S2 := []) (s2 := (l, r, (am_up h a 0 (0 : Int32)), j)) rfl (fun _ _ => rfl) e (fun c1 e => ?_) (fun c1 e => ?_)
  · refine g_run 1 24 [some (.ref a), some (.int x1), some (.int x2), none, none, none, none] [.int (-2 : Int32)] (fun _ => rfl) ?_
    cases e
    exact g_ret rfl (fun _ _ => rfl)
  · refine g_run 2 16 [some (.ref a), some (.int x1), some (.int x2), none, none, none, none] [.int x1, .ref a] (fun _ => rfl) ?_
    obtain ⟨q2, eq2, e⟩ := g_bd e
    refine g_cV 19 rfl rfl rfl rfl rfl (Md_l ka) (Md_hand_s ka eq2) ?_
    refine g_if (p1 := 22) (L1 := [some (.ref a), some (.int x1), some (.int x2), none, none, none, none]) (S1 := []) (s1 := (l, r, q2.2, j)) (p2 := 25) (L2 := [some (.ref a), some (.int x1), some (.int x2), none, none, none, none]) (S2 := []) (s2 := (l, r, q2.2, j)) rfl (fun _ _ => rfl) e (fun c3 e => ?_) (fun c3 e => ?_)
    · refine g_run 1 24 [some (.ref a), some (.int x1), some (.int x2), none, none, none, none] [.int (-2 : Int32)] (fun _ => rfl) ?_
      cases e
      exact g_ret rfl (fun _ _ => rfl)
    · refine g_run 1 26 [some (.ref a), some (.int x1), some (.int x2), none, none, none, none] [.ref a] (fun _ => rfl) ?_
      refine g_getA 29 rfl rfl (Md_l ka) (Md_r23 ka) ?_
      refine g_run 1 31 [some (.ref a), some (.int x1), some (.int x2), none, none, none, none] [.int (6 : Int32), .ref (a + 12)] (fun _ => rfl) ?_
      refine g_iald 32 rfl rfl (Md_k23 ka) (kx := 6) rfl ?_
      refine g_if (p1 := 35) (L1 := [some (.ref a), some (.int x1), some (.int x2), none, none, none, none]) (S1 := []) (s1 := (l, r, q2.2, j)) (p2 := 37) (L2 := [some (.ref a), some (.int x1), some (.int x2), none, none, none, none]) (S2 := []) (s2 := (l, r, q2.2, j)) rfl (fun _ _ => rfl) e (fun c4 e => ?_) (fun c4 e => ?_)
      · refine g_run 1 36 [some (.ref a), some (.int x1), some (.int x2), none, none, none, none] [.int (-1 : Int32)] (fun _ => rfl) ?_
        cases e
        exact g_ret rfl (fun _ _ => rfl)
      · refine g_run 4 41 [some (.ref a), some (.int x1), some (.int x2), some (.int (0 : Int32)), none, none, none] [.int (2 : Int32), .int x2] (fun _ => rfl) ?_
        refine g_if (p1 := 116) (L1 := [some (.ref a), some (.int x1), some (.int x2), some (.int (0 : Int32)), none, none, none]) (S1 := []) (s1 := (l, r, q2.2, j)) (p2 := 44) (L2 := [some (.ref a), some (.int x1), some (.int x2), some (.int (0 : Int32)), none, none, none]) (S2 := []) (s2 := (l, r, q2.2, j)) rfl (fun _ _ => rfl) e (fun c5 e => ?_) (fun c5 e => ?_)
        · refine g_run 1 117 [some (.ref a), some (.int x1), some (.int x2), some (.int (0 : Int32)), none, none, none] [.ref a] (fun _ => rfl) ?_
          obtain ⟨q6, eq6, e⟩ := g_bd e
          refine g_cV 120 rfl rfl rfl rfl rfl (Md_l ka) (Md_harmOf_s ka eq6) ?_
          refine g_run 3 124 [some (.ref a), some (.int x1), some (.int x2), some (.int (0 : Int32)), some (.int (1 : Int32)), none, none] [] (fun _ => rfl) ?_
          obtain ⟨q15, eq15, e⟩ := g_bd e
          refine Md_spare_l124_s ka (fun y16 => ?_) _ _ _ eq15
          refine g_run 2 182 [some (.ref a), some (.int x1), some (.int x2), some (.int q15), some (.int y16), none, none] [.int (2 : Int32), .int x2] (fun _ => rfl) ?_
          refine g_if (p1 := 185) (L1 := [some (.ref a), some (.int x1), some (.int x2), some (.int q15), some (.int y16), none, none]) (S1 := []) (s1 := (l, r, q6.2, j)) (p2 := 189) (L2 := [some (.ref a), some (.int x1), some (.int x2), some (.int q15), some (.int y16), none, none]) (S2 := []) (s2 := (l, r, q6.2, j)) rfl (fun _ _ => rfl) e (fun c17 e => ?_) (fun c17 e => ?_)
          · refine g_run 2 202 [some (.ref a), some (.int x1), some (.int x2), some (.int q15), some (.int y16), none, none] [.int q15] (fun _ => rfl) ?_
            cases e
            exact g_ret rfl (fun _ _ => rfl)
          · refine g_run 1 190 [some (.ref a), some (.int x1), some (.int x2), some (.int q15), some (.int y16), none, none] [.ref a] (fun _ => rfl) ?_
            refine g_getA 193 rfl rfl (Md_l ka) (Md_r26 ka) ?_
            refine g_run 1 194 [some (.ref a), some (.int x1), some (.int x2), some (.int q15), some (.int y16), none, none] [.int q15, .ref (a + 15)] (fun _ => rfl) ?_
            obtain ⟨k18, ek18, e⟩ := g_bd e
            refine g_iald 195 rfl rfl (Md_k26 ka) ek18 ?_
            refine g_run 1 196 [some (.ref a), some (.int x1), some (.int x2), some (.int q15), some (.int y16), none, none] [.ref a, .int (q6.2 (a + 15) k18)] (fun _ => rfl) ?_
            refine g_getA 199 rfl rfl (Md_l ka) (Md_r27 ka) ?_
            refine g_run 1 200 [some (.ref a), some (.int x1), some (.int x2), some (.int q15), some (.int y16), none, none] [.int q15, .ref (a + 16), .int (q6.2 (a + 15) k18)] (fun _ => rfl) ?_
            obtain ⟨k19, ek19, e⟩ := g_bd e
            refine g_iald 201 rfl rfl (Md_k27 ka) ek19 ?_
            refine g_run 1 202 [some (.ref a), some (.int x1), some (.int x2), some (.int q15), some (.int y16), none, none] [.int ((q6.2 (a + 15) k18) + (q6.2 (a + 16) k19))] (fun _ => rfl) ?_
            cases e
            exact g_ret rfl (fun _ _ => rfl)
        · refine g_run 3 47 [some (.ref a), some (.int x1), some (.int x2), some (.int (0 : Int32)), none, none, none] [.int (0 : Int32), .int x1, .ref a] (fun _ => rfl) ?_
          obtain ⟨q20, eq20, e⟩ := g_bd e
          refine g_cV 50 rfl rfl rfl rfl rfl (Md_l ka) (Md_without_s ka eq20) ?_
          refine g_run 3 55 [some (.ref a), some (.int x1), some (.int x2), some (.int (0 : Int32)), some (.int q20.1), some (.int (1 : Int32)), none] [] (fun _ => rfl) ?_
          obtain ⟨q26, eq26, e⟩ := g_bd e
          refine Md_spare_l55_s ka (fun d27 y28 => ?_) _ _ _ _ _ _ eq26
          refine g_run 1 106 [some (.ref a), some (.int x1), some (.int x2), some (.int q26.1), some (.int q26.2.1), some (.int y28), d27] [.int x2] (fun _ => rfl) ?_
          refine g_if (p1 := 109) (L1 := [some (.ref a), some (.int x1), some (.int x2), some (.int q26.1), some (.int q26.2.1), some (.int y28), d27]) (S1 := []) (s1 := (l, r, q26.2.2, j)) (p2 := 113) (L2 := [some (.ref a), some (.int x1), some (.int x2), some (.int q26.1), some (.int q26.2.1), some (.int y28), d27]) (S2 := []) (s2 := (l, r, q26.2.2, j)) rfl (fun _ _ => rfl) e (fun c29 e => ?_) (fun c29 e => ?_)
          · refine g_run 2 115 [some (.ref a), some (.int x1), some (.int x2), some (.int q26.1), some (.int q26.2.1), some (.int y28), d27] [.int q26.1] (fun _ => rfl) ?_
            cases e
            exact g_ret rfl (fun _ _ => rfl)
          · refine g_run 1 115 [some (.ref a), some (.int x1), some (.int x2), some (.int q26.1), some (.int q26.2.1), some (.int y28), d27] [.int q26.2.1] (fun _ => rfl) ?_
            cases e
            exact g_ret rfl (fun _ _ => rfl)
def Md_anew_l35 (x0 : Nat) (x2 : Int32) (x3 : Int32) : Nat → Int32 → Int32 → Int32 → am_F → Option (Int32 × Int32 × am_F)
  | 0, _, _, _, _ => none
  | n + 1, x4, x5, x6, h =>
    if (48 : Int32) ≤ x6 then
      some (x4, x5, h)
    else
      (g_ix (((55 : Int32) + ((4 : Int32) * x2)) + (1 : Int32)) 195).bind fun k6 =>
      (Md_harmOf x0 (am_up h (x0 + 12) k6 x6)).bind fun q7 =>
      (if x5 ≤ q7.1 then
          some x4
        else
          some x6 : Option (Int32)).bind fun q10 =>
      Md_anew_l35 x0 x2 x3 n q10 (Md_lesser x5 q7.1) (x6 + (1 : Int32)) q7.2
def Md_anew (a : Nat) (x1 : Int32) (x2 : Int32) (x3 : Int32) (h : am_F) : Option (Int32 × am_F) :=
  (Md_hand a x1 (am_up h a 0 (0 : Int32))).bind fun q1 =>
  if q1.1 = 0 then
    some ((-2 : Int32), q1.2)
  else
    (Md_isBench a x2 q1.2).bind fun q3 =>
    if q3 = 0 then
      some ((-2 : Int32), q1.2)
    else
      (Md_anew_l35 a x2 x3 g_fu (-1 : Int32) (1000000 : Int32) (0 : Int32) q1.2).bind fun q11 =>
      if x3 = 0 then
        some (q11.2.1, q11.2.2)
      else
        some (q11.1, q11.2.2)
theorem Md_anew_l35_s {X : Nat × (Nat → Int32)} {l : List (Nat × Nat)} {r : am_R} {x0 : Nat} {x2 : Int32} {x3 : Int32} {y1 : Int32} {j : am_J} {q : Int32 × Int32 × am_F} {R : Option Value × am_S} (kx0 : Md_K l r x0) (hx : ∀ (d7 : Option Value) (y6 : Int32) , Ev X 267 94 [some (.ref x0), some (.int y1), some (.int x2), some (.int x3), some (.int q.1), some (.int q.2.1), some (.int y6), d7] [] (l, r, q.2.2, j) R) : ∀ (n : Nat) (x4 : Int32) (x5 : Int32) (x6 : Int32) (h : am_F) (d7 : Option Value), Md_anew_l35 x0 x2 x3 n x4 x5 x6 h = some q → Ev X 267 35 [some (.ref x0), some (.int y1), some (.int x2), some (.int x3), some (.int x4), some (.int x5), some (.int x6), d7] [] (l, r, h, j) R := by
  intro n
  induction n with
  | zero => intro x4 x5 x6 h d7 e; cases e
  | succ n ih =>
    intro x4 x5 x6 h d7 e
    unfold Md_anew_l35 at e
    refine g_run 2 39 [some (.ref x0), some (.int y1), some (.int x2), some (.int x3), some (.int x4), some (.int x5), some (.int x6), d7] [.int (48 : Int32), .int x6] (fun _ => rfl) ?_
    refine g_if (p1 := 94) (L1 := [some (.ref x0), some (.int y1), some (.int x2), some (.int x3), some (.int x4), some (.int x5), some (.int x6), d7]) (S1 := []) (s1 := (l, r, h, j)) (p2 := 42) (L2 := [some (.ref x0), some (.int y1), some (.int x2), some (.int x3), some (.int x4), some (.int x5), some (.int x6), d7]) (S2 := []) (s2 := (l, r, h, j)) rfl (fun _ _ => rfl) e (fun c5 e => ?_) (fun c5 e => ?_)
    · cases e
      exact hx _ _
    · refine g_run 1 43 [some (.ref x0), some (.int y1), some (.int x2), some (.int x3), some (.int x4), some (.int x5), some (.int x6), d7] [.ref x0] (fun _ => rfl) ?_
      refine g_getA 46 rfl rfl (Md_l kx0) (Md_r23 kx0) ?_
      refine g_run 8 56 [some (.ref x0), some (.int y1), some (.int x2), some (.int x3), some (.int x4), some (.int x5), some (.int x6), d7] [.int x6, .int (((55 : Int32) + ((4 : Int32) * x2)) + (1 : Int32)), .ref (x0 + 12)] (fun _ => rfl) ?_
      obtain ⟨k6, ek6, e⟩ := g_bd e
      refine g_iast 57 rfl rfl (Md_k23 kx0) ek6 ?_
      refine g_run 1 58 [some (.ref x0), some (.int y1), some (.int x2), some (.int x3), some (.int x4), some (.int x5), some (.int x6), d7] [.ref x0] (fun _ => rfl) ?_
      obtain ⟨q7, eq7, e⟩ := g_bd e
      refine g_cV 61 rfl rfl rfl rfl rfl (Md_l kx0) (Md_harmOf_s kx0 eq7) ?_
      refine g_run 3 67 [some (.ref x0), some (.int y1), some (.int x2), some (.int x3), some (.int x4), some (.int x5), some (.int x6), some (.int q7.1)] [.int x5, .int q7.1] (fun _ => rfl) ?_
      obtain ⟨q10, eq10, e⟩ := g_bd e
      have hjq10 : ∀ (_ : True), Ev X 267 77 [some (.ref x0), some (.int y1), some (.int x2), some (.int x3), some (.int x4), some (.int x5), some (.int x6), some (.int q7.1)] [.int q10] (l, r, q7.2, j) R := by
        intro _
        refine g_run 3 83 [some (.ref x0), some (.int y1), some (.int x2), some (.int x3), some (.int q10), some (.int x5), some (.int x6), some (.int q7.1)] [.int q7.1, .int x5] (fun _ => rfl) ?_
        refine g_cS 86 rfl rfl (by decide) rfl rfl rfl Md_lesser_s ?_
        refine g_run 3 35 [some (.ref x0), some (.int y1), some (.int x2), some (.int x3), some (.int q10), some (.int (Md_lesser x5 q7.1)), some (.int (x6 + (1 : Int32))), some (.int q7.1)] [] (fun _ => rfl) ?_
        exact ih _ _ _ _ _ e
      replace e := eq10
      refine g_if (p1 := 75) (L1 := [some (.ref x0), some (.int y1), some (.int x2), some (.int x3), some (.int x4), some (.int x5), some (.int x6), some (.int q7.1)]) (S1 := []) (s1 := (l, r, q7.2, j)) (p2 := 70) (L2 := [some (.ref x0), some (.int y1), some (.int x2), some (.int x3), some (.int x4), some (.int x5), some (.int x6), some (.int q7.1)]) (S2 := []) (s2 := (l, r, q7.2, j)) rfl (fun _ _ => rfl) e (fun c8 e => ?_) (fun c8 e => ?_)
      · refine g_run 1 77 [some (.ref x0), some (.int y1), some (.int x2), some (.int x3), some (.int x4), some (.int x5), some (.int x6), some (.int q7.1)] [.int x4] (fun _ => rfl) ?_
        cases e
        exact hjq10 trivial
      · refine g_run 2 77 [some (.ref x0), some (.int y1), some (.int x2), some (.int x3), some (.int x4), some (.int x5), some (.int x6), some (.int q7.1)] [.int x6] (fun _ => rfl) ?_
        cases e
        exact hjq10 trivial
theorem Md_anew_s {X : Nat × (Nat → Int32)} {l : List (Nat × Nat)} {r : am_R} {h : am_F} {j : am_J} {a : Nat} {x1 : Int32} {x2 : Int32} {x3 : Int32} (ka : Md_K l r a) {q : Int32 × am_F} (e : Md_anew a x1 x2 x3 h = some q) : Call X 267 [.ref a, .int x1, .int x2, .int x3] (l, r, h, j) (some (.int q.1), (l, r, q.2, j)) := by
  unfold Md_anew at e
  refine ⟨Nat.le_of_ble_eq_true rfl, ?_⟩
  show Ev X 267 0 [some (.ref a), some (.int x1), some (.int x2), some (.int x3), none, none, none, none] [] (l, r, h, j) _
  refine g_run 2 2 [some (.ref a), some (.int x1), some (.int x2), some (.int x3), none, none, none, none] [.int (0 : Int32), .ref a] (fun _ => rfl) ?_
  refine g_putI 5 rfl rfl (Md_l ka) ?_
  refine g_run 2 7 [some (.ref a), some (.int x1), some (.int x2), some (.int x3), none, none, none, none] [.int x1, .ref a] (fun _ => rfl) ?_
  obtain ⟨q1, eq1, e⟩ := g_bd e
  refine g_cV 10 rfl rfl rfl rfl rfl (Md_l ka) (Md_hand_s ka eq1) ?_
  refine g_if (p1 := 21) (L1 := [some (.ref a), some (.int x1), some (.int x2), some (.int x3), none, none, none, none]) (S1 := []) (s1 := (l, r, q1.2, j)) (p2 := 13) (L2 := [some (.ref a), some (.int x1), some (.int x2), some (.int x3), none, none, none, none]) (S2 := []) (s2 := (l, r, q1.2, j)) rfl (fun _ _ => rfl) e (fun c2 e => ?_) (fun c2 e => ?_)
  · refine g_run 1 23 [some (.ref a), some (.int x1), some (.int x2), some (.int x3), none, none, none, none] [.int (-2 : Int32)] (fun _ => rfl) ?_
    cases e
    exact g_ret rfl (fun _ _ => rfl)
  · refine g_run 2 15 [some (.ref a), some (.int x1), some (.int x2), some (.int x3), none, none, none, none] [.int x2, .ref a] (fun _ => rfl) ?_
    obtain ⟨q3, eq3, e⟩ := g_bd e
    refine g_cV 18 rfl rfl rfl rfl rfl (Md_l ka) (Md_isBench_s ka eq3) ?_
    refine g_if (p1 := 21) (L1 := [some (.ref a), some (.int x1), some (.int x2), some (.int x3), none, none, none, none]) (S1 := []) (s1 := (l, r, q1.2, j)) (p2 := 24) (L2 := [some (.ref a), some (.int x1), some (.int x2), some (.int x3), none, none, none, none]) (S2 := []) (s2 := (l, r, q1.2, j)) rfl (fun _ _ => rfl) e (fun c4 e => ?_) (fun c4 e => ?_)
    · refine g_run 1 23 [some (.ref a), some (.int x1), some (.int x2), some (.int x3), none, none, none, none] [.int (-2 : Int32)] (fun _ => rfl) ?_
      cases e
      exact g_ret rfl (fun _ _ => rfl)
    · refine g_run 6 35 [some (.ref a), some (.int x1), some (.int x2), some (.int x3), some (.int (-1 : Int32)), some (.int (1000000 : Int32)), some (.int (0 : Int32)), none] [] (fun _ => rfl) ?_
      obtain ⟨q11, eq11, e⟩ := g_bd e
      refine Md_anew_l35_s ka (fun d12 y13 => ?_) _ _ _ _ _ _ eq11
      refine g_run 1 95 [some (.ref a), some (.int x1), some (.int x2), some (.int x3), some (.int q11.1), some (.int q11.2.1), some (.int y13), d12] [.int x3] (fun _ => rfl) ?_
      refine g_if (p1 := 103) (L1 := [some (.ref a), some (.int x1), some (.int x2), some (.int x3), some (.int q11.1), some (.int q11.2.1), some (.int y13), d12]) (S1 := []) (s1 := (l, r, q11.2.2, j)) (p2 := 98) (L2 := [some (.ref a), some (.int x1), some (.int x2), some (.int x3), some (.int q11.1), some (.int q11.2.1), some (.int y13), d12]) (S2 := []) (s2 := (l, r, q11.2.2, j)) rfl (fun _ _ => rfl) e (fun c14 e => ?_) (fun c14 e => ?_)
      · refine g_run 1 105 [some (.ref a), some (.int x1), some (.int x2), some (.int x3), some (.int q11.1), some (.int q11.2.1), some (.int y13), d12] [.int q11.2.1] (fun _ => rfl) ?_
        cases e
        exact g_ret rfl (fun _ _ => rfl)
      · refine g_run 2 105 [some (.ref a), some (.int x1), some (.int x2), some (.int x3), some (.int q11.1), some (.int q11.2.1), some (.int y13), d12] [.int q11.1] (fun _ => rfl) ?_
        cases e
        exact g_ret rfl (fun _ _ => rfl)
def Md_count (a : Nat) (x1 : Int32) (h : am_F) : Option (Int32 × am_F) :=
  if (Md_in x1 (0 : Int32) (3 : Int32)) = 0 then
    some ((-2 : Int32), (am_up h a 0 (0 : Int32)))
  else
    (g_ix x1 16).bind fun k2 =>
    some (((am_up h a 0 (0 : Int32)) (a + 5) k2), (am_up h a 0 (0 : Int32)))
theorem Md_count_s {X : Nat × (Nat → Int32)} {l : List (Nat × Nat)} {r : am_R} {h : am_F} {j : am_J} {a : Nat} {x1 : Int32} (ka : Md_K l r a) {q : Int32 × am_F} (e : Md_count a x1 h = some q) : Call X 268 [.ref a, .int x1] (l, r, h, j) (some (.int q.1), (l, r, q.2, j)) := by
  unfold Md_count at e
  refine ⟨Nat.le_of_ble_eq_true rfl, ?_⟩
  show Ev X 268 0 [some (.ref a), some (.int x1)] [] (l, r, h, j) _
  refine g_run 2 2 [some (.ref a), some (.int x1)] [.int (0 : Int32), .ref a] (fun _ => rfl) ?_
  refine g_putI 5 rfl rfl (Md_l ka) ?_
  refine g_run 3 8 [some (.ref a), some (.int x1)] [.int (3 : Int32), .int (0 : Int32), .int x1] (fun _ => rfl) ?_
  refine g_cS 11 rfl rfl (by decide) rfl rfl rfl Md_in_s ?_
  refine g_if (p1 := 23) (L1 := [some (.ref a), some (.int x1)]) (S1 := []) (s1 := (l, r, (am_up h a 0 (0 : Int32)), j)) (p2 := 14) (L2 := [some (.ref a), some (.int x1)]) (S2 := []) (s2 := (l, r, (am_up h a 0 (0 : Int32)), j)) rfl (fun _ _ => rfl) e (fun c1 e => ?_) (fun c1 e => ?_)
  · refine g_run 1 25 [some (.ref a), some (.int x1)] [.int (-2 : Int32)] (fun _ => rfl) ?_
    cases e
    exact g_ret rfl (fun _ _ => rfl)
  · refine g_run 1 15 [some (.ref a), some (.int x1)] [.ref a] (fun _ => rfl) ?_
    refine g_getA 18 rfl rfl (Md_l ka) (Md_r5 ka) ?_
    refine g_run 1 19 [some (.ref a), some (.int x1)] [.int x1, .ref (a + 5)] (fun _ => rfl) ?_
    obtain ⟨k2, ek2, e⟩ := g_bd e
    refine g_iald 20 rfl rfl (Md_k5 ka) ek2 ?_
    refine g_run 1 25 [some (.ref a), some (.int x1)] [.int ((am_up h a 0 (0 : Int32)) (a + 5) k2)] (fun _ => rfl) ?_
    cases e
    exact g_ret rfl (fun _ _ => rfl)
def Md_image (l : List (Nat × Nat)) (r : am_R) (a : Nat) (x1 : Int32) (h : am_F) : Option (Int32 × am_F) :=
  if (Md_in x1 (0 : Int32) (2 : Int32)) = 0 then
    some ((0 : Int32), (am_up h a 0 (0 : Int32)))
  else
    (Md_copyAll l r a (0 : Int32) (x1 + (1 : Int32)) (am_up h a 0 (0 : Int32))).bind fun q2 =>
    (g_ix x1 3).bind fun k3 =>
    some ((1 : Int32), (am_up q2 (a + 27) k3 (vp_nar .boolean (1 : Int32))))
theorem Md_image_s {X : Nat × (Nat → Int32)} {l : List (Nat × Nat)} {r : am_R} {h : am_F} {j : am_J} {a : Nat} {x1 : Int32} (ka : Md_K l r a) {q : Int32 × am_F} (e : Md_image l r a x1 h = some q) : Call X 269 [.ref a, .int x1] (l, r, h, j) (some (.int q.1), (l, r, q.2, j)) := by
  unfold Md_image at e
  refine ⟨Nat.le_of_ble_eq_true rfl, ?_⟩
  show Ev X 269 0 [some (.ref a), some (.int x1)] [] (l, r, h, j) _
  refine g_run 2 2 [some (.ref a), some (.int x1)] [.int (0 : Int32), .ref a] (fun _ => rfl) ?_
  refine g_putI 5 rfl rfl (Md_l ka) ?_
  refine g_run 3 8 [some (.ref a), some (.int x1)] [.int (2 : Int32), .int (0 : Int32), .int x1] (fun _ => rfl) ?_
  refine g_cS 11 rfl rfl (by decide) rfl rfl rfl Md_in_s ?_
  refine g_if (p1 := 14) (L1 := [some (.ref a), some (.int x1)]) (S1 := []) (s1 := (l, r, (am_up h a 0 (0 : Int32)), j)) (p2 := 16) (L2 := [some (.ref a), some (.int x1)]) (S2 := []) (s2 := (l, r, (am_up h a 0 (0 : Int32)), j)) rfl (fun _ _ => rfl) e (fun c1 e => ?_) (fun c1 e => ?_)
  · refine g_run 1 15 [some (.ref a), some (.int x1)] [.int (0 : Int32)] (fun _ => rfl) ?_
    cases e
    exact g_retZ rfl (y := (0 : Int32)) rfl rfl
  · refine g_run 5 21 [some (.ref a), some (.int x1)] [.int (x1 + (1 : Int32)), .int (0 : Int32), .ref a] (fun _ => rfl) ?_
    obtain ⟨q2, eq2, e⟩ := g_bd e
    refine g_cVv 24 rfl rfl rfl rfl rfl (Md_l ka) (Md_copyAll_s ka eq2) ?_
    refine g_run 1 25 [some (.ref a), some (.int x1)] [.ref a] (fun _ => rfl) ?_
    refine g_getA 28 rfl rfl (Md_l ka) (Md_r51 ka) ?_
    refine g_run 2 30 [some (.ref a), some (.int x1)] [.int (1 : Int32), .int x1, .ref (a + 27)] (fun _ => rfl) ?_
    obtain ⟨k3, ek3, e⟩ := g_bd e
    refine g_bastZ 31 rfl rfl (Md_k51 ka) ek3 ?_
    refine g_run 1 32 [some (.ref a), some (.int x1)] [.int (1 : Int32)] (fun _ => rfl) ?_
    cases e
    exact g_retZ rfl (y := (1 : Int32)) rfl rfl
def Md_again (l : List (Nat × Nat)) (r : am_R) (a : Nat) (x1 : Int32) (h : am_F) : Option (Int32 × am_F) :=
  if (Md_in x1 (0 : Int32) (2 : Int32)) = 0 then
    some ((0 : Int32), (am_up h a 0 (0 : Int32)))
  else
    (g_ix x1 3).bind fun k2 =>
    if ((am_up h a 0 (0 : Int32)) (a + 27) k2) = 0 then
      some ((0 : Int32), (am_up h a 0 (0 : Int32)))
    else
      (Md_copyAll l r a (x1 + (1 : Int32)) (0 : Int32) (am_up h a 0 (0 : Int32))).bind fun q4 =>
      some ((1 : Int32), q4)
theorem Md_again_s {X : Nat × (Nat → Int32)} {l : List (Nat × Nat)} {r : am_R} {h : am_F} {j : am_J} {a : Nat} {x1 : Int32} (ka : Md_K l r a) {q : Int32 × am_F} (e : Md_again l r a x1 h = some q) : Call X 270 [.ref a, .int x1] (l, r, h, j) (some (.int q.1), (l, r, q.2, j)) := by
  unfold Md_again at e
  refine ⟨Nat.le_of_ble_eq_true rfl, ?_⟩
  show Ev X 270 0 [some (.ref a), some (.int x1)] [] (l, r, h, j) _
  refine g_run 2 2 [some (.ref a), some (.int x1)] [.int (0 : Int32), .ref a] (fun _ => rfl) ?_
  refine g_putI 5 rfl rfl (Md_l ka) ?_
  refine g_run 3 8 [some (.ref a), some (.int x1)] [.int (2 : Int32), .int (0 : Int32), .int x1] (fun _ => rfl) ?_
  refine g_cS 11 rfl rfl (by decide) rfl rfl rfl Md_in_s ?_
  refine g_if (p1 := 23) (L1 := [some (.ref a), some (.int x1)]) (S1 := []) (s1 := (l, r, (am_up h a 0 (0 : Int32)), j)) (p2 := 14) (L2 := [some (.ref a), some (.int x1)]) (S2 := []) (s2 := (l, r, (am_up h a 0 (0 : Int32)), j)) rfl (fun _ _ => rfl) e (fun c1 e => ?_) (fun c1 e => ?_)
  · refine g_run 1 24 [some (.ref a), some (.int x1)] [.int (0 : Int32)] (fun _ => rfl) ?_
    cases e
    exact g_retZ rfl (y := (0 : Int32)) rfl rfl
  · refine g_run 1 15 [some (.ref a), some (.int x1)] [.ref a] (fun _ => rfl) ?_
    refine g_getA 18 rfl rfl (Md_l ka) (Md_r51 ka) ?_
    refine g_run 1 19 [some (.ref a), some (.int x1)] [.int x1, .ref (a + 27)] (fun _ => rfl) ?_
    obtain ⟨k2, ek2, e⟩ := g_bd e
    refine g_bald 20 rfl rfl (Md_k51 ka) rfl ek2 ?_
    refine g_if (p1 := 23) (L1 := [some (.ref a), some (.int x1)]) (S1 := []) (s1 := (l, r, (am_up h a 0 (0 : Int32)), j)) (p2 := 25) (L2 := [some (.ref a), some (.int x1)]) (S2 := []) (s2 := (l, r, (am_up h a 0 (0 : Int32)), j)) rfl (fun _ _ => rfl) e (fun c3 e => ?_) (fun c3 e => ?_)
    · refine g_run 1 24 [some (.ref a), some (.int x1)] [.int (0 : Int32)] (fun _ => rfl) ?_
      cases e
      exact g_retZ rfl (y := (0 : Int32)) rfl rfl
    · refine g_run 5 30 [some (.ref a), some (.int x1)] [.int (0 : Int32), .int (x1 + (1 : Int32)), .ref a] (fun _ => rfl) ?_
      obtain ⟨q4, eq4, e⟩ := g_bd e
      refine g_cVv 33 rfl rfl rfl rfl rfl (Md_l ka) (Md_copyAll_s ka eq4) ?_
      refine g_run 1 34 [some (.ref a), some (.int x1)] [.int (1 : Int32)] (fun _ => rfl) ?_
      cases e
      exact g_retZ rfl (y := (1 : Int32)) rfl rfl
