/-! methods as functions, and their runs -/
def Dy_has (l : List (Nat × Nat)) (r : am_R) (a : Nat) (x1 : Int32) (x2 : Int32) (h : am_F) : Option (Int32) :=
  (Rw_get l r (a + 1) x1 (0 : Int32) h).bind fun q1 =>
  (if q1 < (2 : Int32) then
      some (0 : Int32)
    else
      some x2 : Option (Int32)).bind fun q4 =>
  (Rw_get l r (a + 1) x1 (2 : Int32) h).bind fun q5 =>
  some (q4 - q5)
theorem Dy_has_s {X : Nat × (Nat → Int32)} {l : List (Nat × Nat)} {r : am_R} {h : am_F} {j : am_J} {a : Nat} {x1 : Int32} {x2 : Int32} (ka : Dy_K l r a) {q : Int32} (e : Dy_has l r a x1 x2 h = some q) : Call X 13 [.ref a, .int x1, .int x2] (l, r, h, j) (some (.int q), (l, r, h, j)) := by
  unfold Dy_has at e
  refine ⟨Nat.le_of_ble_eq_true rfl, ?_⟩
  show Ev X 13 0 [some (.ref a), some (.int x1), some (.int x2), none] [] (l, r, h, j) _
  refine g_run 1 1 [some (.ref a), some (.int x1), some (.int x2), none] [.ref a] (fun _ => rfl) ?_
  refine g_getA 4 rfl rfl (Dy_l ka) (Dy_r3 ka) ?_
  refine g_run 2 6 [some (.ref a), some (.int x1), some (.int x2), none] [.int (0 : Int32), .int x1, .ref (a + 1)] (fun _ => rfl) ?_
  obtain ⟨q1, eq1, e⟩ := g_bd e
  refine g_cV 9 rfl rfl rfl rfl rfl (Rw_l (Dy_k3 ka)) (Rw_get_s (Dy_k3 ka) eq1) ?_
  refine g_run 1 10 [some (.ref a), some (.int x1), some (.int x2), none] [.int (2 : Int32), .int q1] (fun _ => rfl) ?_
  obtain ⟨q4, eq4, e⟩ := g_bd e
  have hjq4 : ∀ (_ : True), Ev X 13 18 [some (.ref a), some (.int x1), some (.int x2), none] [.int q4] (l, r, h, j) (some (.int q), (l, r, h, j)) := by
    intro _
    refine g_run 3 21 [some (.ref a), some (.int x1), some (.int x2), some (.int q4)] [.ref a, .int q4] (fun _ => rfl) ?_
    refine g_getA 24 rfl rfl (Dy_l ka) (Dy_r3 ka) ?_
    refine g_run 2 26 [some (.ref a), some (.int x1), some (.int x2), some (.int q4)] [.int (2 : Int32), .int x1, .ref (a + 1), .int q4] (fun _ => rfl) ?_
    obtain ⟨q5, eq5, e⟩ := g_bd e
    refine g_cV 29 rfl rfl rfl rfl rfl (Rw_l (Dy_k3 ka)) (Rw_get_s (Dy_k3 ka) eq5) ?_
    refine g_run 1 30 [some (.ref a), some (.int x1), some (.int x2), some (.int q4)] [.int (q4 - q5)] (fun _ => rfl) ?_
    cases e
    exact g_ret rfl (fun _ _ => rfl)
  replace e := eq4
  refine g_if (p1 := 17) (L1 := [some (.ref a), some (.int x1), some (.int x2), none]) (S1 := []) (s1 := (l, r, h, j)) (p2 := 13) (L2 := [some (.ref a), some (.int x1), some (.int x2), none]) (S2 := []) (s2 := (l, r, h, j)) rfl (fun _ _ => rfl) e (fun c2 e => ?_) (fun c2 e => ?_)
  · refine g_run 1 18 [some (.ref a), some (.int x1), some (.int x2), none] [.int (0 : Int32)] (fun _ => rfl) ?_
    cases e
    exact hjq4 trivial
  · refine g_run 2 18 [some (.ref a), some (.int x1), some (.int x2), none] [.int x2] (fun _ => rfl) ?_
    cases e
    exact hjq4 trivial
def Dy_sumOf_l4 (l : List (Nat × Nat)) (r : am_R) (x0 : Nat) (h : am_F) : Nat → Int32 → Int32 → Option (Int32)
  | 0, _, _ => none
  | n + 1, x1, x2 =>
    if (Int32.ofNat (g_ln l x0)) ≤ x2 then
      some x1
    else
      (g_ix x2 (g_ln l x0)).bind fun k2 =>
      Dy_sumOf_l4 l r x0 h n (x1 + (h x0 k2)) (x2 + (1 : Int32))
def Dy_sumOf (l : List (Nat × Nat)) (r : am_R) (x0 : Nat) (h : am_F) : Option (Int32) :=
  (Dy_sumOf_l4 l r x0 h g_fu (0 : Int32) (0 : Int32)).bind fun q3 =>
  some q3
theorem Dy_sumOf_l4_s {X : Nat × (Nat → Int32)} {l : List (Nat × Nat)} {r : am_R} {x0 : Nat} {h : am_F} {j : am_J} {q : Int32} {R : Option Value × am_S} (kx0 : l[x0]? = some (10, (g_ln l x0))) (hx : ∀ (y2 : Int32) , Ev X 15 22 [some (.ref x0), some (.int q), some (.int y2)] [] (l, r, h, j) R) : ∀ (n : Nat) (x1 : Int32) (x2 : Int32), Dy_sumOf_l4 l r x0 h n x1 x2 = some q → Ev X 15 4 [some (.ref x0), some (.int x1), some (.int x2)] [] (l, r, h, j) R := by
  intro n
  induction n with
  | zero => intro x1 x2 e; cases e
  | succ n ih =>
    intro x1 x2 e
    unfold Dy_sumOf_l4 at e
    refine g_run 2 6 [some (.ref x0), some (.int x1), some (.int x2)] [.ref x0, .int x2] (fun _ => rfl) ?_
    refine g_alen 7 rfl rfl kx0 rfl ?_
    refine g_if (p1 := 22) (L1 := [some (.ref x0), some (.int x1), some (.int x2)]) (S1 := []) (s1 := (l, r, h, j)) (p2 := 10) (L2 := [some (.ref x0), some (.int x1), some (.int x2)]) (S2 := []) (s2 := (l, r, h, j)) rfl (fun _ _ => rfl) e (fun c1 e => ?_) (fun c1 e => ?_)
    · cases e
      exact hx _
    · refine g_run 3 13 [some (.ref x0), some (.int x1), some (.int x2)] [.int x2, .ref x0, .int x1] (fun _ => rfl) ?_
      obtain ⟨k2, ek2, e⟩ := g_bd e
      refine g_iald 14 rfl rfl kx0 ek2 ?_
      refine g_run 4 4 [some (.ref x0), some (.int (x1 + (h x0 k2))), some (.int (x2 + (1 : Int32)))] [] (fun _ => rfl) ?_
      exact ih _ _ e
theorem Dy_sumOf_s {X : Nat × (Nat → Int32)} {l : List (Nat × Nat)} {r : am_R} {h : am_F} {j : am_J} {x0 : Nat} (kx0 : l[x0]? = some (10, g_ln l x0)) {q : Int32} (e : Dy_sumOf l r x0 h = some q) : Call X 15 [.ref x0] (l, r, h, j) (some (.int q), (l, r, h, j)) := by
  unfold Dy_sumOf at e
  refine ⟨Nat.le_of_ble_eq_true rfl, ?_⟩
  show Ev X 15 0 [some (.ref x0), none, none] [] (l, r, h, j) _
  refine g_run 4 4 [some (.ref x0), some (.int (0 : Int32)), some (.int (0 : Int32))] [] (fun _ => rfl) ?_
  obtain ⟨q3, eq3, e⟩ := g_bd e
  refine Dy_sumOf_l4_s kx0 (fun y4 => ?_) _ _ _ eq3
  refine g_run 1 23 [some (.ref x0), some (.int q3), some (.int y4)] [.int q3] (fun _ => rfl) ?_
  cases e
  exact g_ret rfl (fun _ _ => rfl)
def Dy_sum (l : List (Nat × Nat)) (r : am_R) (a : Nat) (x1 : Int32) (x2 : Int32) (h : am_F) : Option (Int32) :=
  if x1 = (0 : Int32) then
    some (h a 0)
  else if x1 = (1 : Int32) then
    some (h a 4)
  else if x1 = (2 : Int32) then
    (Dy_sumOf l r (a + 3) h).bind fun q3 =>
    some q3
  else if x1 = (3 : Int32) then
    (Dy_sumOf l r (a + 4) h).bind fun q5 =>
    some q5
  else if x1 = (4 : Int32) then
    some (h a 5)
  else if x1 = (5 : Int32) then
    some (h a 6)
  else if x1 = (6 : Int32) then
    some (h a 1)
  else if x1 = (7 : Int32) then
    some (h a 2)
  else 
    if x1 < (10 : Int32) then
      if x1 < (20 : Int32) then
        some (-1 : Int32)
      else
        if ((20 : Int32) + (if (6 : Int32) < x2 then (6 : Int32) else x2)) ≤ x1 then
          some (-1 : Int32)
        else
          (g_ix (x1 - (20 : Int32)) 6).bind fun k14 =>
          some (h (a + 4) k14)
    else
      if ((10 : Int32) + (if (6 : Int32) < x2 then (6 : Int32) else x2)) ≤ x1 then
        if x1 < (20 : Int32) then
          some (-1 : Int32)
        else
          if ((20 : Int32) + (if (6 : Int32) < x2 then (6 : Int32) else x2)) ≤ x1 then
            some (-1 : Int32)
          else
            (g_ix (x1 - (20 : Int32)) 6).bind fun k18 =>
            some (h (a + 4) k18)
      else
        (g_ix (x1 - (10 : Int32)) 6).bind fun k19 =>
        some (h (a + 3) k19)
theorem Dy_sum_s {X : Nat × (Nat → Int32)} {l : List (Nat × Nat)} {r : am_R} {h : am_F} {j : am_J} {a : Nat} {x1 : Int32} {x2 : Int32} (ka : Dy_K l r a) {q : Int32} (e : Dy_sum l r a x1 x2 h = some q) : Call X 14 [.ref a, .int x1, .int x2] (l, r, h, j) (some (.int q), (l, r, h, j)) := by
  unfold Dy_sum at e
  refine ⟨Nat.le_of_ble_eq_true rfl, ?_⟩
  show Ev X 14 0 [some (.ref a), some (.int x1), some (.int x2), none] [] (l, r, h, j) _
  refine g_run 1 1 [some (.ref a), some (.int x1), some (.int x2), none] [.int x1] (fun _ => rfl) ?_
  by_cases c1 : x1 = (0 : Int32)
  · replace e := (if_pos c1).symm.trans e
    refine g_sw (p1 := 48) (L1 := [some (.ref a), some (.int x1), some (.int x2), none]) (S1 := []) (s1 := (l, r, h, j)) rfl c1 (fun _ _ => rfl) ?_
    refine g_run 1 49 [some (.ref a), some (.int x1), some (.int x2), none] [.ref a] (fun _ => rfl) ?_
    refine g_getI 52 rfl rfl (Dy_l ka) ?_
    cases e
    exact g_ret rfl (fun _ _ => rfl)
  replace e := (if_neg c1).symm.trans e
  by_cases c2 : x1 = (1 : Int32)
  · replace e := (if_pos c2).symm.trans e
    refine g_sw (p1 := 53) (L1 := [some (.ref a), some (.int x1), some (.int x2), none]) (S1 := []) (s1 := (l, r, h, j)) rfl c2 (fun _ _ => rfl) ?_
    refine g_run 1 54 [some (.ref a), some (.int x1), some (.int x2), none] [.ref a] (fun _ => rfl) ?_
    refine g_getI 57 rfl rfl (Dy_l ka) ?_
    cases e
    exact g_ret rfl (fun _ _ => rfl)
  replace e := (if_neg c2).symm.trans e
  by_cases c4 : x1 = (2 : Int32)
  · replace e := (if_pos c4).symm.trans e
    refine g_sw (p1 := 58) (L1 := [some (.ref a), some (.int x1), some (.int x2), none]) (S1 := []) (s1 := (l, r, h, j)) rfl c4 (fun _ _ => rfl) ?_
    refine g_run 1 59 [some (.ref a), some (.int x1), some (.int x2), none] [.ref a] (fun _ => rfl) ?_
    refine g_getA 62 rfl rfl (Dy_l ka) (Dy_r7 ka) ?_
    obtain ⟨q3, eq3, e⟩ := g_bd e
    refine g_cS 65 rfl rfl (by decide) rfl rfl rfl (Dy_sumOf_s (g_lnk (Dy_k7 ka)) eq3) ?_
    cases e
    exact g_ret rfl (fun _ _ => rfl)
  replace e := (if_neg c4).symm.trans e
  by_cases c6 : x1 = (3 : Int32)
  · replace e := (if_pos c6).symm.trans e
    refine g_sw (p1 := 66) (L1 := [some (.ref a), some (.int x1), some (.int x2), none]) (S1 := []) (s1 := (l, r, h, j)) rfl c6 (fun _ _ => rfl) ?_
    refine g_run 1 67 [some (.ref a), some (.int x1), some (.int x2), none] [.ref a] (fun _ => rfl) ?_
    refine g_getA 70 rfl rfl (Dy_l ka) (Dy_r8 ka) ?_
    obtain ⟨q5, eq5, e⟩ := g_bd e
    refine g_cS 73 rfl rfl (by decide) rfl rfl rfl (Dy_sumOf_s (g_lnk (Dy_k8 ka)) eq5) ?_
    cases e
    exact g_ret rfl (fun _ _ => rfl)
  replace e := (if_neg c6).symm.trans e
  by_cases c7 : x1 = (4 : Int32)
  · replace e := (if_pos c7).symm.trans e
    refine g_sw (p1 := 74) (L1 := [some (.ref a), some (.int x1), some (.int x2), none]) (S1 := []) (s1 := (l, r, h, j)) rfl c7 (fun _ _ => rfl) ?_
    refine g_run 1 75 [some (.ref a), some (.int x1), some (.int x2), none] [.ref a] (fun _ => rfl) ?_
    refine g_getI 78 rfl rfl (Dy_l ka) ?_
    cases e
    exact g_ret rfl (fun _ _ => rfl)
  replace e := (if_neg c7).symm.trans e
  by_cases c8 : x1 = (5 : Int32)
  · replace e := (if_pos c8).symm.trans e
    refine g_sw (p1 := 79) (L1 := [some (.ref a), some (.int x1), some (.int x2), none]) (S1 := []) (s1 := (l, r, h, j)) rfl c8 (fun _ _ => rfl) ?_
    refine g_run 1 80 [some (.ref a), some (.int x1), some (.int x2), none] [.ref a] (fun _ => rfl) ?_
    refine g_getI 83 rfl rfl (Dy_l ka) ?_
    cases e
    exact g_ret rfl (fun _ _ => rfl)
  replace e := (if_neg c8).symm.trans e
  by_cases c9 : x1 = (6 : Int32)
  · replace e := (if_pos c9).symm.trans e
    refine g_sw (p1 := 84) (L1 := [some (.ref a), some (.int x1), some (.int x2), none]) (S1 := []) (s1 := (l, r, h, j)) rfl c9 (fun _ _ => rfl) ?_
    refine g_run 1 85 [some (.ref a), some (.int x1), some (.int x2), none] [.ref a] (fun _ => rfl) ?_
    refine g_getI 88 rfl rfl (Dy_l ka) ?_
    cases e
    exact g_ret rfl (fun _ _ => rfl)
  replace e := (if_neg c9).symm.trans e
  by_cases c10 : x1 = (7 : Int32)
  · replace e := (if_pos c10).symm.trans e
    refine g_sw (p1 := 89) (L1 := [some (.ref a), some (.int x1), some (.int x2), none]) (S1 := []) (s1 := (l, r, h, j)) rfl c10 (fun _ _ => rfl) ?_
    refine g_run 1 90 [some (.ref a), some (.int x1), some (.int x2), none] [.ref a] (fun _ => rfl) ?_
    refine g_getI 93 rfl rfl (Dy_l ka) ?_
    cases e
    exact g_ret rfl (fun _ _ => rfl)
  replace e := (if_neg c10).symm.trans e
  have ic1 : (Int32.toInt x1) ≠ 0 := g_ne c1
  have ic2 : (Int32.toInt x1) ≠ 1 := g_ne c2
  have ic4 : (Int32.toInt x1) ≠ 2 := g_ne c4
  have ic6 : (Int32.toInt x1) ≠ 3 := g_ne c6
  have ic7 : (Int32.toInt x1) ≠ 4 := g_ne c7
  have ic8 : (Int32.toInt x1) ≠ 5 := g_ne c8
  have ic9 : (Int32.toInt x1) ≠ 6 := g_ne c9
  have ic10 : (Int32.toInt x1) ≠ 7 := g_ne c10
  refine g_swd (p1 := 94) (L1 := [some (.ref a), some (.int x1), some (.int x2), none]) (S1 := []) (s1 := (l, r, h, j)) (x := x1) (lo := 0) (hi := 7) rfl (fun _ _ => rfl) (by omega) ?_
  refine g_run 6 104 [some (.ref a), some (.int x1), some (.int x2), some (.int (if (6 : Int32) < x2 then (6 : Int32) else x2))] [.int (10 : Int32), .int x1] (fun _ => rfl) ?_
  refine g_if (p1 := 125) (L1 := [some (.ref a), some (.int x1), some (.int x2), some (.int (if (6 : Int32) < x2 then (6 : Int32) else x2))]) (S1 := []) (s1 := (l, r, h, j)) (p2 := 107) (L2 := [some (.ref a), some (.int x1), some (.int x2), some (.int (if (6 : Int32) < x2 then (6 : Int32) else x2))]) (S2 := []) (s2 := (l, r, h, j)) rfl (fun _ _ => rfl) e (fun c11 e => ?_) (fun c11 e => ?_)
  · refine g_run 2 128 [some (.ref a), some (.int x1), some (.int x2), some (.int (if (6 : Int32) < x2 then (6 : Int32) else x2))] [.int (20 : Int32), .int x1] (fun _ => rfl) ?_
    refine g_if (p1 := 151) (L1 := [some (.ref a), some (.int x1), some (.int x2), some (.int (if (6 : Int32) < x2 then (6 : Int32) else x2))]) (S1 := []) (s1 := (l, r, h, j)) (p2 := 131) (L2 := [some (.ref a), some (.int x1), some (.int x2), some (.int (if (6 : Int32) < x2 then (6 : Int32) else x2))]) (S2 := []) (s2 := (l, r, h, j)) rfl (fun _ _ => rfl) e (fun c12 e => ?_) (fun c12 e => ?_)
    · refine g_run 1 152 [some (.ref a), some (.int x1), some (.int x2), some (.int (if (6 : Int32) < x2 then (6 : Int32) else x2))] [.int (-1 : Int32)] (fun _ => rfl) ?_
      cases e
      exact g_ret rfl (fun _ _ => rfl)
    · refine g_run 4 136 [some (.ref a), some (.int x1), some (.int x2), some (.int (if (6 : Int32) < x2 then (6 : Int32) else x2))] [.int ((20 : Int32) + (if (6 : Int32) < x2 then (6 : Int32) else x2)), .int x1] (fun _ => rfl) ?_
      refine g_if (p1 := 151) (L1 := [some (.ref a), some (.int x1), some (.int x2), some (.int (if (6 : Int32) < x2 then (6 : Int32) else x2))]) (S1 := []) (s1 := (l, r, h, j)) (p2 := 139) (L2 := [some (.ref a), some (.int x1), some (.int x2), some (.int (if (6 : Int32) < x2 then (6 : Int32) else x2))]) (S2 := []) (s2 := (l, r, h, j)) rfl (fun _ _ => rfl) e (fun c13 e => ?_) (fun c13 e => ?_)
      · refine g_run 1 152 [some (.ref a), some (.int x1), some (.int x2), some (.int (if (6 : Int32) < x2 then (6 : Int32) else x2))] [.int (-1 : Int32)] (fun _ => rfl) ?_
        cases e
        exact g_ret rfl (fun _ _ => rfl)
      · refine g_run 1 140 [some (.ref a), some (.int x1), some (.int x2), some (.int (if (6 : Int32) < x2 then (6 : Int32) else x2))] [.ref a] (fun _ => rfl) ?_
        refine g_getA 143 rfl rfl (Dy_l ka) (Dy_r8 ka) ?_
        refine g_run 3 147 [some (.ref a), some (.int x1), some (.int x2), some (.int (if (6 : Int32) < x2 then (6 : Int32) else x2))] [.int (x1 - (20 : Int32)), .ref (a + 4)] (fun _ => rfl) ?_
        obtain ⟨k14, ek14, e⟩ := g_bd e
        refine g_iald 148 rfl rfl (Dy_k8 ka) ek14 ?_
        refine g_run 1 152 [some (.ref a), some (.int x1), some (.int x2), some (.int (if (6 : Int32) < x2 then (6 : Int32) else x2))] [.int (h (a + 4) k14)] (fun _ => rfl) ?_
        cases e
        exact g_ret rfl (fun _ _ => rfl)
  · refine g_run 4 112 [some (.ref a), some (.int x1), some (.int x2), some (.int (if (6 : Int32) < x2 then (6 : Int32) else x2))] [.int ((10 : Int32) + (if (6 : Int32) < x2 then (6 : Int32) else x2)), .int x1] (fun _ => rfl) ?_
    refine g_if (p1 := 125) (L1 := [some (.ref a), some (.int x1), some (.int x2), some (.int (if (6 : Int32) < x2 then (6 : Int32) else x2))]) (S1 := []) (s1 := (l, r, h, j)) (p2 := 115) (L2 := [some (.ref a), some (.int x1), some (.int x2), some (.int (if (6 : Int32) < x2 then (6 : Int32) else x2))]) (S2 := []) (s2 := (l, r, h, j)) rfl (fun _ _ => rfl) e (fun c15 e => ?_) (fun c15 e => ?_)
    · refine g_run 2 128 [some (.ref a), some (.int x1), some (.int x2), some (.int (if (6 : Int32) < x2 then (6 : Int32) else x2))] [.int (20 : Int32), .int x1] (fun _ => rfl) ?_
      refine g_if (p1 := 151) (L1 := [some (.ref a), some (.int x1), some (.int x2), some (.int (if (6 : Int32) < x2 then (6 : Int32) else x2))]) (S1 := []) (s1 := (l, r, h, j)) (p2 := 131) (L2 := [some (.ref a), some (.int x1), some (.int x2), some (.int (if (6 : Int32) < x2 then (6 : Int32) else x2))]) (S2 := []) (s2 := (l, r, h, j)) rfl (fun _ _ => rfl) e (fun c16 e => ?_) (fun c16 e => ?_)
      · refine g_run 1 152 [some (.ref a), some (.int x1), some (.int x2), some (.int (if (6 : Int32) < x2 then (6 : Int32) else x2))] [.int (-1 : Int32)] (fun _ => rfl) ?_
        cases e
        exact g_ret rfl (fun _ _ => rfl)
      · refine g_run 4 136 [some (.ref a), some (.int x1), some (.int x2), some (.int (if (6 : Int32) < x2 then (6 : Int32) else x2))] [.int ((20 : Int32) + (if (6 : Int32) < x2 then (6 : Int32) else x2)), .int x1] (fun _ => rfl) ?_
        refine g_if (p1 := 151) (L1 := [some (.ref a), some (.int x1), some (.int x2), some (.int (if (6 : Int32) < x2 then (6 : Int32) else x2))]) (S1 := []) (s1 := (l, r, h, j)) (p2 := 139) (L2 := [some (.ref a), some (.int x1), some (.int x2), some (.int (if (6 : Int32) < x2 then (6 : Int32) else x2))]) (S2 := []) (s2 := (l, r, h, j)) rfl (fun _ _ => rfl) e (fun c17 e => ?_) (fun c17 e => ?_)
        · refine g_run 1 152 [some (.ref a), some (.int x1), some (.int x2), some (.int (if (6 : Int32) < x2 then (6 : Int32) else x2))] [.int (-1 : Int32)] (fun _ => rfl) ?_
          cases e
          exact g_ret rfl (fun _ _ => rfl)
        · refine g_run 1 140 [some (.ref a), some (.int x1), some (.int x2), some (.int (if (6 : Int32) < x2 then (6 : Int32) else x2))] [.ref a] (fun _ => rfl) ?_
          refine g_getA 143 rfl rfl (Dy_l ka) (Dy_r8 ka) ?_
          refine g_run 3 147 [some (.ref a), some (.int x1), some (.int x2), some (.int (if (6 : Int32) < x2 then (6 : Int32) else x2))] [.int (x1 - (20 : Int32)), .ref (a + 4)] (fun _ => rfl) ?_
          obtain ⟨k18, ek18, e⟩ := g_bd e
          refine g_iald 148 rfl rfl (Dy_k8 ka) ek18 ?_
          refine g_run 1 152 [some (.ref a), some (.int x1), some (.int x2), some (.int (if (6 : Int32) < x2 then (6 : Int32) else x2))] [.int (h (a + 4) k18)] (fun _ => rfl) ?_
          cases e
          exact g_ret rfl (fun _ _ => rfl)
    · refine g_run 1 116 [some (.ref a), some (.int x1), some (.int x2), some (.int (if (6 : Int32) < x2 then (6 : Int32) else x2))] [.ref a] (fun _ => rfl) ?_
      refine g_getA 119 rfl rfl (Dy_l ka) (Dy_r7 ka) ?_
      refine g_run 3 123 [some (.ref a), some (.int x1), some (.int x2), some (.int (if (6 : Int32) < x2 then (6 : Int32) else x2))] [.int (x1 - (10 : Int32)), .ref (a + 3)] (fun _ => rfl) ?_
      obtain ⟨k19, ek19, e⟩ := g_bd e
      refine g_iald 124 rfl rfl (Dy_k7 ka) ek19 ?_
      cases e
      exact g_ret rfl (fun _ _ => rfl)
def Pk_stage (a : Nat) (x1 : Int32) (x2 : Int32) (h : am_F) : Option (Int32) :=
  (Pk_wetness a x1 x2 h).bind fun q1 =>
  some (Pk_stageBy a q1 h)
theorem Pk_stage_s {X : Nat × (Nat → Int32)} {l : List (Nat × Nat)} {r : am_R} {h : am_F} {j : am_J} {a : Nat} {x1 : Int32} {x2 : Int32} (ka : Pk_K l r a) {q : Int32} (e : Pk_stage a x1 x2 h = some q) : Call X 40 [.ref a, .int x1, .int x2] (l, r, h, j) (some (.int q), (l, r, h, j)) := by
  unfold Pk_stage at e
  refine ⟨Nat.le_of_ble_eq_true rfl, ?_⟩
  show Ev X 40 0 [some (.ref a), some (.int x1), some (.int x2)] [] (l, r, h, j) _
  refine g_run 4 4 [some (.ref a), some (.int x1), some (.int x2)] [.int x2, .int x1, .ref a, .ref a] (fun _ => rfl) ?_
  obtain ⟨q1, eq1, e⟩ := g_bd e
  refine g_cV 7 rfl rfl rfl rfl rfl (Pk_l ka) (Pk_wetness_s ka eq1) ?_
  refine g_cV 10 rfl rfl rfl rfl rfl (Pk_l ka) (Pk_stageBy_s ka) ?_
  cases e
  exact g_ret rfl (fun _ _ => rfl)
def Fi_isFit_l3 (l : List (Nat × Nat)) (r : am_R) (x0 : Nat) (x1 : Int32) (x2 : Nat) (x3 : Int32) (h : am_F) : Nat → Int32 → Option (Int32)
  | 0, _ => none
  | n + 1, x4 =>
    if (h x2 3) ≤ x4 then
      some (1 : Int32)
    else
      (Rw_get l r x2 x4 (2 : Int32) h).bind fun q2 =>
      (Rw_get l r x2 x4 (1 : Int32) h).bind fun q3 =>
      if q3 = x3 then
        if q2 < x1 then
          some (0 : Int32)
        else
          (r x0 6).bind fun p6 =>
          (Pk_stage p6 x1 q2 h).bind fun q7 =>
          (Rw_get l r x2 x4 (0 : Int32) h).bind fun q8 =>
          if q7 = q8 then
            Fi_isFit_l3 l r x0 x1 x2 x3 h n (x4 + (1 : Int32))
          else
            some (0 : Int32)
      else
        Fi_isFit_l3 l r x0 x1 x2 x3 h n (x4 + (1 : Int32))
def Fi_isFit (l : List (Nat × Nat)) (r : am_R) (a : Nat) (x1 : Int32) (x2 : Nat) (x3 : Int32) (h : am_F) : Option (Int32) :=
  Fi_isFit_l3 l r a x1 x2 x3 h g_fu (0 : Int32)
theorem Fi_isFit_l3_s {X : Nat × (Nat → Int32)} {l : List (Nat × Nat)} {r : am_R} {x0 : Nat} {x1 : Int32} {x2 : Nat} {x3 : Int32} {h : am_F} {j : am_J} {q : Int32} (kx0 : Fi_K l r x0) (kx2 : Rw_K l r x2) : ∀ (n : Nat) (x4 : Int32) (d5 : Option Value), Fi_isFit_l3 l r x0 x1 x2 x3 h n x4 = some q → Ev X 19 3 [some (.ref x0), some (.int x1), some (.ref x2), some (.int x3), some (.int x4), d5] [] (l, r, h, j) (some (.int q), (l, r, h, j)) := by
  intro n
  induction n with
  | zero => intro x4 d5 e; cases e
  | succ n ih =>
    intro x4 d5 e
    unfold Fi_isFit_l3 at e
    refine g_run 2 6 [some (.ref x0), some (.int x1), some (.ref x2), some (.int x3), some (.int x4), d5] [.ref x2, .int x4] (fun _ => rfl) ?_
    refine g_getI 9 rfl rfl (Rw_l kx2) ?_
    refine g_if (p1 := 66) (L1 := [some (.ref x0), some (.int x1), some (.ref x2), some (.int x3), some (.int x4), d5]) (S1 := []) (s1 := (l, r, h, j)) (p2 := 12) (L2 := [some (.ref x0), some (.int x1), some (.ref x2), some (.int x3), some (.int x4), d5]) (S2 := []) (s2 := (l, r, h, j)) rfl (fun _ _ => rfl) e (fun c1 e => ?_) (fun c1 e => ?_)
    · refine g_run 1 67 [some (.ref x0), some (.int x1), some (.ref x2), some (.int x3), some (.int x4), d5] [.int (1 : Int32)] (fun _ => rfl) ?_
      cases e
      exact g_retZ rfl (y := (1 : Int32)) rfl rfl
    · refine g_run 3 16 [some (.ref x0), some (.int x1), some (.ref x2), some (.int x3), some (.int x4), d5] [.int (2 : Int32), .int x4, .ref x2] (fun _ => rfl) ?_
      obtain ⟨q2, eq2, e⟩ := g_bd e
      refine g_cV 19 rfl rfl rfl rfl rfl (Rw_l kx2) (Rw_get_s kx2 eq2) ?_
      refine g_run 4 25 [some (.ref x0), some (.int x1), some (.ref x2), some (.int x3), some (.int x4), some (.int q2)] [.int (1 : Int32), .int x4, .ref x2] (fun _ => rfl) ?_
      obtain ⟨q3, eq3, e⟩ := g_bd e
      refine g_cV 28 rfl rfl rfl rfl rfl (Rw_l kx2) (Rw_get_s kx2 eq3) ?_
      refine g_run 1 29 [some (.ref x0), some (.int x1), some (.ref x2), some (.int x3), some (.int x4), some (.int q2)] [.int x3, .int q3] (fun _ => rfl) ?_
      refine g_if (p1 := 32) (L1 := [some (.ref x0), some (.int x1), some (.ref x2), some (.int x3), some (.int x4), some (.int q2)]) (S1 := []) (s1 := (l, r, h, j)) (p2 := 60) (L2 := [some (.ref x0), some (.int x1), some (.ref x2), some (.int x3), some (.int x4), some (.int q2)]) (S2 := []) (s2 := (l, r, h, j)) rfl (fun _ _ => rfl) e (fun c4 e => ?_) (fun c4 e => ?_)
      · refine g_run 2 35 [some (.ref x0), some (.int x1), some (.ref x2), some (.int x3), some (.int x4), some (.int q2)] [.int x1, .int q2] (fun _ => rfl) ?_
        refine g_if (p1 := 58) (L1 := [some (.ref x0), some (.int x1), some (.ref x2), some (.int x3), some (.int x4), some (.int q2)]) (S1 := []) (s1 := (l, r, h, j)) (p2 := 38) (L2 := [some (.ref x0), some (.int x1), some (.ref x2), some (.int x3), some (.int x4), some (.int q2)]) (S2 := []) (s2 := (l, r, h, j)) rfl (fun _ _ => rfl) e (fun c5 e => ?_) (fun c5 e => ?_)
        · refine g_run 1 59 [some (.ref x0), some (.int x1), some (.ref x2), some (.int x3), some (.int x4), some (.int q2)] [.int (0 : Int32)] (fun _ => rfl) ?_
          cases e
          exact g_retZ rfl (y := (0 : Int32)) rfl rfl
        · refine g_run 1 39 [some (.ref x0), some (.int x1), some (.ref x2), some (.int x3), some (.int x4), some (.int q2)] [.ref x0] (fun _ => rfl) ?_
          refine g_getO 42 rfl rfl (Fi_l kx0) ?_
          refine g_run 2 45 [some (.ref x0), some (.int x1), some (.ref x2), some (.int x3), some (.int x4), some (.int q2)] [.int q2, .int x1, va_rf (r x0 6)] (fun _ => rfl) ?_
          obtain ⟨p6, ep6, e⟩ := g_bd e
          have kp6 := Fi_n6 kx0 _ ep6
          rw [ep6]
          obtain ⟨q7, eq7, e⟩ := g_bd e
          refine g_cV 48 rfl rfl rfl rfl rfl (Pk_l kp6) (Pk_stage_s kp6 eq7) ?_
          refine g_run 3 52 [some (.ref x0), some (.int x1), some (.ref x2), some (.int x3), some (.int x4), some (.int q2)] [.int (0 : Int32), .int x4, .ref x2, .int q7] (fun _ => rfl) ?_
          obtain ⟨q8, eq8, e⟩ := g_bd e
          refine g_cV 55 rfl rfl rfl rfl rfl (Rw_l kx2) (Rw_get_s kx2 eq8) ?_
          refine g_if (p1 := 60) (L1 := [some (.ref x0), some (.int x1), some (.ref x2), some (.int x3), some (.int x4), some (.int q2)]) (S1 := []) (s1 := (l, r, h, j)) (p2 := 58) (L2 := [some (.ref x0), some (.int x1), some (.ref x2), some (.int x3), some (.int x4), some (.int q2)]) (S2 := []) (s2 := (l, r, h, j)) rfl (fun _ _ => rfl) e (fun c9 e => ?_) (fun c9 e => ?_)
          · refine g_run 2 3 [some (.ref x0), some (.int x1), some (.ref x2), some (.int x3), some (.int (x4 + (1 : Int32))), some (.int q2)] [] (fun _ => rfl) ?_
            exact ih _ _ e
          · refine g_run 1 59 [some (.ref x0), some (.int x1), some (.ref x2), some (.int x3), some (.int x4), some (.int q2)] [.int (0 : Int32)] (fun _ => rfl) ?_
            cases e
            exact g_retZ rfl (y := (0 : Int32)) rfl rfl
      · refine g_run 2 3 [some (.ref x0), some (.int x1), some (.ref x2), some (.int x3), some (.int (x4 + (1 : Int32))), some (.int q2)] [] (fun _ => rfl) ?_
        exact ih _ _ e
theorem Fi_isFit_s {X : Nat × (Nat → Int32)} {l : List (Nat × Nat)} {r : am_R} {h : am_F} {j : am_J} {a : Nat} {x1 : Int32} {x2 : Nat} {x3 : Int32} (ka : Fi_K l r a) (kx2 : Rw_K l r x2) {q : Int32} (e : Fi_isFit l r a x1 x2 x3 h = some q) : Call X 19 [.ref a, .int x1, .ref x2, .int x3] (l, r, h, j) (some (.int q), (l, r, h, j)) := by
  unfold Fi_isFit at e
  refine ⟨Nat.le_of_ble_eq_true rfl, ?_⟩
  show Ev X 19 0 [some (.ref a), some (.int x1), some (.ref x2), some (.int x3), none, none] [] (l, r, h, j) _
  refine g_run 2 3 [some (.ref a), some (.int x1), some (.ref x2), some (.int x3), some (.int (0 : Int32)), none] [] (fun _ => rfl) ?_
  exact Fi_isFit_l3_s ka kx2 _ _ _ e
def Fi_weigh (l : List (Nat × Nat)) (r : am_R) (a : Nat) (x1 : Int32) (x2 : Int32) (x3 : Nat) (x4 : Int32) (h : am_F) : Option (am_F) :=
  if (8 : Int32) ≤ (h a 4) then
    some h
  else
    (Fi_isFit l r a x1 x3 x4 h).bind fun q2 =>
    if q2 = 0 then
      some h
    else
      (g_ix (h a 4) 8).bind fun k4 =>
      (g_ix ((am_up h (a + 2) k4 x1) a 4) 8).bind fun k5 =>
      some (am_up (am_up (am_up (am_up h (a + 2) k4 x1) (a + 3) k5 x2) a 4 (((am_up (am_up h (a + 2) k4 x1) (a + 3) k5 x2) a 4) + (1 : Int32))) a 0 (((am_up (am_up (am_up h (a + 2) k4 x1) (a + 3) k5 x2) a 4 (((am_up (am_up h (a + 2) k4 x1) (a + 3) k5 x2) a 4) + (1 : Int32))) a 0) + x2))
theorem Fi_weigh_s {X : Nat × (Nat → Int32)} {l : List (Nat × Nat)} {r : am_R} {h : am_F} {j : am_J} {a : Nat} {x1 : Int32} {x2 : Int32} {x3 : Nat} {x4 : Int32} (ka : Fi_K l r a) (kx3 : Rw_K l r x3) {q : am_F} (e : Fi_weigh l r a x1 x2 x3 x4 h = some q) : Call X 18 [.ref a, .int x1, .int x2, .ref x3, .int x4] (l, r, h, j) (none, (l, r, q, j)) := by
  unfold Fi_weigh at e
  refine ⟨Nat.le_of_ble_eq_true rfl, ?_⟩
  show Ev X 18 0 [some (.ref a), some (.int x1), some (.int x2), some (.ref x3), some (.int x4)] [] (l, r, h, j) _
  refine g_run 1 1 [some (.ref a), some (.int x1), some (.int x2), some (.ref x3), some (.int x4)] [.ref a] (fun _ => rfl) ?_
  refine g_getI 4 rfl rfl (Fi_l ka) ?_
  refine g_run 1 6 [some (.ref a), some (.int x1), some (.int x2), some (.ref x3), some (.int x4)] [.int (8 : Int32), .int (h a 4)] (fun _ => rfl) ?_
  refine g_if (p1 := 20) (L1 := [some (.ref a), some (.int x1), some (.int x2), some (.ref x3), some (.int x4)]) (S1 := []) (s1 := (l, r, h, j)) (p2 := 9) (L2 := [some (.ref a), some (.int x1), some (.int x2), some (.ref x3), some (.int x4)]) (S2 := []) (s2 := (l, r, h, j)) rfl (fun _ _ => rfl) e (fun c1 e => ?_) (fun c1 e => ?_)
  · cases e
    exact g_ret rfl (fun _ _ => rfl)
  · refine g_run 4 14 [some (.ref a), some (.int x1), some (.int x2), some (.ref x3), some (.int x4)] [.int x4, .ref x3, .int x1, .ref a] (fun _ => rfl) ?_
    obtain ⟨q2, eq2, e⟩ := g_bd e
    refine g_cV 17 rfl rfl rfl rfl rfl (Fi_l ka) (Fi_isFit_s ka kx3 eq2) ?_
    refine g_if (p1 := 20) (L1 := [some (.ref a), some (.int x1), some (.int x2), some (.ref x3), some (.int x4)]) (S1 := []) (s1 := (l, r, h, j)) (p2 := 21) (L2 := [some (.ref a), some (.int x1), some (.int x2), some (.ref x3), some (.int x4)]) (S2 := []) (s2 := (l, r, h, j)) rfl (fun _ _ => rfl) e (fun c3 e => ?_) (fun c3 e => ?_)
    · cases e
      exact g_ret rfl (fun _ _ => rfl)
    · refine g_run 1 22 [some (.ref a), some (.int x1), some (.int x2), some (.ref x3), some (.int x4)] [.ref a] (fun _ => rfl) ?_
      refine g_getA 25 rfl rfl (Fi_l ka) (Fi_r2 ka) ?_
      refine g_run 1 26 [some (.ref a), some (.int x1), some (.int x2), some (.ref x3), some (.int x4)] [.ref a, .ref (a + 2)] (fun _ => rfl) ?_
      refine g_getI 29 rfl rfl (Fi_l ka) ?_
      refine g_run 1 30 [some (.ref a), some (.int x1), some (.int x2), some (.ref x3), some (.int x4)] [.int x1, .int (h a 4), .ref (a + 2)] (fun _ => rfl) ?_
      obtain ⟨k4, ek4, e⟩ := g_bd e
      refine g_iast 31 rfl rfl (Fi_k2 ka) ek4 ?_
      refine g_run 1 32 [some (.ref a), some (.int x1), some (.int x2), some (.ref x3), some (.int x4)] [.ref a] (fun _ => rfl) ?_
      refine g_getA 35 rfl rfl (Fi_l ka) (Fi_r3 ka) ?_
      refine g_run 1 36 [some (.ref a), some (.int x1), some (.int x2), some (.ref x3), some (.int x4)] [.ref a, .ref (a + 3)] (fun _ => rfl) ?_
      refine g_getI 39 rfl rfl (Fi_l ka) ?_
      refine g_run 1 40 [some (.ref a), some (.int x1), some (.int x2), some (.ref x3), some (.int x4)] [.int x2, .int ((am_up h (a + 2) k4 x1) a 4), .ref (a + 3)] (fun _ => rfl) ?_
      obtain ⟨k5, ek5, e⟩ := g_bd e
      refine g_iast 41 rfl rfl (Fi_k3 ka) ek5 ?_
      refine g_run 2 43 [some (.ref a), some (.int x1), some (.int x2), some (.ref x3), some (.int x4)] [.ref a, .ref a] (fun _ => rfl) ?_
      refine g_getI 46 rfl rfl (Fi_l ka) ?_
      refine g_run 2 48 [some (.ref a), some (.int x1), some (.int x2), some (.ref x3), some (.int x4)] [.int (((am_up (am_up h (a + 2) k4 x1) (a + 3) k5 x2) a 4) + (1 : Int32)), .ref a] (fun _ => rfl) ?_
      refine g_putI 51 rfl rfl (Fi_l ka) ?_
      refine g_run 2 53 [some (.ref a), some (.int x1), some (.int x2), some (.ref x3), some (.int x4)] [.ref a, .ref a] (fun _ => rfl) ?_
      refine g_getI 56 rfl rfl (Fi_l ka) ?_
      refine g_run 2 58 [some (.ref a), some (.int x1), some (.int x2), some (.ref x3), some (.int x4)] [.int (((am_up (am_up (am_up h (a + 2) k4 x1) (a + 3) k5 x2) a 4 (((am_up (am_up h (a + 2) k4 x1) (a + 3) k5 x2) a 4) + (1 : Int32))) a 0) + x2), .ref a] (fun _ => rfl) ?_
      refine g_putI 61 rfl rfl (Fi_l ka) ?_
      cases e
      exact g_ret rfl (fun _ _ => rfl)
def Fi_find_l23 (l : List (Nat × Nat)) (r : am_R) (x0 : Nat) (x1 : Nat) (x2 : Nat) (x3 : Int32) : Nat → Int32 → am_F → Option (am_F)
  | 0, _, _ => none
  | n + 1, x4, h =>
    if (h x2 3) ≤ x4 then
      some h
    else
      (Rw_get l r x2 x4 (1 : Int32) h).bind fun q3 =>
      (if q3 = x3 then
          (Rw_get l r x2 x4 (2 : Int32) h).bind fun q6 =>
          some (am_up h x0 5 (if (h x0 5) < q6 then q6 else (h x0 5)))
        else
          some h : Option (am_F)).bind fun q7 =>
      Fi_find_l23 l r x0 x1 x2 x3 n (x4 + (1 : Int32)) q7
def Fi_find_l73 (l : List (Nat × Nat)) (r : am_R) (x0 : Nat) (x1 : Nat) (x2 : Nat) (x3 : Int32) : Nat → Int32 → Int32 → am_F → Option (Int32 × am_F)
  | 0, _, _, _ => none
  | n + 1, x4, x5, h =>
    if (h (x1 + 7) 3) ≤ x5 then
      some (x4, h)
    else
      (Rw_get l r (x1 + 7) x5 (0 : Int32) h).bind fun q11 =>
      (if q11 = x3 then
          (Rw_get l r (x1 + 7) x5 (1 : Int32) h).bind fun q14 =>
          (Rw_get l r (x1 + 7) x5 (2 : Int32) h).bind fun q15 =>
          (Fi_weigh l r x0 q14 q15 x2 x3 h).bind fun q16 =>
          some ((0 : Int32), q16)
        else
          some (x4, h) : Option (Int32 × am_F)).bind fun q17 =>
      Fi_find_l73 l r x0 x1 x2 x3 n q17.1 (x5 + (1 : Int32)) q17.2
def Fi_find (l : List (Nat × Nat)) (r : am_R) (a : Nat) (x1 : Nat) (x2 : Nat) (x3 : Int32) (h : am_F) : Option (am_F × am_R) :=
  (Fi_find_l23 l (am_up r a 6 (some x1)) a x1 x2 x3 g_fu (0 : Int32) (am_up (am_up (am_up h a 0 (0 : Int32)) a 4 (0 : Int32)) a 5 (0 : Int32))).bind fun q8 =>
  (Fi_find_l73 l (am_up r a 6 (some x1)) a x1 x2 x3 g_fu (1 : Int32) (0 : Int32) q8).bind fun q18 =>
  if q18.1 = 0 then
    some (q18.2, (am_up r a 6 (some x1)))
  else
    if (Pk_hasBench x1 x3 q18.2) = 0 then
      some (q18.2, (am_up r a 6 (some x1)))
    else
      (g_ix x3 6).bind fun k22 =>
      (Fi_weigh l (am_up r a 6 (some x1)) a (q18.2 (x1 + 4) k22) (1 : Int32) x2 x3 q18.2).bind fun q23 =>
      some (q23, (am_up r a 6 (some x1)))
theorem Fi_find_l23_s {X : Nat × (Nat → Int32)} {l : List (Nat × Nat)} {r : am_R} {x0 : Nat} {x1 : Nat} {x2 : Nat} {x3 : Int32} {j : am_J} {q : am_F} {R : Option Value × am_S} (kx0 : Fi_K l r x0) (kx1 : Pk_K l r x1) (kx2 : Rw_K l r x2) (hx : ∀ (y4 : Int32) , Ev X 17 67 [some (.ref x0), some (.ref x1), some (.ref x2), some (.int x3), some (.int y4), none] [] (l, r, q, j) R) : ∀ (n : Nat) (x4 : Int32) (h : am_F), Fi_find_l23 l r x0 x1 x2 x3 n x4 h = some q → Ev X 17 23 [some (.ref x0), some (.ref x1), some (.ref x2), some (.int x3), some (.int x4), none] [] (l, r, h, j) R := by
  intro n
  induction n with
  | zero => intro x4 h e; cases e
  | succ n ih =>
    intro x4 h e
    unfold Fi_find_l23 at e
    refine g_run 2 26 [some (.ref x0), some (.ref x1), some (.ref x2), some (.int x3), some (.int x4), none] [.ref x2, .int x4] (fun _ => rfl) ?_
    refine g_getI 29 rfl rfl (Rw_l kx2) ?_
    refine g_if (p1 := 67) (L1 := [some (.ref x0), some (.ref x1), some (.ref x2), some (.int x3), some (.int x4), none]) (S1 := []) (s1 := (l, r, h, j)) (p2 := 32) (L2 := [some (.ref x0), some (.ref x1), some (.ref x2), some (.int x3), some (.int x4), none]) (S2 := []) (s2 := (l, r, h, j)) rfl (fun _ _ => rfl) e (fun c2 e => ?_) (fun c2 e => ?_)
    · cases e
      exact hx _
    · refine g_run 3 36 [some (.ref x0), some (.ref x1), some (.ref x2), some (.int x3), some (.int x4), none] [.int (1 : Int32), .int x4, .ref x2] (fun _ => rfl) ?_
      obtain ⟨q3, eq3, e⟩ := g_bd e
      refine g_cV 39 rfl rfl rfl rfl rfl (Rw_l kx2) (Rw_get_s kx2 eq3) ?_
      refine g_run 1 40 [some (.ref x0), some (.ref x1), some (.ref x2), some (.int x3), some (.int x4), none] [.int x3, .int q3] (fun _ => rfl) ?_
      obtain ⟨q7, eq7, e⟩ := g_bd e
      have hjq7 : ∀ (_ : True), Ev X 17 61 [some (.ref x0), some (.ref x1), some (.ref x2), some (.int x3), some (.int x4), none] [] (l, r, q7, j) R := by
        intro _
        refine g_run 2 23 [some (.ref x0), some (.ref x1), some (.ref x2), some (.int x3), some (.int (x4 + (1 : Int32))), none] [] (fun _ => rfl) ?_
        exact ih _ _ e
      replace e := eq7
      refine g_if (p1 := 43) (L1 := [some (.ref x0), some (.ref x1), some (.ref x2), some (.int x3), some (.int x4), none]) (S1 := []) (s1 := (l, r, h, j)) (p2 := 61) (L2 := [some (.ref x0), some (.ref x1), some (.ref x2), some (.int x3), some (.int x4), none]) (S2 := []) (s2 := (l, r, h, j)) rfl (fun _ _ => rfl) e (fun c4 e => ?_) (fun c4 e => ?_)
      · refine g_run 2 45 [some (.ref x0), some (.ref x1), some (.ref x2), some (.int x3), some (.int x4), none] [.ref x0, .ref x0] (fun _ => rfl) ?_
        refine g_getI 48 rfl rfl (Fi_l kx0) ?_
        refine g_run 3 52 [some (.ref x0), some (.ref x1), some (.ref x2), some (.int x3), some (.int x4), none] [.int (2 : Int32), .int x4, .ref x2, .int (h x0 5), .ref x0] (fun _ => rfl) ?_
        obtain ⟨q6, eq6, e⟩ := g_bd e
        refine g_cV 55 rfl rfl rfl rfl rfl (Rw_l kx2) (Rw_get_s kx2 eq6) ?_
        refine g_run 1 58 [some (.ref x0), some (.ref x1), some (.ref x2), some (.int x3), some (.int x4), none] [.int (if (h x0 5) < q6 then q6 else (h x0 5)), .ref x0] (fun _ => rfl) ?_
        refine g_putI 61 rfl rfl (Fi_l kx0) ?_
        cases e
        exact hjq7 trivial
      · cases e
        exact hjq7 trivial
theorem Fi_find_l73_s {X : Nat × (Nat → Int32)} {l : List (Nat × Nat)} {r : am_R} {x0 : Nat} {x1 : Nat} {x2 : Nat} {x3 : Int32} {j : am_J} {q : Int32 × am_F} {R : Option Value × am_S} (kx0 : Fi_K l r x0) (kx1 : Pk_K l r x1) (kx2 : Rw_K l r x2) (hx : ∀ (y5 : Int32) , Ev X 17 134 [some (.ref x0), some (.ref x1), some (.ref x2), some (.int x3), some (.int q.1), some (.int y5)] [] (l, r, q.2, j) R) : ∀ (n : Nat) (x4 : Int32) (x5 : Int32) (h : am_F), Fi_find_l73 l r x0 x1 x2 x3 n x4 x5 h = some q → Ev X 17 73 [some (.ref x0), some (.ref x1), some (.ref x2), some (.int x3), some (.int x4), some (.int x5)] [] (l, r, h, j) R := by
  intro n
  induction n with
  | zero => intro x4 x5 h e; cases e
  | succ n ih =>
    intro x4 x5 h e
    unfold Fi_find_l73 at e
    refine g_run 2 76 [some (.ref x0), some (.ref x1), some (.ref x2), some (.int x3), some (.int x4), some (.int x5)] [.ref x1, .int x5] (fun _ => rfl) ?_
    refine g_getA 79 rfl rfl (Pk_l kx1) (Pk_r10 kx1) ?_
    refine g_getI 82 rfl rfl (Rw_l (Pk_k10 kx1)) ?_
    refine g_if (p1 := 134) (L1 := [some (.ref x0), some (.ref x1), some (.ref x2), some (.int x3), some (.int x4), some (.int x5)]) (S1 := []) (s1 := (l, r, h, j)) (p2 := 85) (L2 := [some (.ref x0), some (.ref x1), some (.ref x2), some (.int x3), some (.int x4), some (.int x5)]) (S2 := []) (s2 := (l, r, h, j)) rfl (fun _ _ => rfl) e (fun c10 e => ?_) (fun c10 e => ?_)
    · cases e
      exact hx _
    · refine g_run 1 86 [some (.ref x0), some (.ref x1), some (.ref x2), some (.int x3), some (.int x4), some (.int x5)] [.ref x1] (fun _ => rfl) ?_
      refine g_getA 89 rfl rfl (Pk_l kx1) (Pk_r10 kx1) ?_
      refine g_run 2 92 [some (.ref x0), some (.ref x1), some (.ref x2), some (.int x3), some (.int x4), some (.int x5)] [.int (0 : Int32), .int x5, .ref (x1 + 7)] (fun _ => rfl) ?_
      obtain ⟨q11, eq11, e⟩ := g_bd e
      refine g_cV 95 rfl rfl rfl rfl rfl (Rw_l (Pk_k10 kx1)) (Rw_get_s (Pk_k10 kx1) eq11) ?_
      refine g_run 1 96 [some (.ref x0), some (.ref x1), some (.ref x2), some (.int x3), some (.int x4), some (.int x5)] [.int x3, .int q11] (fun _ => rfl) ?_
      obtain ⟨q17, eq17, e⟩ := g_bd e
      have hjq17 : ∀ (_ : True), Ev X 17 128 [some (.ref x0), some (.ref x1), some (.ref x2), some (.int x3), some (.int q17.1), some (.int x5)] [] (l, r, q17.2, j) R := by
        intro _
        refine g_run 2 73 [some (.ref x0), some (.ref x1), some (.ref x2), some (.int x3), some (.int q17.1), some (.int (x5 + (1 : Int32)))] [] (fun _ => rfl) ?_
        exact ih _ _ _ e
      replace e := eq17
      refine g_if (p1 := 99) (L1 := [some (.ref x0), some (.ref x1), some (.ref x2), some (.int x3), some (.int x4), some (.int x5)]) (S1 := []) (s1 := (l, r, h, j)) (p2 := 128) (L2 := [some (.ref x0), some (.ref x1), some (.ref x2), some (.int x3), some (.int x4), some (.int x5)]) (S2 := []) (s2 := (l, r, h, j)) rfl (fun _ _ => rfl) e (fun c12 e => ?_) (fun c12 e => ?_)
      · refine g_run 4 104 [some (.ref x0), some (.ref x1), some (.ref x2), some (.int x3), some (.int (0 : Int32)), some (.int x5)] [.ref x1, .ref x0] (fun _ => rfl) ?_
        refine g_getA 107 rfl rfl (Pk_l kx1) (Pk_r10 kx1) ?_
        refine g_run 2 110 [some (.ref x0), some (.ref x1), some (.ref x2), some (.int x3), some (.int (0 : Int32)), some (.int x5)] [.int (1 : Int32), .int x5, .ref (x1 + 7), .ref x0] (fun _ => rfl) ?_
        obtain ⟨q14, eq14, e⟩ := g_bd e
        refine g_cV 113 rfl rfl rfl rfl rfl (Rw_l (Pk_k10 kx1)) (Rw_get_s (Pk_k10 kx1) eq14) ?_
        refine g_run 1 114 [some (.ref x0), some (.ref x1), some (.ref x2), some (.int x3), some (.int (0 : Int32)), some (.int x5)] [.ref x1, .int q14, .ref x0] (fun _ => rfl) ?_
        refine g_getA 117 rfl rfl (Pk_l kx1) (Pk_r10 kx1) ?_
        refine g_run 2 120 [some (.ref x0), some (.ref x1), some (.ref x2), some (.int x3), some (.int (0 : Int32)), some (.int x5)] [.int (2 : Int32), .int x5, .ref (x1 + 7), .int q14, .ref x0] (fun _ => rfl) ?_
        obtain ⟨q15, eq15, e⟩ := g_bd e
        refine g_cV 123 rfl rfl rfl rfl rfl (Rw_l (Pk_k10 kx1)) (Rw_get_s (Pk_k10 kx1) eq15) ?_
        refine g_run 2 125 [some (.ref x0), some (.ref x1), some (.ref x2), some (.int x3), some (.int (0 : Int32)), some (.int x5)] [.int x3, .ref x2, .int q15, .int q14, .ref x0] (fun _ => rfl) ?_
        obtain ⟨q16, eq16, e⟩ := g_bd e
        refine g_cVv 128 rfl rfl rfl rfl rfl (Fi_l kx0) (Fi_weigh_s kx0 kx2 eq16) ?_
        cases e
        exact hjq17 trivial
      · cases e
        exact hjq17 trivial
theorem Fi_find_s {X : Nat × (Nat → Int32)} {l : List (Nat × Nat)} {r : am_R} {h : am_F} {j : am_J} {a : Nat} {x1 : Nat} {x2 : Nat} {x3 : Int32} (ka : Fi_K l r a) (kx1 : Pk_K l r x1) (kx2 : Rw_K l r x2) {q : am_F × am_R} (e : Fi_find l r a x1 x2 x3 h = some q) : Call X 17 [.ref a, .ref x1, .ref x2, .int x3] (l, r, h, j) (none, (l, q.2, q.1, j)) := by
  unfold Fi_find at e
  refine ⟨Nat.le_of_ble_eq_true rfl, ?_⟩
  show Ev X 17 0 [some (.ref a), some (.ref x1), some (.ref x2), some (.int x3), none, none] [] (l, r, h, j) _
  refine g_run 2 2 [some (.ref a), some (.ref x1), some (.ref x2), some (.int x3), none, none] [.ref x1, .ref a] (fun _ => rfl) ?_
  refine g_putR 5 rfl rfl (Fi_l ka) ?_
  have kp1 := g_kp_park ka kx1
  refine g_run 2 7 [some (.ref a), some (.ref x1), some (.ref x2), some (.int x3), none, none] [.int (0 : Int32), .ref a] (fun _ => rfl) ?_
  refine g_putI 10 rfl rfl (Fi_l (g_kp_Fi kp1 ka)) ?_
  refine g_run 2 12 [some (.ref a), some (.ref x1), some (.ref x2), some (.int x3), none, none] [.int (0 : Int32), .ref a] (fun _ => rfl) ?_
  refine g_putI 15 rfl rfl (Fi_l (g_kp_Fi kp1 ka)) ?_
  refine g_run 2 17 [some (.ref a), some (.ref x1), some (.ref x2), some (.int x3), none, none] [.int (0 : Int32), .ref a] (fun _ => rfl) ?_
  refine g_putI 20 rfl rfl (Fi_l (g_kp_Fi kp1 ka)) ?_
  refine g_run 2 23 [some (.ref a), some (.ref x1), some (.ref x2), some (.int x3), some (.int (0 : Int32)), none] [] (fun _ => rfl) ?_
  obtain ⟨q8, eq8, e⟩ := g_bd e
  refine Fi_find_l23_s (g_kp_Fi kp1 ka) (g_kp_Pk kp1 kx1) (g_kp_Rw kp1 kx2) (fun y9 => ?_) _ _ _ eq8
  refine g_run 4 73 [some (.ref a), some (.ref x1), some (.ref x2), some (.int x3), some (.int (1 : Int32)), some (.int (0 : Int32))] [] (fun _ => rfl) ?_
  obtain ⟨q18, eq18, e⟩ := g_bd e
  refine Fi_find_l73_s (g_kp_Fi kp1 ka) (g_kp_Pk kp1 kx1) (g_kp_Rw kp1 kx2) (fun y19 => ?_) _ _ _ _ eq18
  refine g_run 1 136 [some (.ref a), some (.ref x1), some (.ref x2), some (.int x3), some (.int q18.1), some (.int y19)] [.int q18.1] (fun _ => rfl) ?_
  refine g_if (p1 := 160) (L1 := [some (.ref a), some (.ref x1), some (.ref x2), some (.int x3), some (.int q18.1), some (.int y19)]) (S1 := []) (s1 := (l, (am_up r a 6 (some x1)), q18.2, j)) (p2 := 139) (L2 := [some (.ref a), some (.ref x1), some (.ref x2), some (.int x3), some (.int q18.1), some (.int y19)]) (S2 := []) (s2 := (l, (am_up r a 6 (some x1)), q18.2, j)) rfl (fun _ _ => rfl) e (fun c20 e => ?_) (fun c20 e => ?_)
  · cases e
    exact g_ret rfl (fun _ _ => rfl)
  · refine g_run 2 141 [some (.ref a), some (.ref x1), some (.ref x2), some (.int x3), some (.int q18.1), some (.int y19)] [.int x3, .ref x1] (fun _ => rfl) ?_
    refine g_cV 144 rfl rfl rfl rfl rfl (Pk_l (g_kp_Pk kp1 kx1)) (Pk_hasBench_s (g_kp_Pk kp1 kx1)) ?_
    refine g_if (p1 := 160) (L1 := [some (.ref a), some (.ref x1), some (.ref x2), some (.int x3), some (.int q18.1), some (.int y19)]) (S1 := []) (s1 := (l, (am_up r a 6 (some x1)), q18.2, j)) (p2 := 147) (L2 := [some (.ref a), some (.ref x1), some (.ref x2), some (.int x3), some (.int q18.1), some (.int y19)]) (S2 := []) (s2 := (l, (am_up r a 6 (some x1)), q18.2, j)) rfl (fun _ _ => rfl) e (fun c21 e => ?_) (fun c21 e => ?_)
    · cases e
      exact g_ret rfl (fun _ _ => rfl)
    · refine g_run 2 149 [some (.ref a), some (.ref x1), some (.ref x2), some (.int x3), some (.int q18.1), some (.int y19)] [.ref x1, .ref a] (fun _ => rfl) ?_
      refine g_getA 152 rfl rfl (Pk_l (g_kp_Pk kp1 kx1)) (Pk_r7 (g_kp_Pk kp1 kx1)) ?_
      refine g_run 1 153 [some (.ref a), some (.ref x1), some (.ref x2), some (.int x3), some (.int q18.1), some (.int y19)] [.int x3, .ref (x1 + 4), .ref a] (fun _ => rfl) ?_
      obtain ⟨k22, ek22, e⟩ := g_bd e
      refine g_iald 154 rfl rfl (Pk_k7 (g_kp_Pk kp1 kx1)) ek22 ?_
      refine g_run 3 157 [some (.ref a), some (.ref x1), some (.ref x2), some (.int x3), some (.int q18.1), some (.int y19)] [.int x3, .ref x2, .int (1 : Int32), .int (q18.2 (x1 + 4) k22), .ref a] (fun _ => rfl) ?_
      obtain ⟨q23, eq23, e⟩ := g_bd e
      refine g_cVv 160 rfl rfl rfl rfl rfl (Fi_l (g_kp_Fi kp1 ka)) (Fi_weigh_s (g_kp_Fi kp1 ka) (g_kp_Rw kp1 kx2) eq23) ?_
      cases e
      exact g_ret rfl (fun _ _ => rfl)
theorem Fi_find_kp {l : List (Nat × Nat)} {r : am_R} {h : am_F} {a x1 x2 : Nat} {x3 : Int32} {q : am_F × am_R} (ka : Fi_K l r a) (kx1 : Pk_K l r x1) (_ : Rw_K l r x2) (e : Fi_find l r a x1 x2 x3 h = some q) : g_kp l r q.2 := by
  unfold Fi_find at e
  obtain ⟨_, _, e⟩ := g_bd e
  obtain ⟨_, _, e⟩ := g_bd e
  repeat' split at e
  · cases e; exact g_kp_park ka kx1
  · cases e; exact g_kp_park ka kx1
  · obtain ⟨_, _, e⟩ := g_bd e
    obtain ⟨_, _, e⟩ := g_bd e
    cases e; exact g_kp_park ka kx1
def Fi_weighStages_l18 (l : List (Nat × Nat)) (r : am_R) (x0 : Nat) (x1 : Int32) : Nat → Int32 → am_F → Option (am_F)
  | 0, _, _ => none
  | n + 1, x2, h =>
    if (h x0 4) ≤ x2 then
      some h
    else
      if (8 : Int32) ≤ x2 then
        some h
      else
        (g_ix x2 8).bind fun k5 =>
        (r x0 6).bind fun p6 =>
        (Pk_stage p6 (h (x0 + 2) k5) x1 h).bind fun q7 =>
        (if q7 < 0 then
            some h
          else
            if (2 : Int32) < q7 then
              some h
            else
              (g_ix q7 3).bind fun k11 =>
              (g_ix x2 8).bind fun k12 =>
              (g_ix q7 3).bind fun k13 =>
              some (am_up h (x0 + 1) k13 ((h (x0 + 1) k11) + (h (x0 + 3) k12))) : Option (am_F)).bind fun q14 =>
        Fi_weighStages_l18 l r x0 x1 n (x2 + (1 : Int32)) q14
def Fi_weighStages (l : List (Nat × Nat)) (r : am_R) (a : Nat) (x1 : Int32) (h : am_F) : Option (am_F) :=
  (Ar_fill l r (a + 1) (0 : Int32) h).bind fun q1 =>
  g_on (r a 6) (
    some q1) (fun p2 =>
    (Fi_weighStages_l18 l r a x1 g_fu (0 : Int32) q1).bind fun q15 =>
    some q15)
theorem Fi_weighStages_l18_s {X : Nat × (Nat → Int32)} {l : List (Nat × Nat)} {r : am_R} {x0 : Nat} {x1 : Int32} {j : am_J} {q : am_F} {R : Option Value × am_S} (kx0 : Fi_K l r x0) (hx : ∀ (d3 : Option Value) (y2 : Int32) , Ev X 20 77 [some (.ref x0), some (.int x1), some (.int y2), d3] [] (l, r, q, j) R) : ∀ (n : Nat) (x2 : Int32) (h : am_F) (d3 : Option Value), Fi_weighStages_l18 l r x0 x1 n x2 h = some q → Ev X 20 18 [some (.ref x0), some (.int x1), some (.int x2), d3] [] (l, r, h, j) R := by
  intro n
  induction n with
  | zero => intro x2 h d3 e; cases e
  | succ n ih =>
    intro x2 h d3 e
    unfold Fi_weighStages_l18 at e
    refine g_run 2 20 [some (.ref x0), some (.int x1), some (.int x2), d3] [.ref x0, .int x2] (fun _ => rfl) ?_
    refine g_getI 23 rfl rfl (Fi_l kx0) ?_
    refine g_if (p1 := 77) (L1 := [some (.ref x0), some (.int x1), some (.int x2), d3]) (S1 := []) (s1 := (l, r, h, j)) (p2 := 26) (L2 := [some (.ref x0), some (.int x1), some (.int x2), d3]) (S2 := []) (s2 := (l, r, h, j)) rfl (fun _ _ => rfl) e (fun c3 e => ?_) (fun c3 e => ?_)
    · cases e
      exact hx _ _
    · refine g_run 2 29 [some (.ref x0), some (.int x1), some (.int x2), d3] [.int (8 : Int32), .int x2] (fun _ => rfl) ?_
      refine g_if (p1 := 77) (L1 := [some (.ref x0), some (.int x1), some (.int x2), d3]) (S1 := []) (s1 := (l, r, h, j)) (p2 := 32) (L2 := [some (.ref x0), some (.int x1), some (.int x2), d3]) (S2 := []) (s2 := (l, r, h, j)) rfl (fun _ _ => rfl) e (fun c4 e => ?_) (fun c4 e => ?_)
      · cases e
        exact hx _ _
      · refine g_run 1 33 [some (.ref x0), some (.int x1), some (.int x2), d3] [.ref x0] (fun _ => rfl) ?_
        refine g_getO 36 rfl rfl (Fi_l kx0) ?_
        refine g_run 1 37 [some (.ref x0), some (.int x1), some (.int x2), d3] [.ref x0, va_rf (r x0 6)] (fun _ => rfl) ?_
        refine g_getA 40 rfl rfl (Fi_l kx0) (Fi_r2 kx0) ?_
        refine g_run 1 41 [some (.ref x0), some (.int x1), some (.int x2), d3] [.int x2, .ref (x0 + 2), va_rf (r x0 6)] (fun _ => rfl) ?_
        obtain ⟨k5, ek5, e⟩ := g_bd e
        refine g_iald 42 rfl rfl (Fi_k2 kx0) ek5 ?_
        refine g_run 1 43 [some (.ref x0), some (.int x1), some (.int x2), d3] [.int x1, .int (h (x0 + 2) k5), va_rf (r x0 6)] (fun _ => rfl) ?_
        obtain ⟨p6, ep6, e⟩ := g_bd e
        have kp6 := Fi_n6 kx0 _ ep6
        rw [ep6]
        obtain ⟨q7, eq7, e⟩ := g_bd e
        refine g_cV 46 rfl rfl rfl rfl rfl (Pk_l kp6) (Pk_stage_s kp6 eq7) ?_
        refine g_run 2 48 [some (.ref x0), some (.int x1), some (.int x2), some (.int q7)] [.int q7] (fun _ => rfl) ?_
        obtain ⟨q14, eq14, e⟩ := g_bd e
        have hjq14 : ∀ (_ : True), Ev X 20 71 [some (.ref x0), some (.int x1), some (.int x2), some (.int q7)] [] (l, r, q14, j) R := by
          intro _
          refine g_run 2 18 [some (.ref x0), some (.int x1), some (.int (x2 + (1 : Int32))), some (.int q7)] [] (fun _ => rfl) ?_
          exact ih _ _ _ e
        replace e := eq14
        refine g_if (p1 := 71) (L1 := [some (.ref x0), some (.int x1), some (.int x2), some (.int q7)]) (S1 := []) (s1 := (l, r, h, j)) (p2 := 51) (L2 := [some (.ref x0), some (.int x1), some (.int x2), some (.int q7)]) (S2 := []) (s2 := (l, r, h, j)) rfl (fun _ _ => rfl) e (fun c8 e => ?_) (fun c8 e => ?_)
        · cases e
          exact hjq14 trivial
        · refine g_run 2 53 [some (.ref x0), some (.int x1), some (.int x2), some (.int q7)] [.int (2 : Int32), .int q7] (fun _ => rfl) ?_
          refine g_if (p1 := 71) (L1 := [some (.ref x0), some (.int x1), some (.int x2), some (.int q7)]) (S1 := []) (s1 := (l, r, h, j)) (p2 := 56) (L2 := [some (.ref x0), some (.int x1), some (.int x2), some (.int q7)]) (S2 := []) (s2 := (l, r, h, j)) rfl (fun _ _ => rfl) e (fun c10 e => ?_) (fun c10 e => ?_)
          · cases e
            exact hjq14 trivial
          · refine g_run 1 57 [some (.ref x0), some (.int x1), some (.int x2), some (.int q7)] [.ref x0] (fun _ => rfl) ?_
            refine g_getA 60 rfl rfl (Fi_l kx0) (Fi_r1 kx0) ?_
            refine g_run 2 62 [some (.ref x0), some (.int x1), some (.int x2), some (.int q7)] [.int q7, .ref (x0 + 1), .int q7, .ref (x0 + 1)] (fun _ => rfl) ?_
            obtain ⟨k11, ek11, e⟩ := g_bd e
            refine g_iald 63 rfl rfl (Fi_k1 kx0) ek11 ?_
            refine g_run 1 64 [some (.ref x0), some (.int x1), some (.int x2), some (.int q7)] [.ref x0, .int (h (x0 + 1) k11), .int q7, .ref (x0 + 1)] (fun _ => rfl) ?_
            refine g_getA 67 rfl rfl (Fi_l kx0) (Fi_r3 kx0) ?_
            refine g_run 1 68 [some (.ref x0), some (.int x1), some (.int x2), some (.int q7)] [.int x2, .ref (x0 + 3), .int (h (x0 + 1) k11), .int q7, .ref (x0 + 1)] (fun _ => rfl) ?_
            obtain ⟨k12, ek12, e⟩ := g_bd e
            refine g_iald 69 rfl rfl (Fi_k3 kx0) ek12 ?_
            refine g_run 1 70 [some (.ref x0), some (.int x1), some (.int x2), some (.int q7)] [.int ((h (x0 + 1) k11) + (h (x0 + 3) k12)), .int q7, .ref (x0 + 1)] (fun _ => rfl) ?_
            obtain ⟨k13, ek13, e⟩ := g_bd e
            refine g_iast 71 rfl rfl (Fi_k1 kx0) ek13 ?_
            cases e
            exact hjq14 trivial
theorem Fi_weighStages_s {X : Nat × (Nat → Int32)} {l : List (Nat × Nat)} {r : am_R} {h : am_F} {j : am_J} {a : Nat} {x1 : Int32} (ka : Fi_K l r a) {q : am_F} (e : Fi_weighStages l r a x1 h = some q) : Call X 20 [.ref a, .int x1] (l, r, h, j) (none, (l, r, q, j)) := by
  unfold Fi_weighStages at e
  refine ⟨Nat.le_of_ble_eq_true rfl, ?_⟩
  show Ev X 20 0 [some (.ref a), some (.int x1), none, none] [] (l, r, h, j) _
  refine g_run 1 1 [some (.ref a), some (.int x1), none, none] [.ref a] (fun _ => rfl) ?_
  refine g_getA 4 rfl rfl (Fi_l ka) (Fi_r1 ka) ?_
  refine g_run 1 5 [some (.ref a), some (.int x1), none, none] [.int (0 : Int32), .ref (a + 1)] (fun _ => rfl) ?_
  obtain ⟨q1, eq1, e⟩ := g_bd e
  refine g_cSv 8 rfl rfl (by decide) rfl rfl rfl (Ar_fill_s (g_lnk (Fi_k1 ka)) eq1) ?_
  refine g_run 1 9 [some (.ref a), some (.int x1), none, none] [.ref a] (fun _ => rfl) ?_
  refine g_getO 12 rfl rfl (Fi_l ka) ?_
  cases Hp2 : (r a 6) with
  | none =>
    replace e := g_onN2 Hp2 e
    refine g_run 1 15 [some (.ref a), some (.int x1), none, none] [] (fun _ => rfl) ?_
    cases e
    exact g_ret rfl (fun _ _ => rfl)
  | some p2 =>
    replace e := g_onS2 Hp2 e
    have kp2 := Fi_n6 ka _ Hp2
    refine g_run 1 16 [some (.ref a), some (.int x1), none, none] [] (fun _ => rfl) ?_
    refine g_run 2 18 [some (.ref a), some (.int x1), some (.int (0 : Int32)), none] [] (fun _ => rfl) ?_
    obtain ⟨q15, eq15, e⟩ := g_bd e
    refine Fi_weighStages_l18_s ka (fun d16 y17 => ?_) _ _ _ _ eq15
    cases e
    exact g_ret rfl (fun _ _ => rfl)
def Fi_worthOf (l : List (Nat × Nat)) (r : am_R) (a : Nat) (x1 : Int32) (x2 : Nat) (x3 : Int32) (h : am_F) : Option (Int32) :=
  if x1 = 0 then
    some (0 : Int32)
  else
    (Rw_get l r x2 x3 (3 : Int32) h).bind fun q2 =>
    (if x1 = (1 : Int32) then
        some (5 : Int32)
      else
        some (4 : Int32) : Option (Int32)).bind fun q5 =>
    (Rw_get l r x2 x3 q5 h).bind fun q6 =>
    (Wp_atStage q6 (1 : Int32)).bind fun q7 =>
    (Wp_atStage q6 (2 : Int32)).bind fun q8 =>
    (if x1 = (1 : Int32) then
        some (h (a + 1) 0)
      else
        some (h a 0) : Option (Int32)).bind fun q11 =>
    some ((q2 * q11) - (((h (a + 1) 1) * q7) + ((h (a + 1) 2) * q8)))
theorem Fi_worthOf_s {X : Nat × (Nat → Int32)} {l : List (Nat × Nat)} {r : am_R} {h : am_F} {j : am_J} {a : Nat} {x1 : Int32} {x2 : Nat} {x3 : Int32} (ka : Fi_K l r a) (kx2 : Rw_K l r x2) {q : Int32} (e : Fi_worthOf l r a x1 x2 x3 h = some q) : Call X 21 [.ref a, .int x1, .ref x2, .int x3] (l, r, h, j) (some (.int q), (l, r, h, j)) := by
  unfold Fi_worthOf at e
  refine ⟨Nat.le_of_ble_eq_true rfl, ?_⟩
  show Ev X 21 0 [some (.ref a), some (.int x1), some (.ref x2), some (.int x3), none, none, none, none] [] (l, r, h, j) _
  refine g_run 1 1 [some (.ref a), some (.int x1), some (.ref x2), some (.int x3), none, none, none, none] [.int x1] (fun _ => rfl) ?_
  refine g_if (p1 := 4) (L1 := [some (.ref a), some (.int x1), some (.ref x2), some (.int x3), none, none, none, none]) (S1 := []) (s1 := (l, r, h, j)) (p2 := 6) (L2 := [some (.ref a), some (.int x1), some (.ref x2), some (.int x3), none, none, none, none]) (S2 := []) (s2 := (l, r, h, j)) rfl (fun _ _ => rfl) e (fun c1 e => ?_) (fun c1 e => ?_)
  · refine g_run 1 5 [some (.ref a), some (.int x1), some (.ref x2), some (.int x3), none, none, none, none] [.int (0 : Int32)] (fun _ => rfl) ?_
    cases e
    exact g_ret rfl (fun _ _ => rfl)
  · refine g_run 3 9 [some (.ref a), some (.int x1), some (.ref x2), some (.int x3), none, none, none, none] [.int (3 : Int32), .int x3, .ref x2] (fun _ => rfl) ?_
    obtain ⟨q2, eq2, e⟩ := g_bd e
    refine g_cV 12 rfl rfl rfl rfl rfl (Rw_l kx2) (Rw_get_s kx2 eq2) ?_
    refine g_run 5 18 [some (.ref a), some (.int x1), some (.ref x2), some (.int x3), some (.int q2), none, none, none] [.int (1 : Int32), .int x1, .int x3, .ref x2] (fun _ => rfl) ?_
    obtain ⟨q5, eq5, e⟩ := g_bd e
    have hjq5 : ∀ (_ : True), Ev X 21 26 [some (.ref a), some (.int x1), some (.ref x2), some (.int x3), some (.int q2), none, none, none] [.int q5, .int x3, .ref x2] (l, r, h, j) (some (.int q), (l, r, h, j)) := by
      intro _
      obtain ⟨q6, eq6, e⟩ := g_bd e
      refine g_cV 29 rfl rfl rfl rfl rfl (Rw_l kx2) (Rw_get_s kx2 eq6) ?_
      refine g_run 2 32 [some (.ref a), some (.int x1), some (.ref x2), some (.int x3), some (.int q2), some (.int q6), none, none] [.ref a] (fun _ => rfl) ?_
      refine g_getA 35 rfl rfl (Fi_l ka) (Fi_r1 ka) ?_
      refine g_run 1 36 [some (.ref a), some (.int x1), some (.ref x2), some (.int x3), some (.int q2), some (.int q6), none, none] [.int (1 : Int32), .ref (a + 1)] (fun _ => rfl) ?_
      refine g_iald 37 rfl rfl (Fi_k1 ka) (kx := 1) rfl ?_
      refine g_run 2 40 [some (.ref a), some (.int x1), some (.ref x2), some (.int x3), some (.int q2), some (.int q6), none, none] [.int (1 : Int32), .int q6, .int (h (a + 1) 1)] (fun _ => rfl) ?_
      obtain ⟨q7, eq7, e⟩ := g_bd e
      refine g_cS 43 rfl rfl (by decide) rfl rfl rfl (Wp_atStage_s eq7) ?_
      refine g_run 2 45 [some (.ref a), some (.int x1), some (.ref x2), some (.int x3), some (.int q2), some (.int q6), none, none] [.ref a, .int ((h (a + 1) 1) * q7)] (fun _ => rfl) ?_
      refine g_getA 48 rfl rfl (Fi_l ka) (Fi_r1 ka) ?_
      refine g_run 1 49 [some (.ref a), some (.int x1), some (.ref x2), some (.int x3), some (.int q2), some (.int q6), none, none] [.int (2 : Int32), .ref (a + 1), .int ((h (a + 1) 1) * q7)] (fun _ => rfl) ?_
      refine g_iald 50 rfl rfl (Fi_k1 ka) (kx := 2) rfl ?_
      refine g_run 2 53 [some (.ref a), some (.int x1), some (.ref x2), some (.int x3), some (.int q2), some (.int q6), none, none] [.int (2 : Int32), .int q6, .int (h (a + 1) 2), .int ((h (a + 1) 1) * q7)] (fun _ => rfl) ?_
      obtain ⟨q8, eq8, e⟩ := g_bd e
      refine g_cS 56 rfl rfl (by decide) rfl rfl rfl (Wp_atStage_s eq8) ?_
      refine g_run 5 62 [some (.ref a), some (.int x1), some (.ref x2), some (.int x3), some (.int q2), some (.int q6), some (.int (((h (a + 1) 1) * q7) + ((h (a + 1) 2) * q8))), none] [.int (1 : Int32), .int x1] (fun _ => rfl) ?_
      obtain ⟨q11, eq11, e⟩ := g_bd e
      have hjq11 : ∀ (_ : True), Ev X 21 78 [some (.ref a), some (.int x1), some (.ref x2), some (.int x3), some (.int q2), some (.int q6), some (.int (((h (a + 1) 1) * q7) + ((h (a + 1) 2) * q8))), none] [.int q11] (l, r, h, j) (some (.int q), (l, r, h, j)) := by
        intro _
        refine g_run 6 88 [some (.ref a), some (.int x1), some (.ref x2), some (.int x3), some (.int q2), some (.int q6), some (.int (((h (a + 1) 1) * q7) + ((h (a + 1) 2) * q8))), some (.int q11)] [.int ((q2 * q11) - (((h (a + 1) 1) * q7) + ((h (a + 1) 2) * q8)))] (fun _ => rfl) ?_
        cases e
        exact g_ret rfl (fun _ _ => rfl)
      replace e := eq11
      refine g_if (p1 := 65) (L1 := [some (.ref a), some (.int x1), some (.ref x2), some (.int x3), some (.int q2), some (.int q6), some (.int (((h (a + 1) 1) * q7) + ((h (a + 1) 2) * q8))), none]) (S1 := []) (s1 := (l, r, h, j)) (p2 := 74) (L2 := [some (.ref a), some (.int x1), some (.ref x2), some (.int x3), some (.int q2), some (.int q6), some (.int (((h (a + 1) 1) * q7) + ((h (a + 1) 2) * q8))), none]) (S2 := []) (s2 := (l, r, h, j)) rfl (fun _ _ => rfl) e (fun c9 e => ?_) (fun c9 e => ?_)
      · refine g_run 1 66 [some (.ref a), some (.int x1), some (.ref x2), some (.int x3), some (.int q2), some (.int q6), some (.int (((h (a + 1) 1) * q7) + ((h (a + 1) 2) * q8))), none] [.ref a] (fun _ => rfl) ?_
        refine g_getA 69 rfl rfl (Fi_l ka) (Fi_r1 ka) ?_
        refine g_run 1 70 [some (.ref a), some (.int x1), some (.ref x2), some (.int x3), some (.int q2), some (.int q6), some (.int (((h (a + 1) 1) * q7) + ((h (a + 1) 2) * q8))), none] [.int (0 : Int32), .ref (a + 1)] (fun _ => rfl) ?_
        refine g_iald 71 rfl rfl (Fi_k1 ka) (kx := 0) rfl ?_
        refine g_run 1 78 [some (.ref a), some (.int x1), some (.ref x2), some (.int x3), some (.int q2), some (.int q6), some (.int (((h (a + 1) 1) * q7) + ((h (a + 1) 2) * q8))), none] [.int (h (a + 1) 0)] (fun _ => rfl) ?_
        cases e
        exact hjq11 trivial
      · refine g_run 1 75 [some (.ref a), some (.int x1), some (.ref x2), some (.int x3), some (.int q2), some (.int q6), some (.int (((h (a + 1) 1) * q7) + ((h (a + 1) 2) * q8))), none] [.ref a] (fun _ => rfl) ?_
        refine g_getI 78 rfl rfl (Fi_l ka) ?_
        cases e
        exact hjq11 trivial
    replace e := eq5
    refine g_if (p1 := 21) (L1 := [some (.ref a), some (.int x1), some (.ref x2), some (.int x3), some (.int q2), none, none, none]) (S1 := [.int x3, .ref x2]) (s1 := (l, r, h, j)) (p2 := 25) (L2 := [some (.ref a), some (.int x1), some (.ref x2), some (.int x3), some (.int q2), none, none, none]) (S2 := [.int x3, .ref x2]) (s2 := (l, r, h, j)) rfl (fun _ _ => rfl) e (fun c3 e => ?_) (fun c3 e => ?_)
    · refine g_run 2 26 [some (.ref a), some (.int x1), some (.ref x2), some (.int x3), some (.int q2), none, none, none] [.int (5 : Int32), .int x3, .ref x2] (fun _ => rfl) ?_
      cases e
      exact hjq5 trivial
    · refine g_run 1 26 [some (.ref a), some (.int x1), some (.ref x2), some (.int x3), some (.int q2), none, none, none] [.int (4 : Int32), .int x3, .ref x2] (fun _ => rfl) ?_
      cases e
      exact hjq5 trivial
def Fi_bestAct_l5 (l : List (Nat × Nat)) (r : am_R) (x0 : Nat) (x1 : Nat) (x2 : Int32) (h : am_F) : Nat → Int32 → Int32 → Option (Int32)
  | 0, _, _ => none
  | n + 1, x3, x4 =>
    if (3 : Int32) ≤ x4 then
      some x3
    else
      (Fi_worthOf l r x0 x4 x1 x2 h).bind fun q2 =>
      (Fi_worthOf l r x0 x3 x1 x2 h).bind fun q3 =>
      (if q2 ≤ q3 then
          some x3
        else
          some x4 : Option (Int32)).bind fun q6 =>
      Fi_bestAct_l5 l r x0 x1 x2 h n q6 (x4 + (1 : Int32))
def Fi_bestAct (l : List (Nat × Nat)) (r : am_R) (a : Nat) (x1 : Nat) (x2 : Int32) (h : am_F) : Option (Int32) :=
  (Fi_bestAct_l5 l r a x1 x2 h g_fu (0 : Int32) (1 : Int32)).bind fun q7 =>
  some q7
theorem Fi_bestAct_l5_s {X : Nat × (Nat → Int32)} {l : List (Nat × Nat)} {r : am_R} {x0 : Nat} {x1 : Nat} {x2 : Int32} {h : am_F} {j : am_J} {q : Int32} {R : Option Value × am_S} (kx0 : Fi_K l r x0) (kx1 : Rw_K l r x1) (hx : ∀ (y4 : Int32) , Ev X 22 38 [some (.ref x0), some (.ref x1), some (.int x2), some (.int q), some (.int y4)] [] (l, r, h, j) R) : ∀ (n : Nat) (x3 : Int32) (x4 : Int32), Fi_bestAct_l5 l r x0 x1 x2 h n x3 x4 = some q → Ev X 22 5 [some (.ref x0), some (.ref x1), some (.int x2), some (.int x3), some (.int x4)] [] (l, r, h, j) R := by
  intro n
  induction n with
  | zero => intro x3 x4 e; cases e
  | succ n ih =>
    intro x3 x4 e
    unfold Fi_bestAct_l5 at e
    refine g_run 2 8 [some (.ref x0), some (.ref x1), some (.int x2), some (.int x3), some (.int x4)] [.int (3 : Int32), .int x4] (fun _ => rfl) ?_
    refine g_if (p1 := 38) (L1 := [some (.ref x0), some (.ref x1), some (.int x2), some (.int x3), some (.int x4)]) (S1 := []) (s1 := (l, r, h, j)) (p2 := 11) (L2 := [some (.ref x0), some (.ref x1), some (.int x2), some (.int x3), some (.int x4)]) (S2 := []) (s2 := (l, r, h, j)) rfl (fun _ _ => rfl) e (fun c1 e => ?_) (fun c1 e => ?_)
    · cases e
      exact hx _
    · refine g_run 4 16 [some (.ref x0), some (.ref x1), some (.int x2), some (.int x3), some (.int x4)] [.int x2, .ref x1, .int x4, .ref x0] (fun _ => rfl) ?_
      obtain ⟨q2, eq2, e⟩ := g_bd e
      refine g_cV 19 rfl rfl rfl rfl rfl (Fi_l kx0) (Fi_worthOf_s kx0 kx1 eq2) ?_
      refine g_run 4 23 [some (.ref x0), some (.ref x1), some (.int x2), some (.int x3), some (.int x4)] [.int x2, .ref x1, .int x3, .ref x0, .int q2] (fun _ => rfl) ?_
      obtain ⟨q3, eq3, e⟩ := g_bd e
      refine g_cV 26 rfl rfl rfl rfl rfl (Fi_l kx0) (Fi_worthOf_s kx0 kx1 eq3) ?_
      obtain ⟨q6, eq6, e⟩ := g_bd e
      have hjq6 : ∀ (_ : True), Ev X 22 32 [some (.ref x0), some (.ref x1), some (.int x2), some (.int q6), some (.int x4)] [] (l, r, h, j) R := by
        intro _
        refine g_run 2 5 [some (.ref x0), some (.ref x1), some (.int x2), some (.int q6), some (.int (x4 + (1 : Int32)))] [] (fun _ => rfl) ?_
        exact ih _ _ e
      replace e := eq6
      refine g_if (p1 := 32) (L1 := [some (.ref x0), some (.ref x1), some (.int x2), some (.int x3), some (.int x4)]) (S1 := []) (s1 := (l, r, h, j)) (p2 := 29) (L2 := [some (.ref x0), some (.ref x1), some (.int x2), some (.int x3), some (.int x4)]) (S2 := []) (s2 := (l, r, h, j)) rfl (fun _ _ => rfl) e (fun c4 e => ?_) (fun c4 e => ?_)
      · cases e
        exact hjq6 trivial
      · refine g_run 2 32 [some (.ref x0), some (.ref x1), some (.int x2), some (.int x4), some (.int x4)] [] (fun _ => rfl) ?_
        cases e
        exact hjq6 trivial
theorem Fi_bestAct_s {X : Nat × (Nat → Int32)} {l : List (Nat × Nat)} {r : am_R} {h : am_F} {j : am_J} {a : Nat} {x1 : Nat} {x2 : Int32} (ka : Fi_K l r a) (kx1 : Rw_K l r x1) {q : Int32} (e : Fi_bestAct l r a x1 x2 h = some q) : Call X 22 [.ref a, .ref x1, .int x2] (l, r, h, j) (some (.int q), (l, r, h, j)) := by
  unfold Fi_bestAct at e
  refine ⟨Nat.le_of_ble_eq_true rfl, ?_⟩
  show Ev X 22 0 [some (.ref a), some (.ref x1), some (.int x2), none, none] [] (l, r, h, j) _
  refine g_run 4 5 [some (.ref a), some (.ref x1), some (.int x2), some (.int (0 : Int32)), some (.int (1 : Int32))] [] (fun _ => rfl) ?_
  obtain ⟨q7, eq7, e⟩ := g_bd e
  refine Fi_bestAct_l5_s ka kx1 (fun y8 => ?_) _ _ _ eq7
  refine g_run 1 39 [some (.ref a), some (.ref x1), some (.int x2), some (.int q7), some (.int y8)] [.int q7] (fun _ => rfl) ?_
  cases e
  exact g_ret rfl (fun _ _ => rfl)
def Fi_isThere_l2 (x0 : Nat) (x1 : Int32) (h : am_F) : Nat → Int32 → Option (Int32)
  | 0, _ => none
  | n + 1, x2 =>
    if (h x0 4) ≤ x2 then
      some (0 : Int32)
    else
      if (8 : Int32) ≤ x2 then
        some (0 : Int32)
      else
        (g_ix x2 8).bind fun k3 =>
        if (h (x0 + 2) k3) = x1 then
          some (1 : Int32)
        else
          Fi_isThere_l2 x0 x1 h n (x2 + (1 : Int32))
def Fi_isThere (a : Nat) (x1 : Int32) (h : am_F) : Option (Int32) :=
  Fi_isThere_l2 a x1 h g_fu (0 : Int32)
theorem Fi_isThere_l2_s {X : Nat × (Nat → Int32)} {l : List (Nat × Nat)} {r : am_R} {x0 : Nat} {x1 : Int32} {h : am_F} {j : am_J} {q : Int32} (kx0 : Fi_K l r x0) : ∀ (n : Nat) (x2 : Int32), Fi_isThere_l2 x0 x1 h n x2 = some q → Ev X 26 2 [some (.ref x0), some (.int x1), some (.int x2)] [] (l, r, h, j) (some (.int q), (l, r, h, j)) := by
  intro n
  induction n with
  | zero => intro x2 e; cases e
  | succ n ih =>
    intro x2 e
    unfold Fi_isThere_l2 at e
    refine g_run 2 4 [some (.ref x0), some (.int x1), some (.int x2)] [.ref x0, .int x2] (fun _ => rfl) ?_
    refine g_getI 7 rfl rfl (Fi_l kx0) ?_
    refine g_if (p1 := 34) (L1 := [some (.ref x0), some (.int x1), some (.int x2)]) (S1 := []) (s1 := (l, r, h, j)) (p2 := 10) (L2 := [some (.ref x0), some (.int x1), some (.int x2)]) (S2 := []) (s2 := (l, r, h, j)) rfl (fun _ _ => rfl) e (fun c1 e => ?_) (fun c1 e => ?_)
    · refine g_run 1 35 [some (.ref x0), some (.int x1), some (.int x2)] [.int (0 : Int32)] (fun _ => rfl) ?_
      cases e
      exact g_retZ rfl (y := (0 : Int32)) rfl rfl
    · refine g_run 2 13 [some (.ref x0), some (.int x1), some (.int x2)] [.int (8 : Int32), .int x2] (fun _ => rfl) ?_
      refine g_if (p1 := 34) (L1 := [some (.ref x0), some (.int x1), some (.int x2)]) (S1 := []) (s1 := (l, r, h, j)) (p2 := 16) (L2 := [some (.ref x0), some (.int x1), some (.int x2)]) (S2 := []) (s2 := (l, r, h, j)) rfl (fun _ _ => rfl) e (fun c2 e => ?_) (fun c2 e => ?_)
      · refine g_run 1 35 [some (.ref x0), some (.int x1), some (.int x2)] [.int (0 : Int32)] (fun _ => rfl) ?_
        cases e
        exact g_retZ rfl (y := (0 : Int32)) rfl rfl
      · refine g_run 1 17 [some (.ref x0), some (.int x1), some (.int x2)] [.ref x0] (fun _ => rfl) ?_
        refine g_getA 20 rfl rfl (Fi_l kx0) (Fi_r2 kx0) ?_
        refine g_run 1 21 [some (.ref x0), some (.int x1), some (.int x2)] [.int x2, .ref (x0 + 2)] (fun _ => rfl) ?_
        obtain ⟨k3, ek3, e⟩ := g_bd e
        refine g_iald 22 rfl rfl (Fi_k2 kx0) ek3 ?_
        refine g_run 1 23 [some (.ref x0), some (.int x1), some (.int x2)] [.int x1, .int (h (x0 + 2) k3)] (fun _ => rfl) ?_
        refine g_if (p1 := 26) (L1 := [some (.ref x0), some (.int x1), some (.int x2)]) (S1 := []) (s1 := (l, r, h, j)) (p2 := 28) (L2 := [some (.ref x0), some (.int x1), some (.int x2)]) (S2 := []) (s2 := (l, r, h, j)) rfl (fun _ _ => rfl) e (fun c4 e => ?_) (fun c4 e => ?_)
        · refine g_run 1 27 [some (.ref x0), some (.int x1), some (.int x2)] [.int (1 : Int32)] (fun _ => rfl) ?_
          cases e
          exact g_retZ rfl (y := (1 : Int32)) rfl rfl
        · refine g_run 2 2 [some (.ref x0), some (.int x1), some (.int (x2 + (1 : Int32)))] [] (fun _ => rfl) ?_
          exact ih _ e
theorem Fi_isThere_s {X : Nat × (Nat → Int32)} {l : List (Nat × Nat)} {r : am_R} {h : am_F} {j : am_J} {a : Nat} {x1 : Int32} (ka : Fi_K l r a) {q : Int32} (e : Fi_isThere a x1 h = some q) : Call X 26 [.ref a, .int x1] (l, r, h, j) (some (.int q), (l, r, h, j)) := by
  unfold Fi_isThere at e
  refine ⟨Nat.le_of_ble_eq_true rfl, ?_⟩
  show Ev X 26 0 [some (.ref a), some (.int x1), none] [] (l, r, h, j) _
  refine g_run 2 2 [some (.ref a), some (.int x1), some (.int (0 : Int32))] [] (fun _ => rfl) ?_
  exact Fi_isThere_l2_s ka _ _ e
def Fi_unlikeHours_l4 (x0 : Nat) (h : am_F) : Nat → Int32 → Int32 → Option (Int32)
  | 0, _, _ => none
  | n + 1, x1, x2 =>
    if (48 : Int32) ≤ x2 then
      some x1
    else
      (Fi_isThere x0 x2 h).bind fun q2 =>
      (if q2 = 0 then
          some x1
        else
          some (x1 + (1 : Int32)) : Option (Int32)).bind fun q5 =>
      Fi_unlikeHours_l4 x0 h n q5 (x2 + (1 : Int32))
def Fi_unlikeHours (a : Nat) (h : am_F) : Option (Int32) :=
  (Fi_unlikeHours_l4 a h g_fu (0 : Int32) (0 : Int32)).bind fun q6 =>
  some q6
theorem Fi_unlikeHours_l4_s {X : Nat × (Nat → Int32)} {l : List (Nat × Nat)} {r : am_R} {x0 : Nat} {h : am_F} {j : am_J} {q : Int32} {R : Option Value × am_S} (kx0 : Fi_K l r x0) (hx : ∀ (y2 : Int32) , Ev X 23 27 [some (.ref x0), some (.int q), some (.int y2)] [] (l, r, h, j) R) : ∀ (n : Nat) (x1 : Int32) (x2 : Int32), Fi_unlikeHours_l4 x0 h n x1 x2 = some q → Ev X 23 4 [some (.ref x0), some (.int x1), some (.int x2)] [] (l, r, h, j) R := by
  intro n
  induction n with
  | zero => intro x1 x2 e; cases e
  | succ n ih =>
    intro x1 x2 e
    unfold Fi_unlikeHours_l4 at e
    refine g_run 2 7 [some (.ref x0), some (.int x1), some (.int x2)] [.int (48 : Int32), .int x2] (fun _ => rfl) ?_
    refine g_if (p1 := 27) (L1 := [some (.ref x0), some (.int x1), some (.int x2)]) (S1 := []) (s1 := (l, r, h, j)) (p2 := 10) (L2 := [some (.ref x0), some (.int x1), some (.int x2)]) (S2 := []) (s2 := (l, r, h, j)) rfl (fun _ _ => rfl) e (fun c1 e => ?_) (fun c1 e => ?_)
    · cases e
      exact hx _
    · refine g_run 2 12 [some (.ref x0), some (.int x1), some (.int x2)] [.int x2, .ref x0] (fun _ => rfl) ?_
      obtain ⟨q2, eq2, e⟩ := g_bd e
      refine g_cV 15 rfl rfl rfl rfl rfl (Fi_l kx0) (Fi_isThere_s kx0 eq2) ?_
      obtain ⟨q5, eq5, e⟩ := g_bd e
      have hjq5 : ∀ (_ : True), Ev X 23 21 [some (.ref x0), some (.int q5), some (.int x2)] [] (l, r, h, j) R := by
        intro _
        refine g_run 2 4 [some (.ref x0), some (.int q5), some (.int (x2 + (1 : Int32)))] [] (fun _ => rfl) ?_
        exact ih _ _ e
      replace e := eq5
      refine g_if (p1 := 21) (L1 := [some (.ref x0), some (.int x1), some (.int x2)]) (S1 := []) (s1 := (l, r, h, j)) (p2 := 18) (L2 := [some (.ref x0), some (.int x1), some (.int x2)]) (S2 := []) (s2 := (l, r, h, j)) rfl (fun _ _ => rfl) e (fun c3 e => ?_) (fun c3 e => ?_)
      · cases e
        exact hjq5 trivial
      · refine g_run 1 21 [some (.ref x0), some (.int (x1 + (1 : Int32))), some (.int x2)] [] (fun _ => rfl) ?_
        cases e
        exact hjq5 trivial
theorem Fi_unlikeHours_s {X : Nat × (Nat → Int32)} {l : List (Nat × Nat)} {r : am_R} {h : am_F} {j : am_J} {a : Nat} (ka : Fi_K l r a) {q : Int32} (e : Fi_unlikeHours a h = some q) : Call X 23 [.ref a] (l, r, h, j) (some (.int q), (l, r, h, j)) := by
  unfold Fi_unlikeHours at e
  refine ⟨Nat.le_of_ble_eq_true rfl, ?_⟩
  show Ev X 23 0 [some (.ref a), none, none] [] (l, r, h, j) _
  refine g_run 4 4 [some (.ref a), some (.int (0 : Int32)), some (.int (0 : Int32))] [] (fun _ => rfl) ?_
  obtain ⟨q6, eq6, e⟩ := g_bd e
  refine Fi_unlikeHours_l4_s ka (fun y7 => ?_) _ _ _ eq6
  refine g_run 1 28 [some (.ref a), some (.int q6), some (.int y7)] [.int q6] (fun _ => rfl) ?_
  cases e
  exact g_ret rfl (fun _ _ => rfl)
def Fi_firstHour_l2 (x0 : Nat) (h : am_F) : Nat → Int32 → Option (Int32)
  | 0, _ => none
  | n + 1, x1 =>
    if (48 : Int32) ≤ x1 then
      some (-1 : Int32)
    else
      (Fi_isThere x0 x1 h).bind fun q2 =>
      if q2 = 0 then
        Fi_firstHour_l2 x0 h n (x1 + (1 : Int32))
      else
        some x1
def Fi_firstHour (a : Nat) (h : am_F) : Option (Int32) :=
  Fi_firstHour_l2 a h g_fu (0 : Int32)
theorem Fi_firstHour_l2_s {X : Nat × (Nat → Int32)} {l : List (Nat × Nat)} {r : am_R} {x0 : Nat} {h : am_F} {j : am_J} {q : Int32} (kx0 : Fi_K l r x0) : ∀ (n : Nat) (x1 : Int32), Fi_firstHour_l2 x0 h n x1 = some q → Ev X 24 2 [some (.ref x0), some (.int x1)] [] (l, r, h, j) (some (.int q), (l, r, h, j)) := by
  intro n
  induction n with
  | zero => intro x1 e; cases e
  | succ n ih =>
    intro x1 e
    unfold Fi_firstHour_l2 at e
    refine g_run 2 5 [some (.ref x0), some (.int x1)] [.int (48 : Int32), .int x1] (fun _ => rfl) ?_
    refine g_if (p1 := 24) (L1 := [some (.ref x0), some (.int x1)]) (S1 := []) (s1 := (l, r, h, j)) (p2 := 8) (L2 := [some (.ref x0), some (.int x1)]) (S2 := []) (s2 := (l, r, h, j)) rfl (fun _ _ => rfl) e (fun c1 e => ?_) (fun c1 e => ?_)
    · refine g_run 1 25 [some (.ref x0), some (.int x1)] [.int (-1 : Int32)] (fun _ => rfl) ?_
      cases e
      exact g_ret rfl (fun _ _ => rfl)
    · refine g_run 2 10 [some (.ref x0), some (.int x1)] [.int x1, .ref x0] (fun _ => rfl) ?_
      obtain ⟨q2, eq2, e⟩ := g_bd e
      refine g_cV 13 rfl rfl rfl rfl rfl (Fi_l kx0) (Fi_isThere_s kx0 eq2) ?_
      refine g_if (p1 := 18) (L1 := [some (.ref x0), some (.int x1)]) (S1 := []) (s1 := (l, r, h, j)) (p2 := 16) (L2 := [some (.ref x0), some (.int x1)]) (S2 := []) (s2 := (l, r, h, j)) rfl (fun _ _ => rfl) e (fun c3 e => ?_) (fun c3 e => ?_)
      · refine g_run 2 2 [some (.ref x0), some (.int (x1 + (1 : Int32)))] [] (fun _ => rfl) ?_
        exact ih _ e
      · refine g_run 1 17 [some (.ref x0), some (.int x1)] [.int x1] (fun _ => rfl) ?_
        cases e
        exact g_ret rfl (fun _ _ => rfl)
theorem Fi_firstHour_s {X : Nat × (Nat → Int32)} {l : List (Nat × Nat)} {r : am_R} {h : am_F} {j : am_J} {a : Nat} (ka : Fi_K l r a) {q : Int32} (e : Fi_firstHour a h = some q) : Call X 24 [.ref a] (l, r, h, j) (some (.int q), (l, r, h, j)) := by
  unfold Fi_firstHour at e
  refine ⟨Nat.le_of_ble_eq_true rfl, ?_⟩
  show Ev X 24 0 [some (.ref a), none] [] (l, r, h, j) _
  refine g_run 2 2 [some (.ref a), some (.int (0 : Int32))] [] (fun _ => rfl) ?_
  exact Fi_firstHour_l2_s ka _ _ e
def Fi_lastHour_l3 (x0 : Nat) (h : am_F) : Nat → Int32 → Option (Int32)
  | 0, _ => none
  | n + 1, x1 =>
    if x1 < 0 then
      some (-1 : Int32)
    else
      (Fi_isThere x0 x1 h).bind fun q2 =>
      if q2 = 0 then
        Fi_lastHour_l3 x0 h n (x1 + (Int32.ofInt (-1)))
      else
        some x1
def Fi_lastHour (a : Nat) (h : am_F) : Option (Int32) :=
  Fi_lastHour_l3 a h g_fu (47 : Int32)
theorem Fi_lastHour_l3_s {X : Nat × (Nat → Int32)} {l : List (Nat × Nat)} {r : am_R} {x0 : Nat} {h : am_F} {j : am_J} {q : Int32} (kx0 : Fi_K l r x0) : ∀ (n : Nat) (x1 : Int32), Fi_lastHour_l3 x0 h n x1 = some q → Ev X 25 3 [some (.ref x0), some (.int x1)] [] (l, r, h, j) (some (.int q), (l, r, h, j)) := by
  intro n
  induction n with
  | zero => intro x1 e; cases e
  | succ n ih =>
    intro x1 e
    unfold Fi_lastHour_l3 at e
    refine g_run 1 4 [some (.ref x0), some (.int x1)] [.int x1] (fun _ => rfl) ?_
    refine g_if (p1 := 23) (L1 := [some (.ref x0), some (.int x1)]) (S1 := []) (s1 := (l, r, h, j)) (p2 := 7) (L2 := [some (.ref x0), some (.int x1)]) (S2 := []) (s2 := (l, r, h, j)) rfl (fun _ _ => rfl) e (fun c1 e => ?_) (fun c1 e => ?_)
    · refine g_run 1 24 [some (.ref x0), some (.int x1)] [.int (-1 : Int32)] (fun _ => rfl) ?_
      cases e
      exact g_ret rfl (fun _ _ => rfl)
    · refine g_run 2 9 [some (.ref x0), some (.int x1)] [.int x1, .ref x0] (fun _ => rfl) ?_
      obtain ⟨q2, eq2, e⟩ := g_bd e
      refine g_cV 12 rfl rfl rfl rfl rfl (Fi_l kx0) (Fi_isThere_s kx0 eq2) ?_
      refine g_if (p1 := 17) (L1 := [some (.ref x0), some (.int x1)]) (S1 := []) (s1 := (l, r, h, j)) (p2 := 15) (L2 := [some (.ref x0), some (.int x1)]) (S2 := []) (s2 := (l, r, h, j)) rfl (fun _ _ => rfl) e (fun c3 e => ?_) (fun c3 e => ?_)
      · refine g_go 20 [some (.ref x0), some (.int (x1 + (Int32.ofInt (-1))))] [] rfl (fun _ _ => rfl) ?_
        refine g_run 1 3 [some (.ref x0), some (.int (x1 + (Int32.ofInt (-1))))] [] (fun _ => rfl) ?_
        exact ih _ e
      · refine g_run 1 16 [some (.ref x0), some (.int x1)] [.int x1] (fun _ => rfl) ?_
        cases e
        exact g_ret rfl (fun _ _ => rfl)
theorem Fi_lastHour_s {X : Nat × (Nat → Int32)} {l : List (Nat × Nat)} {r : am_R} {h : am_F} {j : am_J} {a : Nat} (ka : Fi_K l r a) {q : Int32} (e : Fi_lastHour a h = some q) : Call X 25 [.ref a] (l, r, h, j) (some (.int q), (l, r, h, j)) := by
  unfold Fi_lastHour at e
  refine ⟨Nat.le_of_ble_eq_true rfl, ?_⟩
  show Ev X 25 0 [some (.ref a), none] [] (l, r, h, j) _
  refine g_run 2 3 [some (.ref a), some (.int (47 : Int32))] [] (fun _ => rfl) ?_
  exact Fi_lastHour_l3_s ka _ _ e
def Fi_tellingHour_l23 (l : List (Nat × Nat)) (r : am_R) (x0 : Nat) : Nat → Int32 → Int32 → Int32 → am_F → Option (Int32 × am_F)
  | 0, _, _, _, _ => none
  | n + 1, x1, x2, x3, h =>
    if (48 : Int32) ≤ x3 then
      some (x1, h)
    else
      (Fi_weighStages l r x0 x3 h).bind fun q3 =>
      (if x2 ≤ (if (q3 (x0 + 1) 0) < (if (q3 (x0 + 1) 1) < (q3 (x0 + 1) 2) then (q3 (x0 + 1) 2) else (q3 (x0 + 1) 1)) then (if (q3 (x0 + 1) 1) < (q3 (x0 + 1) 2) then (q3 (x0 + 1) 2) else (q3 (x0 + 1) 1)) else (q3 (x0 + 1) 0)) then
          some (x1, x2)
        else
          some (x3, (if (q3 (x0 + 1) 0) < (if (q3 (x0 + 1) 1) < (q3 (x0 + 1) 2) then (q3 (x0 + 1) 2) else (q3 (x0 + 1) 1)) then (if (q3 (x0 + 1) 1) < (q3 (x0 + 1) 2) then (q3 (x0 + 1) 2) else (q3 (x0 + 1) 1)) else (q3 (x0 + 1) 0))) : Option (Int32 × Int32)).bind fun q6 =>
      Fi_tellingHour_l23 l r x0 n q6.1 q6.2 (x3 + (1 : Int32)) q3
def Fi_tellingHour (l : List (Nat × Nat)) (r : am_R) (a : Nat) (h : am_F) : Option (Int32 × am_F) :=
  if (h a 4) = 0 then
    some ((-1 : Int32), h)
  else
    (Fi_tellingHour_l23 l r a g_fu (-1 : Int32) ((h a 0) + (1 : Int32)) (h a 5) h).bind fun q7 =>
    some (q7.1, q7.2)
theorem Fi_tellingHour_l23_s {X : Nat × (Nat → Int32)} {l : List (Nat × Nat)} {r : am_R} {x0 : Nat} {j : am_J} {q : Int32 × am_F} {R : Option Value × am_S} (kx0 : Fi_K l r x0) (hx : ∀ (d4 : Option Value) (y2 : Int32) (y3 : Int32) , Ev X 27 77 [some (.ref x0), some (.int q.1), some (.int y2), some (.int y3), d4] [] (l, r, q.2, j) R) : ∀ (n : Nat) (x1 : Int32) (x2 : Int32) (x3 : Int32) (h : am_F) (d4 : Option Value), Fi_tellingHour_l23 l r x0 n x1 x2 x3 h = some q → Ev X 27 23 [some (.ref x0), some (.int x1), some (.int x2), some (.int x3), d4] [] (l, r, h, j) R := by
  intro n
  induction n with
  | zero => intro x1 x2 x3 h d4 e; cases e
  | succ n ih =>
    intro x1 x2 x3 h d4 e
    unfold Fi_tellingHour_l23 at e
    refine g_run 2 26 [some (.ref x0), some (.int x1), some (.int x2), some (.int x3), d4] [.int (48 : Int32), .int x3] (fun _ => rfl) ?_
    refine g_if (p1 := 77) (L1 := [some (.ref x0), some (.int x1), some (.int x2), some (.int x3), d4]) (S1 := []) (s1 := (l, r, h, j)) (p2 := 29) (L2 := [some (.ref x0), some (.int x1), some (.int x2), some (.int x3), d4]) (S2 := []) (s2 := (l, r, h, j)) rfl (fun _ _ => rfl) e (fun c2 e => ?_) (fun c2 e => ?_)
    · cases e
      exact hx _ _ _
    · refine g_run 2 31 [some (.ref x0), some (.int x1), some (.int x2), some (.int x3), d4] [.int x3, .ref x0] (fun _ => rfl) ?_
      obtain ⟨q3, eq3, e⟩ := g_bd e
      refine g_cVv 34 rfl rfl rfl rfl rfl (Fi_l kx0) (Fi_weighStages_s kx0 eq3) ?_
      refine g_run 1 35 [some (.ref x0), some (.int x1), some (.int x2), some (.int x3), d4] [.ref x0] (fun _ => rfl) ?_
      refine g_getA 38 rfl rfl (Fi_l kx0) (Fi_r1 kx0) ?_
      refine g_run 1 39 [some (.ref x0), some (.int x1), some (.int x2), some (.int x3), d4] [.int (0 : Int32), .ref (x0 + 1)] (fun _ => rfl) ?_
      refine g_iald 40 rfl rfl (Fi_k1 kx0) (kx := 0) rfl ?_
      refine g_run 1 41 [some (.ref x0), some (.int x1), some (.int x2), some (.int x3), d4] [.ref x0, .int (q3 (x0 + 1) 0)] (fun _ => rfl) ?_
      refine g_getA 44 rfl rfl (Fi_l kx0) (Fi_r1 kx0) ?_
      refine g_run 1 45 [some (.ref x0), some (.int x1), some (.int x2), some (.int x3), d4] [.int (1 : Int32), .ref (x0 + 1), .int (q3 (x0 + 1) 0)] (fun _ => rfl) ?_
      refine g_iald 46 rfl rfl (Fi_k1 kx0) (kx := 1) rfl ?_
      refine g_run 1 47 [some (.ref x0), some (.int x1), some (.int x2), some (.int x3), d4] [.ref x0, .int (q3 (x0 + 1) 1), .int (q3 (x0 + 1) 0)] (fun _ => rfl) ?_
      refine g_getA 50 rfl rfl (Fi_l kx0) (Fi_r1 kx0) ?_
      refine g_run 1 51 [some (.ref x0), some (.int x1), some (.int x2), some (.int x3), d4] [.int (2 : Int32), .ref (x0 + 1), .int (q3 (x0 + 1) 1), .int (q3 (x0 + 1) 0)] (fun _ => rfl) ?_
      refine g_iald 52 rfl rfl (Fi_k1 kx0) (kx := 2) rfl ?_
      refine g_run 5 63 [some (.ref x0), some (.int x1), some (.int x2), some (.int x3), some (.int (if (q3 (x0 + 1) 0) < (if (q3 (x0 + 1) 1) < (q3 (x0 + 1) 2) then (q3 (x0 + 1) 2) else (q3 (x0 + 1) 1)) then (if (q3 (x0 + 1) 1) < (q3 (x0 + 1) 2) then (q3 (x0 + 1) 2) else (q3 (x0 + 1) 1)) else (q3 (x0 + 1) 0)))] [.int x2, .int (if (q3 (x0 + 1) 0) < (if (q3 (x0 + 1) 1) < (q3 (x0 + 1) 2) then (q3 (x0 + 1) 2) else (q3 (x0 + 1) 1)) then (if (q3 (x0 + 1) 1) < (q3 (x0 + 1) 2) then (q3 (x0 + 1) 2) else (q3 (x0 + 1) 1)) else (q3 (x0 + 1) 0))] (fun _ => rfl) ?_
      obtain ⟨q6, eq6, e⟩ := g_bd e
      have hjq6 : ∀ (_ : True), Ev X 27 71 [some (.ref x0), some (.int q6.1), some (.int q6.2), some (.int x3), some (.int (if (q3 (x0 + 1) 0) < (if (q3 (x0 + 1) 1) < (q3 (x0 + 1) 2) then (q3 (x0 + 1) 2) else (q3 (x0 + 1) 1)) then (if (q3 (x0 + 1) 1) < (q3 (x0 + 1) 2) then (q3 (x0 + 1) 2) else (q3 (x0 + 1) 1)) else (q3 (x0 + 1) 0)))] [] (l, r, q3, j) R := by
        intro _
        refine g_run 2 23 [some (.ref x0), some (.int q6.1), some (.int q6.2), some (.int (x3 + (1 : Int32))), some (.int (if (q3 (x0 + 1) 0) < (if (q3 (x0 + 1) 1) < (q3 (x0 + 1) 2) then (q3 (x0 + 1) 2) else (q3 (x0 + 1) 1)) then (if (q3 (x0 + 1) 1) < (q3 (x0 + 1) 2) then (q3 (x0 + 1) 2) else (q3 (x0 + 1) 1)) else (q3 (x0 + 1) 0)))] [] (fun _ => rfl) ?_
        exact ih _ _ _ _ _ e
      replace e := eq6
      refine g_if (p1 := 71) (L1 := [some (.ref x0), some (.int x1), some (.int x2), some (.int x3), some (.int (if (q3 (x0 + 1) 0) < (if (q3 (x0 + 1) 1) < (q3 (x0 + 1) 2) then (q3 (x0 + 1) 2) else (q3 (x0 + 1) 1)) then (if (q3 (x0 + 1) 1) < (q3 (x0 + 1) 2) then (q3 (x0 + 1) 2) else (q3 (x0 + 1) 1)) else (q3 (x0 + 1) 0)))]) (S1 := []) (s1 := (l, r, q3, j)) (p2 := 66) (L2 := [some (.ref x0), some (.int x1), some (.int x2), some (.int x3), some (.int (if (q3 (x0 + 1) 0) < (if (q3 (x0 + 1) 1) < (q3 (x0 + 1) 2) then (q3 (x0 + 1) 2) else (q3 (x0 + 1) 1)) then (if (q3 (x0 + 1) 1) < (q3 (x0 + 1) 2) then (q3 (x0 + 1) 2) else (q3 (x0 + 1) 1)) else (q3 (x0 + 1) 0)))]) (S2 := []) (s2 := (l, r, q3, j)) rfl (fun _ _ => rfl) e (fun c4 e => ?_) (fun c4 e => ?_)
      · cases e
        exact hjq6 trivial
      · refine g_run 4 71 [some (.ref x0), some (.int x3), some (.int (if (q3 (x0 + 1) 0) < (if (q3 (x0 + 1) 1) < (q3 (x0 + 1) 2) then (q3 (x0 + 1) 2) else (q3 (x0 + 1) 1)) then (if (q3 (x0 + 1) 1) < (q3 (x0 + 1) 2) then (q3 (x0 + 1) 2) else (q3 (x0 + 1) 1)) else (q3 (x0 + 1) 0))), some (.int x3), some (.int (if (q3 (x0 + 1) 0) < (if (q3 (x0 + 1) 1) < (q3 (x0 + 1) 2) then (q3 (x0 + 1) 2) else (q3 (x0 + 1) 1)) then (if (q3 (x0 + 1) 1) < (q3 (x0 + 1) 2) then (q3 (x0 + 1) 2) else (q3 (x0 + 1) 1)) else (q3 (x0 + 1) 0)))] [] (fun _ => rfl) ?_
        cases e
        exact hjq6 trivial
theorem Fi_tellingHour_s {X : Nat × (Nat → Int32)} {l : List (Nat × Nat)} {r : am_R} {h : am_F} {j : am_J} {a : Nat} (ka : Fi_K l r a) {q : Int32 × am_F} (e : Fi_tellingHour l r a h = some q) : Call X 27 [.ref a] (l, r, h, j) (some (.int q.1), (l, r, q.2, j)) := by
  unfold Fi_tellingHour at e
  refine ⟨Nat.le_of_ble_eq_true rfl, ?_⟩
  show Ev X 27 0 [some (.ref a), none, none, none, none] [] (l, r, h, j) _
  refine g_run 1 1 [some (.ref a), none, none, none, none] [.ref a] (fun _ => rfl) ?_
  refine g_getI 4 rfl rfl (Fi_l ka) ?_
  refine g_if (p1 := 7) (L1 := [some (.ref a), none, none, none, none]) (S1 := []) (s1 := (l, r, h, j)) (p2 := 9) (L2 := [some (.ref a), none, none, none, none]) (S2 := []) (s2 := (l, r, h, j)) rfl (fun _ _ => rfl) e (fun c1 e => ?_) (fun c1 e => ?_)
  · refine g_run 1 8 [some (.ref a), none, none, none, none] [.int (-1 : Int32)] (fun _ => rfl) ?_
    cases e
    exact g_ret rfl (fun _ _ => rfl)
  · refine g_run 3 12 [some (.ref a), some (.int (-1 : Int32)), none, none, none] [.ref a] (fun _ => rfl) ?_
    refine g_getI 15 rfl rfl (Fi_l ka) ?_
    refine g_run 4 19 [some (.ref a), some (.int (-1 : Int32)), some (.int ((h a 0) + (1 : Int32))), none, none] [.ref a] (fun _ => rfl) ?_
    refine g_getI 22 rfl rfl (Fi_l ka) ?_
    refine g_run 1 23 [some (.ref a), some (.int (-1 : Int32)), some (.int ((h a 0) + (1 : Int32))), some (.int (h a 5)), none] [] (fun _ => rfl) ?_
    obtain ⟨q7, eq7, e⟩ := g_bd e
    refine Fi_tellingHour_l23_s ka (fun d8 y9 y10 => ?_) _ _ _ _ _ _ eq7
    refine g_run 1 78 [some (.ref a), some (.int q7.1), some (.int y9), some (.int y10), d8] [.int q7.1] (fun _ => rfl) ?_
    cases e
    exact g_ret rfl (fun _ _ => rfl)
def Pa_hoursFor (x0 : Nat) (x1 : Int32) (h : am_F) : Option (Int32) :=
  if (Pk_hasBench x0 x1 h) = 0 then
    some (0 : Int32)
  else
    (g_ix x1 6).bind fun k2 =>
    some (((h (x0 + 3) k2) + (2 : Int32)) / (3 : Int32))
theorem Pa_hoursFor_s {X : Nat × (Nat → Int32)} {l : List (Nat × Nat)} {r : am_R} {h : am_F} {j : am_J} {x0 : Nat} {x1 : Int32} (kx0 : Pk_K l r x0) {q : Int32} (e : Pa_hoursFor x0 x1 h = some q) : Call X 30 [.ref x0, .int x1] (l, r, h, j) (some (.int q), (l, r, h, j)) := by
  unfold Pa_hoursFor at e
  refine ⟨Nat.le_of_ble_eq_true rfl, ?_⟩
  show Ev X 30 0 [some (.ref x0), some (.int x1)] [] (l, r, h, j) _
  refine g_run 2 2 [some (.ref x0), some (.int x1)] [.int x1, .ref x0] (fun _ => rfl) ?_
  refine g_cV 5 rfl rfl rfl rfl rfl (Pk_l kx0) (Pk_hasBench_s kx0) ?_
  refine g_if (p1 := 21) (L1 := [some (.ref x0), some (.int x1)]) (S1 := []) (s1 := (l, r, h, j)) (p2 := 8) (L2 := [some (.ref x0), some (.int x1)]) (S2 := []) (s2 := (l, r, h, j)) rfl (fun _ _ => rfl) e (fun c1 e => ?_) (fun c1 e => ?_)
  · refine g_run 1 22 [some (.ref x0), some (.int x1)] [.int (0 : Int32)] (fun _ => rfl) ?_
    cases e
    exact g_ret rfl (fun _ _ => rfl)
  · refine g_run 1 9 [some (.ref x0), some (.int x1)] [.ref x0] (fun _ => rfl) ?_
    refine g_getA 12 rfl rfl (Pk_l kx0) (Pk_r6 kx0) ?_
    refine g_run 1 13 [some (.ref x0), some (.int x1)] [.int x1, .ref (x0 + 3)] (fun _ => rfl) ?_
    obtain ⟨k2, ek2, e⟩ := g_bd e
    refine g_iald 14 rfl rfl (Pk_k6 kx0) ek2 ?_
    refine g_run 5 22 [some (.ref x0), some (.int x1)] [.int (((h (x0 + 3) k2) + (2 : Int32)) / (3 : Int32))] (fun _ => rfl) ?_
    cases e
    exact g_ret rfl (fun _ _ => rfl)
def Pk_rateAt (a : Nat) (x1 : Int32) (h : am_F) : Option (Int32) :=
  if 0 ≤ x1 then
    (g_ix (if (47 : Int32) < x1 then (47 : Int32) else x1) 48).bind fun k2 =>
    some (h (a + 1) k2)
  else
    some (0 : Int32)
theorem Pk_rateAt_s {X : Nat × (Nat → Int32)} {l : List (Nat × Nat)} {r : am_R} {h : am_F} {j : am_J} {a : Nat} {x1 : Int32} (ka : Pk_K l r a) {q : Int32} (e : Pk_rateAt a x1 h = some q) : Call X 50 [.ref a, .int x1] (l, r, h, j) (some (.int q), (l, r, h, j)) := by
  unfold Pk_rateAt at e
  refine ⟨Nat.le_of_ble_eq_true rfl, ?_⟩
  show Ev X 50 0 [some (.ref a), some (.int x1)] [] (l, r, h, j) _
  refine g_run 1 1 [some (.ref a), some (.int x1)] [.int x1] (fun _ => rfl) ?_
  refine g_if (p1 := 8) (L1 := [some (.ref a), some (.int x1)]) (S1 := []) (s1 := (l, r, h, j)) (p2 := 4) (L2 := [some (.ref a), some (.int x1)]) (S2 := []) (s2 := (l, r, h, j)) rfl (fun _ _ => rfl) e (fun c1 e => ?_) (fun c1 e => ?_)
  · refine g_run 1 9 [some (.ref a), some (.int x1)] [.ref a] (fun _ => rfl) ?_
    refine g_getA 12 rfl rfl (Pk_l ka) (Pk_r4 ka) ?_
    refine g_run 3 18 [some (.ref a), some (.int x1)] [.int (if (47 : Int32) < x1 then (47 : Int32) else x1), .ref (a + 1)] (fun _ => rfl) ?_
    obtain ⟨k2, ek2, e⟩ := g_bd e
    refine g_iald 19 rfl rfl (Pk_k4 ka) ek2 ?_
    cases e
    exact g_ret rfl (fun _ _ => rfl)
  · refine g_run 2 19 [some (.ref a), some (.int x1)] [.int (0 : Int32)] (fun _ => rfl) ?_
    cases e
    exact g_ret rfl (fun _ _ => rfl)
def Pa_dryAt_l7 (x0 : Nat) (h : am_F) : Nat → Int32 → Int32 → Option (Int32)
  | 0, _, _ => none
  | n + 1, x2, x3 =>
    if (401 : Int32) ≤ x3 then
      some (401 : Int32)
    else
      if 0 < x2 then
        (Pk_rateAt x0 x3 h).bind fun q3 =>
        Pa_dryAt_l7 x0 h n (x2 - q3) (x3 + (1 : Int32))
      else
        some x3
def Pa_dryAt (x0 : Nat) (x1 : Int32) (h : am_F) : Option (Int32) :=
  Pa_dryAt_l7 x0 h g_fu (h x0 0) x1
theorem Pa_dryAt_l7_s {X : Nat × (Nat → Int32)} {l : List (Nat × Nat)} {r : am_R} {x0 : Nat} {y1 : Int32} {h : am_F} {j : am_J} {q : Int32} (kx0 : Pk_K l r x0) : ∀ (n : Nat) (x2 : Int32) (x3 : Int32), Pa_dryAt_l7 x0 h n x2 x3 = some q → Ev X 31 7 [some (.ref x0), some (.int y1), some (.int x2), some (.int x3)] [] (l, r, h, j) (some (.int q), (l, r, h, j)) := by
  intro n
  induction n with
  | zero => intro x2 x3 e; cases e
  | succ n ih =>
    intro x2 x3 e
    unfold Pa_dryAt_l7 at e
    refine g_run 2 11 [some (.ref x0), some (.int y1), some (.int x2), some (.int x3)] [.int (401 : Int32), .int x3] (fun _ => rfl) ?_
    refine g_if (p1 := 34) (L1 := [some (.ref x0), some (.int y1), some (.int x2), some (.int x3)]) (S1 := []) (s1 := (l, r, h, j)) (p2 := 14) (L2 := [some (.ref x0), some (.int y1), some (.int x2), some (.int x3)]) (S2 := []) (s2 := (l, r, h, j)) rfl (fun _ _ => rfl) e (fun c1 e => ?_) (fun c1 e => ?_)
    · refine g_run 1 37 [some (.ref x0), some (.int y1), some (.int x2), some (.int x3)] [.int (401 : Int32)] (fun _ => rfl) ?_
      cases e
      exact g_ret rfl (fun _ _ => rfl)
    · refine g_run 1 15 [some (.ref x0), some (.int y1), some (.int x2), some (.int x3)] [.int x2] (fun _ => rfl) ?_
      refine g_if (p1 := 20) (L1 := [some (.ref x0), some (.int y1), some (.int x2), some (.int x3)]) (S1 := []) (s1 := (l, r, h, j)) (p2 := 18) (L2 := [some (.ref x0), some (.int y1), some (.int x2), some (.int x3)]) (S2 := []) (s2 := (l, r, h, j)) rfl (fun _ _ => rfl) e (fun c2 e => ?_) (fun c2 e => ?_)
      · refine g_run 3 23 [some (.ref x0), some (.int y1), some (.int x2), some (.int x3)] [.int x3, .ref x0, .int x2] (fun _ => rfl) ?_
        obtain ⟨q3, eq3, e⟩ := g_bd e
        refine g_cV 26 rfl rfl rfl rfl rfl (Pk_l kx0) (Pk_rateAt_s kx0 eq3) ?_
        refine g_run 4 7 [some (.ref x0), some (.int y1), some (.int (x2 - q3)), some (.int (x3 + (1 : Int32)))] [] (fun _ => rfl) ?_
        exact ih _ _ e
      · refine g_run 1 19 [some (.ref x0), some (.int y1), some (.int x2), some (.int x3)] [.int x3] (fun _ => rfl) ?_
        cases e
        exact g_ret rfl (fun _ _ => rfl)
theorem Pa_dryAt_s {X : Nat × (Nat → Int32)} {l : List (Nat × Nat)} {r : am_R} {h : am_F} {j : am_J} {x0 : Nat} {x1 : Int32} (kx0 : Pk_K l r x0) {q : Int32} (e : Pa_dryAt x0 x1 h = some q) : Call X 31 [.ref x0, .int x1] (l, r, h, j) (some (.int q), (l, r, h, j)) := by
  unfold Pa_dryAt at e
  refine ⟨Nat.le_of_ble_eq_true rfl, ?_⟩
  show Ev X 31 0 [some (.ref x0), some (.int x1), none, none] [] (l, r, h, j) _
  refine g_run 1 1 [some (.ref x0), some (.int x1), none, none] [.ref x0] (fun _ => rfl) ?_
  refine g_getI 4 rfl rfl (Pk_l kx0) ?_
  refine g_run 3 7 [some (.ref x0), some (.int x1), some (.int (h x0 0)), some (.int x1)] [] (fun _ => rfl) ?_
  exact Pa_dryAt_l7_s kx0 _ _ _ e
def Pa_choose_l46 (x0 : Nat) (x1 : Nat) (x2 : Int32) (h : am_F) : Nat → Int32 → Int32 → Option (Int32)
  | 0, _, _ => none
  | n + 1, x3, x4 =>
    if (h x1 3) ≤ x4 then
      some x3
    else
      (Pa_hoursFor x1 x4 h).bind fun q5 =>
      Pa_choose_l46 x0 x1 x2 h n (x3 + q5) (x4 + (1 : Int32))
def Pa_choose_l104 (x0 : Nat) (x1 : Nat) (x2 : Int32) (x3 : Int32) (x4 : Int32) (x5 : Int32) : Nat → Int32 → am_F → Option (am_F)
  | 0, _, _ => none
  | n + 1, x6, h =>
    if x6 < 0 then
      some h
    else
      (Pa_hoursFor x1 x6 h).bind fun q12 =>
      (Pa_hoursFor x1 x6 h).bind fun q13 =>
      (Pa_dryAt x1 ((if ((x2 + x3) - q12) < x5 then x5 else ((x2 + x3) - q12)) + q13) h).bind fun q14 =>
      (if x6 = x4 then
          some h
        else
          if (h x0 0) ≤ q14 then
            some h
          else
            some (am_up (am_up (am_up h x0 0 q14) x0 1 x4) x0 2 x6) : Option (am_F)).bind fun q18 =>
      Pa_choose_l104 x0 x1 x2 x3 x4 x5 n (x6 + (Int32.ofInt (-1))) q18
def Pa_choose_l73 (x0 : Nat) (x1 : Nat) (x2 : Int32) (x3 : Int32) : Nat → Int32 → am_F → Option (am_F)
  | 0, _, _ => none
  | n + 1, x4, h =>
    if (h x1 3) ≤ x4 then
      some h
    else
      (Pa_hoursFor x1 x4 h).bind fun q9 =>
      (Pa_dryAt x1 (x2 + q9) h).bind fun q10 =>
      (Pa_choose_l104 x0 x1 x2 x3 x4 q10 g_fu ((h x1 3) - (1 : Int32)) h).bind fun q19 =>
      Pa_choose_l73 x0 x1 x2 x3 n (x4 + (1 : Int32)) q19
def Pa_choose (a : Nat) (x1 : Nat) (x2 : Int32) (h : am_F) : Option (am_F) :=
  if ((am_up (am_up (am_up h a 0 (401 : Int32)) a 1 (0 : Int32)) a 2 (0 : Int32)) x1 3) = (1 : Int32) then
    (Pa_hoursFor x1 (0 : Int32) (am_up (am_up (am_up h a 0 (401 : Int32)) a 1 (0 : Int32)) a 2 (0 : Int32))).bind fun q2 =>
    (Pa_dryAt x1 (x2 + q2) (am_up (am_up (am_up h a 0 (401 : Int32)) a 1 (0 : Int32)) a 2 (0 : Int32))).bind fun q3 =>
    some (am_up (am_up (am_up (am_up h a 0 (401 : Int32)) a 1 (0 : Int32)) a 2 (0 : Int32)) a 0 q3)
  else
    (Pa_choose_l46 a x1 x2 (am_up (am_up (am_up h a 0 (401 : Int32)) a 1 (0 : Int32)) a 2 (0 : Int32)) g_fu (0 : Int32) (0 : Int32)).bind fun q6 =>
    (Pa_choose_l73 a x1 x2 q6 g_fu (0 : Int32) (am_up (am_up (am_up h a 0 (401 : Int32)) a 1 (0 : Int32)) a 2 (0 : Int32))).bind fun q23 =>
    some q23
theorem Pa_choose_l46_s {X : Nat × (Nat → Int32)} {l : List (Nat × Nat)} {r : am_R} {x0 : Nat} {x1 : Nat} {x2 : Int32} {h : am_F} {j : am_J} {q : Int32} {R : Option Value × am_S} (kx0 : Pa_K l r x0) (kx1 : Pk_K l r x1) (hx : ∀ (y4 : Int32) , Ev X 29 70 [some (.ref x0), some (.ref x1), some (.int x2), some (.int q), some (.int y4), none, none, none, none] [] (l, r, h, j) R) : ∀ (n : Nat) (x3 : Int32) (x4 : Int32), Pa_choose_l46 x0 x1 x2 h n x3 x4 = some q → Ev X 29 46 [some (.ref x0), some (.ref x1), some (.int x2), some (.int x3), some (.int x4), none, none, none, none] [] (l, r, h, j) R := by
  intro n
  induction n with
  | zero => intro x3 x4 e; cases e
  | succ n ih =>
    intro x3 x4 e
    unfold Pa_choose_l46 at e
    refine g_run 2 49 [some (.ref x0), some (.ref x1), some (.int x2), some (.int x3), some (.int x4), none, none, none, none] [.ref x1, .int x4] (fun _ => rfl) ?_
    refine g_getI 52 rfl rfl (Pk_l kx1) ?_
    refine g_if (p1 := 70) (L1 := [some (.ref x0), some (.ref x1), some (.int x2), some (.int x3), some (.int x4), none, none, none, none]) (S1 := []) (s1 := (l, r, h, j)) (p2 := 55) (L2 := [some (.ref x0), some (.ref x1), some (.int x2), some (.int x3), some (.int x4), none, none, none, none]) (S2 := []) (s2 := (l, r, h, j)) rfl (fun _ _ => rfl) e (fun c4 e => ?_) (fun c4 e => ?_)
    · cases e
      exact hx _
    · refine g_run 3 59 [some (.ref x0), some (.ref x1), some (.int x2), some (.int x3), some (.int x4), none, none, none, none] [.int x4, .ref x1, .int x3] (fun _ => rfl) ?_
      obtain ⟨q5, eq5, e⟩ := g_bd e
      refine g_cS 62 rfl rfl (by decide) rfl rfl rfl (Pa_hoursFor_s kx1 eq5) ?_
      refine g_run 4 46 [some (.ref x0), some (.ref x1), some (.int x2), some (.int (x3 + q5)), some (.int (x4 + (1 : Int32))), none, none, none, none] [] (fun _ => rfl) ?_
      exact ih _ _ e
theorem Pa_choose_l104_s {X : Nat × (Nat → Int32)} {l : List (Nat × Nat)} {r : am_R} {x0 : Nat} {x1 : Nat} {x2 : Int32} {x3 : Int32} {x4 : Int32} {x5 : Int32} {j : am_J} {q : am_F} {R : Option Value × am_S} (kx0 : Pa_K l r x0) (kx1 : Pk_K l r x1) (hx : ∀ (d7 : Option Value) (d8 : Option Value) (y6 : Int32) , Ev X 29 181 [some (.ref x0), some (.ref x1), some (.int x2), some (.int x3), some (.int x4), some (.int x5), some (.int y6), d7, d8] [] (l, r, q, j) R) : ∀ (n : Nat) (x6 : Int32) (h : am_F) (d7 : Option Value) (d8 : Option Value), Pa_choose_l104 x0 x1 x2 x3 x4 x5 n x6 h = some q → Ev X 29 104 [some (.ref x0), some (.ref x1), some (.int x2), some (.int x3), some (.int x4), some (.int x5), some (.int x6), d7, d8] [] (l, r, h, j) R := by
  intro n
  induction n with
  | zero => intro x6 h d7 d8 e; cases e
  | succ n ih =>
    intro x6 h d7 d8 e
    unfold Pa_choose_l104 at e
    refine g_run 1 106 [some (.ref x0), some (.ref x1), some (.int x2), some (.int x3), some (.int x4), some (.int x5), some (.int x6), d7, d8] [.int x6] (fun _ => rfl) ?_
    refine g_if (p1 := 181) (L1 := [some (.ref x0), some (.ref x1), some (.int x2), some (.int x3), some (.int x4), some (.int x5), some (.int x6), d7, d8]) (S1 := []) (s1 := (l, r, h, j)) (p2 := 109) (L2 := [some (.ref x0), some (.ref x1), some (.int x2), some (.int x3), some (.int x4), some (.int x5), some (.int x6), d7, d8]) (S2 := []) (s2 := (l, r, h, j)) rfl (fun _ _ => rfl) e (fun c11 e => ?_) (fun c11 e => ?_)
    · cases e
      exact hx _ _ _
    · refine g_run 5 115 [some (.ref x0), some (.ref x1), some (.int x2), some (.int x3), some (.int x4), some (.int x5), some (.int x6), d7, d8] [.int x6, .ref x1, .int (x2 + x3)] (fun _ => rfl) ?_
      obtain ⟨q12, eq12, e⟩ := g_bd e
      refine g_cS 118 rfl rfl (by decide) rfl rfl rfl (Pa_hoursFor_s kx1 eq12) ?_
      refine g_run 8 132 [some (.ref x0), some (.ref x1), some (.int x2), some (.int x3), some (.int x4), some (.int x5), some (.int x6), some (.int ((x2 + x3) - q12)), d8] [.int x6, .ref x1, .int (if ((x2 + x3) - q12) < x5 then x5 else ((x2 + x3) - q12)), .ref x1] (fun _ => rfl) ?_
      obtain ⟨q13, eq13, e⟩ := g_bd e
      refine g_cS 135 rfl rfl (by decide) rfl rfl rfl (Pa_hoursFor_s kx1 eq13) ?_
      refine g_run 1 136 [some (.ref x0), some (.ref x1), some (.int x2), some (.int x3), some (.int x4), some (.int x5), some (.int x6), some (.int ((x2 + x3) - q12)), d8] [.int ((if ((x2 + x3) - q12) < x5 then x5 else ((x2 + x3) - q12)) + q13), .ref x1] (fun _ => rfl) ?_
      obtain ⟨q14, eq14, e⟩ := g_bd e
      refine g_cS 139 rfl rfl (by decide) rfl rfl rfl (Pa_dryAt_s kx1 eq14) ?_
      refine g_run 3 145 [some (.ref x0), some (.ref x1), some (.int x2), some (.int x3), some (.int x4), some (.int x5), some (.int x6), some (.int ((x2 + x3) - q12)), some (.int q14)] [.int x4, .int x6] (fun _ => rfl) ?_
      obtain ⟨q18, eq18, e⟩ := g_bd e
      have hjq18 : ∀ (_ : True), Ev X 29 175 [some (.ref x0), some (.ref x1), some (.int x2), some (.int x3), some (.int x4), some (.int x5), some (.int x6), some (.int ((x2 + x3) - q12)), some (.int q14)] [] (l, r, q18, j) R := by
        intro _
        refine g_go 178 [some (.ref x0), some (.ref x1), some (.int x2), some (.int x3), some (.int x4), some (.int x5), some (.int (x6 + (Int32.ofInt (-1)))), some (.int ((x2 + x3) - q12)), some (.int q14)] [] rfl (fun _ _ => rfl) ?_
        refine g_run 1 104 [some (.ref x0), some (.ref x1), some (.int x2), some (.int x3), some (.int x4), some (.int x5), some (.int (x6 + (Int32.ofInt (-1)))), some (.int ((x2 + x3) - q12)), some (.int q14)] [] (fun _ => rfl) ?_
        exact ih _ _ _ _ e
      replace e := eq18
      refine g_if (p1 := 175) (L1 := [some (.ref x0), some (.ref x1), some (.int x2), some (.int x3), some (.int x4), some (.int x5), some (.int x6), some (.int ((x2 + x3) - q12)), some (.int q14)]) (S1 := []) (s1 := (l, r, h, j)) (p2 := 148) (L2 := [some (.ref x0), some (.ref x1), some (.int x2), some (.int x3), some (.int x4), some (.int x5), some (.int x6), some (.int ((x2 + x3) - q12)), some (.int q14)]) (S2 := []) (s2 := (l, r, h, j)) rfl (fun _ _ => rfl) e (fun c15 e => ?_) (fun c15 e => ?_)
      · cases e
        exact hjq18 trivial
      · refine g_run 2 151 [some (.ref x0), some (.ref x1), some (.int x2), some (.int x3), some (.int x4), some (.int x5), some (.int x6), some (.int ((x2 + x3) - q12)), some (.int q14)] [.ref x0, .int q14] (fun _ => rfl) ?_
        refine g_getI 154 rfl rfl (Pa_l kx0) ?_
        refine g_if (p1 := 175) (L1 := [some (.ref x0), some (.ref x1), some (.int x2), some (.int x3), some (.int x4), some (.int x5), some (.int x6), some (.int ((x2 + x3) - q12)), some (.int q14)]) (S1 := []) (s1 := (l, r, h, j)) (p2 := 157) (L2 := [some (.ref x0), some (.ref x1), some (.int x2), some (.int x3), some (.int x4), some (.int x5), some (.int x6), some (.int ((x2 + x3) - q12)), some (.int q14)]) (S2 := []) (s2 := (l, r, h, j)) rfl (fun _ _ => rfl) e (fun c17 e => ?_) (fun c17 e => ?_)
        · cases e
          exact hjq18 trivial
        · refine g_run 2 160 [some (.ref x0), some (.ref x1), some (.int x2), some (.int x3), some (.int x4), some (.int x5), some (.int x6), some (.int ((x2 + x3) - q12)), some (.int q14)] [.int q14, .ref x0] (fun _ => rfl) ?_
          refine g_putI 163 rfl rfl (Pa_l kx0) ?_
          refine g_run 2 166 [some (.ref x0), some (.ref x1), some (.int x2), some (.int x3), some (.int x4), some (.int x5), some (.int x6), some (.int ((x2 + x3) - q12)), some (.int q14)] [.int x4, .ref x0] (fun _ => rfl) ?_
          refine g_putI 169 rfl rfl (Pa_l kx0) ?_
          refine g_run 2 172 [some (.ref x0), some (.ref x1), some (.int x2), some (.int x3), some (.int x4), some (.int x5), some (.int x6), some (.int ((x2 + x3) - q12)), some (.int q14)] [.int x6, .ref x0] (fun _ => rfl) ?_
          refine g_putI 175 rfl rfl (Pa_l kx0) ?_
          cases e
          exact hjq18 trivial
theorem Pa_choose_l73_s {X : Nat × (Nat → Int32)} {l : List (Nat × Nat)} {r : am_R} {x0 : Nat} {x1 : Nat} {x2 : Int32} {x3 : Int32} {j : am_J} {q : am_F} {R : Option Value × am_S} (kx0 : Pa_K l r x0) (kx1 : Pk_K l r x1) (hx : ∀ (d5 : Option Value) (d6 : Option Value) (d7 : Option Value) (d8 : Option Value) (y4 : Int32) , Ev X 29 187 [some (.ref x0), some (.ref x1), some (.int x2), some (.int x3), some (.int y4), d5, d6, d7, d8] [] (l, r, q, j) R) : ∀ (n : Nat) (x4 : Int32) (h : am_F) (d5 : Option Value) (d6 : Option Value) (d7 : Option Value) (d8 : Option Value), Pa_choose_l73 x0 x1 x2 x3 n x4 h = some q → Ev X 29 73 [some (.ref x0), some (.ref x1), some (.int x2), some (.int x3), some (.int x4), d5, d6, d7, d8] [] (l, r, h, j) R := by
  intro n
  induction n with
  | zero => intro x4 h d5 d6 d7 d8 e; cases e
  | succ n ih =>
    intro x4 h d5 d6 d7 d8 e
    unfold Pa_choose_l73 at e
    refine g_run 2 76 [some (.ref x0), some (.ref x1), some (.int x2), some (.int x3), some (.int x4), d5, d6, d7, d8] [.ref x1, .int x4] (fun _ => rfl) ?_
    refine g_getI 79 rfl rfl (Pk_l kx1) ?_
    refine g_if (p1 := 187) (L1 := [some (.ref x0), some (.ref x1), some (.int x2), some (.int x3), some (.int x4), d5, d6, d7, d8]) (S1 := []) (s1 := (l, r, h, j)) (p2 := 82) (L2 := [some (.ref x0), some (.ref x1), some (.int x2), some (.int x3), some (.int x4), d5, d6, d7, d8]) (S2 := []) (s2 := (l, r, h, j)) rfl (fun _ _ => rfl) e (fun c8 e => ?_) (fun c8 e => ?_)
    · cases e
      exact hx _ _ _ _ _
    · refine g_run 4 87 [some (.ref x0), some (.ref x1), some (.int x2), some (.int x3), some (.int x4), d5, d6, d7, d8] [.int x4, .ref x1, .int x2, .ref x1] (fun _ => rfl) ?_
      obtain ⟨q9, eq9, e⟩ := g_bd e
      refine g_cS 90 rfl rfl (by decide) rfl rfl rfl (Pa_hoursFor_s kx1 eq9) ?_
      refine g_run 1 91 [some (.ref x0), some (.ref x1), some (.int x2), some (.int x3), some (.int x4), d5, d6, d7, d8] [.int (x2 + q9), .ref x1] (fun _ => rfl) ?_
      obtain ⟨q10, eq10, e⟩ := g_bd e
      refine g_cS 94 rfl rfl (by decide) rfl rfl rfl (Pa_dryAt_s kx1 eq10) ?_
      refine g_run 2 97 [some (.ref x0), some (.ref x1), some (.int x2), some (.int x3), some (.int x4), some (.int q10), d6, d7, d8] [.ref x1] (fun _ => rfl) ?_
      refine g_getI 100 rfl rfl (Pk_l kx1) ?_
      refine g_run 3 104 [some (.ref x0), some (.ref x1), some (.int x2), some (.int x3), some (.int x4), some (.int q10), some (.int ((h x1 3) - (1 : Int32))), d7, d8] [] (fun _ => rfl) ?_
      obtain ⟨q19, eq19, e⟩ := g_bd e
      refine Pa_choose_l104_s kx0 kx1 (fun d20 d21 y22 => ?_) _ _ _ _ _ eq19
      refine g_run 2 73 [some (.ref x0), some (.ref x1), some (.int x2), some (.int x3), some (.int (x4 + (1 : Int32))), some (.int q10), some (.int y22), d20, d21] [] (fun _ => rfl) ?_
      exact ih _ _ _ _ _ _ e
theorem Pa_choose_s {X : Nat × (Nat → Int32)} {l : List (Nat × Nat)} {r : am_R} {h : am_F} {j : am_J} {a : Nat} {x1 : Nat} {x2 : Int32} (ka : Pa_K l r a) (kx1 : Pk_K l r x1) {q : am_F} (e : Pa_choose a x1 x2 h = some q) : Call X 29 [.ref a, .ref x1, .int x2] (l, r, h, j) (none, (l, r, q, j)) := by
  unfold Pa_choose at e
  refine ⟨Nat.le_of_ble_eq_true rfl, ?_⟩
  show Ev X 29 0 [some (.ref a), some (.ref x1), some (.int x2), none, none, none, none, none, none] [] (l, r, h, j) _
  refine g_run 2 4 [some (.ref a), some (.ref x1), some (.int x2), none, none, none, none, none, none] [.int (401 : Int32), .ref a] (fun _ => rfl) ?_
  refine g_putI 7 rfl rfl (Pa_l ka) ?_
  refine g_run 2 9 [some (.ref a), some (.ref x1), some (.int x2), none, none, none, none, none, none] [.int (0 : Int32), .ref a] (fun _ => rfl) ?_
  refine g_putI 12 rfl rfl (Pa_l ka) ?_
  refine g_run 2 14 [some (.ref a), some (.ref x1), some (.int x2), none, none, none, none, none, none] [.int (0 : Int32), .ref a] (fun _ => rfl) ?_
  refine g_putI 17 rfl rfl (Pa_l ka) ?_
  refine g_run 1 18 [some (.ref a), some (.ref x1), some (.int x2), none, none, none, none, none, none] [.ref x1] (fun _ => rfl) ?_
  refine g_getI 21 rfl rfl (Pk_l kx1) ?_
  refine g_run 1 22 [some (.ref a), some (.ref x1), some (.int x2), none, none, none, none, none, none] [.int (1 : Int32), .int ((am_up (am_up (am_up h a 0 (401 : Int32)) a 1 (0 : Int32)) a 2 (0 : Int32)) x1 3)] (fun _ => rfl) ?_
  refine g_if (p1 := 25) (L1 := [some (.ref a), some (.ref x1), some (.int x2), none, none, none, none, none, none]) (S1 := []) (s1 := (l, r, (am_up (am_up (am_up h a 0 (401 : Int32)) a 1 (0 : Int32)) a 2 (0 : Int32)), j)) (p2 := 41) (L2 := [some (.ref a), some (.ref x1), some (.int x2), none, none, none, none, none, none]) (S2 := []) (s2 := (l, r, (am_up (am_up (am_up h a 0 (401 : Int32)) a 1 (0 : Int32)) a 2 (0 : Int32)), j)) rfl (fun _ _ => rfl) e (fun c1 e => ?_) (fun c1 e => ?_)
  · refine g_run 5 30 [some (.ref a), some (.ref x1), some (.int x2), none, none, none, none, none, none] [.int (0 : Int32), .ref x1, .int x2, .ref x1, .ref a] (fun _ => rfl) ?_
    obtain ⟨q2, eq2, e⟩ := g_bd e
    refine g_cS 33 rfl rfl (by decide) rfl rfl rfl (Pa_hoursFor_s kx1 eq2) ?_
    refine g_run 1 34 [some (.ref a), some (.ref x1), some (.int x2), none, none, none, none, none, none] [.int (x2 + q2), .ref x1, .ref a] (fun _ => rfl) ?_
    obtain ⟨q3, eq3, e⟩ := g_bd e
    refine g_cS 37 rfl rfl (by decide) rfl rfl rfl (Pa_dryAt_s kx1 eq3) ?_
    refine g_putI 40 rfl rfl (Pa_l ka) ?_
    cases e
    exact g_ret rfl (fun _ _ => rfl)
  · refine g_run 4 46 [some (.ref a), some (.ref x1), some (.int x2), some (.int (0 : Int32)), some (.int (0 : Int32)), none, none, none, none] [] (fun _ => rfl) ?_
    obtain ⟨q6, eq6, e⟩ := g_bd e
    refine Pa_choose_l46_s ka kx1 (fun y7 => ?_) _ _ _ eq6
    refine g_run 2 73 [some (.ref a), some (.ref x1), some (.int x2), some (.int q6), some (.int (0 : Int32)), none, none, none, none] [] (fun _ => rfl) ?_
    obtain ⟨q23, eq23, e⟩ := g_bd e
    refine Pa_choose_l73_s ka kx1 (fun d24 d25 d26 d27 y28 => ?_) _ _ _ _ _ _ _ eq23
    cases e
    exact g_ret rfl (fun _ _ => rfl)
def Pa_benchAt_l26 (x0 : Nat) (x1 : Int32) (x2 : Int32) (h : am_F) : Nat → Int32 → Int32 → Option (Int32)
  | 0, _, _ => none
  | n + 1, x3, x4 =>
    if x2 ≤ x4 then
      some (-1 : Int32)
    else
      (if x4 = (h x0 1) then
          some (0 : Int32)
        else
          if x4 = (h x0 2) then
            some (0 : Int32)
          else
            some (1 : Int32) : Option (Int32)).bind fun q7 =>
      if (x3 + q7) = x1 then
        some x4
      else
        Pa_benchAt_l26 x0 x1 x2 h n (x3 + q7) (x4 + (1 : Int32))
def Pa_benchAt (a : Nat) (x1 : Int32) (x2 : Int32) (h : am_F) : Option (Int32) :=
  if x1 = 0 then
    some (h a 1)
  else
    if x1 = (x2 - (1 : Int32)) then
      some (h a 2)
    else
      Pa_benchAt_l26 a x1 x2 h g_fu (0 : Int32) (0 : Int32)
theorem Pa_benchAt_l26_s {X : Nat × (Nat → Int32)} {l : List (Nat × Nat)} {r : am_R} {x0 : Nat} {x1 : Int32} {x2 : Int32} {h : am_F} {j : am_J} {q : Int32} (kx0 : Pa_K l r x0) : ∀ (n : Nat) (x3 : Int32) (x4 : Int32), Pa_benchAt_l26 x0 x1 x2 h n x3 x4 = some q → Ev X 32 26 [some (.ref x0), some (.int x1), some (.int x2), some (.int x3), some (.int x4)] [] (l, r, h, j) (some (.int q), (l, r, h, j)) := by
  intro n
  induction n with
  | zero => intro x3 x4 e; cases e
  | succ n ih =>
    intro x3 x4 e
    unfold Pa_benchAt_l26 at e
    refine g_run 2 29 [some (.ref x0), some (.int x1), some (.int x2), some (.int x3), some (.int x4)] [.int x2, .int x4] (fun _ => rfl) ?_
    refine g_if (p1 := 72) (L1 := [some (.ref x0), some (.int x1), some (.int x2), some (.int x3), some (.int x4)]) (S1 := []) (s1 := (l, r, h, j)) (p2 := 32) (L2 := [some (.ref x0), some (.int x1), some (.int x2), some (.int x3), some (.int x4)]) (S2 := []) (s2 := (l, r, h, j)) rfl (fun _ _ => rfl) e (fun c3 e => ?_) (fun c3 e => ?_)
    · refine g_run 1 73 [some (.ref x0), some (.int x1), some (.int x2), some (.int x3), some (.int x4)] [.int (-1 : Int32)] (fun _ => rfl) ?_
      cases e
      exact g_ret rfl (fun _ _ => rfl)
    · refine g_run 3 36 [some (.ref x0), some (.int x1), some (.int x2), some (.int x3), some (.int x4)] [.ref x0, .int x4, .int x3] (fun _ => rfl) ?_
      refine g_getI 39 rfl rfl (Pa_l kx0) ?_
      obtain ⟨q7, eq7, e⟩ := g_bd e
      have hjq7 : ∀ (_ : True), Ev X 32 56 [some (.ref x0), some (.int x1), some (.int x2), some (.int x3), some (.int x4)] [.int q7, .int x3] (l, r, h, j) (some (.int q), (l, r, h, j)) := by
        intro _
        refine g_run 4 60 [some (.ref x0), some (.int x1), some (.int x2), some (.int (x3 + q7)), some (.int x4)] [.int x1, .int (x3 + q7)] (fun _ => rfl) ?_
        refine g_if (p1 := 63) (L1 := [some (.ref x0), some (.int x1), some (.int x2), some (.int (x3 + q7)), some (.int x4)]) (S1 := []) (s1 := (l, r, h, j)) (p2 := 66) (L2 := [some (.ref x0), some (.int x1), some (.int x2), some (.int (x3 + q7)), some (.int x4)]) (S2 := []) (s2 := (l, r, h, j)) rfl (fun _ _ => rfl) e (fun c8 e => ?_) (fun c8 e => ?_)
        · refine g_run 1 65 [some (.ref x0), some (.int x1), some (.int x2), some (.int (x3 + q7)), some (.int x4)] [.int x4] (fun _ => rfl) ?_
          cases e
          exact g_ret rfl (fun _ _ => rfl)
        · refine g_run 2 26 [some (.ref x0), some (.int x1), some (.int x2), some (.int (x3 + q7)), some (.int (x4 + (1 : Int32)))] [] (fun _ => rfl) ?_
          exact ih _ _ e
      replace e := eq7
      refine g_if (p1 := 55) (L1 := [some (.ref x0), some (.int x1), some (.int x2), some (.int x3), some (.int x4)]) (S1 := [.int x3]) (s1 := (l, r, h, j)) (p2 := 42) (L2 := [some (.ref x0), some (.int x1), some (.int x2), some (.int x3), some (.int x4)]) (S2 := [.int x3]) (s2 := (l, r, h, j)) rfl (fun _ _ => rfl) e (fun c4 e => ?_) (fun c4 e => ?_)
      · refine g_run 1 56 [some (.ref x0), some (.int x1), some (.int x2), some (.int x3), some (.int x4)] [.int (0 : Int32), .int x3] (fun _ => rfl) ?_
        cases e
        exact hjq7 trivial
      · refine g_run 2 45 [some (.ref x0), some (.int x1), some (.int x2), some (.int x3), some (.int x4)] [.ref x0, .int x4, .int x3] (fun _ => rfl) ?_
        refine g_getI 48 rfl rfl (Pa_l kx0) ?_
        refine g_if (p1 := 55) (L1 := [some (.ref x0), some (.int x1), some (.int x2), some (.int x3), some (.int x4)]) (S1 := [.int x3]) (s1 := (l, r, h, j)) (p2 := 51) (L2 := [some (.ref x0), some (.int x1), some (.int x2), some (.int x3), some (.int x4)]) (S2 := [.int x3]) (s2 := (l, r, h, j)) rfl (fun _ _ => rfl) e (fun c6 e => ?_) (fun c6 e => ?_)
        · refine g_run 1 56 [some (.ref x0), some (.int x1), some (.int x2), some (.int x3), some (.int x4)] [.int (0 : Int32), .int x3] (fun _ => rfl) ?_
          cases e
          exact hjq7 trivial
        · refine g_run 2 56 [some (.ref x0), some (.int x1), some (.int x2), some (.int x3), some (.int x4)] [.int (1 : Int32), .int x3] (fun _ => rfl) ?_
          cases e
          exact hjq7 trivial
theorem Pa_benchAt_s {X : Nat × (Nat → Int32)} {l : List (Nat × Nat)} {r : am_R} {h : am_F} {j : am_J} {a : Nat} {x1 : Int32} {x2 : Int32} (ka : Pa_K l r a) {q : Int32} (e : Pa_benchAt a x1 x2 h = some q) : Call X 32 [.ref a, .int x1, .int x2] (l, r, h, j) (some (.int q), (l, r, h, j)) := by
  unfold Pa_benchAt at e
  refine ⟨Nat.le_of_ble_eq_true rfl, ?_⟩
  show Ev X 32 0 [some (.ref a), some (.int x1), some (.int x2), none, none] [] (l, r, h, j) _
  refine g_run 1 1 [some (.ref a), some (.int x1), some (.int x2), none, none] [.int x1] (fun _ => rfl) ?_
  refine g_if (p1 := 4) (L1 := [some (.ref a), some (.int x1), some (.int x2), none, none]) (S1 := []) (s1 := (l, r, h, j)) (p2 := 9) (L2 := [some (.ref a), some (.int x1), some (.int x2), none, none]) (S2 := []) (s2 := (l, r, h, j)) rfl (fun _ _ => rfl) e (fun c1 e => ?_) (fun c1 e => ?_)
  · refine g_run 1 5 [some (.ref a), some (.int x1), some (.int x2), none, none] [.ref a] (fun _ => rfl) ?_
    refine g_getI 8 rfl rfl (Pa_l ka) ?_
    cases e
    exact g_ret rfl (fun _ _ => rfl)
  · refine g_run 4 13 [some (.ref a), some (.int x1), some (.int x2), none, none] [.int (x2 - (1 : Int32)), .int x1] (fun _ => rfl) ?_
    refine g_if (p1 := 16) (L1 := [some (.ref a), some (.int x1), some (.int x2), none, none]) (S1 := []) (s1 := (l, r, h, j)) (p2 := 21) (L2 := [some (.ref a), some (.int x1), some (.int x2), none, none]) (S2 := []) (s2 := (l, r, h, j)) rfl (fun _ _ => rfl) e (fun c2 e => ?_) (fun c2 e => ?_)
    · refine g_run 1 17 [some (.ref a), some (.int x1), some (.int x2), none, none] [.ref a] (fun _ => rfl) ?_
      refine g_getI 20 rfl rfl (Pa_l ka) ?_
      cases e
      exact g_ret rfl (fun _ _ => rfl)
    · refine g_run 4 26 [some (.ref a), some (.int x1), some (.int x2), some (.int (0 : Int32)), some (.int (0 : Int32))] [] (fun _ => rfl) ?_
      exact Pa_benchAt_l26_s ka _ _ _ e
def Pk_clear (l : List (Nat × Nat)) (r : am_R) (a : Nat) (h : am_F) : Option (am_F) :=
  (Ar_fill l r (a + 1) (2 : Int32) (am_up (am_up (am_up (am_up h a 0 (20 : Int32)) a 1 (8 : Int32)) a 2 (0 : Int32)) a 3 (0 : Int32))).bind fun q1 =>
  (Ar_fill l r (a + 3) (0 : Int32) q1).bind fun q2 =>
  (Ar_fill l r (a + 4) (-1 : Int32) q2).bind fun q3 =>
  (Ar_fill l r (a + 5) (-1 : Int32) q3).bind fun q4 =>
  (Ar_fill l r (a + 6) (-1 : Int32) q4).bind fun q5 =>
  some (am_up (am_up (am_up q5 (a + 7) 3 (0 : Int32)) (a + 9) 3 (0 : Int32)) (a + 11) 3 (0 : Int32))
theorem Pk_clear_s {X : Nat × (Nat → Int32)} {l : List (Nat × Nat)} {r : am_R} {h : am_F} {j : am_J} {a : Nat} (ka : Pk_K l r a) {q : am_F} (e : Pk_clear l r a h = some q) : Call X 34 [.ref a] (l, r, h, j) (none, (l, r, q, j)) := by
  unfold Pk_clear at e
  refine ⟨Nat.le_of_ble_eq_true rfl, ?_⟩
  show Ev X 34 0 [some (.ref a)] [] (l, r, h, j) _
  refine g_run 2 3 [some (.ref a)] [.int (20 : Int32), .ref a] (fun _ => rfl) ?_
  refine g_putI 6 rfl rfl (Pk_l ka) ?_
  refine g_run 2 9 [some (.ref a)] [.int (8 : Int32), .ref a] (fun _ => rfl) ?_
  refine g_putI 12 rfl rfl (Pk_l ka) ?_
  refine g_run 2 14 [some (.ref a)] [.int (0 : Int32), .ref a] (fun _ => rfl) ?_
  refine g_putI 17 rfl rfl (Pk_l ka) ?_
  refine g_run 2 19 [some (.ref a)] [.int (0 : Int32), .ref a] (fun _ => rfl) ?_
  refine g_putI 22 rfl rfl (Pk_l ka) ?_
  refine g_run 1 23 [some (.ref a)] [.ref a] (fun _ => rfl) ?_
  refine g_getA 26 rfl rfl (Pk_l ka) (Pk_r4 ka) ?_
  refine g_run 1 27 [some (.ref a)] [.int (2 : Int32), .ref (a + 1)] (fun _ => rfl) ?_
  obtain ⟨q1, eq1, e⟩ := g_bd e
  refine g_cSv 30 rfl rfl (by decide) rfl rfl rfl (Ar_fill_s (g_lnk (Pk_k4 ka)) eq1) ?_
  refine g_run 1 31 [some (.ref a)] [.ref a] (fun _ => rfl) ?_
  refine g_getA 34 rfl rfl (Pk_l ka) (Pk_r6 ka) ?_
  refine g_run 1 35 [some (.ref a)] [.int (0 : Int32), .ref (a + 3)] (fun _ => rfl) ?_
  obtain ⟨q2, eq2, e⟩ := g_bd e
  refine g_cSv 38 rfl rfl (by decide) rfl rfl rfl (Ar_fill_s (g_lnk (Pk_k6 ka)) eq2) ?_
  refine g_run 1 39 [some (.ref a)] [.ref a] (fun _ => rfl) ?_
  refine g_getA 42 rfl rfl (Pk_l ka) (Pk_r7 ka) ?_
  refine g_run 1 43 [some (.ref a)] [.int (-1 : Int32), .ref (a + 4)] (fun _ => rfl) ?_
  obtain ⟨q3, eq3, e⟩ := g_bd e
  refine g_cSv 46 rfl rfl (by decide) rfl rfl rfl (Ar_fill_s (g_lnk (Pk_k7 ka)) eq3) ?_
  refine g_run 1 47 [some (.ref a)] [.ref a] (fun _ => rfl) ?_
  refine g_getA 50 rfl rfl (Pk_l ka) (Pk_r8 ka) ?_
  refine g_run 1 51 [some (.ref a)] [.int (-1 : Int32), .ref (a + 5)] (fun _ => rfl) ?_
  obtain ⟨q4, eq4, e⟩ := g_bd e
  refine g_cSv 54 rfl rfl (by decide) rfl rfl rfl (Ar_fill_s (g_lnk (Pk_k8 ka)) eq4) ?_
  refine g_run 1 55 [some (.ref a)] [.ref a] (fun _ => rfl) ?_
  refine g_getA 58 rfl rfl (Pk_l ka) (Pk_r9 ka) ?_
  refine g_run 1 59 [some (.ref a)] [.int (-1 : Int32), .ref (a + 6)] (fun _ => rfl) ?_
  obtain ⟨q5, eq5, e⟩ := g_bd e
  refine g_cSv 62 rfl rfl (by decide) rfl rfl rfl (Ar_fill_s (g_lnk (Pk_k9 ka)) eq5) ?_
  refine g_run 1 63 [some (.ref a)] [.ref a] (fun _ => rfl) ?_
  refine g_getA 66 rfl rfl (Pk_l ka) (Pk_r10 ka) ?_
  refine g_run 1 67 [some (.ref a)] [.int (0 : Int32), .ref (a + 7)] (fun _ => rfl) ?_
  refine g_putI 70 rfl rfl (Rw_l (Pk_k10 ka)) ?_
  refine g_run 1 71 [some (.ref a)] [.ref a] (fun _ => rfl) ?_
  refine g_getA 74 rfl rfl (Pk_l ka) (Pk_r11 ka) ?_
  refine g_run 1 75 [some (.ref a)] [.int (0 : Int32), .ref (a + 9)] (fun _ => rfl) ?_
  refine g_putI 78 rfl rfl (Rw_l (Pk_k11 ka)) ?_
  refine g_run 1 79 [some (.ref a)] [.ref a] (fun _ => rfl) ?_
  refine g_getA 82 rfl rfl (Pk_l ka) (Pk_r12 ka) ?_
  refine g_run 1 83 [some (.ref a)] [.int (0 : Int32), .ref (a + 11)] (fun _ => rfl) ?_
  refine g_putI 86 rfl rfl (Rw_l (Pk_k12 ka)) ?_
  cases e
  exact g_ret rfl (fun _ _ => rfl)
def Rw_copyFrom (l : List (Nat × Nat)) (r : am_R) (a : Nat) (x1 : Nat) (h : am_F) : Option (am_F) :=
  if (h x1 0) = (h a 0) then
    (g_cx (((am_up h a 3 (if (h a 1) < (h x1 3) then (h a 1) else (h x1 3))) a 3) * ((am_up h a 3 (if (h a 1) < (h x1 3) then (h a 1) else (h x1 3))) a 0)) (g_ln l (x1 + 1)) (g_ln l (a + 1))).bind fun k2 =>
    some (g_cp (am_up h a 3 (if (h a 1) < (h x1 3) then (h a 1) else (h x1 3))) (x1 + 1) (a + 1) k2)
  else
    some h
theorem Rw_copyFrom_s {X : Nat × (Nat → Int32)} {l : List (Nat × Nat)} {r : am_R} {h : am_F} {j : am_J} {a : Nat} {x1 : Nat} (ka : Rw_K l r a) (kx1 : Rw_K l r x1) {q : am_F} (e : Rw_copyFrom l r a x1 h = some q) : Call X 85 [.ref a, .ref x1] (l, r, h, j) (none, (l, r, q, j)) := by
  unfold Rw_copyFrom at e
  refine ⟨Nat.le_of_ble_eq_true rfl, ?_⟩
  show Ev X 85 0 [some (.ref a), some (.ref x1)] [] (l, r, h, j) _
  refine g_run 1 1 [some (.ref a), some (.ref x1)] [.ref x1] (fun _ => rfl) ?_
  refine g_getI 4 rfl rfl (Rw_l kx1) ?_
  refine g_run 1 5 [some (.ref a), some (.ref x1)] [.ref a, .int (h x1 0)] (fun _ => rfl) ?_
  refine g_getI 8 rfl rfl (Rw_l ka) ?_
  refine g_if (p1 := 12) (L1 := [some (.ref a), some (.ref x1)]) (S1 := []) (s1 := (l, r, h, j)) (p2 := 11) (L2 := [some (.ref a), some (.ref x1)]) (S2 := []) (s2 := (l, r, h, j)) rfl (fun _ _ => rfl) e (fun c1 e => ?_) (fun c1 e => ?_)
  · refine g_run 2 14 [some (.ref a), some (.ref x1)] [.ref x1, .ref a] (fun _ => rfl) ?_
    refine g_getI 17 rfl rfl (Rw_l kx1) ?_
    refine g_run 1 18 [some (.ref a), some (.ref x1)] [.ref a, .int (h x1 3), .ref a] (fun _ => rfl) ?_
    refine g_getI 21 rfl rfl (Rw_l ka) ?_
    refine g_run 1 24 [some (.ref a), some (.ref x1)] [.int (if (h a 1) < (h x1 3) then (h a 1) else (h x1 3)), .ref a] (fun _ => rfl) ?_
    refine g_putI 27 rfl rfl (Rw_l ka) ?_
    refine g_run 1 28 [some (.ref a), some (.ref x1)] [.ref x1] (fun _ => rfl) ?_
    refine g_getA 31 rfl rfl (Rw_l kx1) (Rw_r2 kx1) ?_
    refine g_run 2 33 [some (.ref a), some (.ref x1)] [.ref a, .int (0 : Int32), .ref (x1 + 1)] (fun _ => rfl) ?_
    refine g_getA 36 rfl rfl (Rw_l ka) (Rw_r2 ka) ?_
    refine g_run 2 38 [some (.ref a), some (.ref x1)] [.ref a, .int (0 : Int32), .ref (a + 1), .int (0 : Int32), .ref (x1 + 1)] (fun _ => rfl) ?_
    refine g_getI 41 rfl rfl (Rw_l ka) ?_
    refine g_run 1 42 [some (.ref a), some (.ref x1)] [.ref a, .int ((am_up h a 3 (if (h a 1) < (h x1 3) then (h a 1) else (h x1 3))) a 3), .int (0 : Int32), .ref (a + 1), .int (0 : Int32), .ref (x1 + 1)] (fun _ => rfl) ?_
    refine g_getI 45 rfl rfl (Rw_l ka) ?_
    refine g_run 1 46 [some (.ref a), some (.ref x1)] [.int (((am_up h a 3 (if (h a 1) < (h x1 3) then (h a 1) else (h x1 3))) a 3) * ((am_up h a 3 (if (h a 1) < (h x1 3) then (h a 1) else (h x1 3))) a 0)), .int (0 : Int32), .ref (a + 1), .int (0 : Int32), .ref (x1 + 1)] (fun _ => rfl) ?_
    obtain ⟨k2, ek2, e⟩ := g_bd e
    refine g_cpy 49 rfl rfl (Rw_k2 kx1) (Rw_k2 ka) rfl ek2 rfl ?_
    cases e
    exact g_ret rfl (fun _ _ => rfl)
  · cases e
    exact g_ret rfl (fun _ _ => rfl)
def Pk_copyFrom (l : List (Nat × Nat)) (r : am_R) (a : Nat) (x1 : Nat) (h : am_F) : Option (am_F) :=
  (g_cx (48 : Int32) 48 48).bind fun k1 =>
  (g_cx (48 : Int32) 48 48).bind fun k2 =>
  (g_cx (6 : Int32) 6 6).bind fun k3 =>
  (g_cx (6 : Int32) 6 6).bind fun k4 =>
  (g_cx (6 : Int32) 6 6).bind fun k5 =>
  (g_cx (6 : Int32) 6 6).bind fun k6 =>
  (Rw_copyFrom l r (a + 7) (x1 + 7) (g_cp (g_cp (g_cp (g_cp (g_cp (g_cp (am_up (am_up (am_up (am_up h a 0 (h x1 0)) a 1 ((am_up h a 0 (h x1 0)) x1 1)) a 2 ((am_up (am_up h a 0 (h x1 0)) a 1 ((am_up h a 0 (h x1 0)) x1 1)) x1 2)) a 3 ((am_up (am_up (am_up h a 0 (h x1 0)) a 1 ((am_up h a 0 (h x1 0)) x1 1)) a 2 ((am_up (am_up h a 0 (h x1 0)) a 1 ((am_up h a 0 (h x1 0)) x1 1)) x1 2)) x1 3)) (x1 + 1) (a + 1) k1) (x1 + 2) (a + 2) k2) (x1 + 3) (a + 3) k3) (x1 + 4) (a + 4) k4) (x1 + 5) (a + 5) k5) (x1 + 6) (a + 6) k6)).bind fun q7 =>
  (Rw_copyFrom l r (a + 9) (x1 + 9) q7).bind fun q8 =>
  (Rw_copyFrom l r (a + 11) (x1 + 11) q8).bind fun q9 =>
  some q9
theorem Pk_copyFrom_s {X : Nat × (Nat → Int32)} {l : List (Nat × Nat)} {r : am_R} {h : am_F} {j : am_J} {a : Nat} {x1 : Nat} (ka : Pk_K l r a) (kx1 : Pk_K l r x1) {q : am_F} (e : Pk_copyFrom l r a x1 h = some q) : Call X 35 [.ref a, .ref x1] (l, r, h, j) (none, (l, r, q, j)) := by
  unfold Pk_copyFrom at e
  refine ⟨Nat.le_of_ble_eq_true rfl, ?_⟩
  show Ev X 35 0 [some (.ref a), some (.ref x1)] [] (l, r, h, j) _
  refine g_run 2 2 [some (.ref a), some (.ref x1)] [.ref x1, .ref a] (fun _ => rfl) ?_
  refine g_getI 5 rfl rfl (Pk_l kx1) ?_
  refine g_putI 8 rfl rfl (Pk_l ka) ?_
  refine g_run 2 10 [some (.ref a), some (.ref x1)] [.ref x1, .ref a] (fun _ => rfl) ?_
  refine g_getI 13 rfl rfl (Pk_l kx1) ?_
  refine g_putI 16 rfl rfl (Pk_l ka) ?_
  refine g_run 2 18 [some (.ref a), some (.ref x1)] [.ref x1, .ref a] (fun _ => rfl) ?_
  refine g_getI 21 rfl rfl (Pk_l kx1) ?_
  refine g_putI 24 rfl rfl (Pk_l ka) ?_
  refine g_run 2 26 [some (.ref a), some (.ref x1)] [.ref x1, .ref a] (fun _ => rfl) ?_
  refine g_getI 29 rfl rfl (Pk_l kx1) ?_
  refine g_putI 32 rfl rfl (Pk_l ka) ?_
  refine g_run 1 33 [some (.ref a), some (.ref x1)] [.ref x1] (fun _ => rfl) ?_
  refine g_getA 36 rfl rfl (Pk_l kx1) (Pk_r4 kx1) ?_
  refine g_run 2 38 [some (.ref a), some (.ref x1)] [.ref a, .int (0 : Int32), .ref (x1 + 1)] (fun _ => rfl) ?_
  refine g_getA 41 rfl rfl (Pk_l ka) (Pk_r4 ka) ?_
  refine g_run 2 44 [some (.ref a), some (.ref x1)] [.int (48 : Int32), .int (0 : Int32), .ref (a + 1), .int (0 : Int32), .ref (x1 + 1)] (fun _ => rfl) ?_
  obtain ⟨k1, ek1, e⟩ := g_bd e
  refine g_cpy 47 rfl rfl (Pk_k4 kx1) (Pk_k4 ka) rfl ek1 rfl ?_
  refine g_run 1 48 [some (.ref a), some (.ref x1)] [.ref x1] (fun _ => rfl) ?_
  refine g_getA 51 rfl rfl (Pk_l kx1) (Pk_r5 kx1) ?_
  refine g_run 2 53 [some (.ref a), some (.ref x1)] [.ref a, .int (0 : Int32), .ref (x1 + 2)] (fun _ => rfl) ?_
  refine g_getA 56 rfl rfl (Pk_l ka) (Pk_r5 ka) ?_
  refine g_run 2 59 [some (.ref a), some (.ref x1)] [.int (48 : Int32), .int (0 : Int32), .ref (a + 2), .int (0 : Int32), .ref (x1 + 2)] (fun _ => rfl) ?_
  obtain ⟨k2, ek2, e⟩ := g_bd e
  refine g_cpy 62 rfl rfl (Pk_k5 kx1) (Pk_k5 ka) rfl ek2 rfl ?_
  refine g_run 1 63 [some (.ref a), some (.ref x1)] [.ref x1] (fun _ => rfl) ?_
  refine g_getA 66 rfl rfl (Pk_l kx1) (Pk_r6 kx1) ?_
  refine g_run 2 68 [some (.ref a), some (.ref x1)] [.ref a, .int (0 : Int32), .ref (x1 + 3)] (fun _ => rfl) ?_
  refine g_getA 71 rfl rfl (Pk_l ka) (Pk_r6 ka) ?_
  refine g_run 2 74 [some (.ref a), some (.ref x1)] [.int (6 : Int32), .int (0 : Int32), .ref (a + 3), .int (0 : Int32), .ref (x1 + 3)] (fun _ => rfl) ?_
  obtain ⟨k3, ek3, e⟩ := g_bd e
  refine g_cpy 77 rfl rfl (Pk_k6 kx1) (Pk_k6 ka) rfl ek3 rfl ?_
  refine g_run 1 78 [some (.ref a), some (.ref x1)] [.ref x1] (fun _ => rfl) ?_
  refine g_getA 81 rfl rfl (Pk_l kx1) (Pk_r7 kx1) ?_
  refine g_run 2 83 [some (.ref a), some (.ref x1)] [.ref a, .int (0 : Int32), .ref (x1 + 4)] (fun _ => rfl) ?_
  refine g_getA 86 rfl rfl (Pk_l ka) (Pk_r7 ka) ?_
  refine g_run 2 89 [some (.ref a), some (.ref x1)] [.int (6 : Int32), .int (0 : Int32), .ref (a + 4), .int (0 : Int32), .ref (x1 + 4)] (fun _ => rfl) ?_
  obtain ⟨k4, ek4, e⟩ := g_bd e
  refine g_cpy 92 rfl rfl (Pk_k7 kx1) (Pk_k7 ka) rfl ek4 rfl ?_
  refine g_run 1 93 [some (.ref a), some (.ref x1)] [.ref x1] (fun _ => rfl) ?_
  refine g_getA 96 rfl rfl (Pk_l kx1) (Pk_r8 kx1) ?_
  refine g_run 2 98 [some (.ref a), some (.ref x1)] [.ref a, .int (0 : Int32), .ref (x1 + 5)] (fun _ => rfl) ?_
  refine g_getA 101 rfl rfl (Pk_l ka) (Pk_r8 ka) ?_
  refine g_run 2 104 [some (.ref a), some (.ref x1)] [.int (6 : Int32), .int (0 : Int32), .ref (a + 5), .int (0 : Int32), .ref (x1 + 5)] (fun _ => rfl) ?_
  obtain ⟨k5, ek5, e⟩ := g_bd e
  refine g_cpy 107 rfl rfl (Pk_k8 kx1) (Pk_k8 ka) rfl ek5 rfl ?_
  refine g_run 1 108 [some (.ref a), some (.ref x1)] [.ref x1] (fun _ => rfl) ?_
  refine g_getA 111 rfl rfl (Pk_l kx1) (Pk_r9 kx1) ?_
  refine g_run 2 113 [some (.ref a), some (.ref x1)] [.ref a, .int (0 : Int32), .ref (x1 + 6)] (fun _ => rfl) ?_
  refine g_getA 116 rfl rfl (Pk_l ka) (Pk_r9 ka) ?_
  refine g_run 2 119 [some (.ref a), some (.ref x1)] [.int (6 : Int32), .int (0 : Int32), .ref (a + 6), .int (0 : Int32), .ref (x1 + 6)] (fun _ => rfl) ?_
  obtain ⟨k6, ek6, e⟩ := g_bd e
  refine g_cpy 122 rfl rfl (Pk_k9 kx1) (Pk_k9 ka) rfl ek6 rfl ?_
  refine g_run 1 123 [some (.ref a), some (.ref x1)] [.ref a] (fun _ => rfl) ?_
  refine g_getA 126 rfl rfl (Pk_l ka) (Pk_r10 ka) ?_
  refine g_run 1 127 [some (.ref a), some (.ref x1)] [.ref x1, .ref (a + 7)] (fun _ => rfl) ?_
  refine g_getA 130 rfl rfl (Pk_l kx1) (Pk_r10 kx1) ?_
  obtain ⟨q7, eq7, e⟩ := g_bd e
  refine g_cVv 133 rfl rfl rfl rfl rfl (Rw_l (Pk_k10 ka)) (Rw_copyFrom_s (Pk_k10 ka) (Pk_k10 kx1) eq7) ?_
  refine g_run 1 134 [some (.ref a), some (.ref x1)] [.ref a] (fun _ => rfl) ?_
  refine g_getA 137 rfl rfl (Pk_l ka) (Pk_r11 ka) ?_
  refine g_run 1 138 [some (.ref a), some (.ref x1)] [.ref x1, .ref (a + 9)] (fun _ => rfl) ?_
  refine g_getA 141 rfl rfl (Pk_l kx1) (Pk_r11 kx1) ?_
  obtain ⟨q8, eq8, e⟩ := g_bd e
  refine g_cVv 144 rfl rfl rfl rfl rfl (Rw_l (Pk_k11 ka)) (Rw_copyFrom_s (Pk_k11 ka) (Pk_k11 kx1) eq8) ?_
  refine g_run 1 145 [some (.ref a), some (.ref x1)] [.ref a] (fun _ => rfl) ?_
  refine g_getA 148 rfl rfl (Pk_l ka) (Pk_r12 ka) ?_
  refine g_run 1 149 [some (.ref a), some (.ref x1)] [.ref x1, .ref (a + 11)] (fun _ => rfl) ?_
  refine g_getA 152 rfl rfl (Pk_l kx1) (Pk_r12 kx1) ?_
  obtain ⟨q9, eq9, e⟩ := g_bd e
  refine g_cVv 155 rfl rfl rfl rfl rfl (Rw_l (Pk_k12 ka)) (Rw_copyFrom_s (Pk_k12 ka) (Pk_k12 kx1) eq9) ?_
  cases e
  exact g_ret rfl (fun _ _ => rfl)
def Pk_sumRates_l4 (x0 : Nat) : Nat → Int32 → Int32 → am_F → Option (am_F)
  | 0, _, _, _ => none
  | n + 1, x1, x2, h =>
    if (48 : Int32) ≤ x2 then
      some h
    else
      (g_ix x2 48).bind fun k2 =>
      (g_ix x2 48).bind fun k3 =>
      Pk_sumRates_l4 x0 n (x1 + ((am_up h (x0 + 2) k2 x1) (x0 + 1) k3)) (x2 + (1 : Int32)) (am_up h (x0 + 2) k2 x1)
def Pk_sumRates (a : Nat) (h : am_F) : Option (am_F) :=
  (Pk_sumRates_l4 a g_fu (0 : Int32) (0 : Int32) h).bind fun q4 =>
  some q4
theorem Pk_sumRates_l4_s {X : Nat × (Nat → Int32)} {l : List (Nat × Nat)} {r : am_R} {x0 : Nat} {j : am_J} {q : am_F} {R : Option Value × am_S} (kx0 : Pk_K l r x0) (hx : ∀ (y1 : Int32) (y2 : Int32) , Ev X 36 32 [some (.ref x0), some (.int y1), some (.int y2)] [] (l, r, q, j) R) : ∀ (n : Nat) (x1 : Int32) (x2 : Int32) (h : am_F), Pk_sumRates_l4 x0 n x1 x2 h = some q → Ev X 36 4 [some (.ref x0), some (.int x1), some (.int x2)] [] (l, r, h, j) R := by
  intro n
  induction n with
  | zero => intro x1 x2 h e; cases e
  | succ n ih =>
    intro x1 x2 h e
    unfold Pk_sumRates_l4 at e
    refine g_run 2 7 [some (.ref x0), some (.int x1), some (.int x2)] [.int (48 : Int32), .int x2] (fun _ => rfl) ?_
    refine g_if (p1 := 32) (L1 := [some (.ref x0), some (.int x1), some (.int x2)]) (S1 := []) (s1 := (l, r, h, j)) (p2 := 10) (L2 := [some (.ref x0), some (.int x1), some (.int x2)]) (S2 := []) (s2 := (l, r, h, j)) rfl (fun _ _ => rfl) e (fun c1 e => ?_) (fun c1 e => ?_)
    · cases e
      exact hx _ _
    · refine g_run 1 11 [some (.ref x0), some (.int x1), some (.int x2)] [.ref x0] (fun _ => rfl) ?_
      refine g_getA 14 rfl rfl (Pk_l kx0) (Pk_r5 kx0) ?_
      refine g_run 2 16 [some (.ref x0), some (.int x1), some (.int x2)] [.int x1, .int x2, .ref (x0 + 2)] (fun _ => rfl) ?_
      obtain ⟨k2, ek2, e⟩ := g_bd e
      refine g_iast 17 rfl rfl (Pk_k5 kx0) ek2 ?_
      refine g_run 2 19 [some (.ref x0), some (.int x1), some (.int x2)] [.ref x0, .int x1] (fun _ => rfl) ?_
      refine g_getA 22 rfl rfl (Pk_l kx0) (Pk_r4 kx0) ?_
      refine g_run 1 23 [some (.ref x0), some (.int x1), some (.int x2)] [.int x2, .ref (x0 + 1), .int x1] (fun _ => rfl) ?_
      obtain ⟨k3, ek3, e⟩ := g_bd e
      refine g_iald 24 rfl rfl (Pk_k4 kx0) ek3 ?_
      refine g_run 4 4 [some (.ref x0), some (.int (x1 + ((am_up h (x0 + 2) k2 x1) (x0 + 1) k3))), some (.int (x2 + (1 : Int32)))] [] (fun _ => rfl) ?_
      exact ih _ _ _ e
theorem Pk_sumRates_s {X : Nat × (Nat → Int32)} {l : List (Nat × Nat)} {r : am_R} {h : am_F} {j : am_J} {a : Nat} (ka : Pk_K l r a) {q : am_F} (e : Pk_sumRates a h = some q) : Call X 36 [.ref a] (l, r, h, j) (none, (l, r, q, j)) := by
  unfold Pk_sumRates at e
  refine ⟨Nat.le_of_ble_eq_true rfl, ?_⟩
  show Ev X 36 0 [some (.ref a), none, none] [] (l, r, h, j) _
  refine g_run 4 4 [some (.ref a), some (.int (0 : Int32)), some (.int (0 : Int32))] [] (fun _ => rfl) ?_
  obtain ⟨q4, eq4, e⟩ := g_bd e
  refine Pk_sumRates_l4_s ka (fun y5 y6 => ?_) _ _ _ _ eq4
  cases e
  exact g_ret rfl (fun _ _ => rfl)
