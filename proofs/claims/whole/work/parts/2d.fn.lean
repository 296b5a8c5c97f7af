/-! methods as functions, and their runs -/
def Rd_readLine_l41 (l : List (Nat × Nat)) (r : am_R) (x0 : Nat) (x2 : Int32) (x3 : Nat) : Nat → Int32 → am_F → Option (am_F)
  | 0, _, _ => none
  | n + 1, x4, h =>
    (g_sx x3).bind fun _ =>
    if (nI (am_str x3).length) ≤ x4 then
      (Rd_next l r x0 h).bind fun q11 =>
      if (q11 x0 10) = (3 : Int32) then
        if (q11 x0 4) = 0 then
          (Rd_tell l r x0 x2 q11).bind fun q14 =>
          some q14
        else
          some q11
      else
        (Rd_breakOff x0 q11).bind fun q15 =>
        some q15
    else
      if (6 : Int32) ≤ x4 then
        (Rd_next l r x0 h).bind fun q17 =>
        if (q17 x0 10) = (3 : Int32) then
          if (q17 x0 4) = 0 then
            (Rd_tell l r x0 x2 q17).bind fun q20 =>
            some q20
          else
            some q17
        else
          (Rd_breakOff x0 q17).bind fun q21 =>
          some q21
      else
        (Rd_next l r x0 h).bind fun q22 =>
        (g_sx x3).bind fun _ =>
        (g_ix x4 (am_str x3).length).bind fun k24 =>
        (Rd_takeNumber l r x0 (nI ((am_str x3).getD k24 0)) x4 q22).bind fun q25 =>
        if q25.1 = 0 then
          (Rd_breakOff x0 q25.2).bind fun q27 =>
          some q27
        else
          Rd_readLine_l41 l r x0 x2 x3 n (x4 + (1 : Int32)) q25.2
def Rd_readLine (l : List (Nat × Nat)) (r : am_R) (a : Nat) (x1 : Int32) (h : am_F) : Option (am_F) :=
  (Rd_lineHere l r a x1 h).bind fun q1 =>
  if q1 = (-1 : Int32) then
    (Rd_breakOff a h).bind fun q3 =>
    some q3
  else
    (Rd_isFull a q1 h).bind fun q4 =>
    (if q4 = 0 then
        some h
      else
        (Rd_noteFault a (3 : Int32) (h a 11) h).bind fun q7 =>
        some q7 : Option (am_F)).bind fun q8 =>
    Rd_readLine_l41 l r a q1 (Rd_shapeOf q1) g_fu (0 : Int32) q8
theorem Rd_readLine_l41_s {X : Nat × (Nat → Int32)} {l : List (Nat × Nat)} {r : am_R} {x0 : Nat} {x2 : Int32} {x3 : Nat} {y1 : Int32} {j : am_J} {q : am_F} (kx0 : Rd_K l r x0) : ∀ (n : Nat) (x4 : Int32) (h : am_F), Rd_readLine_l41 l r x0 x2 x3 n x4 h = some q → Ev X 57 41 [some (.ref x0), some (.int y1), some (.int x2), some (.retAddr x3), some (.int x4)] [] (l, r, h, j) (none, (l, r, q, j)) := by
  intro n
  induction n with
  | zero => intro x4 h e; cases e
  | succ n ih =>
    intro x4 h e
    unfold Rd_readLine_l41 at e
    refine g_run 2 44 [some (.ref x0), some (.int y1), some (.int x2), some (.retAddr x3), some (.int x4)] [.retAddr x3, .int x4] (fun _ => rfl) ?_
    obtain ⟨s9, es9, e⟩ := g_bd e
    have e9 : g_sx x3 = some x3 := by rw [es9, g_sxs es9]
    refine g_slen 47 rfl rfl e9 rfl ?_
    refine g_if (p1 := 90) (L1 := [some (.ref x0), some (.int y1), some (.int x2), some (.retAddr x3), some (.int x4)]) (S1 := []) (s1 := (l, r, h, j)) (p2 := 50) (L2 := [some (.ref x0), some (.int y1), some (.int x2), some (.retAddr x3), some (.int x4)]) (S2 := []) (s2 := (l, r, h, j)) rfl (fun _ _ => rfl) e (fun c10 e => ?_) (fun c10 e => ?_)
    · refine g_run 1 91 [some (.ref x0), some (.int y1), some (.int x2), some (.retAddr x3), some (.int x4)] [.ref x0] (fun _ => rfl) ?_
      obtain ⟨q11, eq11, e⟩ := g_bd e
      refine g_cVv 94 rfl rfl rfl rfl rfl (Rd_l kx0) (Rd_next_s kx0 eq11) ?_
      refine g_run 1 95 [some (.ref x0), some (.int y1), some (.int x2), some (.retAddr x3), some (.int x4)] [.ref x0] (fun _ => rfl) ?_
      refine g_getI 98 rfl rfl (Rd_l kx0) ?_
      refine g_run 1 99 [some (.ref x0), some (.int y1), some (.int x2), some (.retAddr x3), some (.int x4)] [.int (3 : Int32), .int (q11 x0 10)] (fun _ => rfl) ?_
      refine g_if (p1 := 109) (L1 := [some (.ref x0), some (.int y1), some (.int x2), some (.retAddr x3), some (.int x4)]) (S1 := []) (s1 := (l, r, q11, j)) (p2 := 102) (L2 := [some (.ref x0), some (.int y1), some (.int x2), some (.retAddr x3), some (.int x4)]) (S2 := []) (s2 := (l, r, q11, j)) rfl (fun _ _ => rfl) e (fun c12 e => ?_) (fun c12 e => ?_)
      · refine g_run 1 110 [some (.ref x0), some (.int y1), some (.int x2), some (.retAddr x3), some (.int x4)] [.ref x0] (fun _ => rfl) ?_
        refine g_getI 113 rfl rfl (Rd_l kx0) ?_
        refine g_if (p1 := 116) (L1 := [some (.ref x0), some (.int y1), some (.int x2), some (.retAddr x3), some (.int x4)]) (S1 := []) (s1 := (l, r, q11, j)) (p2 := 121) (L2 := [some (.ref x0), some (.int y1), some (.int x2), some (.retAddr x3), some (.int x4)]) (S2 := []) (s2 := (l, r, q11, j)) rfl (fun _ _ => rfl) e (fun c13 e => ?_) (fun c13 e => ?_)
        · refine g_run 2 118 [some (.ref x0), some (.int y1), some (.int x2), some (.retAddr x3), some (.int x4)] [.int x2, .ref x0] (fun _ => rfl) ?_
          obtain ⟨q14, eq14, e⟩ := g_bd e
          refine g_cVv 121 rfl rfl rfl rfl rfl (Rd_l kx0) (Rd_tell_s kx0 eq14) ?_
          cases e
          exact g_ret rfl (fun _ _ => rfl)
        · cases e
          exact g_ret rfl (fun _ _ => rfl)
      · refine g_run 1 103 [some (.ref x0), some (.int y1), some (.int x2), some (.retAddr x3), some (.int x4)] [.ref x0] (fun _ => rfl) ?_
        obtain ⟨q15, eq15, e⟩ := g_bd e
        refine g_cVv 106 rfl rfl rfl rfl rfl (Rd_l kx0) (Rd_breakOff_s kx0 eq15) ?_
        refine g_run 1 121 [some (.ref x0), some (.int y1), some (.int x2), some (.retAddr x3), some (.int x4)] [] (fun _ => rfl) ?_
        cases e
        exact g_ret rfl (fun _ _ => rfl)
    · refine g_run 2 53 [some (.ref x0), some (.int y1), some (.int x2), some (.retAddr x3), some (.int x4)] [.ref x0, .int x4] (fun _ => rfl) ?_
      refine g_getA 56 rfl rfl (Rd_l kx0) (Rd_r6 kx0) ?_
      refine g_alen 57 rfl rfl (Rd_k6 kx0) rfl ?_
      refine g_if (p1 := 90) (L1 := [some (.ref x0), some (.int y1), some (.int x2), some (.retAddr x3), some (.int x4)]) (S1 := []) (s1 := (l, r, h, j)) (p2 := 60) (L2 := [some (.ref x0), some (.int y1), some (.int x2), some (.retAddr x3), some (.int x4)]) (S2 := []) (s2 := (l, r, h, j)) rfl (fun _ _ => rfl) e (fun c16 e => ?_) (fun c16 e => ?_)
      · refine g_run 1 91 [some (.ref x0), some (.int y1), some (.int x2), some (.retAddr x3), some (.int x4)] [.ref x0] (fun _ => rfl) ?_
        obtain ⟨q17, eq17, e⟩ := g_bd e
        refine g_cVv 94 rfl rfl rfl rfl rfl (Rd_l kx0) (Rd_next_s kx0 eq17) ?_
        refine g_run 1 95 [some (.ref x0), some (.int y1), some (.int x2), some (.retAddr x3), some (.int x4)] [.ref x0] (fun _ => rfl) ?_
        refine g_getI 98 rfl rfl (Rd_l kx0) ?_
        refine g_run 1 99 [some (.ref x0), some (.int y1), some (.int x2), some (.retAddr x3), some (.int x4)] [.int (3 : Int32), .int (q17 x0 10)] (fun _ => rfl) ?_
        refine g_if (p1 := 109) (L1 := [some (.ref x0), some (.int y1), some (.int x2), some (.retAddr x3), some (.int x4)]) (S1 := []) (s1 := (l, r, q17, j)) (p2 := 102) (L2 := [some (.ref x0), some (.int y1), some (.int x2), some (.retAddr x3), some (.int x4)]) (S2 := []) (s2 := (l, r, q17, j)) rfl (fun _ _ => rfl) e (fun c18 e => ?_) (fun c18 e => ?_)
        · refine g_run 1 110 [some (.ref x0), some (.int y1), some (.int x2), some (.retAddr x3), some (.int x4)] [.ref x0] (fun _ => rfl) ?_
          refine g_getI 113 rfl rfl (Rd_l kx0) ?_
          refine g_if (p1 := 116) (L1 := [some (.ref x0), some (.int y1), some (.int x2), some (.retAddr x3), some (.int x4)]) (S1 := []) (s1 := (l, r, q17, j)) (p2 := 121) (L2 := [some (.ref x0), some (.int y1), some (.int x2), some (.retAddr x3), some (.int x4)]) (S2 := []) (s2 := (l, r, q17, j)) rfl (fun _ _ => rfl) e (fun c19 e => ?_) (fun c19 e => ?_)
          · refine g_run 2 118 [some (.ref x0), some (.int y1), some (.int x2), some (.retAddr x3), some (.int x4)] [.int x2, .ref x0] (fun _ => rfl) ?_
            obtain ⟨q20, eq20, e⟩ := g_bd e
            refine g_cVv 121 rfl rfl rfl rfl rfl (Rd_l kx0) (Rd_tell_s kx0 eq20) ?_
            cases e
            exact g_ret rfl (fun _ _ => rfl)
          · cases e
            exact g_ret rfl (fun _ _ => rfl)
        · refine g_run 1 103 [some (.ref x0), some (.int y1), some (.int x2), some (.retAddr x3), some (.int x4)] [.ref x0] (fun _ => rfl) ?_
          obtain ⟨q21, eq21, e⟩ := g_bd e
          refine g_cVv 106 rfl rfl rfl rfl rfl (Rd_l kx0) (Rd_breakOff_s kx0 eq21) ?_
          refine g_run 1 121 [some (.ref x0), some (.int y1), some (.int x2), some (.retAddr x3), some (.int x4)] [] (fun _ => rfl) ?_
          cases e
          exact g_ret rfl (fun _ _ => rfl)
      · refine g_run 1 61 [some (.ref x0), some (.int y1), some (.int x2), some (.retAddr x3), some (.int x4)] [.ref x0] (fun _ => rfl) ?_
        obtain ⟨q22, eq22, e⟩ := g_bd e
        refine g_cVv 64 rfl rfl rfl rfl rfl (Rd_l kx0) (Rd_next_s kx0 eq22) ?_
        refine g_run 3 68 [some (.ref x0), some (.int y1), some (.int x2), some (.retAddr x3), some (.int x4)] [.int x4, .retAddr x3, .ref x0] (fun _ => rfl) ?_
        obtain ⟨s23, es23, e⟩ := g_bd e
        have e9 : g_sx x3 = some x3 := by rw [es23, g_sxs es23]
        obtain ⟨k24, ek24, e⟩ := g_bd e
        refine g_char 71 rfl rfl e9 ek24 rfl ?_
        refine g_run 1 73 [some (.ref x0), some (.int y1), some (.int x2), some (.retAddr x3), some (.int x4)] [.int x4, .int (nI ((am_str x3).getD k24 0)), .ref x0] (fun _ => rfl) ?_
        obtain ⟨q25, eq25, e⟩ := g_bd e
        refine g_cV 76 rfl rfl rfl rfl rfl (Rd_l kx0) (Rd_takeNumber_s kx0 eq25) ?_
        refine g_if (p1 := 79) (L1 := [some (.ref x0), some (.int y1), some (.int x2), some (.retAddr x3), some (.int x4)]) (S1 := []) (s1 := (l, r, q25.2, j)) (p2 := 84) (L2 := [some (.ref x0), some (.int y1), some (.int x2), some (.retAddr x3), some (.int x4)]) (S2 := []) (s2 := (l, r, q25.2, j)) rfl (fun _ _ => rfl) e (fun c26 e => ?_) (fun c26 e => ?_)
        · refine g_run 1 80 [some (.ref x0), some (.int y1), some (.int x2), some (.retAddr x3), some (.int x4)] [.ref x0] (fun _ => rfl) ?_
          obtain ⟨q27, eq27, e⟩ := g_bd e
          refine g_cVv 83 rfl rfl rfl rfl rfl (Rd_l kx0) (Rd_breakOff_s kx0 eq27) ?_
          cases e
          exact g_ret rfl (fun _ _ => rfl)
        · refine g_run 2 41 [some (.ref x0), some (.int y1), some (.int x2), some (.retAddr x3), some (.int (x4 + (1 : Int32)))] [] (fun _ => rfl) ?_
          exact ih _ _ e
theorem Rd_readLine_s {X : Nat × (Nat → Int32)} {l : List (Nat × Nat)} {r : am_R} {h : am_F} {j : am_J} {a : Nat} {x1 : Int32} (ka : Rd_K l r a) {q : am_F} (e : Rd_readLine l r a x1 h = some q) : Call X 57 [.ref a, .int x1] (l, r, h, j) (none, (l, r, q, j)) := by
  unfold Rd_readLine at e
  refine ⟨Nat.le_of_ble_eq_true rfl, ?_⟩
  show Ev X 57 0 [some (.ref a), some (.int x1), none, none, none] [] (l, r, h, j) _
  refine g_run 2 2 [some (.ref a), some (.int x1), none, none, none] [.int x1, .ref a] (fun _ => rfl) ?_
  obtain ⟨q1, eq1, e⟩ := g_bd e
  refine g_cV 5 rfl rfl rfl rfl rfl (Rd_l ka) (Rd_lineHere_s ka eq1) ?_
  refine g_run 3 8 [some (.ref a), some (.int x1), some (.int q1), none, none] [.int (-1 : Int32), .int q1] (fun _ => rfl) ?_
  refine g_if (p1 := 11) (L1 := [some (.ref a), some (.int x1), some (.int q1), none, none]) (S1 := []) (s1 := (l, r, h, j)) (p2 := 16) (L2 := [some (.ref a), some (.int x1), some (.int q1), none, none]) (S2 := []) (s2 := (l, r, h, j)) rfl (fun _ _ => rfl) e (fun c2 e => ?_) (fun c2 e => ?_)
  · refine g_run 1 12 [some (.ref a), some (.int x1), some (.int q1), none, none] [.ref a] (fun _ => rfl) ?_
    obtain ⟨q3, eq3, e⟩ := g_bd e
    refine g_cVv 15 rfl rfl rfl rfl rfl (Rd_l ka) (Rd_breakOff_s ka eq3) ?_
    cases e
    exact g_ret rfl (fun _ _ => rfl)
  · refine g_run 2 18 [some (.ref a), some (.int x1), some (.int q1), none, none] [.int q1, .ref a] (fun _ => rfl) ?_
    obtain ⟨q4, eq4, e⟩ := g_bd e
    refine g_cV 21 rfl rfl rfl rfl rfl (Rd_l ka) (Rd_isFull_s ka eq4) ?_
    obtain ⟨q8, eq8, e⟩ := g_bd e
    have hjq8 : ∀ (_ : True), Ev X 57 33 [some (.ref a), some (.int x1), some (.int q1), none, none] [] (l, r, q8, j) (none, (l, r, q, j)) := by
      intro _
      refine g_run 1 34 [some (.ref a), some (.int x1), some (.int q1), none, none] [.int q1] (fun _ => rfl) ?_
      refine g_cS 37 rfl rfl (by decide) rfl rfl rfl Rd_shapeOf_s ?_
      refine g_run 3 41 [some (.ref a), some (.int x1), some (.int q1), some (.retAddr (Rd_shapeOf q1)), some (.int (0 : Int32))] [] (fun _ => rfl) ?_
      exact Rd_readLine_l41_s ka _ _ _ e
    replace e := eq8
    refine g_if (p1 := 33) (L1 := [some (.ref a), some (.int x1), some (.int q1), none, none]) (S1 := []) (s1 := (l, r, h, j)) (p2 := 24) (L2 := [some (.ref a), some (.int x1), some (.int q1), none, none]) (S2 := []) (s2 := (l, r, h, j)) rfl (fun _ _ => rfl) e (fun c5 e => ?_) (fun c5 e => ?_)
    · cases e
      exact hjq8 trivial
    · refine g_run 3 27 [some (.ref a), some (.int x1), some (.int q1), none, none] [.ref a, .int (3 : Int32), .ref a] (fun _ => rfl) ?_
      refine g_getI 30 rfl rfl (Rd_l ka) ?_
      obtain ⟨q7, eq7, e⟩ := g_bd e
      refine g_cVv 33 rfl rfl rfl rfl rfl (Rd_l ka) (Rd_noteFault_s ka eq7) ?_
      cases e
      exact hjq8 trivial
def Rd_endPark (a : Nat) (h : am_F) : Option (am_F) :=
  (Pk_sumRates (a + 1) h).bind fun q1 =>
  if (q1 a 13) < (q1 (a + 1) 3) then
    if (q1 (a + 1) 1) ≤ (q1 (a + 1) 0) then
      some q1
    else
      (Rd_noteFault a (5 : Int32) (q1 a 8) q1).bind fun q4 =>
      some q4
  else
    (Rd_noteFault a (4 : Int32) (q1 a 8) q1).bind fun q5 =>
    some q5
theorem Rd_endPark_s {X : Nat × (Nat → Int32)} {l : List (Nat × Nat)} {r : am_R} {h : am_F} {j : am_J} {a : Nat} (ka : Rd_K l r a) {q : am_F} (e : Rd_endPark a h = some q) : Call X 54 [.ref a] (l, r, h, j) (none, (l, r, q, j)) := by
  unfold Rd_endPark at e
  refine ⟨Nat.le_of_ble_eq_true rfl, ?_⟩
  show Ev X 54 0 [some (.ref a)] [] (l, r, h, j) _
  refine g_run 1 1 [some (.ref a)] [.ref a] (fun _ => rfl) ?_
  refine g_getA 4 rfl rfl (Rd_l ka) (Rd_r0 ka) ?_
  obtain ⟨q1, eq1, e⟩ := g_bd e
  refine g_cVv 7 rfl rfl rfl rfl rfl (Pk_l (Rd_k0 ka)) (Pk_sumRates_s (Rd_k0 ka) eq1) ?_
  refine g_run 1 8 [some (.ref a)] [.ref a] (fun _ => rfl) ?_
  refine g_getI 11 rfl rfl (Rd_l ka) ?_
  refine g_run 1 12 [some (.ref a)] [.ref a, .int (q1 a 13)] (fun _ => rfl) ?_
  refine g_getA 15 rfl rfl (Rd_l ka) (Rd_r0 ka) ?_
  refine g_getI 18 rfl rfl (Pk_l (Rd_k0 ka)) ?_
  refine g_if (p1 := 33) (L1 := [some (.ref a)]) (S1 := []) (s1 := (l, r, q1, j)) (p2 := 21) (L2 := [some (.ref a)]) (S2 := []) (s2 := (l, r, q1, j)) rfl (fun _ _ => rfl) e (fun c2 e => ?_) (fun c2 e => ?_)
  · refine g_run 1 34 [some (.ref a)] [.ref a] (fun _ => rfl) ?_
    refine g_getA 37 rfl rfl (Rd_l ka) (Rd_r0 ka) ?_
    refine g_getI 40 rfl rfl (Pk_l (Rd_k0 ka)) ?_
    refine g_run 1 41 [some (.ref a)] [.ref a, .int (q1 (a + 1) 1)] (fun _ => rfl) ?_
    refine g_getA 44 rfl rfl (Rd_l ka) (Rd_r0 ka) ?_
    refine g_getI 47 rfl rfl (Pk_l (Rd_k0 ka)) ?_
    refine g_if (p1 := 59) (L1 := [some (.ref a)]) (S1 := []) (s1 := (l, r, q1, j)) (p2 := 50) (L2 := [some (.ref a)]) (S2 := []) (s2 := (l, r, q1, j)) rfl (fun _ _ => rfl) e (fun c3 e => ?_) (fun c3 e => ?_)
    · cases e
      exact g_ret rfl (fun _ _ => rfl)
    · refine g_run 3 53 [some (.ref a)] [.ref a, .int (5 : Int32), .ref a] (fun _ => rfl) ?_
      refine g_getI 56 rfl rfl (Rd_l ka) ?_
      obtain ⟨q4, eq4, e⟩ := g_bd e
      refine g_cVv 59 rfl rfl rfl rfl rfl (Rd_l ka) (Rd_noteFault_s ka eq4) ?_
      cases e
      exact g_ret rfl (fun _ _ => rfl)
  · refine g_run 3 24 [some (.ref a)] [.ref a, .int (4 : Int32), .ref a] (fun _ => rfl) ?_
    refine g_getI 27 rfl rfl (Rd_l ka) ?_
    obtain ⟨q5, eq5, e⟩ := g_bd e
    refine g_cVv 30 rfl rfl rfl rfl rfl (Rd_l ka) (Rd_noteFault_s ka eq5) ?_
    refine g_run 1 59 [some (.ref a)] [] (fun _ => rfl) ?_
    cases e
    exact g_ret rfl (fun _ _ => rfl)
def Rd_readText_l73 (l : List (Nat × Nat)) (r : am_R) (x0 : Nat) (x3 : Int32) : Nat → Int32 → am_F → Option (am_F)
  | 0, _, _ => none
  | n + 1, x4, h =>
    if (h x0 8) ≤ x4 then
      some h
    else
      if (h x0 10) = 0 then
        some h
      else
        if (h x0 4) = (1 : Int32) then
          some h
        else
          (Rd_readLine l r x0 x3 h).bind fun q7 =>
          (Rd_next l r x0 q7).bind fun q8 =>
          Rd_readText_l73 l r x0 x3 n (x4 + (1 : Int32)) q8
def Rd_readText (l : List (Nat × Nat)) (r : am_R) (a : Nat) (x1 : Nat) (x2 : Int32) (x3 : Int32) (h : am_F) : Option (am_F × am_R) :=
  (Pk_clear l (am_up r a 7 (some x1)) (a + 1) (am_up (am_up (am_up (am_up (am_up h a 8 (if (Int32.ofNat (g_ln l x1)) < x2 then (Int32.ofNat (g_ln l x1)) else x2)) a 9 (0 : Int32)) a 4 (0 : Int32)) a 5 (-1 : Int32)) a 13 (-1 : Int32))).bind fun q2 =>
  (Rd_next l (am_up r a 7 (some x1)) a (am_up (am_up (am_up q2 (a + 14) 3 (0 : Int32)) (a + 16) 3 (0 : Int32)) (a + 18) 3 (0 : Int32))).bind fun q3 =>
  (Rd_readText_l73 l (am_up r a 7 (some x1)) a x3 g_fu (0 : Int32) q3).bind fun q9 =>
  if (q9 a 4) = 0 then
    if x3 = 0 then
      (Rd_endPark a q9).bind fun q13 =>
      some (q13, (am_up r a 7 (some x1)))
    else
      some (q9, (am_up r a 7 (some x1)))
  else
    some (q9, (am_up r a 7 (some x1)))
theorem Rd_readText_l73_s {X : Nat × (Nat → Int32)} {l : List (Nat × Nat)} {r : am_R} {x0 : Nat} {x3 : Int32} {y1 : Nat} {y2 : Int32} {j : am_J} {q : am_F} {R : Option Value × am_S} (kx0 : Rd_K l r x0) (hx : ∀ (y4 : Int32) , Ev X 53 112 [some (.ref x0), some (.ref y1), some (.int y2), some (.int x3), some (.int y4)] [] (l, r, q, j) R) : ∀ (n : Nat) (x4 : Int32) (h : am_F), Rd_readText_l73 l r x0 x3 n x4 h = some q → Ev X 53 73 [some (.ref x0), some (.ref y1), some (.int y2), some (.int x3), some (.int x4)] [] (l, r, h, j) R := by
  intro n
  induction n with
  | zero => intro x4 h e; cases e
  | succ n ih =>
    intro x4 h e
    unfold Rd_readText_l73 at e
    refine g_run 2 76 [some (.ref x0), some (.ref y1), some (.int y2), some (.int x3), some (.int x4)] [.ref x0, .int x4] (fun _ => rfl) ?_
    refine g_getI 79 rfl rfl (Rd_l kx0) ?_
    refine g_if (p1 := 112) (L1 := [some (.ref x0), some (.ref y1), some (.int y2), some (.int x3), some (.int x4)]) (S1 := []) (s1 := (l, r, h, j)) (p2 := 82) (L2 := [some (.ref x0), some (.ref y1), some (.int y2), some (.int x3), some (.int x4)]) (S2 := []) (s2 := (l, r, h, j)) rfl (fun _ _ => rfl) e (fun c4 e => ?_) (fun c4 e => ?_)
    · cases e
      exact hx _
    · refine g_run 1 83 [some (.ref x0), some (.ref y1), some (.int y2), some (.int x3), some (.int x4)] [.ref x0] (fun _ => rfl) ?_
      refine g_getI 86 rfl rfl (Rd_l kx0) ?_
      refine g_if (p1 := 112) (L1 := [some (.ref x0), some (.ref y1), some (.int y2), some (.int x3), some (.int x4)]) (S1 := []) (s1 := (l, r, h, j)) (p2 := 89) (L2 := [some (.ref x0), some (.ref y1), some (.int y2), some (.int x3), some (.int x4)]) (S2 := []) (s2 := (l, r, h, j)) rfl (fun _ _ => rfl) e (fun c5 e => ?_) (fun c5 e => ?_)
      · cases e
        exact hx _
      · refine g_run 1 90 [some (.ref x0), some (.ref y1), some (.int y2), some (.int x3), some (.int x4)] [.ref x0] (fun _ => rfl) ?_
        refine g_getI 93 rfl rfl (Rd_l kx0) ?_
        refine g_run 1 94 [some (.ref x0), some (.ref y1), some (.int y2), some (.int x3), some (.int x4)] [.int (1 : Int32), .int (h x0 4)] (fun _ => rfl) ?_
        refine g_if (p1 := 112) (L1 := [some (.ref x0), some (.ref y1), some (.int y2), some (.int x3), some (.int x4)]) (S1 := []) (s1 := (l, r, h, j)) (p2 := 97) (L2 := [some (.ref x0), some (.ref y1), some (.int y2), some (.int x3), some (.int x4)]) (S2 := []) (s2 := (l, r, h, j)) rfl (fun _ _ => rfl) e (fun c6 e => ?_) (fun c6 e => ?_)
        · cases e
          exact hx _
        · refine g_run 2 99 [some (.ref x0), some (.ref y1), some (.int y2), some (.int x3), some (.int x4)] [.int x3, .ref x0] (fun _ => rfl) ?_
          obtain ⟨q7, eq7, e⟩ := g_bd e
          refine g_cVv 102 rfl rfl rfl rfl rfl (Rd_l kx0) (Rd_readLine_s kx0 eq7) ?_
          refine g_run 1 103 [some (.ref x0), some (.ref y1), some (.int y2), some (.int x3), some (.int x4)] [.ref x0] (fun _ => rfl) ?_
          obtain ⟨q8, eq8, e⟩ := g_bd e
          refine g_cVv 106 rfl rfl rfl rfl rfl (Rd_l kx0) (Rd_next_s kx0 eq8) ?_
          refine g_run 2 73 [some (.ref x0), some (.ref y1), some (.int y2), some (.int x3), some (.int (x4 + (1 : Int32)))] [] (fun _ => rfl) ?_
          exact ih _ _ e
theorem Rd_readText_s {X : Nat × (Nat → Int32)} {l : List (Nat × Nat)} {r : am_R} {h : am_F} {j : am_J} {a : Nat} {x1 : Nat} {x2 : Int32} {x3 : Int32} (ka : Rd_K l r a) (kx1 : l[x1]? = some (11, g_ln l x1)) {q : am_F × am_R} (e : Rd_readText l r a x1 x2 x3 h = some q) : Call X 53 [.ref a, .ref x1, .int x2, .int x3] (l, r, h, j) (none, (l, q.2, q.1, j)) := by
  unfold Rd_readText at e
  refine ⟨Nat.le_of_ble_eq_true rfl, ?_⟩
  show Ev X 53 0 [some (.ref a), some (.ref x1), some (.int x2), some (.int x3), none] [] (l, r, h, j) _
  refine g_run 2 2 [some (.ref a), some (.ref x1), some (.int x2), some (.int x3), none] [.ref x1, .ref a] (fun _ => rfl) ?_
  refine g_putR 5 rfl rfl (Rd_l ka) ?_
  have kp1 := g_kp_tape ka kx1
  refine g_run 3 8 [some (.ref a), some (.ref x1), some (.int x2), some (.int x3), none] [.ref x1, .int x2, .ref a] (fun _ => rfl) ?_
  refine g_alen 9 rfl rfl kx1 rfl ?_
  refine g_run 1 12 [some (.ref a), some (.ref x1), some (.int x2), some (.int x3), none] [.int (if (Int32.ofNat (g_ln l x1)) < x2 then (Int32.ofNat (g_ln l x1)) else x2), .ref a] (fun _ => rfl) ?_
  refine g_putI 15 rfl rfl (Rd_l (g_kp_Rd kp1 ka)) ?_
  refine g_run 2 17 [some (.ref a), some (.ref x1), some (.int x2), some (.int x3), none] [.int (0 : Int32), .ref a] (fun _ => rfl) ?_
  refine g_putI 20 rfl rfl (Rd_l (g_kp_Rd kp1 ka)) ?_
  refine g_run 2 22 [some (.ref a), some (.ref x1), some (.int x2), some (.int x3), none] [.int (0 : Int32), .ref a] (fun _ => rfl) ?_
  refine g_putI 25 rfl rfl (Rd_l (g_kp_Rd kp1 ka)) ?_
  refine g_run 2 27 [some (.ref a), some (.ref x1), some (.int x2), some (.int x3), none] [.int (-1 : Int32), .ref a] (fun _ => rfl) ?_
  refine g_putI 30 rfl rfl (Rd_l (g_kp_Rd kp1 ka)) ?_
  refine g_run 2 32 [some (.ref a), some (.ref x1), some (.int x2), some (.int x3), none] [.int (-1 : Int32), .ref a] (fun _ => rfl) ?_
  refine g_putI 35 rfl rfl (Rd_l (g_kp_Rd kp1 ka)) ?_
  refine g_run 1 36 [some (.ref a), some (.ref x1), some (.int x2), some (.int x3), none] [.ref a] (fun _ => rfl) ?_
  refine g_getA 39 rfl rfl (Rd_l (g_kp_Rd kp1 ka)) (Rd_r0 (g_kp_Rd kp1 ka)) ?_
  obtain ⟨q2, eq2, e⟩ := g_bd e
  refine g_cVv 42 rfl rfl rfl rfl rfl (Pk_l (Rd_k0 (g_kp_Rd kp1 ka))) (Pk_clear_s (Rd_k0 (g_kp_Rd kp1 ka)) eq2) ?_
  refine g_run 1 43 [some (.ref a), some (.ref x1), some (.int x2), some (.int x3), none] [.ref a] (fun _ => rfl) ?_
  refine g_getA 46 rfl rfl (Rd_l (g_kp_Rd kp1 ka)) (Rd_r1 (g_kp_Rd kp1 ka)) ?_
  refine g_run 1 47 [some (.ref a), some (.ref x1), some (.int x2), some (.int x3), none] [.int (0 : Int32), .ref (a + 14)] (fun _ => rfl) ?_
  refine g_putI 50 rfl rfl (Rw_l (Rd_k1 (g_kp_Rd kp1 ka))) ?_
  refine g_run 1 51 [some (.ref a), some (.ref x1), some (.int x2), some (.int x3), none] [.ref a] (fun _ => rfl) ?_
  refine g_getA 54 rfl rfl (Rd_l (g_kp_Rd kp1 ka)) (Rd_r2 (g_kp_Rd kp1 ka)) ?_
  refine g_run 1 55 [some (.ref a), some (.ref x1), some (.int x2), some (.int x3), none] [.int (0 : Int32), .ref (a + 16)] (fun _ => rfl) ?_
  refine g_putI 58 rfl rfl (Rw_l (Rd_k2 (g_kp_Rd kp1 ka))) ?_
  refine g_run 1 59 [some (.ref a), some (.ref x1), some (.int x2), some (.int x3), none] [.ref a] (fun _ => rfl) ?_
  refine g_getA 62 rfl rfl (Rd_l (g_kp_Rd kp1 ka)) (Rd_r3 (g_kp_Rd kp1 ka)) ?_
  refine g_run 1 63 [some (.ref a), some (.ref x1), some (.int x2), some (.int x3), none] [.int (0 : Int32), .ref (a + 18)] (fun _ => rfl) ?_
  refine g_putI 66 rfl rfl (Rw_l (Rd_k3 (g_kp_Rd kp1 ka))) ?_
  refine g_run 1 67 [some (.ref a), some (.ref x1), some (.int x2), some (.int x3), none] [.ref a] (fun _ => rfl) ?_
  obtain ⟨q3, eq3, e⟩ := g_bd e
  refine g_cVv 70 rfl rfl rfl rfl rfl (Rd_l (g_kp_Rd kp1 ka)) (Rd_next_s (g_kp_Rd kp1 ka) eq3) ?_
  refine g_run 2 73 [some (.ref a), some (.ref x1), some (.int x2), some (.int x3), some (.int (0 : Int32))] [] (fun _ => rfl) ?_
  obtain ⟨q9, eq9, e⟩ := g_bd e
  refine Rd_readText_l73_s (g_kp_Rd kp1 ka) (fun y10 => ?_) _ _ _ eq9
  refine g_run 1 113 [some (.ref a), some (.ref x1), some (.int x2), some (.int x3), some (.int y10)] [.ref a] (fun _ => rfl) ?_
  refine g_getI 116 rfl rfl (Rd_l (g_kp_Rd kp1 ka)) ?_
  refine g_if (p1 := 119) (L1 := [some (.ref a), some (.ref x1), some (.int x2), some (.int x3), some (.int y10)]) (S1 := []) (s1 := (l, (am_up r a 7 (some x1)), q9, j)) (p2 := 127) (L2 := [some (.ref a), some (.ref x1), some (.int x2), some (.int x3), some (.int y10)]) (S2 := []) (s2 := (l, (am_up r a 7 (some x1)), q9, j)) rfl (fun _ _ => rfl) e (fun c11 e => ?_) (fun c11 e => ?_)
  · refine g_run 1 120 [some (.ref a), some (.ref x1), some (.int x2), some (.int x3), some (.int y10)] [.int x3] (fun _ => rfl) ?_
    refine g_if (p1 := 123) (L1 := [some (.ref a), some (.ref x1), some (.int x2), some (.int x3), some (.int y10)]) (S1 := []) (s1 := (l, (am_up r a 7 (some x1)), q9, j)) (p2 := 127) (L2 := [some (.ref a), some (.ref x1), some (.int x2), some (.int x3), some (.int y10)]) (S2 := []) (s2 := (l, (am_up r a 7 (some x1)), q9, j)) rfl (fun _ _ => rfl) e (fun c12 e => ?_) (fun c12 e => ?_)
    · refine g_run 1 124 [some (.ref a), some (.ref x1), some (.int x2), some (.int x3), some (.int y10)] [.ref a] (fun _ => rfl) ?_
      obtain ⟨q13, eq13, e⟩ := g_bd e
      refine g_cVv 127 rfl rfl rfl rfl rfl (Rd_l (g_kp_Rd kp1 ka)) (Rd_endPark_s (g_kp_Rd kp1 ka) eq13) ?_
      cases e
      exact g_ret rfl (fun _ _ => rfl)
    · cases e
      exact g_ret rfl (fun _ _ => rfl)
  · cases e
    exact g_ret rfl (fun _ _ => rfl)
theorem Rd_readText_kp {l : List (Nat × Nat)} {r : am_R} {h : am_F} {a x1 : Nat} {x2 x3 : Int32} {q : am_F × am_R} (ka : Rd_K l r a) (kx1 : l[x1]? = some (11, g_ln l x1)) (e : Rd_readText l r a x1 x2 x3 h = some q) : g_kp l r q.2 := by
  unfold Rd_readText at e
  obtain ⟨_, _, e⟩ := g_bd e
  obtain ⟨_, _, e⟩ := g_bd e
  obtain ⟨_, _, e⟩ := g_bd e
  repeat' split at e
  · obtain ⟨_, _, e⟩ := g_bd e
    cases e; exact g_kp_tape ka kx1
  · cases e; exact g_kp_tape ka kx1
  · cases e; exact g_kp_tape ka kx1
def Rw_remove_l30 (l : List (Nat × Nat)) (r : am_R) (x0 : Nat) : Nat → Int32 → am_F → Option (am_F)
  | 0, _, _ => none
  | n + 1, x2, h =>
    if ((h x0 3) * (h x0 0)) ≤ x2 then
      some h
    else
      (g_ix (x2 + (h x0 0)) (g_ln l (x0 + 1))).bind fun k4 =>
      (g_ix x2 (g_ln l (x0 + 1))).bind fun k5 =>
      Rw_remove_l30 l r x0 n (x2 + (1 : Int32)) (am_up h (x0 + 1) k5 (h (x0 + 1) k4))
def Rw_remove (l : List (Nat × Nat)) (r : am_R) (a : Nat) (x1 : Int32) (h : am_F) : Option (am_F) :=
  if x1 < 0 then
    some h
  else
    if x1 < (h a 3) then
      (Rw_remove_l30 l r a g_fu (x1 * ((am_up h a 3 ((h a 3) - (1 : Int32))) a 0)) (am_up h a 3 ((h a 3) - (1 : Int32)))).bind fun q6 =>
      some q6
    else
      some h
theorem Rw_remove_l30_s {X : Nat × (Nat → Int32)} {l : List (Nat × Nat)} {r : am_R} {x0 : Nat} {y1 : Int32} {j : am_J} {q : am_F} {R : Option Value × am_S} (kx0 : Rw_K l r x0) (hx : ∀ (y2 : Int32) , Ev X 84 66 [some (.ref x0), some (.int y1), some (.int y2)] [] (l, r, q, j) R) : ∀ (n : Nat) (x2 : Int32) (h : am_F), Rw_remove_l30 l r x0 n x2 h = some q → Ev X 84 30 [some (.ref x0), some (.int y1), some (.int x2)] [] (l, r, h, j) R := by
  intro n
  induction n with
  | zero => intro x2 h e; cases e
  | succ n ih =>
    intro x2 h e
    unfold Rw_remove_l30 at e
    refine g_run 2 32 [some (.ref x0), some (.int y1), some (.int x2)] [.ref x0, .int x2] (fun _ => rfl) ?_
    refine g_getI 35 rfl rfl (Rw_l kx0) ?_
    refine g_run 1 36 [some (.ref x0), some (.int y1), some (.int x2)] [.ref x0, .int (h x0 3), .int x2] (fun _ => rfl) ?_
    refine g_getI 39 rfl rfl (Rw_l kx0) ?_
    refine g_run 1 40 [some (.ref x0), some (.int y1), some (.int x2)] [.int ((h x0 3) * (h x0 0)), .int x2] (fun _ => rfl) ?_
    refine g_if (p1 := 66) (L1 := [some (.ref x0), some (.int y1), some (.int x2)]) (S1 := []) (s1 := (l, r, h, j)) (p2 := 43) (L2 := [some (.ref x0), some (.int y1), some (.int x2)]) (S2 := []) (s2 := (l, r, h, j)) rfl (fun _ _ => rfl) e (fun c3 e => ?_) (fun c3 e => ?_)
    · cases e
      exact hx _
    · refine g_run 1 44 [some (.ref x0), some (.int y1), some (.int x2)] [.ref x0] (fun _ => rfl) ?_
      refine g_getA 47 rfl rfl (Rw_l kx0) (Rw_r2 kx0) ?_
      refine g_run 2 49 [some (.ref x0), some (.int y1), some (.int x2)] [.ref x0, .int x2, .ref (x0 + 1)] (fun _ => rfl) ?_
      refine g_getA 52 rfl rfl (Rw_l kx0) (Rw_r2 kx0) ?_
      refine g_run 2 54 [some (.ref x0), some (.int y1), some (.int x2)] [.ref x0, .int x2, .ref (x0 + 1), .int x2, .ref (x0 + 1)] (fun _ => rfl) ?_
      refine g_getI 57 rfl rfl (Rw_l kx0) ?_
      refine g_run 1 58 [some (.ref x0), some (.int y1), some (.int x2)] [.int (x2 + (h x0 0)), .ref (x0 + 1), .int x2, .ref (x0 + 1)] (fun _ => rfl) ?_
      obtain ⟨k4, ek4, e⟩ := g_bd e
      refine g_iald 59 rfl rfl (Rw_k2 kx0) ek4 ?_
      obtain ⟨k5, ek5, e⟩ := g_bd e
      refine g_iast 60 rfl rfl (Rw_k2 kx0) ek5 ?_
      refine g_run 2 30 [some (.ref x0), some (.int y1), some (.int (x2 + (1 : Int32)))] [] (fun _ => rfl) ?_
      exact ih _ _ e
theorem Rw_remove_s {X : Nat × (Nat → Int32)} {l : List (Nat × Nat)} {r : am_R} {h : am_F} {j : am_J} {a : Nat} {x1 : Int32} (ka : Rw_K l r a) {q : am_F} (e : Rw_remove l r a x1 h = some q) : Call X 84 [.ref a, .int x1] (l, r, h, j) (none, (l, r, q, j)) := by
  unfold Rw_remove at e
  refine ⟨Nat.le_of_ble_eq_true rfl, ?_⟩
  show Ev X 84 0 [some (.ref a), some (.int x1), none] [] (l, r, h, j) _
  refine g_run 1 1 [some (.ref a), some (.int x1), none] [.int x1] (fun _ => rfl) ?_
  refine g_if (p1 := 12) (L1 := [some (.ref a), some (.int x1), none]) (S1 := []) (s1 := (l, r, h, j)) (p2 := 4) (L2 := [some (.ref a), some (.int x1), none]) (S2 := []) (s2 := (l, r, h, j)) rfl (fun _ _ => rfl) e (fun c1 e => ?_) (fun c1 e => ?_)
  · cases e
    exact g_ret rfl (fun _ _ => rfl)
  · refine g_run 2 6 [some (.ref a), some (.int x1), none] [.ref a, .int x1] (fun _ => rfl) ?_
    refine g_getI 9 rfl rfl (Rw_l ka) ?_
    refine g_if (p1 := 13) (L1 := [some (.ref a), some (.int x1), none]) (S1 := []) (s1 := (l, r, h, j)) (p2 := 12) (L2 := [some (.ref a), some (.int x1), none]) (S2 := []) (s2 := (l, r, h, j)) rfl (fun _ _ => rfl) e (fun c2 e => ?_) (fun c2 e => ?_)
    · refine g_run 2 15 [some (.ref a), some (.int x1), none] [.ref a, .ref a] (fun _ => rfl) ?_
      refine g_getI 18 rfl rfl (Rw_l ka) ?_
      refine g_run 2 20 [some (.ref a), some (.int x1), none] [.int ((h a 3) - (1 : Int32)), .ref a] (fun _ => rfl) ?_
      refine g_putI 23 rfl rfl (Rw_l ka) ?_
      refine g_run 2 25 [some (.ref a), some (.int x1), none] [.ref a, .int x1] (fun _ => rfl) ?_
      refine g_getI 28 rfl rfl (Rw_l ka) ?_
      refine g_run 2 30 [some (.ref a), some (.int x1), some (.int (x1 * ((am_up h a 3 ((h a 3) - (1 : Int32))) a 0)))] [] (fun _ => rfl) ?_
      obtain ⟨q6, eq6, e⟩ := g_bd e
      refine Rw_remove_l30_s ka (fun y7 => ?_) _ _ _ eq6
      cases e
      exact g_ret rfl (fun _ _ => rfl)
    · cases e
      exact g_ret rfl (fun _ _ => rfl)
def Tl_put_l3 (x0 : Nat) (x1 : Int32) : Nat → Int32 → am_F → Option (am_F)
  | 0, _, _ => none
  | n + 1, x2, h =>
    if x2 < 0 then
      some h
    else
      if (600 : Int32) ≤ (h x0 1) then
        some h
      else
        (g_ix (h x0 1) 600).bind fun k3 =>
        Tl_put_l3 x0 x1 n (x2 + (Int32.ofInt (-8))) (am_up (am_up h (x0 + 1) k3 (x1.toUInt32 >>> (x2.toUInt32 &&& Int32.toUInt32 31)).toInt32.toInt8.toInt32.toInt8.toInt32) x0 1 (((am_up h (x0 + 1) k3 (x1.toUInt32 >>> (x2.toUInt32 &&& Int32.toUInt32 31)).toInt32.toInt8.toInt32.toInt8.toInt32) x0 1) + (1 : Int32)))
def Tl_put (a : Nat) (x1 : Int32) (h : am_F) : Option (am_F) :=
  (Tl_put_l3 a x1 g_fu (24 : Int32) h).bind fun q4 =>
  some q4
theorem Tl_put_l3_s {X : Nat × (Nat → Int32)} {l : List (Nat × Nat)} {r : am_R} {x0 : Nat} {x1 : Int32} {j : am_J} {q : am_F} {R : Option Value × am_S} (kx0 : Tl_K l r x0) (hx : ∀ (y2 : Int32) , Ev X 87 46 [some (.ref x0), some (.int x1), some (.int y2)] [] (l, r, q, j) R) : ∀ (n : Nat) (x2 : Int32) (h : am_F), Tl_put_l3 x0 x1 n x2 h = some q → Ev X 87 3 [some (.ref x0), some (.int x1), some (.int x2)] [] (l, r, h, j) R := by
  intro n
  induction n with
  | zero => intro x2 h e; cases e
  | succ n ih =>
    intro x2 h e
    unfold Tl_put_l3 at e
    refine g_run 1 4 [some (.ref x0), some (.int x1), some (.int x2)] [.int x2] (fun _ => rfl) ?_
    refine g_if (p1 := 46) (L1 := [some (.ref x0), some (.int x1), some (.int x2)]) (S1 := []) (s1 := (l, r, h, j)) (p2 := 7) (L2 := [some (.ref x0), some (.int x1), some (.int x2)]) (S2 := []) (s2 := (l, r, h, j)) rfl (fun _ _ => rfl) e (fun c1 e => ?_) (fun c1 e => ?_)
    · cases e
      exact hx _
    · refine g_run 1 8 [some (.ref x0), some (.int x1), some (.int x2)] [.ref x0] (fun _ => rfl) ?_
      refine g_getI 11 rfl rfl (Tl_l kx0) ?_
      refine g_run 1 14 [some (.ref x0), some (.int x1), some (.int x2)] [.int (600 : Int32), .int (h x0 1)] (fun _ => rfl) ?_
      refine g_if (p1 := 46) (L1 := [some (.ref x0), some (.int x1), some (.int x2)]) (S1 := []) (s1 := (l, r, h, j)) (p2 := 17) (L2 := [some (.ref x0), some (.int x1), some (.int x2)]) (S2 := []) (s2 := (l, r, h, j)) rfl (fun _ _ => rfl) e (fun c2 e => ?_) (fun c2 e => ?_)
      · cases e
        exact hx _
      · refine g_run 1 18 [some (.ref x0), some (.int x1), some (.int x2)] [.ref x0] (fun _ => rfl) ?_
        refine g_getA 21 rfl rfl (Tl_l kx0) (Tl_r0 kx0) ?_
        refine g_run 1 22 [some (.ref x0), some (.int x1), some (.int x2)] [.ref x0, .ref (x0 + 1)] (fun _ => rfl) ?_
        refine g_getI 25 rfl rfl (Tl_l kx0) ?_
        refine g_run 4 29 [some (.ref x0), some (.int x1), some (.int x2)] [.int (x1.toUInt32 >>> (x2.toUInt32 &&& Int32.toUInt32 31)).toInt32.toInt8.toInt32, .int (h x0 1), .ref (x0 + 1)] (fun _ => rfl) ?_
        obtain ⟨k3, ek3, e⟩ := g_bd e
        refine g_bast 30 rfl rfl (Tl_k0 kx0) ek3 ?_
        refine g_run 2 32 [some (.ref x0), some (.int x1), some (.int x2)] [.ref x0, .ref x0] (fun _ => rfl) ?_
        refine g_getI 35 rfl rfl (Tl_l kx0) ?_
        refine g_run 2 37 [some (.ref x0), some (.int x1), some (.int x2)] [.int (((am_up h (x0 + 1) k3 (x1.toUInt32 >>> (x2.toUInt32 &&& Int32.toUInt32 31)).toInt32.toInt8.toInt32.toInt8.toInt32) x0 1) + (1 : Int32)), .ref x0] (fun _ => rfl) ?_
        refine g_putI 40 rfl rfl (Tl_l kx0) ?_
        refine g_go 43 [some (.ref x0), some (.int x1), some (.int (x2 + (Int32.ofInt (-8))))] [] rfl (fun _ _ => rfl) ?_
        refine g_run 1 3 [some (.ref x0), some (.int x1), some (.int (x2 + (Int32.ofInt (-8))))] [] (fun _ => rfl) ?_
        exact ih _ _ e
theorem Tl_put_s {X : Nat × (Nat → Int32)} {l : List (Nat × Nat)} {r : am_R} {h : am_F} {j : am_J} {a : Nat} {x1 : Int32} (ka : Tl_K l r a) {q : am_F} (e : Tl_put a x1 h = some q) : Call X 87 [.ref a, .int x1] (l, r, h, j) (none, (l, r, q, j)) := by
  unfold Tl_put at e
  refine ⟨Nat.le_of_ble_eq_true rfl, ?_⟩
  show Ev X 87 0 [some (.ref a), some (.int x1), none] [] (l, r, h, j) _
  refine g_run 2 3 [some (.ref a), some (.int x1), some (.int (24 : Int32))] [] (fun _ => rfl) ?_
  obtain ⟨q4, eq4, e⟩ := g_bd e
  refine Tl_put_l3_s ka (fun y5 => ?_) _ _ _ eq4
  cases e
  exact g_ret rfl (fun _ _ => rfl)
def Tl_howMany (a : Nat) (x1 : Int32) (h : am_F) : Option (Int32) :=
  if x1 < 0 then
    some (-2 : Int32)
  else
    if x1 < (4 : Int32) then
      (g_ix x1 4).bind fun k3 =>
      some (h (a + 2) k3)
    else
      some (-2 : Int32)
theorem Tl_howMany_s {X : Nat × (Nat → Int32)} {l : List (Nat × Nat)} {r : am_R} {h : am_F} {j : am_J} {a : Nat} {x1 : Int32} (ka : Tl_K l r a) {q : Int32} (e : Tl_howMany a x1 h = some q) : Call X 88 [.ref a, .int x1] (l, r, h, j) (some (.int q), (l, r, h, j)) := by
  unfold Tl_howMany at e
  refine ⟨Nat.le_of_ble_eq_true rfl, ?_⟩
  show Ev X 88 0 [some (.ref a), some (.int x1)] [] (l, r, h, j) _
  refine g_run 1 1 [some (.ref a), some (.int x1)] [.int x1] (fun _ => rfl) ?_
  refine g_if (p1 := 9) (L1 := [some (.ref a), some (.int x1)]) (S1 := []) (s1 := (l, r, h, j)) (p2 := 4) (L2 := [some (.ref a), some (.int x1)]) (S2 := []) (s2 := (l, r, h, j)) rfl (fun _ _ => rfl) e (fun c1 e => ?_) (fun c1 e => ?_)
  · refine g_run 2 20 [some (.ref a), some (.int x1)] [.int (-2 : Int32)] (fun _ => rfl) ?_
    cases e
    exact g_ret rfl (fun _ _ => rfl)
  · refine g_run 2 6 [some (.ref a), some (.int x1)] [.int (4 : Int32), .int x1] (fun _ => rfl) ?_
    refine g_if (p1 := 14) (L1 := [some (.ref a), some (.int x1)]) (S1 := []) (s1 := (l, r, h, j)) (p2 := 9) (L2 := [some (.ref a), some (.int x1)]) (S2 := []) (s2 := (l, r, h, j)) rfl (fun _ _ => rfl) e (fun c2 e => ?_) (fun c2 e => ?_)
    · refine g_run 1 15 [some (.ref a), some (.int x1)] [.ref a] (fun _ => rfl) ?_
      refine g_getA 18 rfl rfl (Tl_l ka) (Tl_r4 ka) ?_
      refine g_run 1 19 [some (.ref a), some (.int x1)] [.int x1, .ref (a + 2)] (fun _ => rfl) ?_
      obtain ⟨k3, ek3, e⟩ := g_bd e
      refine g_iald 20 rfl rfl (Tl_k4 ka) ek3 ?_
      cases e
      exact g_ret rfl (fun _ _ => rfl)
    · refine g_run 2 20 [some (.ref a), some (.int x1)] [.int (-2 : Int32)] (fun _ => rfl) ?_
      cases e
      exact g_ret rfl (fun _ _ => rfl)
def Tl_parkAt (l : List (Nat × Nat)) (r : am_R) (a : Nat) (x1 : Int32) (h : am_F) : Option (Option Nat) :=
  if x1 < 0 then
    some none
  else
    if (2 : Int32) ≤ x1 then
      some none
    else
      if x1 < (h (a + 2) 0) then
        (g_ix x1 2).bind fun k4 =>
        some (r (a + 3) k4)
      else
        some none
theorem Tl_parkAt_s {X : Nat × (Nat → Int32)} {l : List (Nat × Nat)} {r : am_R} {h : am_F} {j : am_J} {a : Nat} {x1 : Int32} (ka : Tl_K l r a) {q : Option Nat} (e : Tl_parkAt l r a x1 h = some q) : Call X 89 [.ref a, .int x1] (l, r, h, j) (some (va_rf q), (l, r, h, j)) := by
  unfold Tl_parkAt at e
  refine ⟨Nat.le_of_ble_eq_true rfl, ?_⟩
  show Ev X 89 0 [some (.ref a), some (.int x1)] [] (l, r, h, j) _
  refine g_run 1 1 [some (.ref a), some (.int x1)] [.int x1] (fun _ => rfl) ?_
  refine g_if (p1 := 19) (L1 := [some (.ref a), some (.int x1)]) (S1 := []) (s1 := (l, r, h, j)) (p2 := 4) (L2 := [some (.ref a), some (.int x1)]) (S2 := []) (s2 := (l, r, h, j)) rfl (fun _ _ => rfl) e (fun c1 e => ?_) (fun c1 e => ?_)
  · refine g_run 2 29 [some (.ref a), some (.int x1)] [.null] (fun _ => rfl) ?_
    cases e
    exact g_ret rfl (fun _ _ => rfl)
  · refine g_run 2 6 [some (.ref a), some (.int x1)] [.int (2 : Int32), .int x1] (fun _ => rfl) ?_
    refine g_if (p1 := 19) (L1 := [some (.ref a), some (.int x1)]) (S1 := []) (s1 := (l, r, h, j)) (p2 := 9) (L2 := [some (.ref a), some (.int x1)]) (S2 := []) (s2 := (l, r, h, j)) rfl (fun _ _ => rfl) e (fun c2 e => ?_) (fun c2 e => ?_)
    · refine g_run 2 29 [some (.ref a), some (.int x1)] [.null] (fun _ => rfl) ?_
      cases e
      exact g_ret rfl (fun _ _ => rfl)
    · refine g_run 2 11 [some (.ref a), some (.int x1)] [.ref a, .int x1] (fun _ => rfl) ?_
      refine g_getA 14 rfl rfl (Tl_l ka) (Tl_r4 ka) ?_
      refine g_run 1 15 [some (.ref a), some (.int x1)] [.int (0 : Int32), .ref (a + 2), .int x1] (fun _ => rfl) ?_
      refine g_iald 16 rfl rfl (Tl_k4 ka) (kx := 0) rfl ?_
      refine g_if (p1 := 23) (L1 := [some (.ref a), some (.int x1)]) (S1 := []) (s1 := (l, r, h, j)) (p2 := 19) (L2 := [some (.ref a), some (.int x1)]) (S2 := []) (s2 := (l, r, h, j)) rfl (fun _ _ => rfl) e (fun c3 e => ?_) (fun c3 e => ?_)
      · refine g_run 1 24 [some (.ref a), some (.int x1)] [.ref a] (fun _ => rfl) ?_
        refine g_getA 27 rfl rfl (Tl_l ka) (Tl_r5 ka) ?_
        refine g_run 1 28 [some (.ref a), some (.int x1)] [.int x1, .ref (a + 3)] (fun _ => rfl) ?_
        obtain ⟨k4, ek4, e⟩ := g_bd e
        refine g_aald 29 rfl rfl (Tl_k5 ka) rfl ek4 ?_
        cases e
        exact g_retO rfl rfl
      · refine g_run 2 29 [some (.ref a), some (.int x1)] [.null] (fun _ => rfl) ?_
        cases e
        exact g_ret rfl (fun _ _ => rfl)
theorem Tl_parkAt_K {l : List (Nat × Nat)} {r : am_R} {h : am_F} {a p : Nat} {x1 : Int32} (ka : Tl_K l r a) (e : Tl_parkAt l r a x1 h = some (some p)) : Pk_K l r p := by
  unfold Tl_parkAt at e
  repeat' split at e
  all_goals first | (cases e; done) | (obtain ⟨k, hk, e⟩ := g_bd e; injection e with e; exact Tl_e5 ka _ _ e)
def Tl_rowsAt (l : List (Nat × Nat)) (r : am_R) (a : Nat) (x1 : Int32) (x2 : Int32) (h : am_F) : Option (Option Nat) :=
  if x1 ≤ 0 then
    some none
  else
    if (4 : Int32) ≤ x1 then
      some none
    else
      if x2 < 0 then
        some none
      else
        if (2 : Int32) ≤ x2 then
          some none
        else
          (g_ix x1 4).bind fun k5 =>
          if x2 < (h (a + 2) k5) then
            (g_ix ((x1 * (2 : Int32)) + x2) 8).bind fun k7 =>
            some (r (a + 4) k7)
          else
            some none
theorem Tl_rowsAt_s {X : Nat × (Nat → Int32)} {l : List (Nat × Nat)} {r : am_R} {h : am_F} {j : am_J} {a : Nat} {x1 : Int32} {x2 : Int32} (ka : Tl_K l r a) {q : Option Nat} (e : Tl_rowsAt l r a x1 x2 h = some q) : Call X 90 [.ref a, .int x1, .int x2] (l, r, h, j) (some (va_rf q), (l, r, h, j)) := by
  unfold Tl_rowsAt at e
  refine ⟨Nat.le_of_ble_eq_true rfl, ?_⟩
  show Ev X 90 0 [some (.ref a), some (.int x1), some (.int x2)] [] (l, r, h, j) _
  refine g_run 1 1 [some (.ref a), some (.int x1), some (.int x2)] [.int x1] (fun _ => rfl) ?_
  refine g_if (p1 := 28) (L1 := [some (.ref a), some (.int x1), some (.int x2)]) (S1 := []) (s1 := (l, r, h, j)) (p2 := 4) (L2 := [some (.ref a), some (.int x1), some (.int x2)]) (S2 := []) (s2 := (l, r, h, j)) rfl (fun _ _ => rfl) e (fun c1 e => ?_) (fun c1 e => ?_)
  · refine g_run 1 29 [some (.ref a), some (.int x1), some (.int x2)] [.null] (fun _ => rfl) ?_
    cases e
    exact g_ret rfl (fun _ _ => rfl)
  · refine g_run 2 6 [some (.ref a), some (.int x1), some (.int x2)] [.int (4 : Int32), .int x1] (fun _ => rfl) ?_
    refine g_if (p1 := 28) (L1 := [some (.ref a), some (.int x1), some (.int x2)]) (S1 := []) (s1 := (l, r, h, j)) (p2 := 9) (L2 := [some (.ref a), some (.int x1), some (.int x2)]) (S2 := []) (s2 := (l, r, h, j)) rfl (fun _ _ => rfl) e (fun c2 e => ?_) (fun c2 e => ?_)
    · refine g_run 1 29 [some (.ref a), some (.int x1), some (.int x2)] [.null] (fun _ => rfl) ?_
      cases e
      exact g_ret rfl (fun _ _ => rfl)
    · refine g_run 1 10 [some (.ref a), some (.int x1), some (.int x2)] [.int x2] (fun _ => rfl) ?_
      refine g_if (p1 := 28) (L1 := [some (.ref a), some (.int x1), some (.int x2)]) (S1 := []) (s1 := (l, r, h, j)) (p2 := 13) (L2 := [some (.ref a), some (.int x1), some (.int x2)]) (S2 := []) (s2 := (l, r, h, j)) rfl (fun _ _ => rfl) e (fun c3 e => ?_) (fun c3 e => ?_)
      · refine g_run 1 29 [some (.ref a), some (.int x1), some (.int x2)] [.null] (fun _ => rfl) ?_
        cases e
        exact g_ret rfl (fun _ _ => rfl)
      · refine g_run 2 15 [some (.ref a), some (.int x1), some (.int x2)] [.int (2 : Int32), .int x2] (fun _ => rfl) ?_
        refine g_if (p1 := 28) (L1 := [some (.ref a), some (.int x1), some (.int x2)]) (S1 := []) (s1 := (l, r, h, j)) (p2 := 18) (L2 := [some (.ref a), some (.int x1), some (.int x2)]) (S2 := []) (s2 := (l, r, h, j)) rfl (fun _ _ => rfl) e (fun c4 e => ?_) (fun c4 e => ?_)
        · refine g_run 1 29 [some (.ref a), some (.int x1), some (.int x2)] [.null] (fun _ => rfl) ?_
          cases e
          exact g_ret rfl (fun _ _ => rfl)
        · refine g_run 2 20 [some (.ref a), some (.int x1), some (.int x2)] [.ref a, .int x2] (fun _ => rfl) ?_
          refine g_getA 23 rfl rfl (Tl_l ka) (Tl_r4 ka) ?_
          refine g_run 1 24 [some (.ref a), some (.int x1), some (.int x2)] [.int x1, .ref (a + 2), .int x2] (fun _ => rfl) ?_
          obtain ⟨k5, ek5, e⟩ := g_bd e
          refine g_iald 25 rfl rfl (Tl_k4 ka) ek5 ?_
          refine g_if (p1 := 30) (L1 := [some (.ref a), some (.int x1), some (.int x2)]) (S1 := []) (s1 := (l, r, h, j)) (p2 := 28) (L2 := [some (.ref a), some (.int x1), some (.int x2)]) (S2 := []) (s2 := (l, r, h, j)) rfl (fun _ _ => rfl) e (fun c6 e => ?_) (fun c6 e => ?_)
          · refine g_run 1 31 [some (.ref a), some (.int x1), some (.int x2)] [.ref a] (fun _ => rfl) ?_
            refine g_getA 34 rfl rfl (Tl_l ka) (Tl_r6 ka) ?_
            refine g_run 5 39 [some (.ref a), some (.int x1), some (.int x2)] [.int ((x1 * (2 : Int32)) + x2), .ref (a + 4)] (fun _ => rfl) ?_
            obtain ⟨k7, ek7, e⟩ := g_bd e
            refine g_aald 40 rfl rfl (Tl_k6 ka) rfl ek7 ?_
            cases e
            exact g_retO rfl rfl
          · refine g_run 1 29 [some (.ref a), some (.int x1), some (.int x2)] [.null] (fun _ => rfl) ?_
            cases e
            exact g_ret rfl (fun _ _ => rfl)
theorem Tl_rowsAt_K {l : List (Nat × Nat)} {r : am_R} {h : am_F} {a p : Nat} {x1 x2 : Int32} (ka : Tl_K l r a) (e : Tl_rowsAt l r a x1 x2 h = some (some p)) : Rw_K l r p := by
  unfold Tl_rowsAt at e
  repeat' split at e
  all_goals first | (cases e; done) | skip
  all_goals
    obtain ⟨k, hk, e⟩ := g_bd e
    repeat' split at e
  all_goals first | (cases e; done) | (obtain ⟨k, hk, e⟩ := g_bd e; injection e with e; exact Tl_e6 ka _ _ e)
def Tl_keep (l : List (Nat × Nat)) (r : am_R) (a : Nat) (x1 : Int32) (x2 : Int32) (x3 : Nat) (h : am_F) : Option (am_F) :=
  if x1 < 0 then
    some h
  else
    if (4 : Int32) ≤ x1 then
      some h
    else
      if x2 < 0 then
        some h
      else
        if x2 < (2 : Int32) then
          (g_ix x1 4).bind fun k5 =>
          (g_ix x1 4).bind fun k6 =>
          (Tl_rowsAt l r a x1 x2 (am_up h (a + 2) k6 (if (h (a + 2) k5) < (x2 + (1 : Int32)) then (x2 + (1 : Int32)) else (h (a + 2) k5)))).bind fun q7 =>
          g_on q7 (
            (g_ix x2 2).bind fun k9 =>
            g_on (r (a + 3) k9) (
              some (am_up h (a + 2) k6 (if (h (a + 2) k5) < (x2 + (1 : Int32)) then (x2 + (1 : Int32)) else (h (a + 2) k5)))) (fun p10 =>
              (g_ix x2 2).bind fun k11 =>
              (r (a + 3) k11).bind fun p12 =>
              (Pk_copyFrom l r p12 (x3 + 1) (am_up h (a + 2) k6 (if (h (a + 2) k5) < (x2 + (1 : Int32)) then (x2 + (1 : Int32)) else (h (a + 2) k5)))).bind fun q13 =>
              some q13)) (fun p8 =>
            (Rw_copyFrom l r p8 (Rd_rowsOf x3 x1) (am_up h (a + 2) k6 (if (h (a + 2) k5) < (x2 + (1 : Int32)) then (x2 + (1 : Int32)) else (h (a + 2) k5)))).bind fun q14 =>
            some q14)
        else
          some h
theorem Tl_keep_s {X : Nat × (Nat → Int32)} {l : List (Nat × Nat)} {r : am_R} {h : am_F} {j : am_J} {a : Nat} {x1 : Int32} {x2 : Int32} {x3 : Nat} (ka : Tl_K l r a) (kx3 : Rd_K l r x3) {q : am_F} (e : Tl_keep l r a x1 x2 x3 h = some q) : Call X 91 [.ref a, .int x1, .int x2, .ref x3] (l, r, h, j) (none, (l, r, q, j)) := by
  unfold Tl_keep at e
  refine ⟨Nat.le_of_ble_eq_true rfl, ?_⟩
  show Ev X 91 0 [some (.ref a), some (.int x1), some (.int x2), some (.ref x3), none] [] (l, r, h, j) _
  refine g_run 1 1 [some (.ref a), some (.int x1), some (.int x2), some (.ref x3), none] [.int x1] (fun _ => rfl) ?_
  refine g_if (p1 := 18) (L1 := [some (.ref a), some (.int x1), some (.int x2), some (.ref x3), none]) (S1 := []) (s1 := (l, r, h, j)) (p2 := 4) (L2 := [some (.ref a), some (.int x1), some (.int x2), some (.ref x3), none]) (S2 := []) (s2 := (l, r, h, j)) rfl (fun _ _ => rfl) e (fun c1 e => ?_) (fun c1 e => ?_)
  · cases e
    exact g_ret rfl (fun _ _ => rfl)
  · refine g_run 2 6 [some (.ref a), some (.int x1), some (.int x2), some (.ref x3), none] [.int (4 : Int32), .int x1] (fun _ => rfl) ?_
    refine g_if (p1 := 18) (L1 := [some (.ref a), some (.int x1), some (.int x2), some (.ref x3), none]) (S1 := []) (s1 := (l, r, h, j)) (p2 := 9) (L2 := [some (.ref a), some (.int x1), some (.int x2), some (.ref x3), none]) (S2 := []) (s2 := (l, r, h, j)) rfl (fun _ _ => rfl) e (fun c2 e => ?_) (fun c2 e => ?_)
    · cases e
      exact g_ret rfl (fun _ _ => rfl)
    · refine g_run 1 10 [some (.ref a), some (.int x1), some (.int x2), some (.ref x3), none] [.int x2] (fun _ => rfl) ?_
      refine g_if (p1 := 18) (L1 := [some (.ref a), some (.int x1), some (.int x2), some (.ref x3), none]) (S1 := []) (s1 := (l, r, h, j)) (p2 := 13) (L2 := [some (.ref a), some (.int x1), some (.int x2), some (.ref x3), none]) (S2 := []) (s2 := (l, r, h, j)) rfl (fun _ _ => rfl) e (fun c3 e => ?_) (fun c3 e => ?_)
      · cases e
        exact g_ret rfl (fun _ _ => rfl)
      · refine g_run 2 15 [some (.ref a), some (.int x1), some (.int x2), some (.ref x3), none] [.int (2 : Int32), .int x2] (fun _ => rfl) ?_
        refine g_if (p1 := 19) (L1 := [some (.ref a), some (.int x1), some (.int x2), some (.ref x3), none]) (S1 := []) (s1 := (l, r, h, j)) (p2 := 18) (L2 := [some (.ref a), some (.int x1), some (.int x2), some (.ref x3), none]) (S2 := []) (s2 := (l, r, h, j)) rfl (fun _ _ => rfl) e (fun c4 e => ?_) (fun c4 e => ?_)
        · refine g_run 1 20 [some (.ref a), some (.int x1), some (.int x2), some (.ref x3), none] [.ref a] (fun _ => rfl) ?_
          refine g_getA 23 rfl rfl (Tl_l ka) (Tl_r4 ka) ?_
          refine g_run 2 25 [some (.ref a), some (.int x1), some (.int x2), some (.ref x3), none] [.ref a, .int x1, .ref (a + 2)] (fun _ => rfl) ?_
          refine g_getA 28 rfl rfl (Tl_l ka) (Tl_r4 ka) ?_
          refine g_run 1 29 [some (.ref a), some (.int x1), some (.int x2), some (.ref x3), none] [.int x1, .ref (a + 2), .int x1, .ref (a + 2)] (fun _ => rfl) ?_
          obtain ⟨k5, ek5, e⟩ := g_bd e
          refine g_iald 30 rfl rfl (Tl_k4 ka) ek5 ?_
          refine g_run 4 36 [some (.ref a), some (.int x1), some (.int x2), some (.ref x3), none] [.int (if (h (a + 2) k5) < (x2 + (1 : Int32)) then (x2 + (1 : Int32)) else (h (a + 2) k5)), .int x1, .ref (a + 2)] (fun _ => rfl) ?_
          obtain ⟨k6, ek6, e⟩ := g_bd e
          refine g_iast 37 rfl rfl (Tl_k4 ka) ek6 ?_
          refine g_run 3 40 [some (.ref a), some (.int x1), some (.int x2), some (.ref x3), none] [.int x2, .int x1, .ref a] (fun _ => rfl) ?_
          obtain ⟨q7, eq7, e⟩ := g_bd e
          refine g_cV 43 rfl rfl rfl rfl rfl (Tl_l ka) (Tl_rowsAt_s ka eq7) ?_
          refine g_run 1 45 [some (.ref a), some (.int x1), some (.int x2), some (.ref x3), some (va_rf q7)] [] (fun _ => by generalize q7 = o90; cases o90 <;> rfl) ?_
          refine g_run 1 47 [some (.ref a), some (.int x1), some (.int x2), some (.ref x3), some (va_rf q7)] [va_rf q7] (fun _ => by generalize q7 = o90; cases o90 <;> rfl) ?_
          cases q7 with
          | none =>
            replace e := g_onN e
            refine g_run 1 63 [some (.ref a), some (.int x1), some (.int x2), some (.ref x3), some (.null)] [] (fun _ => rfl) ?_
            refine g_run 1 64 [some (.ref a), some (.int x1), some (.int x2), some (.ref x3), some (.null)] [.ref a] (fun _ => rfl) ?_
            refine g_getA 67 rfl rfl (Tl_l ka) (Tl_r5 ka) ?_
            refine g_run 1 68 [some (.ref a), some (.int x1), some (.int x2), some (.ref x3), some (.null)] [.int x2, .ref (a + 3)] (fun _ => rfl) ?_
            obtain ⟨k9, ek9, e⟩ := g_bd e
            refine g_aald 69 rfl rfl (Tl_k5 ka) rfl ek9 ?_
            cases Hp10 : (r (a + 3) k9) with
            | none =>
              replace e := g_onN2 Hp10 e
              refine g_run 1 85 [some (.ref a), some (.int x1), some (.int x2), some (.ref x3), some (.null)] [] (fun _ => rfl) ?_
              cases e
              exact g_ret rfl (fun _ _ => rfl)
            | some p10 =>
              replace e := g_onS2 Hp10 e
              have kp10 := (Tl_e5 ka) _ _ Hp10
              refine g_run 1 72 [some (.ref a), some (.int x1), some (.int x2), some (.ref x3), some (.null)] [] (fun _ => rfl) ?_
              refine g_run 1 73 [some (.ref a), some (.int x1), some (.int x2), some (.ref x3), some (.null)] [.ref a] (fun _ => rfl) ?_
              refine g_getA 76 rfl rfl (Tl_l ka) (Tl_r5 ka) ?_
              refine g_run 1 77 [some (.ref a), some (.int x1), some (.int x2), some (.ref x3), some (.null)] [.int x2, .ref (a + 3)] (fun _ => rfl) ?_
              obtain ⟨k11, ek11, e⟩ := g_bd e
              refine g_aald 78 rfl rfl (Tl_k5 ka) rfl ek11 ?_
              refine g_run 1 79 [some (.ref a), some (.int x1), some (.int x2), some (.ref x3), some (.null)] [.ref x3, va_rf (r (a + 3) k11)] (fun _ => rfl) ?_
              refine g_getA 82 rfl rfl (Rd_l kx3) (Rd_r0 kx3) ?_
              obtain ⟨p12, ep12, e⟩ := g_bd e
              have kp12 := (Tl_e5 ka) _ _ ep12
              rw [ep12]
              obtain ⟨q13, eq13, e⟩ := g_bd e
              refine g_cVv 85 rfl rfl rfl rfl rfl (Pk_l kp12) (Pk_copyFrom_s kp12 (Rd_k0 kx3) eq13) ?_
              cases e
              exact g_ret rfl (fun _ _ => rfl)
          | some p8 =>
            replace e := g_onS e
            have kp8 := Tl_rowsAt_K ka eq7
            refine g_run 1 50 [some (.ref a), some (.int x1), some (.int x2), some (.ref x3), some (.ref p8)] [] (fun _ => rfl) ?_
            refine g_run 3 54 [some (.ref a), some (.int x1), some (.int x2), some (.ref x3), some (.ref p8)] [.int x1, .ref x3, .ref p8] (fun _ => rfl) ?_
            refine g_cV 57 rfl rfl rfl rfl rfl (Rd_l kx3) (Rd_rowsOf_s kx3) ?_
            obtain ⟨q14, eq14, e⟩ := g_bd e
            refine g_cVv 60 rfl rfl rfl rfl rfl (Rw_l kp8) (Rw_copyFrom_s kp8 (Rd_rowsOf_KR kx3) eq14) ?_
            refine g_run 1 85 [some (.ref a), some (.int x1), some (.int x2), some (.ref x3), some (.ref p8)] [] (fun _ => rfl) ?_
            cases e
            exact g_ret rfl (fun _ _ => rfl)
        · cases e
          exact g_ret rfl (fun _ _ => rfl)
def Tl_copyFrom_l68 (l : List (Nat × Nat)) (r : am_R) (x0 : Nat) (x1 : Nat) (x2 : Int32) : Nat → Int32 → am_F → Option (am_F)
  | 0, _, _ => none
  | n + 1, x3, h =>
    if (2 : Int32) ≤ x3 then
      some h
    else
      (Tl_rowsAt l r x1 x2 x3 h).bind fun q6 =>
      (Tl_rowsAt l r x0 x2 x3 h).bind fun q7 =>
      (g_on q6 (
          some h) (fun p8 =>
          g_on q7 (
            some h) (fun p10 =>
            (Rw_copyFrom l r p10 p8 h).bind fun q11 =>
            some q11)) : Option (am_F)).bind fun q12 =>
      Tl_copyFrom_l68 l r x0 x1 x2 n (x3 + (1 : Int32)) q12
def Tl_copyFrom_l49 (l : List (Nat × Nat)) (r : am_R) (x0 : Nat) (x1 : Nat) : Nat → Int32 → am_F → Option (am_F)
  | 0, _, _ => none
  | n + 1, x2, h =>
    if (4 : Int32) ≤ x2 then
      some h
    else
      (g_ix x2 4).bind fun k3 =>
      (g_ix x2 4).bind fun k4 =>
      (Tl_copyFrom_l68 l r x0 x1 x2 g_fu (0 : Int32) (am_up h (x0 + 2) k4 (h (x1 + 2) k3))).bind fun q15 =>
      Tl_copyFrom_l49 l r x0 x1 n (x2 + (1 : Int32)) q15
def Tl_copyFrom_l120 (l : List (Nat × Nat)) (r : am_R) (x0 : Nat) (x1 : Nat) : Nat → Int32 → am_F → Option (am_F)
  | 0, _, _ => none
  | n + 1, x2, h =>
    if (2 : Int32) ≤ x2 then
      some h
    else
      (Tl_parkAt l r x1 x2 h).bind fun q25 =>
      (Tl_parkAt l r x0 x2 h).bind fun q26 =>
      (g_on q25 (
          some h) (fun p27 =>
          g_on q26 (
            some h) (fun p29 =>
            (Pk_copyFrom l r p29 p27 h).bind fun q30 =>
            some q30)) : Option (am_F)).bind fun q31 =>
      Tl_copyFrom_l120 l r x0 x1 n (x2 + (1 : Int32)) q31
def Tl_copyFrom (l : List (Nat × Nat)) (r : am_R) (a : Nat) (x1 : Nat) (h : am_F) : Option (am_F) :=
  (g_cx (if (600 : Int32) < ((am_up h a 1 (h x1 1)) a 1) then (600 : Int32) else ((am_up h a 1 (h x1 1)) a 1)) 600 600).bind fun k1 =>
  (Tl_copyFrom_l49 l r a x1 g_fu (0 : Int32) (am_up (am_up (g_cp (am_up h a 1 (h x1 1)) (x1 + 1) (a + 1) k1) a 2 ((g_cp (am_up h a 1 (h x1 1)) (x1 + 1) (a + 1) k1) x1 2)) a 3 ((am_up (g_cp (am_up h a 1 (h x1 1)) (x1 + 1) (a + 1) k1) a 2 ((g_cp (am_up h a 1 (h x1 1)) (x1 + 1) (a + 1) k1) x1 2)) x1 3))).bind fun q19 =>
  (Tl_copyFrom_l120 l r a x1 g_fu (0 : Int32) q19).bind fun q34 =>
  some q34
theorem Tl_copyFrom_l68_s {X : Nat × (Nat → Int32)} {l : List (Nat × Nat)} {r : am_R} {x0 : Nat} {x1 : Nat} {x2 : Int32} {j : am_J} {q : am_F} {R : Option Value × am_S} (kx0 : Tl_K l r x0) (kx1 : Tl_K l r x1) (hx : ∀ (d4 : Option Value) (d5 : Option Value) (y3 : Int32) , Ev X 92 112 [some (.ref x0), some (.ref x1), some (.int x2), some (.int y3), d4, d5] [] (l, r, q, j) R) : ∀ (n : Nat) (x3 : Int32) (h : am_F) (d4 : Option Value) (d5 : Option Value), Tl_copyFrom_l68 l r x0 x1 x2 n x3 h = some q → Ev X 92 68 [some (.ref x0), some (.ref x1), some (.int x2), some (.int x3), d4, d5] [] (l, r, h, j) R := by
  intro n
  induction n with
  | zero => intro x3 h d4 d5 e; cases e
  | succ n ih =>
    intro x3 h d4 d5 e
    unfold Tl_copyFrom_l68 at e
    refine g_run 2 70 [some (.ref x0), some (.ref x1), some (.int x2), some (.int x3), d4, d5] [.int (2 : Int32), .int x3] (fun _ => rfl) ?_
    refine g_if (p1 := 112) (L1 := [some (.ref x0), some (.ref x1), some (.int x2), some (.int x3), d4, d5]) (S1 := []) (s1 := (l, r, h, j)) (p2 := 73) (L2 := [some (.ref x0), some (.ref x1), some (.int x2), some (.int x3), d4, d5]) (S2 := []) (s2 := (l, r, h, j)) rfl (fun _ _ => rfl) e (fun c5 e => ?_) (fun c5 e => ?_)
    · cases e
      exact hx _ _ _
    · refine g_run 3 76 [some (.ref x0), some (.ref x1), some (.int x2), some (.int x3), d4, d5] [.int x3, .int x2, .ref x1] (fun _ => rfl) ?_
      obtain ⟨q6, eq6, e⟩ := g_bd e
      refine g_cV 79 rfl rfl rfl rfl rfl (Tl_l kx1) (Tl_rowsAt_s kx1 eq6) ?_
      refine g_run 1 81 [some (.ref x0), some (.ref x1), some (.int x2), some (.int x3), some (va_rf q6), d5] [] (fun _ => by generalize q6 = o90; cases o90 <;> rfl) ?_
      refine g_run 3 84 [some (.ref x0), some (.ref x1), some (.int x2), some (.int x3), some (va_rf q6), d5] [.int x3, .int x2, .ref x0] (fun _ => rfl) ?_
      obtain ⟨q7, eq7, e⟩ := g_bd e
      refine g_cV 87 rfl rfl rfl rfl rfl (Tl_l kx0) (Tl_rowsAt_s kx0 eq7) ?_
      refine g_run 1 89 [some (.ref x0), some (.ref x1), some (.int x2), some (.int x3), some (va_rf q6), some (va_rf q7)] [] (fun _ => by generalize q6 = o90; generalize q7 = o91; cases o90 <;> cases o91 <;> rfl) ?_
      refine g_run 1 91 [some (.ref x0), some (.ref x1), some (.int x2), some (.int x3), some (va_rf q6), some (va_rf q7)] [va_rf q6] (fun _ => by generalize q6 = o90; generalize q7 = o91; cases o90 <;> cases o91 <;> rfl) ?_
      obtain ⟨q12, eq12, e⟩ := g_bd e
      have hjq12 : ∀ (d13 d14 : Option Value), Ev X 92 106 [some (.ref x0), some (.ref x1), some (.int x2), some (.int x3), d13, d14] [] (l, r, q12, j) R := by
        intro d13 d14
        refine g_run 2 68 [some (.ref x0), some (.ref x1), some (.int x2), some (.int (x3 + (1 : Int32))), d13, d14] [] (fun _ => rfl) ?_
        exact ih _ _ _ _ e
      replace e := eq12
      cases q6 with
      | none =>
        replace e := g_onN e
        refine g_run 1 106 [some (.ref x0), some (.ref x1), some (.int x2), some (.int x3), some (.null), some (va_rf q7)] [] (fun _ => rfl) ?_
        cases e
        exact hjq12 _ _
      | some p8 =>
        replace e := g_onS e
        have kp8 := Tl_rowsAt_K kx1 eq6
        refine g_run 1 94 [some (.ref x0), some (.ref x1), some (.int x2), some (.int x3), some (.ref p8), some (va_rf q7)] [] (fun _ => rfl) ?_
        refine g_run 1 96 [some (.ref x0), some (.ref x1), some (.int x2), some (.int x3), some (.ref p8), some (va_rf q7)] [va_rf q7] (fun _ => by generalize q7 = o90; cases o90 <;> rfl) ?_
        cases q7 with
        | none =>
          replace e := g_onN e
          refine g_run 1 106 [some (.ref x0), some (.ref x1), some (.int x2), some (.int x3), some (.ref p8), some (.null)] [] (fun _ => rfl) ?_
          cases e
          exact hjq12 _ _
        | some p10 =>
          replace e := g_onS e
          have kp10 := Tl_rowsAt_K kx0 eq7
          refine g_run 1 99 [some (.ref x0), some (.ref x1), some (.int x2), some (.int x3), some (.ref p8), some (.ref p10)] [] (fun _ => rfl) ?_
          refine g_run 2 103 [some (.ref x0), some (.ref x1), some (.int x2), some (.int x3), some (.ref p8), some (.ref p10)] [.ref p8, .ref p10] (fun _ => rfl) ?_
          obtain ⟨q11, eq11, e⟩ := g_bd e
          refine g_cVv 106 rfl rfl rfl rfl rfl (Rw_l kp10) (Rw_copyFrom_s kp10 kp8 eq11) ?_
          cases e
          exact hjq12 _ _
theorem Tl_copyFrom_l49_s {X : Nat × (Nat → Int32)} {l : List (Nat × Nat)} {r : am_R} {x0 : Nat} {x1 : Nat} {j : am_J} {q : am_F} {R : Option Value × am_S} (kx0 : Tl_K l r x0) (kx1 : Tl_K l r x1) (hx : ∀ (d3 : Option Value) (d4 : Option Value) (d5 : Option Value) (y2 : Int32) , Ev X 92 118 [some (.ref x0), some (.ref x1), some (.int y2), d3, d4, d5] [] (l, r, q, j) R) : ∀ (n : Nat) (x2 : Int32) (h : am_F) (d3 : Option Value) (d4 : Option Value) (d5 : Option Value), Tl_copyFrom_l49 l r x0 x1 n x2 h = some q → Ev X 92 49 [some (.ref x0), some (.ref x1), some (.int x2), d3, d4, d5] [] (l, r, h, j) R := by
  intro n
  induction n with
  | zero => intro x2 h d3 d4 d5 e; cases e
  | succ n ih =>
    intro x2 h d3 d4 d5 e
    unfold Tl_copyFrom_l49 at e
    refine g_run 2 51 [some (.ref x0), some (.ref x1), some (.int x2), d3, d4, d5] [.int (4 : Int32), .int x2] (fun _ => rfl) ?_
    refine g_if (p1 := 118) (L1 := [some (.ref x0), some (.ref x1), some (.int x2), d3, d4, d5]) (S1 := []) (s1 := (l, r, h, j)) (p2 := 54) (L2 := [some (.ref x0), some (.ref x1), some (.int x2), d3, d4, d5]) (S2 := []) (s2 := (l, r, h, j)) rfl (fun _ _ => rfl) e (fun c2 e => ?_) (fun c2 e => ?_)
    · cases e
      exact hx _ _ _ _
    · refine g_run 1 55 [some (.ref x0), some (.ref x1), some (.int x2), d3, d4, d5] [.ref x0] (fun _ => rfl) ?_
      refine g_getA 58 rfl rfl (Tl_l kx0) (Tl_r4 kx0) ?_
      refine g_run 2 60 [some (.ref x0), some (.ref x1), some (.int x2), d3, d4, d5] [.ref x1, .int x2, .ref (x0 + 2)] (fun _ => rfl) ?_
      refine g_getA 63 rfl rfl (Tl_l kx1) (Tl_r4 kx1) ?_
      refine g_run 1 64 [some (.ref x0), some (.ref x1), some (.int x2), d3, d4, d5] [.int x2, .ref (x1 + 2), .int x2, .ref (x0 + 2)] (fun _ => rfl) ?_
      obtain ⟨k3, ek3, e⟩ := g_bd e
      refine g_iald 65 rfl rfl (Tl_k4 kx1) ek3 ?_
      obtain ⟨k4, ek4, e⟩ := g_bd e
      refine g_iast 66 rfl rfl (Tl_k4 kx0) ek4 ?_
      refine g_run 2 68 [some (.ref x0), some (.ref x1), some (.int x2), some (.int (0 : Int32)), d4, d5] [] (fun _ => rfl) ?_
      obtain ⟨q15, eq15, e⟩ := g_bd e
      refine Tl_copyFrom_l68_s kx0 kx1 (fun d16 d17 y18 => ?_) _ _ _ _ _ eq15
      refine g_run 2 49 [some (.ref x0), some (.ref x1), some (.int (x2 + (1 : Int32))), some (.int y18), d16, d17] [] (fun _ => rfl) ?_
      exact ih _ _ _ _ _ e
theorem Tl_copyFrom_l120_s {X : Nat × (Nat → Int32)} {l : List (Nat × Nat)} {r : am_R} {x0 : Nat} {x1 : Nat} {j : am_J} {q : am_F} {R : Option Value × am_S} (kx0 : Tl_K l r x0) (kx1 : Tl_K l r x1) (hx : ∀ (d3 : Option Value) (d4 : Option Value) (d5 : Option Value) (y2 : Int32) , Ev X 92 159 [some (.ref x0), some (.ref x1), some (.int y2), d3, d4, d5] [] (l, r, q, j) R) : ∀ (n : Nat) (x2 : Int32) (h : am_F) (d3 : Option Value) (d4 : Option Value) (d5 : Option Value), Tl_copyFrom_l120 l r x0 x1 n x2 h = some q → Ev X 92 120 [some (.ref x0), some (.ref x1), some (.int x2), d3, d4, d5] [] (l, r, h, j) R := by
  intro n
  induction n with
  | zero => intro x2 h d3 d4 d5 e; cases e
  | succ n ih =>
    intro x2 h d3 d4 d5 e
    unfold Tl_copyFrom_l120 at e
    refine g_run 2 122 [some (.ref x0), some (.ref x1), some (.int x2), d3, d4, d5] [.int (2 : Int32), .int x2] (fun _ => rfl) ?_
    refine g_if (p1 := 159) (L1 := [some (.ref x0), some (.ref x1), some (.int x2), d3, d4, d5]) (S1 := []) (s1 := (l, r, h, j)) (p2 := 125) (L2 := [some (.ref x0), some (.ref x1), some (.int x2), d3, d4, d5]) (S2 := []) (s2 := (l, r, h, j)) rfl (fun _ _ => rfl) e (fun c24 e => ?_) (fun c24 e => ?_)
    · cases e
      exact hx _ _ _ _
    · refine g_run 2 127 [some (.ref x0), some (.ref x1), some (.int x2), d3, d4, d5] [.int x2, .ref x1] (fun _ => rfl) ?_
      obtain ⟨q25, eq25, e⟩ := g_bd e
      refine g_cV 130 rfl rfl rfl rfl rfl (Tl_l kx1) (Tl_parkAt_s kx1 eq25) ?_
      refine g_run 1 131 [some (.ref x0), some (.ref x1), some (.int x2), some (va_rf q25), d4, d5] [] (fun _ => by generalize q25 = o90; cases o90 <;> rfl) ?_
      refine g_run 2 133 [some (.ref x0), some (.ref x1), some (.int x2), some (va_rf q25), d4, d5] [.int x2, .ref x0] (fun _ => rfl) ?_
      obtain ⟨q26, eq26, e⟩ := g_bd e
      refine g_cV 136 rfl rfl rfl rfl rfl (Tl_l kx0) (Tl_parkAt_s kx0 eq26) ?_
      refine g_run 1 138 [some (.ref x0), some (.ref x1), some (.int x2), some (va_rf q25), some (va_rf q26), d5] [] (fun _ => by generalize q25 = o90; generalize q26 = o91; cases o90 <;> cases o91 <;> rfl) ?_
      refine g_run 1 139 [some (.ref x0), some (.ref x1), some (.int x2), some (va_rf q25), some (va_rf q26), d5] [va_rf q25] (fun _ => by generalize q25 = o90; generalize q26 = o91; cases o90 <;> cases o91 <;> rfl) ?_
      obtain ⟨q31, eq31, e⟩ := g_bd e
      have hjq31 : ∀ (d32 d33 : Option Value), Ev X 92 153 [some (.ref x0), some (.ref x1), some (.int x2), d32, d33, d5] [] (l, r, q31, j) R := by
        intro d32 d33
        refine g_run 2 120 [some (.ref x0), some (.ref x1), some (.int (x2 + (1 : Int32))), d32, d33, d5] [] (fun _ => rfl) ?_
        exact ih _ _ _ _ _ e
      replace e := eq31
      cases q25 with
      | none =>
        replace e := g_onN e
        refine g_run 1 153 [some (.ref x0), some (.ref x1), some (.int x2), some (.null), some (va_rf q26), d5] [] (fun _ => rfl) ?_
        cases e
        exact hjq31 _ _
      | some p27 =>
        replace e := g_onS e
        have kp27 := Tl_parkAt_K kx1 eq25
        refine g_run 1 142 [some (.ref x0), some (.ref x1), some (.int x2), some (.ref p27), some (va_rf q26), d5] [] (fun _ => rfl) ?_
        refine g_run 1 144 [some (.ref x0), some (.ref x1), some (.int x2), some (.ref p27), some (va_rf q26), d5] [va_rf q26] (fun _ => by generalize q26 = o90; cases o90 <;> rfl) ?_
        cases q26 with
        | none =>
          replace e := g_onN e
          refine g_run 1 153 [some (.ref x0), some (.ref x1), some (.int x2), some (.ref p27), some (.null), d5] [] (fun _ => rfl) ?_
          cases e
          exact hjq31 _ _
        | some p29 =>
          replace e := g_onS e
          have kp29 := Tl_parkAt_K kx0 eq26
          refine g_run 1 147 [some (.ref x0), some (.ref x1), some (.int x2), some (.ref p27), some (.ref p29), d5] [] (fun _ => rfl) ?_
          refine g_run 2 150 [some (.ref x0), some (.ref x1), some (.int x2), some (.ref p27), some (.ref p29), d5] [.ref p27, .ref p29] (fun _ => rfl) ?_
          obtain ⟨q30, eq30, e⟩ := g_bd e
          refine g_cVv 153 rfl rfl rfl rfl rfl (Pk_l kp29) (Pk_copyFrom_s kp29 kp27 eq30) ?_
          cases e
          exact hjq31 _ _
theorem Tl_copyFrom_s {X : Nat × (Nat → Int32)} {l : List (Nat × Nat)} {r : am_R} {h : am_F} {j : am_J} {a : Nat} {x1 : Nat} (ka : Tl_K l r a) (kx1 : Tl_K l r x1) {q : am_F} (e : Tl_copyFrom l r a x1 h = some q) : Call X 92 [.ref a, .ref x1] (l, r, h, j) (none, (l, r, q, j)) := by
  unfold Tl_copyFrom at e
  refine ⟨Nat.le_of_ble_eq_true rfl, ?_⟩
  show Ev X 92 0 [some (.ref a), some (.ref x1), none, none, none, none] [] (l, r, h, j) _
  refine g_run 2 2 [some (.ref a), some (.ref x1), none, none, none, none] [.ref x1, .ref a] (fun _ => rfl) ?_
  refine g_getI 5 rfl rfl (Tl_l kx1) ?_
  refine g_putI 8 rfl rfl (Tl_l ka) ?_
  refine g_run 1 9 [some (.ref a), some (.ref x1), none, none, none, none] [.ref x1] (fun _ => rfl) ?_
  refine g_getA 12 rfl rfl (Tl_l kx1) (Tl_r0 kx1) ?_
  refine g_run 2 14 [some (.ref a), some (.ref x1), none, none, none, none] [.ref a, .int (0 : Int32), .ref (x1 + 1)] (fun _ => rfl) ?_
  refine g_getA 17 rfl rfl (Tl_l ka) (Tl_r0 ka) ?_
  refine g_run 2 19 [some (.ref a), some (.ref x1), none, none, none, none] [.ref a, .int (0 : Int32), .ref (a + 1), .int (0 : Int32), .ref (x1 + 1)] (fun _ => rfl) ?_
  refine g_getI 22 rfl rfl (Tl_l ka) ?_
  refine g_run 2 28 [some (.ref a), some (.ref x1), none, none, none, none] [.int (if (600 : Int32) < ((am_up h a 1 (h x1 1)) a 1) then (600 : Int32) else ((am_up h a 1 (h x1 1)) a 1)), .int (0 : Int32), .ref (a + 1), .int (0 : Int32), .ref (x1 + 1)] (fun _ => rfl) ?_
  obtain ⟨k1, ek1, e⟩ := g_bd e
  refine g_cpy 31 rfl rfl (Tl_k0 kx1) (Tl_k0 ka) rfl ek1 rfl ?_
  refine g_run 2 33 [some (.ref a), some (.ref x1), none, none, none, none] [.ref x1, .ref a] (fun _ => rfl) ?_
  refine g_getI 36 rfl rfl (Tl_l kx1) ?_
  refine g_putI 39 rfl rfl (Tl_l ka) ?_
  refine g_run 2 41 [some (.ref a), some (.ref x1), none, none, none, none] [.ref x1, .ref a] (fun _ => rfl) ?_
  refine g_getI 44 rfl rfl (Tl_l kx1) ?_
  refine g_putI 47 rfl rfl (Tl_l ka) ?_
  refine g_run 2 49 [some (.ref a), some (.ref x1), some (.int (0 : Int32)), none, none, none] [] (fun _ => rfl) ?_
  obtain ⟨q19, eq19, e⟩ := g_bd e
  refine Tl_copyFrom_l49_s ka kx1 (fun d20 d21 d22 y23 => ?_) _ _ _ _ _ _ eq19
  refine g_run 2 120 [some (.ref a), some (.ref x1), some (.int (0 : Int32)), d20, d21, d22] [] (fun _ => rfl) ?_
  obtain ⟨q34, eq34, e⟩ := g_bd e
  refine Tl_copyFrom_l120_s ka kx1 (fun d35 d36 d37 y38 => ?_) _ _ _ _ _ _ eq34
  cases e
  exact g_ret rfl (fun _ _ => rfl)
def Tr_harmNow (l : List (Nat × Nat)) (r : am_R) (a : Nat) (h : am_F) : Option (Int32 × am_F) :=
  (Dy_forget (a + 1) h).bind fun q1 =>
  (Dy_goThrough l r (a + 1) (a + 11) q1).bind fun q2 =>
  some ((q2 (a + 1) 0), q2)
theorem Tr_harmNow_s {X : Nat × (Nat → Int32)} {l : List (Nat × Nat)} {r : am_R} {h : am_F} {j : am_J} {a : Nat} (ka : Tr_K l r a) {q : Int32 × am_F} (e : Tr_harmNow l r a h = some q) : Call X 94 [.ref a] (l, r, h, j) (some (.int q.1), (l, r, q.2, j)) := by
  unfold Tr_harmNow at e
  refine ⟨Nat.le_of_ble_eq_true rfl, ?_⟩
  show Ev X 94 0 [some (.ref a)] [] (l, r, h, j) _
  refine g_run 1 1 [some (.ref a)] [.ref a] (fun _ => rfl) ?_
  refine g_getA 4 rfl rfl (Tr_l ka) (Tr_r2 ka) ?_
  obtain ⟨q1, eq1, e⟩ := g_bd e
  refine g_cVv 7 rfl rfl rfl rfl rfl (Dy_l (Tr_k2 ka)) (Dy_forget_s (Tr_k2 ka) eq1) ?_
  refine g_run 1 8 [some (.ref a)] [.ref a] (fun _ => rfl) ?_
  refine g_getA 11 rfl rfl (Tr_l ka) (Tr_r2 ka) ?_
  refine g_run 1 12 [some (.ref a)] [.ref a, .ref (a + 1)] (fun _ => rfl) ?_
  refine g_getA 15 rfl rfl (Tr_l ka) (Tr_r3 ka) ?_
  obtain ⟨q2, eq2, e⟩ := g_bd e
  refine g_cVv 18 rfl rfl rfl rfl rfl (Dy_l (Tr_k2 ka)) (Dy_goThrough_s (Tr_k2 ka) (Tr_k3 ka) eq2) ?_
  refine g_run 1 19 [some (.ref a)] [.ref a] (fun _ => rfl) ?_
  refine g_getA 22 rfl rfl (Tr_l ka) (Tr_r2 ka) ?_
  refine g_getI 25 rfl rfl (Dy_l (Tr_k2 ka)) ?_
  cases e
  exact g_ret rfl (fun _ _ => rfl)
def Tr_first (a : Nat) (x1 : Int32) (x2 : Int32) (h : am_F) : Option (am_F) :=
  some (am_up (am_up h a 0 x1) a 1 x2)
theorem Tr_first_s {X : Nat × (Nat → Int32)} {l : List (Nat × Nat)} {r : am_R} {h : am_F} {j : am_J} {a : Nat} {x1 : Int32} {x2 : Int32} (ka : Tr_K l r a) {q : am_F} (e : Tr_first a x1 x2 h = some q) : Call X 95 [.ref a, .int x1, .int x2] (l, r, h, j) (none, (l, r, q, j)) := by
  unfold Tr_first at e
  refine ⟨Nat.le_of_ble_eq_true rfl, ?_⟩
  show Ev X 95 0 [some (.ref a), some (.int x1), some (.int x2)] [] (l, r, h, j) _
  refine g_run 2 2 [some (.ref a), some (.int x1), some (.int x2)] [.int x1, .ref a] (fun _ => rfl) ?_
  refine g_putI 5 rfl rfl (Tr_l ka) ?_
  refine g_run 2 7 [some (.ref a), some (.int x1), some (.int x2)] [.int x2, .ref a] (fun _ => rfl) ?_
  refine g_putI 10 rfl rfl (Tr_l ka) ?_
  cases e
  exact g_ret rfl (fun _ _ => rfl)
def Tr_less (a : Nat) (x1 : Int32) (x2 : Int32) (h : am_F) : Option (am_F) :=
  if (h a 1) ≤ x2 then
    some h
  else
    (Tr_first a x1 x2 h).bind fun q2 =>
    some q2
theorem Tr_less_s {X : Nat × (Nat → Int32)} {l : List (Nat × Nat)} {r : am_R} {h : am_F} {j : am_J} {a : Nat} {x1 : Int32} {x2 : Int32} (ka : Tr_K l r a) {q : am_F} (e : Tr_less a x1 x2 h = some q) : Call X 96 [.ref a, .int x1, .int x2] (l, r, h, j) (none, (l, r, q, j)) := by
  unfold Tr_less at e
  refine ⟨Nat.le_of_ble_eq_true rfl, ?_⟩
  show Ev X 96 0 [some (.ref a), some (.int x1), some (.int x2)] [] (l, r, h, j) _
  refine g_run 2 2 [some (.ref a), some (.int x1), some (.int x2)] [.ref a, .int x2] (fun _ => rfl) ?_
  refine g_getI 5 rfl rfl (Tr_l ka) ?_
  refine g_if (p1 := 14) (L1 := [some (.ref a), some (.int x1), some (.int x2)]) (S1 := []) (s1 := (l, r, h, j)) (p2 := 8) (L2 := [some (.ref a), some (.int x1), some (.int x2)]) (S2 := []) (s2 := (l, r, h, j)) rfl (fun _ _ => rfl) e (fun c1 e => ?_) (fun c1 e => ?_)
  · cases e
    exact g_ret rfl (fun _ _ => rfl)
  · refine g_run 3 11 [some (.ref a), some (.int x1), some (.int x2)] [.int x2, .int x1, .ref a] (fun _ => rfl) ?_
    obtain ⟨q2, eq2, e⟩ := g_bd e
    refine g_cVv 14 rfl rfl rfl rfl rfl (Tr_l ka) (Tr_first_s ka eq2) ?_
    cases e
    exact g_ret rfl (fun _ _ => rfl)
def Tr_more (a : Nat) (x1 : Int32) (x2 : Int32) (h : am_F) : Option (am_F) :=
  if x2 ≤ (h a 1) then
    some h
  else
    (Tr_first a x1 x2 h).bind fun q2 =>
    some q2
theorem Tr_more_s {X : Nat × (Nat → Int32)} {l : List (Nat × Nat)} {r : am_R} {h : am_F} {j : am_J} {a : Nat} {x1 : Int32} {x2 : Int32} (ka : Tr_K l r a) {q : am_F} (e : Tr_more a x1 x2 h = some q) : Call X 97 [.ref a, .int x1, .int x2] (l, r, h, j) (none, (l, r, q, j)) := by
  unfold Tr_more at e
  refine ⟨Nat.le_of_ble_eq_true rfl, ?_⟩
  show Ev X 97 0 [some (.ref a), some (.int x1), some (.int x2)] [] (l, r, h, j) _
  refine g_run 2 2 [some (.ref a), some (.int x1), some (.int x2)] [.ref a, .int x2] (fun _ => rfl) ?_
  refine g_getI 5 rfl rfl (Tr_l ka) ?_
  refine g_if (p1 := 14) (L1 := [some (.ref a), some (.int x1), some (.int x2)]) (S1 := []) (s1 := (l, r, h, j)) (p2 := 8) (L2 := [some (.ref a), some (.int x1), some (.int x2)]) (S2 := []) (s2 := (l, r, h, j)) rfl (fun _ _ => rfl) e (fun c1 e => ?_) (fun c1 e => ?_)
  · cases e
    exact g_ret rfl (fun _ _ => rfl)
  · refine g_run 3 11 [some (.ref a), some (.int x1), some (.int x2)] [.int x2, .int x1, .ref a] (fun _ => rfl) ?_
    obtain ⟨q2, eq2, e⟩ := g_bd e
    refine g_cVv 14 rfl rfl rfl rfl rfl (Tr_l ka) (Tr_first_s ka eq2) ?_
    cases e
    exact g_ret rfl (fun _ _ => rfl)
def Tr_hangCard_l66 (l : List (Nat × Nat)) (r : am_R) (x0 : Nat) (x2 : Int32) : Nat → Int32 → am_F → Option (am_F)
  | 0, _, _ => none
  | n + 1, x4, h =>
    if (48 : Int32) ≤ x4 then
      some h
    else
      (g_ix x2 6).bind fun k9 =>
      (Tr_harmNow l r x0 (am_up h ((x0 + 11) + 6) k9 x4)).bind fun q10 =>
      (Tr_less x0 x4 q10.1 q10.2).bind fun q11 =>
      Tr_hangCard_l66 l r x0 x2 n (x4 + (1 : Int32)) q11
def Tr_hangCard (l : List (Nat × Nat)) (r : am_R) (a : Nat) (x1 : Nat) (x2 : Int32) (h : am_F) : Option (am_F) :=
  (Pk_copyFrom l r (a + 11) x1 h).bind fun q1 =>
  if (Pk_hasBench (a + 11) x2 q1) = 0 then
    some q1
  else
    (g_ix x2 6).bind fun k3 =>
    (Tr_harmNow l r a (am_up q1 ((a + 11) + 5) k3 (-1 : Int32))).bind fun q4 =>
    (Tr_first a (-1 : Int32) q4.1 q4.2).bind fun q5 =>
    (g_ix x2 6).bind fun k6 =>
    (g_ix x2 6).bind fun k7 =>
    (Tr_hangCard_l66 l r a x2 g_fu (if (0 : Int32) < (q5 ((a + 11) + 4) k6) then (q5 ((a + 11) + 4) k6) else (0 : Int32)) (am_up q5 ((a + 11) + 5) k7 (if (0 : Int32) < (q5 ((a + 11) + 4) k6) then (q5 ((a + 11) + 4) k6) else (0 : Int32)))).bind fun q12 =>
    some q12
theorem Tr_hangCard_l66_s {X : Nat × (Nat → Int32)} {l : List (Nat × Nat)} {r : am_R} {x0 : Nat} {x2 : Int32} {y1 : Nat} {y3 : Int32} {j : am_J} {q : am_F} {R : Option Value × am_S} (kx0 : Tr_K l r x0) (hx : ∀ (y4 : Int32) , Ev X 98 100 [some (.ref x0), some (.ref y1), some (.int x2), some (.int y3), some (.int y4)] [] (l, r, q, j) R) : ∀ (n : Nat) (x4 : Int32) (h : am_F), Tr_hangCard_l66 l r x0 x2 n x4 h = some q → Ev X 98 66 [some (.ref x0), some (.ref y1), some (.int x2), some (.int y3), some (.int x4)] [] (l, r, h, j) R := by
  intro n
  induction n with
  | zero => intro x4 h e; cases e
  | succ n ih =>
    intro x4 h e
    unfold Tr_hangCard_l66 at e
    refine g_run 2 70 [some (.ref x0), some (.ref y1), some (.int x2), some (.int y3), some (.int x4)] [.int (48 : Int32), .int x4] (fun _ => rfl) ?_
    refine g_if (p1 := 100) (L1 := [some (.ref x0), some (.ref y1), some (.int x2), some (.int y3), some (.int x4)]) (S1 := []) (s1 := (l, r, h, j)) (p2 := 73) (L2 := [some (.ref x0), some (.ref y1), some (.int x2), some (.int y3), some (.int x4)]) (S2 := []) (s2 := (l, r, h, j)) rfl (fun _ _ => rfl) e (fun c8 e => ?_) (fun c8 e => ?_)
    · cases e
      exact hx _
    · refine g_run 1 74 [some (.ref x0), some (.ref y1), some (.int x2), some (.int y3), some (.int x4)] [.ref x0] (fun _ => rfl) ?_
      refine g_getA 77 rfl rfl (Tr_l kx0) (Tr_r3 kx0) ?_
      refine g_getA 80 rfl rfl (Pk_l (Tr_k3 kx0)) (Pk_r9 (Tr_k3 kx0)) ?_
      refine g_run 2 83 [some (.ref x0), some (.ref y1), some (.int x2), some (.int y3), some (.int x4)] [.int x4, .int x2, .ref ((x0 + 11) + 6)] (fun _ => rfl) ?_
      obtain ⟨k9, ek9, e⟩ := g_bd e
      refine g_iast 84 rfl rfl (Pk_k9 (Tr_k3 kx0)) ek9 ?_
      refine g_run 3 88 [some (.ref x0), some (.ref y1), some (.int x2), some (.int y3), some (.int x4)] [.ref x0, .int x4, .ref x0] (fun _ => rfl) ?_
      obtain ⟨q10, eq10, e⟩ := g_bd e
      refine g_cV 91 rfl rfl rfl rfl rfl (Tr_l kx0) (Tr_harmNow_s kx0 eq10) ?_
      obtain ⟨q11, eq11, e⟩ := g_bd e
      refine g_cVv 94 rfl rfl rfl rfl rfl (Tr_l kx0) (Tr_less_s kx0 eq11) ?_
      refine g_run 2 66 [some (.ref x0), some (.ref y1), some (.int x2), some (.int y3), some (.int (x4 + (1 : Int32)))] [] (fun _ => rfl) ?_
      exact ih _ _ e
theorem Tr_hangCard_s {X : Nat × (Nat → Int32)} {l : List (Nat × Nat)} {r : am_R} {h : am_F} {j : am_J} {a : Nat} {x1 : Nat} {x2 : Int32} (ka : Tr_K l r a) (kx1 : Pk_K l r x1) {q : am_F} (e : Tr_hangCard l r a x1 x2 h = some q) : Call X 98 [.ref a, .ref x1, .int x2] (l, r, h, j) (none, (l, r, q, j)) := by
  unfold Tr_hangCard at e
  refine ⟨Nat.le_of_ble_eq_true rfl, ?_⟩
  show Ev X 98 0 [some (.ref a), some (.ref x1), some (.int x2), none, none] [] (l, r, h, j) _
  refine g_run 1 1 [some (.ref a), some (.ref x1), some (.int x2), none, none] [.ref a] (fun _ => rfl) ?_
  refine g_getA 4 rfl rfl (Tr_l ka) (Tr_r3 ka) ?_
  refine g_run 1 5 [some (.ref a), some (.ref x1), some (.int x2), none, none] [.ref x1, .ref (a + 11)] (fun _ => rfl) ?_
  obtain ⟨q1, eq1, e⟩ := g_bd e
  refine g_cVv 8 rfl rfl rfl rfl rfl (Pk_l (Tr_k3 ka)) (Pk_copyFrom_s (Tr_k3 ka) kx1 eq1) ?_
  refine g_run 1 9 [some (.ref a), some (.ref x1), some (.int x2), none, none] [.ref a] (fun _ => rfl) ?_
  refine g_getA 12 rfl rfl (Tr_l ka) (Tr_r3 ka) ?_
  refine g_run 1 13 [some (.ref a), some (.ref x1), some (.int x2), none, none] [.int x2, .ref (a + 11)] (fun _ => rfl) ?_
  refine g_cV 16 rfl rfl rfl rfl rfl (Pk_l (Tr_k3 ka)) (Pk_hasBench_s (Tr_k3 ka)) ?_
  refine g_if (p1 := 19) (L1 := [some (.ref a), some (.ref x1), some (.int x2), none, none]) (S1 := []) (s1 := (l, r, q1, j)) (p2 := 20) (L2 := [some (.ref a), some (.ref x1), some (.int x2), none, none]) (S2 := []) (s2 := (l, r, q1, j)) rfl (fun _ _ => rfl) e (fun c2 e => ?_) (fun c2 e => ?_)
  · cases e
    exact g_ret rfl (fun _ _ => rfl)
  · refine g_run 1 21 [some (.ref a), some (.ref x1), some (.int x2), none, none] [.ref a] (fun _ => rfl) ?_
    refine g_getA 24 rfl rfl (Tr_l ka) (Tr_r3 ka) ?_
    refine g_getA 27 rfl rfl (Pk_l (Tr_k3 ka)) (Pk_r8 (Tr_k3 ka)) ?_
    refine g_run 2 29 [some (.ref a), some (.ref x1), some (.int x2), none, none] [.int (-1 : Int32), .int x2, .ref ((a + 11) + 5)] (fun _ => rfl) ?_
    obtain ⟨k3, ek3, e⟩ := g_bd e
    refine g_iast 30 rfl rfl (Pk_k8 (Tr_k3 ka)) ek3 ?_
    refine g_run 3 33 [some (.ref a), some (.ref x1), some (.int x2), none, none] [.ref a, .int (-1 : Int32), .ref a] (fun _ => rfl) ?_
    obtain ⟨q4, eq4, e⟩ := g_bd e
    refine g_cV 36 rfl rfl rfl rfl rfl (Tr_l ka) (Tr_harmNow_s ka eq4) ?_
    obtain ⟨q5, eq5, e⟩ := g_bd e
    refine g_cVv 39 rfl rfl rfl rfl rfl (Tr_l ka) (Tr_first_s ka eq5) ?_
    refine g_run 2 41 [some (.ref a), some (.ref x1), some (.int x2), none, none] [.ref a, .int (0 : Int32)] (fun _ => rfl) ?_
    refine g_getA 44 rfl rfl (Tr_l ka) (Tr_r3 ka) ?_
    refine g_getA 47 rfl rfl (Pk_l (Tr_k3 ka)) (Pk_r7 (Tr_k3 ka)) ?_
    refine g_run 1 48 [some (.ref a), some (.ref x1), some (.int x2), none, none] [.int x2, .ref ((a + 11) + 4), .int (0 : Int32)] (fun _ => rfl) ?_
    obtain ⟨k6, ek6, e⟩ := g_bd e
    refine g_iald 49 rfl rfl (Pk_k7 (Tr_k3 ka)) ek6 ?_
    refine g_run 3 54 [some (.ref a), some (.ref x1), some (.int x2), some (.int (if (0 : Int32) < (q5 ((a + 11) + 4) k6) then (q5 ((a + 11) + 4) k6) else (0 : Int32))), none] [.ref a] (fun _ => rfl) ?_
    refine g_getA 57 rfl rfl (Tr_l ka) (Tr_r3 ka) ?_
    refine g_getA 60 rfl rfl (Pk_l (Tr_k3 ka)) (Pk_r8 (Tr_k3 ka)) ?_
    refine g_run 2 62 [some (.ref a), some (.ref x1), some (.int x2), some (.int (if (0 : Int32) < (q5 ((a + 11) + 4) k6) then (q5 ((a + 11) + 4) k6) else (0 : Int32))), none] [.int (if (0 : Int32) < (q5 ((a + 11) + 4) k6) then (q5 ((a + 11) + 4) k6) else (0 : Int32)), .int x2, .ref ((a + 11) + 5)] (fun _ => rfl) ?_
    obtain ⟨k7, ek7, e⟩ := g_bd e
    refine g_iast 63 rfl rfl (Pk_k8 (Tr_k3 ka)) ek7 ?_
    refine g_run 2 66 [some (.ref a), some (.ref x1), some (.int x2), some (.int (if (0 : Int32) < (q5 ((a + 11) + 4) k6) then (q5 ((a + 11) + 4) k6) else (0 : Int32))), some (.int (if (0 : Int32) < (q5 ((a + 11) + 4) k6) then (q5 ((a + 11) + 4) k6) else (0 : Int32)))] [] (fun _ => rfl) ?_
    obtain ⟨q12, eq12, e⟩ := g_bd e
    refine Tr_hangCard_l66_s ka (fun y13 => ?_) _ _ _ eq12
    cases e
    exact g_ret rfl (fun _ _ => rfl)
def Tr_harmByHabit_l10 (l : List (Nat × Nat)) (r : am_R) (x0 : Nat) (x2 : Int32) : Nat → Int32 → am_F → Option (am_F)
  | 0, _, _ => none
  | n + 1, x3, h =>
    if (h ((x0 + 11) + 11) 3) ≤ x3 then
      some h
    else
      (Rw_set l r ((x0 + 11) + 11) x3 (0 : Int32) x2 h).bind fun q3 =>
      Tr_harmByHabit_l10 l r x0 x2 n (x3 + (1 : Int32)) q3
def Tr_harmByHabit (l : List (Nat × Nat)) (r : am_R) (a : Nat) (x1 : Nat) (x2 : Int32) (h : am_F) : Option (Int32 × am_F) :=
  (Pk_copyFrom l r (a + 11) x1 h).bind fun q1 =>
  (Tr_harmByHabit_l10 l r a x2 g_fu (0 : Int32) q1).bind fun q4 =>
  (Tr_harmNow l r a q4).bind fun q6 =>
  some (q6.1, q6.2)
theorem Tr_harmByHabit_l10_s {X : Nat × (Nat → Int32)} {l : List (Nat × Nat)} {r : am_R} {x0 : Nat} {x2 : Int32} {y1 : Nat} {j : am_J} {q : am_F} {R : Option Value × am_S} (kx0 : Tr_K l r x0) (hx : ∀ (y3 : Int32) , Ev X 99 43 [some (.ref x0), some (.ref y1), some (.int x2), some (.int y3)] [] (l, r, q, j) R) : ∀ (n : Nat) (x3 : Int32) (h : am_F), Tr_harmByHabit_l10 l r x0 x2 n x3 h = some q → Ev X 99 10 [some (.ref x0), some (.ref y1), some (.int x2), some (.int x3)] [] (l, r, h, j) R := by
  intro n
  induction n with
  | zero => intro x3 h e; cases e
  | succ n ih =>
    intro x3 h e
    unfold Tr_harmByHabit_l10 at e
    refine g_run 2 12 [some (.ref x0), some (.ref y1), some (.int x2), some (.int x3)] [.ref x0, .int x3] (fun _ => rfl) ?_
    refine g_getA 15 rfl rfl (Tr_l kx0) (Tr_r3 kx0) ?_
    refine g_getA 18 rfl rfl (Pk_l (Tr_k3 kx0)) (Pk_r12 (Tr_k3 kx0)) ?_
    refine g_getI 21 rfl rfl (Rw_l (Pk_k12 (Tr_k3 kx0))) ?_
    refine g_if (p1 := 43) (L1 := [some (.ref x0), some (.ref y1), some (.int x2), some (.int x3)]) (S1 := []) (s1 := (l, r, h, j)) (p2 := 24) (L2 := [some (.ref x0), some (.ref y1), some (.int x2), some (.int x3)]) (S2 := []) (s2 := (l, r, h, j)) rfl (fun _ _ => rfl) e (fun c2 e => ?_) (fun c2 e => ?_)
    · cases e
      exact hx _
    · refine g_run 1 25 [some (.ref x0), some (.ref y1), some (.int x2), some (.int x3)] [.ref x0] (fun _ => rfl) ?_
      refine g_getA 28 rfl rfl (Tr_l kx0) (Tr_r3 kx0) ?_
      refine g_getA 31 rfl rfl (Pk_l (Tr_k3 kx0)) (Pk_r12 (Tr_k3 kx0)) ?_
      refine g_run 3 34 [some (.ref x0), some (.ref y1), some (.int x2), some (.int x3)] [.int x2, .int (0 : Int32), .int x3, .ref ((x0 + 11) + 11)] (fun _ => rfl) ?_
      obtain ⟨q3, eq3, e⟩ := g_bd e
      refine g_cVv 37 rfl rfl rfl rfl rfl (Rw_l (Pk_k12 (Tr_k3 kx0))) (Rw_set_s (Pk_k12 (Tr_k3 kx0)) eq3) ?_
      refine g_run 2 10 [some (.ref x0), some (.ref y1), some (.int x2), some (.int (x3 + (1 : Int32)))] [] (fun _ => rfl) ?_
      exact ih _ _ e
theorem Tr_harmByHabit_s {X : Nat × (Nat → Int32)} {l : List (Nat × Nat)} {r : am_R} {h : am_F} {j : am_J} {a : Nat} {x1 : Nat} {x2 : Int32} (ka : Tr_K l r a) (kx1 : Pk_K l r x1) {q : Int32 × am_F} (e : Tr_harmByHabit l r a x1 x2 h = some q) : Call X 99 [.ref a, .ref x1, .int x2] (l, r, h, j) (some (.int q.1), (l, r, q.2, j)) := by
  unfold Tr_harmByHabit at e
  refine ⟨Nat.le_of_ble_eq_true rfl, ?_⟩
  show Ev X 99 0 [some (.ref a), some (.ref x1), some (.int x2), none] [] (l, r, h, j) _
  refine g_run 1 1 [some (.ref a), some (.ref x1), some (.int x2), none] [.ref a] (fun _ => rfl) ?_
  refine g_getA 4 rfl rfl (Tr_l ka) (Tr_r3 ka) ?_
  refine g_run 1 5 [some (.ref a), some (.ref x1), some (.int x2), none] [.ref x1, .ref (a + 11)] (fun _ => rfl) ?_
  obtain ⟨q1, eq1, e⟩ := g_bd e
  refine g_cVv 8 rfl rfl rfl rfl rfl (Pk_l (Tr_k3 ka)) (Pk_copyFrom_s (Tr_k3 ka) kx1 eq1) ?_
  refine g_run 2 10 [some (.ref a), some (.ref x1), some (.int x2), some (.int (0 : Int32))] [] (fun _ => rfl) ?_
  obtain ⟨q4, eq4, e⟩ := g_bd e
  refine Tr_harmByHabit_l10_s ka (fun y5 => ?_) _ _ _ eq4
  refine g_run 1 44 [some (.ref a), some (.ref x1), some (.int x2), some (.int y5)] [.ref a] (fun _ => rfl) ?_
  obtain ⟨q6, eq6, e⟩ := g_bd e
  refine g_cV 47 rfl rfl rfl rfl rfl (Tr_l ka) (Tr_harmNow_s ka eq6) ?_
  cases e
  exact g_ret rfl (fun _ _ => rfl)
def Tr_chooseHabit_l13 (l : List (Nat × Nat)) (r : am_R) (x0 : Nat) (x1 : Nat) : Nat → Int32 → am_F → Option (am_F)
  | 0, _, _ => none
  | n + 1, x2, h =>
    if (5 : Int32) ≤ x2 then
      some h
    else
      (Tr_harmByHabit l r x0 x1 x2 h).bind fun q4 =>
      (Tr_less x0 x2 q4.1 q4.2).bind fun q5 =>
      Tr_chooseHabit_l13 l r x0 x1 n (x2 + (1 : Int32)) q5
def Tr_chooseHabit (l : List (Nat × Nat)) (r : am_R) (a : Nat) (x1 : Nat) (h : am_F) : Option (am_F) :=
  (Tr_harmByHabit l r a x1 (0 : Int32) h).bind fun q1 =>
  (Tr_first a (0 : Int32) q1.1 q1.2).bind fun q2 =>
  (Tr_chooseHabit_l13 l r a x1 g_fu (1 : Int32) q2).bind fun q6 =>
  some q6
theorem Tr_chooseHabit_l13_s {X : Nat × (Nat → Int32)} {l : List (Nat × Nat)} {r : am_R} {x0 : Nat} {x1 : Nat} {j : am_J} {q : am_F} {R : Option Value × am_S} (kx0 : Tr_K l r x0) (kx1 : Pk_K l r x1) (hx : ∀ (y2 : Int32) , Ev X 100 35 [some (.ref x0), some (.ref x1), some (.int y2)] [] (l, r, q, j) R) : ∀ (n : Nat) (x2 : Int32) (h : am_F), Tr_chooseHabit_l13 l r x0 x1 n x2 h = some q → Ev X 100 13 [some (.ref x0), some (.ref x1), some (.int x2)] [] (l, r, h, j) R := by
  intro n
  induction n with
  | zero => intro x2 h e; cases e
  | succ n ih =>
    intro x2 h e
    unfold Tr_chooseHabit_l13 at e
    refine g_run 2 15 [some (.ref x0), some (.ref x1), some (.int x2)] [.int (5 : Int32), .int x2] (fun _ => rfl) ?_
    refine g_if (p1 := 35) (L1 := [some (.ref x0), some (.ref x1), some (.int x2)]) (S1 := []) (s1 := (l, r, h, j)) (p2 := 18) (L2 := [some (.ref x0), some (.ref x1), some (.int x2)]) (S2 := []) (s2 := (l, r, h, j)) rfl (fun _ _ => rfl) e (fun c3 e => ?_) (fun c3 e => ?_)
    · cases e
      exact hx _
    · refine g_run 5 23 [some (.ref x0), some (.ref x1), some (.int x2)] [.int x2, .ref x1, .ref x0, .int x2, .ref x0] (fun _ => rfl) ?_
      obtain ⟨q4, eq4, e⟩ := g_bd e
      refine g_cV 26 rfl rfl rfl rfl rfl (Tr_l kx0) (Tr_harmByHabit_s kx0 kx1 eq4) ?_
      obtain ⟨q5, eq5, e⟩ := g_bd e
      refine g_cVv 29 rfl rfl rfl rfl rfl (Tr_l kx0) (Tr_less_s kx0 eq5) ?_
      refine g_run 2 13 [some (.ref x0), some (.ref x1), some (.int (x2 + (1 : Int32)))] [] (fun _ => rfl) ?_
      exact ih _ _ e
theorem Tr_chooseHabit_s {X : Nat × (Nat → Int32)} {l : List (Nat × Nat)} {r : am_R} {h : am_F} {j : am_J} {a : Nat} {x1 : Nat} (ka : Tr_K l r a) (kx1 : Pk_K l r x1) {q : am_F} (e : Tr_chooseHabit l r a x1 h = some q) : Call X 100 [.ref a, .ref x1] (l, r, h, j) (none, (l, r, q, j)) := by
  unfold Tr_chooseHabit at e
  refine ⟨Nat.le_of_ble_eq_true rfl, ?_⟩
  show Ev X 100 0 [some (.ref a), some (.ref x1), none] [] (l, r, h, j) _
  refine g_run 5 5 [some (.ref a), some (.ref x1), none] [.int (0 : Int32), .ref x1, .ref a, .int (0 : Int32), .ref a] (fun _ => rfl) ?_
  obtain ⟨q1, eq1, e⟩ := g_bd e
  refine g_cV 8 rfl rfl rfl rfl rfl (Tr_l ka) (Tr_harmByHabit_s ka kx1 eq1) ?_
  obtain ⟨q2, eq2, e⟩ := g_bd e
  refine g_cVv 11 rfl rfl rfl rfl rfl (Tr_l ka) (Tr_first_s ka eq2) ?_
  refine g_run 2 13 [some (.ref a), some (.ref x1), some (.int (1 : Int32))] [] (fun _ => rfl) ?_
  obtain ⟨q6, eq6, e⟩ := g_bd e
  refine Tr_chooseHabit_l13_s ka kx1 (fun y7 => ?_) _ _ _ eq6
  cases e
  exact g_ret rfl (fun _ _ => rfl)
def Tr_drawBelow (a : Nat) (x1 : Int32) (h : am_F) : Option (Int32 × am_F) :=
  if (1 : Int32) ≤ x1 then
    (g_rm (((am_up h a 4 (((h a 4) * (1103515245 : Int32)) + (12345 : Int32))) a 4).toUInt32 >>> ((16 : Int32).toUInt32 &&& Int32.toUInt32 31)).toInt32 x1).bind fun v2 =>
    some (v2, (am_up h a 4 (((h a 4) * (1103515245 : Int32)) + (12345 : Int32))))
  else
    some ((0 : Int32), (am_up h a 4 (((h a 4) * (1103515245 : Int32)) + (12345 : Int32))))
theorem Tr_drawBelow_s {X : Nat × (Nat → Int32)} {l : List (Nat × Nat)} {r : am_R} {h : am_F} {j : am_J} {a : Nat} {x1 : Int32} (ka : Tr_K l r a) {q : Int32 × am_F} (e : Tr_drawBelow a x1 h = some q) : Call X 102 [.ref a, .int x1] (l, r, h, j) (some (.int q.1), (l, r, q.2, j)) := by
  unfold Tr_drawBelow at e
  refine ⟨Nat.le_of_ble_eq_true rfl, ?_⟩
  show Ev X 102 0 [some (.ref a), some (.int x1)] [] (l, r, h, j) _
  refine g_go 1 [some (.ref a), some (.int x1)] [.ref a] rfl (fun _ _ => rfl) ?_
  refine g_go 2 [some (.ref a), some (.int x1)] [.ref a, .ref a] rfl (fun _ _ => rfl) ?_
  refine g_getI 5 rfl rfl (Tr_l ka) ?_
  refine g_go 7 [some (.ref a), some (.int x1)] [.int (1103515245 : Int32), .int (h a 4), .ref a] rfl (fun _ _ => rfl) ?_
  refine g_go 8 [some (.ref a), some (.int x1)] [.int ((h a 4) * (1103515245 : Int32)), .ref a] rfl (fun _ _ => rfl) ?_
  refine g_go 11 [some (.ref a), some (.int x1)] [.int (12345 : Int32), .int ((h a 4) * (1103515245 : Int32)), .ref a] rfl (fun _ _ => rfl) ?_
  refine g_go 12 [some (.ref a), some (.int x1)] [.int (((h a 4) * (1103515245 : Int32)) + (12345 : Int32)), .ref a] rfl (fun _ _ => rfl) ?_
  refine g_putI 15 rfl rfl (Tr_l ka) ?_
  refine g_go 16 [some (.ref a), some (.int x1)] [.int x1] rfl (fun _ _ => rfl) ?_
  refine g_go 17 [some (.ref a), some (.int x1)] [.int (1 : Int32), .int x1] rfl (fun _ _ => rfl) ?_
  refine g_if (p1 := 24) (L1 := [some (.ref a), some (.int x1)]) (S1 := []) (s1 := (l, r, (am_up h a 4 (((h a 4) * (1103515245 : Int32)) + (12345 : Int32))), j)) (p2 := 20) (L2 := [some (.ref a), some (.int x1)]) (S2 := []) (s2 := (l, r, (am_up h a 4 (((h a 4) * (1103515245 : Int32)) + (12345 : Int32))), j)) rfl (fun _ _ => rfl) e (fun c1 e => ?_) (fun c1 e => ?_)
  · refine g_go 25 [some (.ref a), some (.int x1)] [.ref a] rfl (fun _ _ => rfl) ?_
    refine g_getI 28 rfl rfl (Tr_l ka) ?_
    refine g_go 30 [some (.ref a), some (.int x1)] [.int (16 : Int32), .int ((am_up h a 4 (((h a 4) * (1103515245 : Int32)) + (12345 : Int32))) a 4)] rfl (fun _ _ => rfl) ?_
    refine g_go 31 [some (.ref a), some (.int x1)] [.int (((am_up h a 4 (((h a 4) * (1103515245 : Int32)) + (12345 : Int32))) a 4).toUInt32 >>> ((16 : Int32).toUInt32 &&& Int32.toUInt32 31)).toInt32] rfl (fun _ _ => rfl) ?_
    refine g_go 32 [some (.ref a), some (.int x1)] [.int x1, .int (((am_up h a 4 (((h a 4) * (1103515245 : Int32)) + (12345 : Int32))) a 4).toUInt32 >>> ((16 : Int32).toUInt32 &&& Int32.toUInt32 31)).toInt32] rfl (fun _ _ => rfl) ?_
    obtain ⟨v2, ev2, e⟩ := g_bd e
    refine g_irem 33 rfl rfl ev2 ?_
    cases e
    exact g_ret rfl (fun _ _ => rfl)
  · refine g_go 21 [some (.ref a), some (.int x1)] [.int (0 : Int32)] rfl (fun _ _ => rfl) ?_
    refine g_go 33 [some (.ref a), some (.int x1)] [.int (0 : Int32)] rfl (fun _ _ => rfl) ?_
    cases e
    exact g_ret rfl (fun _ _ => rfl)
def Tr_draw_l27 (l : List (Nat × Nat)) (r : am_R) (x0 : Nat) (x3 : Int32) : Nat → Int32 → am_F → Option (am_F)
  | 0, _, _ => none
  | n + 1, x4, h =>
    if x3 ≤ x4 then
      some h
    else
      (Rw_open l r ((x0 + 11) + 11) h).bind fun q3 =>
      (Tr_drawBelow x0 (5 : Int32) q3.2).bind fun q4 =>
      (Rw_set l r ((x0 + 11) + 11) q3.1 (0 : Int32) q4.1 q4.2).bind fun q5 =>
      (Tr_drawBelow x0 (48 : Int32) q5).bind fun q6 =>
      (Rw_set l r ((x0 + 11) + 11) q3.1 (1 : Int32) q6.1 q6.2).bind fun q7 =>
      (Tr_drawBelow x0 (q7 (x0 + 11) 3) q7).bind fun q8 =>
      (Rw_set l r ((x0 + 11) + 11) q3.1 (2 : Int32) q8.1 q8.2).bind fun q9 =>
      (Tr_drawBelow x0 (10 : Int32) q9).bind fun q10 =>
      (Rw_set l r ((x0 + 11) + 11) q3.1 (3 : Int32) q10.1 q10.2).bind fun q11 =>
      (Tr_drawBelow x0 (10 : Int32) q11).bind fun q12 =>
      (Rw_set l r ((x0 + 11) + 11) q3.1 (4 : Int32) q12.1 q12.2).bind fun q13 =>
      (Tr_drawBelow x0 (10 : Int32) q13).bind fun q14 =>
      (Rw_set l r ((x0 + 11) + 11) q3.1 (5 : Int32) q14.1 q14.2).bind fun q15 =>
      Tr_draw_l27 l r x0 x3 n (x4 + (1 : Int32)) q15
def Tr_draw (l : List (Nat × Nat)) (r : am_R) (a : Nat) (x1 : Nat) (x2 : Int32) (x3 : Int32) (h : am_F) : Option (am_F) :=
  (Pk_copyFrom l r (a + 11) x1 h).bind fun q1 =>
  (Tr_draw_l27 l r a x3 g_fu (0 : Int32) (am_up (am_up q1 ((a + 11) + 11) 3 (0 : Int32)) a 4 x2)).bind fun q16 =>
  (Tr_harmNow l r a q16).bind fun q19 =>
  some q19.2
theorem Tr_draw_l27_s {X : Nat × (Nat → Int32)} {l : List (Nat × Nat)} {r : am_R} {x0 : Nat} {x3 : Int32} {y1 : Nat} {y2 : Int32} {j : am_J} {q : am_F} {R : Option Value × am_S} (kx0 : Tr_K l r x0) (hx : ∀ (d5 : Option Value) (y4 : Int32) , Ev X 101 169 [some (.ref x0), some (.ref y1), some (.int y2), some (.int x3), some (.int y4), d5] [] (l, r, q, j) R) : ∀ (n : Nat) (x4 : Int32) (h : am_F) (d5 : Option Value), Tr_draw_l27 l r x0 x3 n x4 h = some q → Ev X 101 27 [some (.ref x0), some (.ref y1), some (.int y2), some (.int x3), some (.int x4), d5] [] (l, r, h, j) R := by
  intro n
  induction n with
  | zero => intro x4 h d5 e; cases e
  | succ n ih =>
    intro x4 h d5 e
    unfold Tr_draw_l27 at e
    refine g_run 2 30 [some (.ref x0), some (.ref y1), some (.int y2), some (.int x3), some (.int x4), d5] [.int x3, .int x4] (fun _ => rfl) ?_
    refine g_if (p1 := 169) (L1 := [some (.ref x0), some (.ref y1), some (.int y2), some (.int x3), some (.int x4), d5]) (S1 := []) (s1 := (l, r, h, j)) (p2 := 33) (L2 := [some (.ref x0), some (.ref y1), some (.int y2), some (.int x3), some (.int x4), d5]) (S2 := []) (s2 := (l, r, h, j)) rfl (fun _ _ => rfl) e (fun c2 e => ?_) (fun c2 e => ?_)
    · cases e
      exact hx _ _
    · refine g_run 1 34 [some (.ref x0), some (.ref y1), some (.int y2), some (.int x3), some (.int x4), d5] [.ref x0] (fun _ => rfl) ?_
      refine g_getA 37 rfl rfl (Tr_l kx0) (Tr_r3 kx0) ?_
      refine g_getA 40 rfl rfl (Pk_l (Tr_k3 kx0)) (Pk_r12 (Tr_k3 kx0)) ?_
      obtain ⟨q3, eq3, e⟩ := g_bd e
      refine g_cV 43 rfl rfl rfl rfl rfl (Rw_l (Pk_k12 (Tr_k3 kx0))) (Rw_open_s (Pk_k12 (Tr_k3 kx0)) eq3) ?_
      refine g_run 2 46 [some (.ref x0), some (.ref y1), some (.int y2), some (.int x3), some (.int x4), some (.int q3.1)] [.ref x0] (fun _ => rfl) ?_
      refine g_getA 49 rfl rfl (Tr_l kx0) (Tr_r3 kx0) ?_
      refine g_getA 52 rfl rfl (Pk_l (Tr_k3 kx0)) (Pk_r12 (Tr_k3 kx0)) ?_
      refine g_run 4 57 [some (.ref x0), some (.ref y1), some (.int y2), some (.int x3), some (.int x4), some (.int q3.1)] [.int (5 : Int32), .ref x0, .int (0 : Int32), .int q3.1, .ref ((x0 + 11) + 11)] (fun _ => rfl) ?_
      obtain ⟨q4, eq4, e⟩ := g_bd e
      refine g_cV 60 rfl rfl rfl rfl rfl (Tr_l kx0) (Tr_drawBelow_s kx0 eq4) ?_
      obtain ⟨q5, eq5, e⟩ := g_bd e
      refine g_cVv 63 rfl rfl rfl rfl rfl (Rw_l (Pk_k12 (Tr_k3 kx0))) (Rw_set_s (Pk_k12 (Tr_k3 kx0)) eq5) ?_
      refine g_run 1 64 [some (.ref x0), some (.ref y1), some (.int y2), some (.int x3), some (.int x4), some (.int q3.1)] [.ref x0] (fun _ => rfl) ?_
      refine g_getA 67 rfl rfl (Tr_l kx0) (Tr_r3 kx0) ?_
      refine g_getA 70 rfl rfl (Pk_l (Tr_k3 kx0)) (Pk_r12 (Tr_k3 kx0)) ?_
      refine g_run 4 76 [some (.ref x0), some (.ref y1), some (.int y2), some (.int x3), some (.int x4), some (.int q3.1)] [.int (48 : Int32), .ref x0, .int (1 : Int32), .int q3.1, .ref ((x0 + 11) + 11)] (fun _ => rfl) ?_
      obtain ⟨q6, eq6, e⟩ := g_bd e
      refine g_cV 79 rfl rfl rfl rfl rfl (Tr_l kx0) (Tr_drawBelow_s kx0 eq6) ?_
      obtain ⟨q7, eq7, e⟩ := g_bd e
      refine g_cVv 82 rfl rfl rfl rfl rfl (Rw_l (Pk_k12 (Tr_k3 kx0))) (Rw_set_s (Pk_k12 (Tr_k3 kx0)) eq7) ?_
      refine g_run 1 83 [some (.ref x0), some (.ref y1), some (.int y2), some (.int x3), some (.int x4), some (.int q3.1)] [.ref x0] (fun _ => rfl) ?_
      refine g_getA 86 rfl rfl (Tr_l kx0) (Tr_r3 kx0) ?_
      refine g_getA 89 rfl rfl (Pk_l (Tr_k3 kx0)) (Pk_r12 (Tr_k3 kx0)) ?_
      refine g_run 4 94 [some (.ref x0), some (.ref y1), some (.int y2), some (.int x3), some (.int x4), some (.int q3.1)] [.ref x0, .ref x0, .int (2 : Int32), .int q3.1, .ref ((x0 + 11) + 11)] (fun _ => rfl) ?_
      refine g_getA 97 rfl rfl (Tr_l kx0) (Tr_r3 kx0) ?_
      refine g_getI 100 rfl rfl (Pk_l (Tr_k3 kx0)) ?_
      obtain ⟨q8, eq8, e⟩ := g_bd e
      refine g_cV 103 rfl rfl rfl rfl rfl (Tr_l kx0) (Tr_drawBelow_s kx0 eq8) ?_
      obtain ⟨q9, eq9, e⟩ := g_bd e
      refine g_cVv 106 rfl rfl rfl rfl rfl (Rw_l (Pk_k12 (Tr_k3 kx0))) (Rw_set_s (Pk_k12 (Tr_k3 kx0)) eq9) ?_
      refine g_run 1 107 [some (.ref x0), some (.ref y1), some (.int y2), some (.int x3), some (.int x4), some (.int q3.1)] [.ref x0] (fun _ => rfl) ?_
      refine g_getA 110 rfl rfl (Tr_l kx0) (Tr_r3 kx0) ?_
      refine g_getA 113 rfl rfl (Pk_l (Tr_k3 kx0)) (Pk_r12 (Tr_k3 kx0)) ?_
      refine g_run 4 119 [some (.ref x0), some (.ref y1), some (.int y2), some (.int x3), some (.int x4), some (.int q3.1)] [.int (10 : Int32), .ref x0, .int (3 : Int32), .int q3.1, .ref ((x0 + 11) + 11)] (fun _ => rfl) ?_
      obtain ⟨q10, eq10, e⟩ := g_bd e
      refine g_cV 122 rfl rfl rfl rfl rfl (Tr_l kx0) (Tr_drawBelow_s kx0 eq10) ?_
      obtain ⟨q11, eq11, e⟩ := g_bd e
      refine g_cVv 125 rfl rfl rfl rfl rfl (Rw_l (Pk_k12 (Tr_k3 kx0))) (Rw_set_s (Pk_k12 (Tr_k3 kx0)) eq11) ?_
      refine g_run 1 126 [some (.ref x0), some (.ref y1), some (.int y2), some (.int x3), some (.int x4), some (.int q3.1)] [.ref x0] (fun _ => rfl) ?_
      refine g_getA 129 rfl rfl (Tr_l kx0) (Tr_r3 kx0) ?_
      refine g_getA 132 rfl rfl (Pk_l (Tr_k3 kx0)) (Pk_r12 (Tr_k3 kx0)) ?_
      refine g_run 4 138 [some (.ref x0), some (.ref y1), some (.int y2), some (.int x3), some (.int x4), some (.int q3.1)] [.int (10 : Int32), .ref x0, .int (4 : Int32), .int q3.1, .ref ((x0 + 11) + 11)] (fun _ => rfl) ?_
      obtain ⟨q12, eq12, e⟩ := g_bd e
      refine g_cV 141 rfl rfl rfl rfl rfl (Tr_l kx0) (Tr_drawBelow_s kx0 eq12) ?_
      obtain ⟨q13, eq13, e⟩ := g_bd e
      refine g_cVv 144 rfl rfl rfl rfl rfl (Rw_l (Pk_k12 (Tr_k3 kx0))) (Rw_set_s (Pk_k12 (Tr_k3 kx0)) eq13) ?_
      refine g_run 1 145 [some (.ref x0), some (.ref y1), some (.int y2), some (.int x3), some (.int x4), some (.int q3.1)] [.ref x0] (fun _ => rfl) ?_
      refine g_getA 148 rfl rfl (Tr_l kx0) (Tr_r3 kx0) ?_
      refine g_getA 151 rfl rfl (Pk_l (Tr_k3 kx0)) (Pk_r12 (Tr_k3 kx0)) ?_
      refine g_run 4 157 [some (.ref x0), some (.ref y1), some (.int y2), some (.int x3), some (.int x4), some (.int q3.1)] [.int (10 : Int32), .ref x0, .int (5 : Int32), .int q3.1, .ref ((x0 + 11) + 11)] (fun _ => rfl) ?_
      obtain ⟨q14, eq14, e⟩ := g_bd e
      refine g_cV 160 rfl rfl rfl rfl rfl (Tr_l kx0) (Tr_drawBelow_s kx0 eq14) ?_
      obtain ⟨q15, eq15, e⟩ := g_bd e
      refine g_cVv 163 rfl rfl rfl rfl rfl (Rw_l (Pk_k12 (Tr_k3 kx0))) (Rw_set_s (Pk_k12 (Tr_k3 kx0)) eq15) ?_
      refine g_run 2 27 [some (.ref x0), some (.ref y1), some (.int y2), some (.int x3), some (.int (x4 + (1 : Int32))), some (.int q3.1)] [] (fun _ => rfl) ?_
      exact ih _ _ _ e
theorem Tr_draw_s {X : Nat × (Nat → Int32)} {l : List (Nat × Nat)} {r : am_R} {h : am_F} {j : am_J} {a : Nat} {x1 : Nat} {x2 : Int32} {x3 : Int32} (ka : Tr_K l r a) (kx1 : Pk_K l r x1) {q : am_F} (e : Tr_draw l r a x1 x2 x3 h = some q) : Call X 101 [.ref a, .ref x1, .int x2, .int x3] (l, r, h, j) (none, (l, r, q, j)) := by
  unfold Tr_draw at e
  refine ⟨Nat.le_of_ble_eq_true rfl, ?_⟩
  show Ev X 101 0 [some (.ref a), some (.ref x1), some (.int x2), some (.int x3), none, none] [] (l, r, h, j) _
  refine g_run 1 1 [some (.ref a), some (.ref x1), some (.int x2), some (.int x3), none, none] [.ref a] (fun _ => rfl) ?_
  refine g_getA 4 rfl rfl (Tr_l ka) (Tr_r3 ka) ?_
  refine g_run 1 5 [some (.ref a), some (.ref x1), some (.int x2), some (.int x3), none, none] [.ref x1, .ref (a + 11)] (fun _ => rfl) ?_
  obtain ⟨q1, eq1, e⟩ := g_bd e
  refine g_cVv 8 rfl rfl rfl rfl rfl (Pk_l (Tr_k3 ka)) (Pk_copyFrom_s (Tr_k3 ka) kx1 eq1) ?_
  refine g_run 1 9 [some (.ref a), some (.ref x1), some (.int x2), some (.int x3), none, none] [.ref a] (fun _ => rfl) ?_
  refine g_getA 12 rfl rfl (Tr_l ka) (Tr_r3 ka) ?_
  refine g_getA 15 rfl rfl (Pk_l (Tr_k3 ka)) (Pk_r12 (Tr_k3 ka)) ?_
  refine g_run 1 16 [some (.ref a), some (.ref x1), some (.int x2), some (.int x3), none, none] [.int (0 : Int32), .ref ((a + 11) + 11)] (fun _ => rfl) ?_
  refine g_putI 19 rfl rfl (Rw_l (Pk_k12 (Tr_k3 ka))) ?_
  refine g_run 2 21 [some (.ref a), some (.ref x1), some (.int x2), some (.int x3), none, none] [.int x2, .ref a] (fun _ => rfl) ?_
  refine g_putI 24 rfl rfl (Tr_l ka) ?_
  refine g_run 2 27 [some (.ref a), some (.ref x1), some (.int x2), some (.int x3), some (.int (0 : Int32)), none] [] (fun _ => rfl) ?_
  obtain ⟨q16, eq16, e⟩ := g_bd e
  refine Tr_draw_l27_s ka (fun d17 y18 => ?_) _ _ _ _ eq16
  refine g_run 1 170 [some (.ref a), some (.ref x1), some (.int x2), some (.int x3), some (.int y18), d17] [.ref a] (fun _ => rfl) ?_
  obtain ⟨q19, eq19, e⟩ := g_bd e
  refine g_cV 173 rfl rfl rfl rfl rfl (Tr_l ka) (Tr_harmNow_s ka eq19) ?_
  refine g_run 1 174 [some (.ref a), some (.ref x1), some (.int x2), some (.int x3), some (.int y18), d17] [] (fun _ => rfl) ?_
  cases e
  exact g_ret rfl (fun _ _ => rfl)
def Tr_hasNow (l : List (Nat × Nat)) (r : am_R) (a : Nat) (x1 : Int32) (h : am_F) : Option (Int32 × am_F) :=
  (Dy_forget (a + 1) h).bind fun q1 =>
  (Dy_goThrough l r (a + 1) (a + 11) q1).bind fun q2 =>
  (Rw_get l r ((a + 11) + 11) x1 (3 : Int32) q2).bind fun q3 =>
  (Dy_has l r (a + 1) x1 q3 q2).bind fun q4 =>
  some (q4, q2)
theorem Tr_hasNow_s {X : Nat × (Nat → Int32)} {l : List (Nat × Nat)} {r : am_R} {h : am_F} {j : am_J} {a : Nat} {x1 : Int32} (ka : Tr_K l r a) {q : Int32 × am_F} (e : Tr_hasNow l r a x1 h = some q) : Call X 104 [.ref a, .int x1] (l, r, h, j) (some (.int q.1), (l, r, q.2, j)) := by
  unfold Tr_hasNow at e
  refine ⟨Nat.le_of_ble_eq_true rfl, ?_⟩
  show Ev X 104 0 [some (.ref a), some (.int x1)] [] (l, r, h, j) _
  refine g_run 1 1 [some (.ref a), some (.int x1)] [.ref a] (fun _ => rfl) ?_
  refine g_getA 4 rfl rfl (Tr_l ka) (Tr_r2 ka) ?_
  obtain ⟨q1, eq1, e⟩ := g_bd e
  refine g_cVv 7 rfl rfl rfl rfl rfl (Dy_l (Tr_k2 ka)) (Dy_forget_s (Tr_k2 ka) eq1) ?_
  refine g_run 1 8 [some (.ref a), some (.int x1)] [.ref a] (fun _ => rfl) ?_
  refine g_getA 11 rfl rfl (Tr_l ka) (Tr_r2 ka) ?_
  refine g_run 1 12 [some (.ref a), some (.int x1)] [.ref a, .ref (a + 1)] (fun _ => rfl) ?_
  refine g_getA 15 rfl rfl (Tr_l ka) (Tr_r3 ka) ?_
  obtain ⟨q2, eq2, e⟩ := g_bd e
  refine g_cVv 18 rfl rfl rfl rfl rfl (Dy_l (Tr_k2 ka)) (Dy_goThrough_s (Tr_k2 ka) (Tr_k3 ka) eq2) ?_
  refine g_run 1 19 [some (.ref a), some (.int x1)] [.ref a] (fun _ => rfl) ?_
  refine g_getA 22 rfl rfl (Tr_l ka) (Tr_r2 ka) ?_
  refine g_run 2 24 [some (.ref a), some (.int x1)] [.ref a, .int x1, .ref (a + 1)] (fun _ => rfl) ?_
  refine g_getA 27 rfl rfl (Tr_l ka) (Tr_r3 ka) ?_
  refine g_getA 30 rfl rfl (Pk_l (Tr_k3 ka)) (Pk_r12 (Tr_k3 ka)) ?_
  refine g_run 2 32 [some (.ref a), some (.int x1)] [.int (3 : Int32), .int x1, .ref ((a + 11) + 11), .int x1, .ref (a + 1)] (fun _ => rfl) ?_
  obtain ⟨q3, eq3, e⟩ := g_bd e
  refine g_cV 35 rfl rfl rfl rfl rfl (Rw_l (Pk_k12 (Tr_k3 ka))) (Rw_get_s (Pk_k12 (Tr_k3 ka)) eq3) ?_
  obtain ⟨q4, eq4, e⟩ := g_bd e
  refine g_cV 38 rfl rfl rfl rfl rfl (Dy_l (Tr_k2 ka)) (Dy_has_s (Tr_k2 ka) eq4) ?_
  cases e
  exact g_ret rfl (fun _ _ => rfl)
def Tr_hasAsTold (l : List (Nat × Nat)) (r : am_R) (a : Nat) (x1 : Nat) (x2 : Int32) (h : am_F) : Option (Int32 × am_F) :=
  (Pk_copyFrom l r (a + 11) x1 h).bind fun q1 =>
  (Tr_hasNow l r a x2 q1).bind fun q2 =>
  some (q2.1, q2.2)
theorem Tr_hasAsTold_s {X : Nat × (Nat → Int32)} {l : List (Nat × Nat)} {r : am_R} {h : am_F} {j : am_J} {a : Nat} {x1 : Nat} {x2 : Int32} (ka : Tr_K l r a) (kx1 : Pk_K l r x1) {q : Int32 × am_F} (e : Tr_hasAsTold l r a x1 x2 h = some q) : Call X 103 [.ref a, .ref x1, .int x2] (l, r, h, j) (some (.int q.1), (l, r, q.2, j)) := by
  unfold Tr_hasAsTold at e
  refine ⟨Nat.le_of_ble_eq_true rfl, ?_⟩
  show Ev X 103 0 [some (.ref a), some (.ref x1), some (.int x2)] [] (l, r, h, j) _
  refine g_run 1 1 [some (.ref a), some (.ref x1), some (.int x2)] [.ref a] (fun _ => rfl) ?_
  refine g_getA 4 rfl rfl (Tr_l ka) (Tr_r3 ka) ?_
  refine g_run 1 5 [some (.ref a), some (.ref x1), some (.int x2)] [.ref x1, .ref (a + 11)] (fun _ => rfl) ?_
  obtain ⟨q1, eq1, e⟩ := g_bd e
  refine g_cVv 8 rfl rfl rfl rfl rfl (Pk_l (Tr_k3 ka)) (Pk_copyFrom_s (Tr_k3 ka) kx1 eq1) ?_
  refine g_run 2 10 [some (.ref a), some (.ref x1), some (.int x2)] [.int x2, .ref a] (fun _ => rfl) ?_
  obtain ⟨q2, eq2, e⟩ := g_bd e
  refine g_cV 13 rfl rfl rfl rfl rfl (Tr_l ka) (Tr_hasNow_s ka eq2) ?_
  cases e
  exact g_ret rfl (fun _ _ => rfl)
def Tr_comeLater_l31 (l : List (Nat × Nat)) (r : am_R) (x0 : Nat) (x2 : Int32) (x3 : Int32) : Nat → Int32 → am_F → Option (am_F)
  | 0, _, _ => none
  | n + 1, x4, h =>
    if (48 : Int32) ≤ (x3 + x4) then
      some h
    else
      (Rw_set l r ((x0 + 11) + 11) x2 (1 : Int32) (x3 + x4) h).bind fun q6 =>
      (Tr_hasNow l r x0 x2 q6).bind fun q7 =>
      (Tr_more x0 x4 (q7.1 - x4) q7.2).bind fun q8 =>
      Tr_comeLater_l31 l r x0 x2 x3 n (x4 + (1 : Int32)) q8
def Tr_comeLater (l : List (Nat × Nat)) (r : am_R) (a : Nat) (x1 : Nat) (x2 : Int32) (h : am_F) : Option (am_F) :=
  (Pk_copyFrom l r (a + 11) x1 h).bind fun q1 =>
  (Tr_hasNow l r a x2 q1).bind fun q2 =>
  (Tr_first a (0 : Int32) q2.1 q2.2).bind fun q3 =>
  (Rw_get l r (x1 + 11) x2 (1 : Int32) q3).bind fun q4 =>
  (Tr_comeLater_l31 l r a x2 q4 g_fu (1 : Int32) q3).bind fun q9 =>
  some q9
theorem Tr_comeLater_l31_s {X : Nat × (Nat → Int32)} {l : List (Nat × Nat)} {r : am_R} {x0 : Nat} {x2 : Int32} {x3 : Int32} {y1 : Nat} {j : am_J} {q : am_F} {R : Option Value × am_S} (kx0 : Tr_K l r x0) (hx : ∀ (y4 : Int32) , Ev X 105 76 [some (.ref x0), some (.ref y1), some (.int x2), some (.int x3), some (.int y4)] [] (l, r, q, j) R) : ∀ (n : Nat) (x4 : Int32) (h : am_F), Tr_comeLater_l31 l r x0 x2 x3 n x4 h = some q → Ev X 105 31 [some (.ref x0), some (.ref y1), some (.int x2), some (.int x3), some (.int x4)] [] (l, r, h, j) R := by
  intro n
  induction n with
  | zero => intro x4 h e; cases e
  | succ n ih =>
    intro x4 h e
    unfold Tr_comeLater_l31 at e
    refine g_run 4 37 [some (.ref x0), some (.ref y1), some (.int x2), some (.int x3), some (.int x4)] [.int (48 : Int32), .int (x3 + x4)] (fun _ => rfl) ?_
    refine g_if (p1 := 76) (L1 := [some (.ref x0), some (.ref y1), some (.int x2), some (.int x3), some (.int x4)]) (S1 := []) (s1 := (l, r, h, j)) (p2 := 40) (L2 := [some (.ref x0), some (.ref y1), some (.int x2), some (.int x3), some (.int x4)]) (S2 := []) (s2 := (l, r, h, j)) rfl (fun _ _ => rfl) e (fun c5 e => ?_) (fun c5 e => ?_)
    · cases e
      exact hx _
    · refine g_run 1 41 [some (.ref x0), some (.ref y1), some (.int x2), some (.int x3), some (.int x4)] [.ref x0] (fun _ => rfl) ?_
      refine g_getA 44 rfl rfl (Tr_l kx0) (Tr_r3 kx0) ?_
      refine g_getA 47 rfl rfl (Pk_l (Tr_k3 kx0)) (Pk_r12 (Tr_k3 kx0)) ?_
      refine g_run 5 53 [some (.ref x0), some (.ref y1), some (.int x2), some (.int x3), some (.int x4)] [.int (x3 + x4), .int (1 : Int32), .int x2, .ref ((x0 + 11) + 11)] (fun _ => rfl) ?_
      obtain ⟨q6, eq6, e⟩ := g_bd e
      refine g_cVv 56 rfl rfl rfl rfl rfl (Rw_l (Pk_k12 (Tr_k3 kx0))) (Rw_set_s (Pk_k12 (Tr_k3 kx0)) eq6) ?_
      refine g_run 4 61 [some (.ref x0), some (.ref y1), some (.int x2), some (.int x3), some (.int x4)] [.int x2, .ref x0, .int x4, .ref x0] (fun _ => rfl) ?_
      obtain ⟨q7, eq7, e⟩ := g_bd e
      refine g_cV 64 rfl rfl rfl rfl rfl (Tr_l kx0) (Tr_hasNow_s kx0 eq7) ?_
      refine g_run 2 67 [some (.ref x0), some (.ref y1), some (.int x2), some (.int x3), some (.int x4)] [.int (q7.1 - x4), .int x4, .ref x0] (fun _ => rfl) ?_
      obtain ⟨q8, eq8, e⟩ := g_bd e
      refine g_cVv 70 rfl rfl rfl rfl rfl (Tr_l kx0) (Tr_more_s kx0 eq8) ?_
      refine g_run 2 31 [some (.ref x0), some (.ref y1), some (.int x2), some (.int x3), some (.int (x4 + (1 : Int32)))] [] (fun _ => rfl) ?_
      exact ih _ _ e
theorem Tr_comeLater_s {X : Nat × (Nat → Int32)} {l : List (Nat × Nat)} {r : am_R} {h : am_F} {j : am_J} {a : Nat} {x1 : Nat} {x2 : Int32} (ka : Tr_K l r a) (kx1 : Pk_K l r x1) {q : am_F} (e : Tr_comeLater l r a x1 x2 h = some q) : Call X 105 [.ref a, .ref x1, .int x2] (l, r, h, j) (none, (l, r, q, j)) := by
  unfold Tr_comeLater at e
  refine ⟨Nat.le_of_ble_eq_true rfl, ?_⟩
  show Ev X 105 0 [some (.ref a), some (.ref x1), some (.int x2), none, none] [] (l, r, h, j) _
  refine g_run 1 1 [some (.ref a), some (.ref x1), some (.int x2), none, none] [.ref a] (fun _ => rfl) ?_
  refine g_getA 4 rfl rfl (Tr_l ka) (Tr_r3 ka) ?_
  refine g_run 1 5 [some (.ref a), some (.ref x1), some (.int x2), none, none] [.ref x1, .ref (a + 11)] (fun _ => rfl) ?_
  obtain ⟨q1, eq1, e⟩ := g_bd e
  refine g_cVv 8 rfl rfl rfl rfl rfl (Pk_l (Tr_k3 ka)) (Pk_copyFrom_s (Tr_k3 ka) kx1 eq1) ?_
  refine g_run 4 12 [some (.ref a), some (.ref x1), some (.int x2), none, none] [.int x2, .ref a, .int (0 : Int32), .ref a] (fun _ => rfl) ?_
  obtain ⟨q2, eq2, e⟩ := g_bd e
  refine g_cV 15 rfl rfl rfl rfl rfl (Tr_l ka) (Tr_hasNow_s ka eq2) ?_
  obtain ⟨q3, eq3, e⟩ := g_bd e
  refine g_cVv 18 rfl rfl rfl rfl rfl (Tr_l ka) (Tr_first_s ka eq3) ?_
  refine g_run 1 19 [some (.ref a), some (.ref x1), some (.int x2), none, none] [.ref x1] (fun _ => rfl) ?_
  refine g_getA 22 rfl rfl (Pk_l kx1) (Pk_r12 kx1) ?_
  refine g_run 2 24 [some (.ref a), some (.ref x1), some (.int x2), none, none] [.int (1 : Int32), .int x2, .ref (x1 + 11)] (fun _ => rfl) ?_
  obtain ⟨q4, eq4, e⟩ := g_bd e
  refine g_cV 27 rfl rfl rfl rfl rfl (Rw_l (Pk_k12 kx1)) (Rw_get_s (Pk_k12 kx1) eq4) ?_
  refine g_run 3 31 [some (.ref a), some (.ref x1), some (.int x2), some (.int q4), some (.int (1 : Int32))] [] (fun _ => rfl) ?_
  obtain ⟨q9, eq9, e⟩ := g_bd e
  refine Tr_comeLater_l31_s ka (fun y10 => ?_) _ _ _ eq9
  cases e
  exact g_ret rfl (fun _ _ => rfl)
def Tr_comeElsewhere_l10 (l : List (Nat × Nat)) (r : am_R) (x0 : Nat) (x2 : Int32) : Nat → Int32 → am_F → Option (am_F)
  | 0, _, _ => none
  | n + 1, x3, h =>
    if (h (x0 + 11) 3) ≤ x3 then
      some h
    else
      (Rw_set l r ((x0 + 11) + 11) x2 (2 : Int32) x3 h).bind fun q3 =>
      (Tr_hasNow l r x0 x2 q3).bind fun q4 =>
      (if x3 = 0 then
          (Tr_first x0 x3 q4.1 q4.2).bind fun q7 =>
          some q7
        else
          (Tr_more x0 x3 q4.1 q4.2).bind fun q8 =>
          some q8 : Option (am_F)).bind fun q9 =>
      Tr_comeElsewhere_l10 l r x0 x2 n (x3 + (1 : Int32)) q9
def Tr_comeElsewhere (l : List (Nat × Nat)) (r : am_R) (a : Nat) (x1 : Nat) (x2 : Int32) (h : am_F) : Option (am_F) :=
  (Pk_copyFrom l r (a + 11) x1 h).bind fun q1 =>
  (Tr_comeElsewhere_l10 l r a x2 g_fu (0 : Int32) q1).bind fun q10 =>
  some q10
theorem Tr_comeElsewhere_l10_s {X : Nat × (Nat → Int32)} {l : List (Nat × Nat)} {r : am_R} {x0 : Nat} {x2 : Int32} {y1 : Nat} {j : am_J} {q : am_F} {R : Option Value × am_S} (kx0 : Tr_K l r x0) (hx : ∀ (d4 : Option Value) (y3 : Int32) , Ev X 106 68 [some (.ref x0), some (.ref y1), some (.int x2), some (.int y3), d4] [] (l, r, q, j) R) : ∀ (n : Nat) (x3 : Int32) (h : am_F) (d4 : Option Value), Tr_comeElsewhere_l10 l r x0 x2 n x3 h = some q → Ev X 106 10 [some (.ref x0), some (.ref y1), some (.int x2), some (.int x3), d4] [] (l, r, h, j) R := by
  intro n
  induction n with
  | zero => intro x3 h d4 e; cases e
  | succ n ih =>
    intro x3 h d4 e
    unfold Tr_comeElsewhere_l10 at e
    refine g_run 2 12 [some (.ref x0), some (.ref y1), some (.int x2), some (.int x3), d4] [.ref x0, .int x3] (fun _ => rfl) ?_
    refine g_getA 15 rfl rfl (Tr_l kx0) (Tr_r3 kx0) ?_
    refine g_getI 18 rfl rfl (Pk_l (Tr_k3 kx0)) ?_
    refine g_if (p1 := 68) (L1 := [some (.ref x0), some (.ref y1), some (.int x2), some (.int x3), d4]) (S1 := []) (s1 := (l, r, h, j)) (p2 := 21) (L2 := [some (.ref x0), some (.ref y1), some (.int x2), some (.int x3), d4]) (S2 := []) (s2 := (l, r, h, j)) rfl (fun _ _ => rfl) e (fun c2 e => ?_) (fun c2 e => ?_)
    · cases e
      exact hx _ _
    · refine g_run 1 22 [some (.ref x0), some (.ref y1), some (.int x2), some (.int x3), d4] [.ref x0] (fun _ => rfl) ?_
      refine g_getA 25 rfl rfl (Tr_l kx0) (Tr_r3 kx0) ?_
      refine g_getA 28 rfl rfl (Pk_l (Tr_k3 kx0)) (Pk_r12 (Tr_k3 kx0)) ?_
      refine g_run 3 31 [some (.ref x0), some (.ref y1), some (.int x2), some (.int x3), d4] [.int x3, .int (2 : Int32), .int x2, .ref ((x0 + 11) + 11)] (fun _ => rfl) ?_
      obtain ⟨q3, eq3, e⟩ := g_bd e
      refine g_cVv 34 rfl rfl rfl rfl rfl (Rw_l (Pk_k12 (Tr_k3 kx0))) (Rw_set_s (Pk_k12 (Tr_k3 kx0)) eq3) ?_
      refine g_run 2 36 [some (.ref x0), some (.ref y1), some (.int x2), some (.int x3), d4] [.int x2, .ref x0] (fun _ => rfl) ?_
      obtain ⟨q4, eq4, e⟩ := g_bd e
      refine g_cV 39 rfl rfl rfl rfl rfl (Tr_l kx0) (Tr_hasNow_s kx0 eq4) ?_
      refine g_run 2 42 [some (.ref x0), some (.ref y1), some (.int x2), some (.int x3), some (.int q4.1)] [.int x3] (fun _ => rfl) ?_
      obtain ⟨q9, eq9, e⟩ := g_bd e
      have hjq9 : ∀ (_ : True), Ev X 106 62 [some (.ref x0), some (.ref y1), some (.int x2), some (.int x3), some (.int q4.1)] [] (l, r, q9, j) R := by
        intro _
        refine g_run 2 10 [some (.ref x0), some (.ref y1), some (.int x2), some (.int (x3 + (1 : Int32))), some (.int q4.1)] [] (fun _ => rfl) ?_
        exact ih _ _ _ e
      replace e := eq9
      refine g_if (p1 := 45) (L1 := [some (.ref x0), some (.ref y1), some (.int x2), some (.int x3), some (.int q4.1)]) (S1 := []) (s1 := (l, r, q4.2, j)) (p2 := 55) (L2 := [some (.ref x0), some (.ref y1), some (.int x2), some (.int x3), some (.int q4.1)]) (S2 := []) (s2 := (l, r, q4.2, j)) rfl (fun _ _ => rfl) e (fun c5 e => ?_) (fun c5 e => ?_)
      · refine g_run 3 49 [some (.ref x0), some (.ref y1), some (.int x2), some (.int x3), some (.int q4.1)] [.int q4.1, .int x3, .ref x0] (fun _ => rfl) ?_
        obtain ⟨q7, eq7, e⟩ := g_bd e
        refine g_cVv 52 rfl rfl rfl rfl rfl (Tr_l kx0) (Tr_first_s kx0 eq7) ?_
        refine g_run 1 62 [some (.ref x0), some (.ref y1), some (.int x2), some (.int x3), some (.int q4.1)] [] (fun _ => rfl) ?_
        cases e
        exact hjq9 trivial
      · refine g_run 3 59 [some (.ref x0), some (.ref y1), some (.int x2), some (.int x3), some (.int q4.1)] [.int q4.1, .int x3, .ref x0] (fun _ => rfl) ?_
        obtain ⟨q8, eq8, e⟩ := g_bd e
        refine g_cVv 62 rfl rfl rfl rfl rfl (Tr_l kx0) (Tr_more_s kx0 eq8) ?_
        cases e
        exact hjq9 trivial
theorem Tr_comeElsewhere_s {X : Nat × (Nat → Int32)} {l : List (Nat × Nat)} {r : am_R} {h : am_F} {j : am_J} {a : Nat} {x1 : Nat} {x2 : Int32} (ka : Tr_K l r a) (kx1 : Pk_K l r x1) {q : am_F} (e : Tr_comeElsewhere l r a x1 x2 h = some q) : Call X 106 [.ref a, .ref x1, .int x2] (l, r, h, j) (none, (l, r, q, j)) := by
  unfold Tr_comeElsewhere at e
  refine ⟨Nat.le_of_ble_eq_true rfl, ?_⟩
  show Ev X 106 0 [some (.ref a), some (.ref x1), some (.int x2), none, none] [] (l, r, h, j) _
  refine g_run 1 1 [some (.ref a), some (.ref x1), some (.int x2), none, none] [.ref a] (fun _ => rfl) ?_
  refine g_getA 4 rfl rfl (Tr_l ka) (Tr_r3 ka) ?_
  refine g_run 1 5 [some (.ref a), some (.ref x1), some (.int x2), none, none] [.ref x1, .ref (a + 11)] (fun _ => rfl) ?_
  obtain ⟨q1, eq1, e⟩ := g_bd e
  refine g_cVv 8 rfl rfl rfl rfl rfl (Pk_l (Tr_k3 ka)) (Pk_copyFrom_s (Tr_k3 ka) kx1 eq1) ?_
  refine g_run 2 10 [some (.ref a), some (.ref x1), some (.int x2), some (.int (0 : Int32)), none] [] (fun _ => rfl) ?_
  obtain ⟨q10, eq10, e⟩ := g_bd e
  refine Tr_comeElsewhere_l10_s ka (fun d11 y12 => ?_) _ _ _ _ eq10
  cases e
  exact g_ret rfl (fun _ _ => rfl)
def Tr_leaveOneOut_l2 (l : List (Nat × Nat)) (r : am_R) (x0 : Nat) (x1 : Nat) : Nat → Int32 → am_F → Option (am_F)
  | 0, _, _ => none
  | n + 1, x2, h =>
    if (h (x1 + 11) 3) ≤ x2 then
      some h
    else
      (Pk_copyFrom l r (x0 + 11) x1 h).bind fun q2 =>
      (Rw_remove l r ((x0 + 11) + 11) x2 q2).bind fun q3 =>
      (Tr_harmNow l r x0 q3).bind fun q4 =>
      (if x2 = 0 then
          (Tr_first x0 x2 q4.1 q4.2).bind fun q7 =>
          some q7
        else
          (Tr_less x0 x2 q4.1 q4.2).bind fun q8 =>
          some q8 : Option (am_F)).bind fun q9 =>
      Tr_leaveOneOut_l2 l r x0 x1 n (x2 + (1 : Int32)) q9
def Tr_leaveOneOut (l : List (Nat × Nat)) (r : am_R) (a : Nat) (x1 : Nat) (h : am_F) : Option (am_F) :=
  (Tr_leaveOneOut_l2 l r a x1 g_fu (0 : Int32) h).bind fun q10 =>
  some q10
theorem Tr_leaveOneOut_l2_s {X : Nat × (Nat → Int32)} {l : List (Nat × Nat)} {r : am_R} {x0 : Nat} {x1 : Nat} {j : am_J} {q : am_F} {R : Option Value × am_S} (kx0 : Tr_K l r x0) (kx1 : Pk_K l r x1) (hx : ∀ (d3 : Option Value) (y2 : Int32) , Ev X 107 62 [some (.ref x0), some (.ref x1), some (.int y2), d3] [] (l, r, q, j) R) : ∀ (n : Nat) (x2 : Int32) (h : am_F) (d3 : Option Value), Tr_leaveOneOut_l2 l r x0 x1 n x2 h = some q → Ev X 107 2 [some (.ref x0), some (.ref x1), some (.int x2), d3] [] (l, r, h, j) R := by
  intro n
  induction n with
  | zero => intro x2 h d3 e; cases e
  | succ n ih =>
    intro x2 h d3 e
    unfold Tr_leaveOneOut_l2 at e
    refine g_run 2 4 [some (.ref x0), some (.ref x1), some (.int x2), d3] [.ref x1, .int x2] (fun _ => rfl) ?_
    refine g_getA 7 rfl rfl (Pk_l kx1) (Pk_r12 kx1) ?_
    refine g_getI 10 rfl rfl (Rw_l (Pk_k12 kx1)) ?_
    refine g_if (p1 := 62) (L1 := [some (.ref x0), some (.ref x1), some (.int x2), d3]) (S1 := []) (s1 := (l, r, h, j)) (p2 := 13) (L2 := [some (.ref x0), some (.ref x1), some (.int x2), d3]) (S2 := []) (s2 := (l, r, h, j)) rfl (fun _ _ => rfl) e (fun c1 e => ?_) (fun c1 e => ?_)
    · cases e
      exact hx _ _
    · refine g_run 1 14 [some (.ref x0), some (.ref x1), some (.int x2), d3] [.ref x0] (fun _ => rfl) ?_
      refine g_getA 17 rfl rfl (Tr_l kx0) (Tr_r3 kx0) ?_
      refine g_run 1 18 [some (.ref x0), some (.ref x1), some (.int x2), d3] [.ref x1, .ref (x0 + 11)] (fun _ => rfl) ?_
      obtain ⟨q2, eq2, e⟩ := g_bd e
      refine g_cVv 21 rfl rfl rfl rfl rfl (Pk_l (Tr_k3 kx0)) (Pk_copyFrom_s (Tr_k3 kx0) kx1 eq2) ?_
      refine g_run 1 22 [some (.ref x0), some (.ref x1), some (.int x2), d3] [.ref x0] (fun _ => rfl) ?_
      refine g_getA 25 rfl rfl (Tr_l kx0) (Tr_r3 kx0) ?_
      refine g_getA 28 rfl rfl (Pk_l (Tr_k3 kx0)) (Pk_r12 (Tr_k3 kx0)) ?_
      refine g_run 1 29 [some (.ref x0), some (.ref x1), some (.int x2), d3] [.int x2, .ref ((x0 + 11) + 11)] (fun _ => rfl) ?_
      obtain ⟨q3, eq3, e⟩ := g_bd e
      refine g_cVv 32 rfl rfl rfl rfl rfl (Rw_l (Pk_k12 (Tr_k3 kx0))) (Rw_remove_s (Pk_k12 (Tr_k3 kx0)) eq3) ?_
      refine g_run 1 33 [some (.ref x0), some (.ref x1), some (.int x2), d3] [.ref x0] (fun _ => rfl) ?_
      obtain ⟨q4, eq4, e⟩ := g_bd e
      refine g_cV 36 rfl rfl rfl rfl rfl (Tr_l kx0) (Tr_harmNow_s kx0 eq4) ?_
      refine g_run 2 38 [some (.ref x0), some (.ref x1), some (.int x2), some (.int q4.1)] [.int x2] (fun _ => rfl) ?_
      obtain ⟨q9, eq9, e⟩ := g_bd e
      have hjq9 : ∀ (_ : True), Ev X 107 56 [some (.ref x0), some (.ref x1), some (.int x2), some (.int q4.1)] [] (l, r, q9, j) R := by
        intro _
        refine g_run 2 2 [some (.ref x0), some (.ref x1), some (.int (x2 + (1 : Int32))), some (.int q4.1)] [] (fun _ => rfl) ?_
        exact ih _ _ _ e
      replace e := eq9
      refine g_if (p1 := 41) (L1 := [some (.ref x0), some (.ref x1), some (.int x2), some (.int q4.1)]) (S1 := []) (s1 := (l, r, q4.2, j)) (p2 := 50) (L2 := [some (.ref x0), some (.ref x1), some (.int x2), some (.int q4.1)]) (S2 := []) (s2 := (l, r, q4.2, j)) rfl (fun _ _ => rfl) e (fun c5 e => ?_) (fun c5 e => ?_)
      · refine g_run 3 44 [some (.ref x0), some (.ref x1), some (.int x2), some (.int q4.1)] [.int q4.1, .int x2, .ref x0] (fun _ => rfl) ?_
        obtain ⟨q7, eq7, e⟩ := g_bd e
        refine g_cVv 47 rfl rfl rfl rfl rfl (Tr_l kx0) (Tr_first_s kx0 eq7) ?_
        refine g_run 1 56 [some (.ref x0), some (.ref x1), some (.int x2), some (.int q4.1)] [] (fun _ => rfl) ?_
        cases e
        exact hjq9 trivial
      · refine g_run 3 53 [some (.ref x0), some (.ref x1), some (.int x2), some (.int q4.1)] [.int q4.1, .int x2, .ref x0] (fun _ => rfl) ?_
        obtain ⟨q8, eq8, e⟩ := g_bd e
        refine g_cVv 56 rfl rfl rfl rfl rfl (Tr_l kx0) (Tr_less_s kx0 eq8) ?_
        cases e
        exact hjq9 trivial
theorem Tr_leaveOneOut_s {X : Nat × (Nat → Int32)} {l : List (Nat × Nat)} {r : am_R} {h : am_F} {j : am_J} {a : Nat} {x1 : Nat} (ka : Tr_K l r a) (kx1 : Pk_K l r x1) {q : am_F} (e : Tr_leaveOneOut l r a x1 h = some q) : Call X 107 [.ref a, .ref x1] (l, r, h, j) (none, (l, r, q, j)) := by
  unfold Tr_leaveOneOut at e
  refine ⟨Nat.le_of_ble_eq_true rfl, ?_⟩
  show Ev X 107 0 [some (.ref a), some (.ref x1), none, none] [] (l, r, h, j) _
  refine g_run 2 2 [some (.ref a), some (.ref x1), some (.int (0 : Int32)), none] [] (fun _ => rfl) ?_
  obtain ⟨q10, eq10, e⟩ := g_bd e
  refine Tr_leaveOneOut_l2_s ka kx1 (fun d11 y12 => ?_) _ _ _ _ eq10
  cases e
  exact g_ret rfl (fun _ _ => rfl)
def Tr_findWorst_l47 (l : List (Nat × Nat)) (r : am_R) (x0 : Nat) (x1 : Nat) : Nat → Int32 → am_F → Option (am_F)
  | 0, _, _ => none
  | n + 1, x2, h =>
    if (h (x1 + 11) 3) ≤ x2 then
      some h
    else
      (Rw_get l r ((x0 + 1) + 1) x2 (2 : Int32) h).bind fun q7 =>
      (Rw_get l r ((x0 + 1) + 1) x2 (3 : Int32) h).bind fun q8 =>
      (Tr_more x0 x2 (q7 + q8) h).bind fun q9 =>
      Tr_findWorst_l47 l r x0 x1 n (x2 + (1 : Int32)) q9
def Tr_findWorst (l : List (Nat × Nat)) (r : am_R) (a : Nat) (x1 : Nat) (h : am_F) : Option (am_F) :=
  (Dy_forget (a + 1) h).bind fun q1 =>
  (Dy_goThrough l r (a + 1) x1 q1).bind fun q2 =>
  (Rw_get l r ((a + 1) + 1) (0 : Int32) (2 : Int32) q2).bind fun q3 =>
  (Rw_get l r ((a + 1) + 1) (0 : Int32) (3 : Int32) q2).bind fun q4 =>
  (Tr_first a (0 : Int32) (q3 + q4) q2).bind fun q5 =>
  (Tr_findWorst_l47 l r a x1 g_fu (1 : Int32) q5).bind fun q10 =>
  some q10
theorem Tr_findWorst_l47_s {X : Nat × (Nat → Int32)} {l : List (Nat × Nat)} {r : am_R} {x0 : Nat} {x1 : Nat} {j : am_J} {q : am_F} {R : Option Value × am_S} (kx0 : Tr_K l r x0) (kx1 : Pk_K l r x1) (hx : ∀ (y2 : Int32) , Ev X 108 94 [some (.ref x0), some (.ref x1), some (.int y2)] [] (l, r, q, j) R) : ∀ (n : Nat) (x2 : Int32) (h : am_F), Tr_findWorst_l47 l r x0 x1 n x2 h = some q → Ev X 108 47 [some (.ref x0), some (.ref x1), some (.int x2)] [] (l, r, h, j) R := by
  intro n
  induction n with
  | zero => intro x2 h e; cases e
  | succ n ih =>
    intro x2 h e
    unfold Tr_findWorst_l47 at e
    refine g_run 2 49 [some (.ref x0), some (.ref x1), some (.int x2)] [.ref x1, .int x2] (fun _ => rfl) ?_
    refine g_getA 52 rfl rfl (Pk_l kx1) (Pk_r12 kx1) ?_
    refine g_getI 55 rfl rfl (Rw_l (Pk_k12 kx1)) ?_
    refine g_if (p1 := 94) (L1 := [some (.ref x0), some (.ref x1), some (.int x2)]) (S1 := []) (s1 := (l, r, h, j)) (p2 := 58) (L2 := [some (.ref x0), some (.ref x1), some (.int x2)]) (S2 := []) (s2 := (l, r, h, j)) rfl (fun _ _ => rfl) e (fun c6 e => ?_) (fun c6 e => ?_)
    · cases e
      exact hx _
    · refine g_run 3 61 [some (.ref x0), some (.ref x1), some (.int x2)] [.ref x0, .int x2, .ref x0] (fun _ => rfl) ?_
      refine g_getA 64 rfl rfl (Tr_l kx0) (Tr_r2 kx0) ?_
      refine g_getA 67 rfl rfl (Dy_l (Tr_k2 kx0)) (Dy_r3 (Tr_k2 kx0)) ?_
      refine g_run 2 69 [some (.ref x0), some (.ref x1), some (.int x2)] [.int (2 : Int32), .int x2, .ref ((x0 + 1) + 1), .int x2, .ref x0] (fun _ => rfl) ?_
      obtain ⟨q7, eq7, e⟩ := g_bd e
      refine g_cV 72 rfl rfl rfl rfl rfl (Rw_l (Dy_k3 (Tr_k2 kx0))) (Rw_get_s (Dy_k3 (Tr_k2 kx0)) eq7) ?_
      refine g_run 1 73 [some (.ref x0), some (.ref x1), some (.int x2)] [.ref x0, .int q7, .int x2, .ref x0] (fun _ => rfl) ?_
      refine g_getA 76 rfl rfl (Tr_l kx0) (Tr_r2 kx0) ?_
      refine g_getA 79 rfl rfl (Dy_l (Tr_k2 kx0)) (Dy_r3 (Tr_k2 kx0)) ?_
      refine g_run 2 81 [some (.ref x0), some (.ref x1), some (.int x2)] [.int (3 : Int32), .int x2, .ref ((x0 + 1) + 1), .int q7, .int x2, .ref x0] (fun _ => rfl) ?_
      obtain ⟨q8, eq8, e⟩ := g_bd e
      refine g_cV 84 rfl rfl rfl rfl rfl (Rw_l (Dy_k3 (Tr_k2 kx0))) (Rw_get_s (Dy_k3 (Tr_k2 kx0)) eq8) ?_
      refine g_run 1 85 [some (.ref x0), some (.ref x1), some (.int x2)] [.int (q7 + q8), .int x2, .ref x0] (fun _ => rfl) ?_
      obtain ⟨q9, eq9, e⟩ := g_bd e
      refine g_cVv 88 rfl rfl rfl rfl rfl (Tr_l kx0) (Tr_more_s kx0 eq9) ?_
      refine g_run 2 47 [some (.ref x0), some (.ref x1), some (.int (x2 + (1 : Int32)))] [] (fun _ => rfl) ?_
      exact ih _ _ e
theorem Tr_findWorst_s {X : Nat × (Nat → Int32)} {l : List (Nat × Nat)} {r : am_R} {h : am_F} {j : am_J} {a : Nat} {x1 : Nat} (ka : Tr_K l r a) (kx1 : Pk_K l r x1) {q : am_F} (e : Tr_findWorst l r a x1 h = some q) : Call X 108 [.ref a, .ref x1] (l, r, h, j) (none, (l, r, q, j)) := by
  unfold Tr_findWorst at e
  refine ⟨Nat.le_of_ble_eq_true rfl, ?_⟩
  show Ev X 108 0 [some (.ref a), some (.ref x1), none] [] (l, r, h, j) _
  refine g_run 1 1 [some (.ref a), some (.ref x1), none] [.ref a] (fun _ => rfl) ?_
  refine g_getA 4 rfl rfl (Tr_l ka) (Tr_r2 ka) ?_
  obtain ⟨q1, eq1, e⟩ := g_bd e
  refine g_cVv 7 rfl rfl rfl rfl rfl (Dy_l (Tr_k2 ka)) (Dy_forget_s (Tr_k2 ka) eq1) ?_
  refine g_run 1 8 [some (.ref a), some (.ref x1), none] [.ref a] (fun _ => rfl) ?_
  refine g_getA 11 rfl rfl (Tr_l ka) (Tr_r2 ka) ?_
  refine g_run 1 12 [some (.ref a), some (.ref x1), none] [.ref x1, .ref (a + 1)] (fun _ => rfl) ?_
  obtain ⟨q2, eq2, e⟩ := g_bd e
  refine g_cVv 15 rfl rfl rfl rfl rfl (Dy_l (Tr_k2 ka)) (Dy_goThrough_s (Tr_k2 ka) kx1 eq2) ?_
  refine g_run 3 18 [some (.ref a), some (.ref x1), none] [.ref a, .int (0 : Int32), .ref a] (fun _ => rfl) ?_
  refine g_getA 21 rfl rfl (Tr_l ka) (Tr_r2 ka) ?_
  refine g_getA 24 rfl rfl (Dy_l (Tr_k2 ka)) (Dy_r3 (Tr_k2 ka)) ?_
  refine g_run 2 26 [some (.ref a), some (.ref x1), none] [.int (2 : Int32), .int (0 : Int32), .ref ((a + 1) + 1), .int (0 : Int32), .ref a] (fun _ => rfl) ?_
  obtain ⟨q3, eq3, e⟩ := g_bd e
  refine g_cV 29 rfl rfl rfl rfl rfl (Rw_l (Dy_k3 (Tr_k2 ka))) (Rw_get_s (Dy_k3 (Tr_k2 ka)) eq3) ?_
  refine g_run 1 30 [some (.ref a), some (.ref x1), none] [.ref a, .int q3, .int (0 : Int32), .ref a] (fun _ => rfl) ?_
  refine g_getA 33 rfl rfl (Tr_l ka) (Tr_r2 ka) ?_
  refine g_getA 36 rfl rfl (Dy_l (Tr_k2 ka)) (Dy_r3 (Tr_k2 ka)) ?_
  refine g_run 2 38 [some (.ref a), some (.ref x1), none] [.int (3 : Int32), .int (0 : Int32), .ref ((a + 1) + 1), .int q3, .int (0 : Int32), .ref a] (fun _ => rfl) ?_
  obtain ⟨q4, eq4, e⟩ := g_bd e
  refine g_cV 41 rfl rfl rfl rfl rfl (Rw_l (Dy_k3 (Tr_k2 ka))) (Rw_get_s (Dy_k3 (Tr_k2 ka)) eq4) ?_
  refine g_run 1 42 [some (.ref a), some (.ref x1), none] [.int (q3 + q4), .int (0 : Int32), .ref a] (fun _ => rfl) ?_
  obtain ⟨q5, eq5, e⟩ := g_bd e
  refine g_cVv 45 rfl rfl rfl rfl rfl (Tr_l ka) (Tr_first_s ka eq5) ?_
  refine g_run 2 47 [some (.ref a), some (.ref x1), some (.int (1 : Int32))] [] (fun _ => rfl) ?_
  obtain ⟨q10, eq10, e⟩ := g_bd e
  refine Tr_findWorst_l47_s ka kx1 (fun y11 => ?_) _ _ _ eq10
  cases e
  exact g_ret rfl (fun _ _ => rfl)
def Tr_paintAnew_l22 (l : List (Nat × Nat)) (r : am_R) (x0 : Nat) (x2 : Int32) : Nat → Int32 → am_F → Option (am_F)
  | 0, _, _ => none
  | n + 1, x3, h =>
    if (48 : Int32) ≤ x3 then
      some h
    else
      (g_ix x2 6).bind fun k4 =>
      (Tr_harmNow l r x0 (am_up h ((x0 + 11) + 4) k4 x3)).bind fun q5 =>
      (if x3 = 0 then
          (Tr_first x0 x3 q5.1 q5.2).bind fun q8 =>
          some q8
        else
          (Tr_less x0 x3 q5.1 q5.2).bind fun q9 =>
          some q9 : Option (am_F)).bind fun q10 =>
      Tr_paintAnew_l22 l r x0 x2 n (x3 + (1 : Int32)) q10
def Tr_paintAnew (l : List (Nat × Nat)) (r : am_R) (a : Nat) (x1 : Nat) (x2 : Int32) (h : am_F) : Option (am_F) :=
  (Pk_copyFrom l r (a + 11) x1 h).bind fun q1 =>
  if (Pk_hasBench (a + 11) x2 q1) = 0 then
    some q1
  else
    (Tr_paintAnew_l22 l r a x2 g_fu (0 : Int32) q1).bind fun q11 =>
    some q11
theorem Tr_paintAnew_l22_s {X : Nat × (Nat → Int32)} {l : List (Nat × Nat)} {r : am_R} {x0 : Nat} {x2 : Int32} {y1 : Nat} {j : am_J} {q : am_F} {R : Option Value × am_S} (kx0 : Tr_K l r x0) (hx : ∀ (d4 : Option Value) (y3 : Int32) , Ev X 109 71 [some (.ref x0), some (.ref y1), some (.int x2), some (.int y3), d4] [] (l, r, q, j) R) : ∀ (n : Nat) (x3 : Int32) (h : am_F) (d4 : Option Value), Tr_paintAnew_l22 l r x0 x2 n x3 h = some q → Ev X 109 22 [some (.ref x0), some (.ref y1), some (.int x2), some (.int x3), d4] [] (l, r, h, j) R := by
  intro n
  induction n with
  | zero => intro x3 h d4 e; cases e
  | succ n ih =>
    intro x3 h d4 e
    unfold Tr_paintAnew_l22 at e
    refine g_run 2 25 [some (.ref x0), some (.ref y1), some (.int x2), some (.int x3), d4] [.int (48 : Int32), .int x3] (fun _ => rfl) ?_
    refine g_if (p1 := 71) (L1 := [some (.ref x0), some (.ref y1), some (.int x2), some (.int x3), d4]) (S1 := []) (s1 := (l, r, h, j)) (p2 := 28) (L2 := [some (.ref x0), some (.ref y1), some (.int x2), some (.int x3), d4]) (S2 := []) (s2 := (l, r, h, j)) rfl (fun _ _ => rfl) e (fun c3 e => ?_) (fun c3 e => ?_)
    · cases e
      exact hx _ _
    · refine g_run 1 29 [some (.ref x0), some (.ref y1), some (.int x2), some (.int x3), d4] [.ref x0] (fun _ => rfl) ?_
      refine g_getA 32 rfl rfl (Tr_l kx0) (Tr_r3 kx0) ?_
      refine g_getA 35 rfl rfl (Pk_l (Tr_k3 kx0)) (Pk_r7 (Tr_k3 kx0)) ?_
      refine g_run 2 37 [some (.ref x0), some (.ref y1), some (.int x2), some (.int x3), d4] [.int x3, .int x2, .ref ((x0 + 11) + 4)] (fun _ => rfl) ?_
      obtain ⟨k4, ek4, e⟩ := g_bd e
      refine g_iast 38 rfl rfl (Pk_k7 (Tr_k3 kx0)) ek4 ?_
      refine g_run 1 39 [some (.ref x0), some (.ref y1), some (.int x2), some (.int x3), d4] [.ref x0] (fun _ => rfl) ?_
      obtain ⟨q5, eq5, e⟩ := g_bd e
      refine g_cV 42 rfl rfl rfl rfl rfl (Tr_l kx0) (Tr_harmNow_s kx0 eq5) ?_
      refine g_run 2 45 [some (.ref x0), some (.ref y1), some (.int x2), some (.int x3), some (.int q5.1)] [.int x3] (fun _ => rfl) ?_
      obtain ⟨q10, eq10, e⟩ := g_bd e
      have hjq10 : ∀ (_ : True), Ev X 109 65 [some (.ref x0), some (.ref y1), some (.int x2), some (.int x3), some (.int q5.1)] [] (l, r, q10, j) R := by
        intro _
        refine g_run 2 22 [some (.ref x0), some (.ref y1), some (.int x2), some (.int (x3 + (1 : Int32))), some (.int q5.1)] [] (fun _ => rfl) ?_
        exact ih _ _ _ e
      replace e := eq10
      refine g_if (p1 := 48) (L1 := [some (.ref x0), some (.ref y1), some (.int x2), some (.int x3), some (.int q5.1)]) (S1 := []) (s1 := (l, r, q5.2, j)) (p2 := 58) (L2 := [some (.ref x0), some (.ref y1), some (.int x2), some (.int x3), some (.int q5.1)]) (S2 := []) (s2 := (l, r, q5.2, j)) rfl (fun _ _ => rfl) e (fun c6 e => ?_) (fun c6 e => ?_)
      · refine g_run 3 52 [some (.ref x0), some (.ref y1), some (.int x2), some (.int x3), some (.int q5.1)] [.int q5.1, .int x3, .ref x0] (fun _ => rfl) ?_
        obtain ⟨q8, eq8, e⟩ := g_bd e
        refine g_cVv 55 rfl rfl rfl rfl rfl (Tr_l kx0) (Tr_first_s kx0 eq8) ?_
        refine g_run 1 65 [some (.ref x0), some (.ref y1), some (.int x2), some (.int x3), some (.int q5.1)] [] (fun _ => rfl) ?_
        cases e
        exact hjq10 trivial
      · refine g_run 3 62 [some (.ref x0), some (.ref y1), some (.int x2), some (.int x3), some (.int q5.1)] [.int q5.1, .int x3, .ref x0] (fun _ => rfl) ?_
        obtain ⟨q9, eq9, e⟩ := g_bd e
        refine g_cVv 65 rfl rfl rfl rfl rfl (Tr_l kx0) (Tr_less_s kx0 eq9) ?_
        cases e
        exact hjq10 trivial
theorem Tr_paintAnew_s {X : Nat × (Nat → Int32)} {l : List (Nat × Nat)} {r : am_R} {h : am_F} {j : am_J} {a : Nat} {x1 : Nat} {x2 : Int32} (ka : Tr_K l r a) (kx1 : Pk_K l r x1) {q : am_F} (e : Tr_paintAnew l r a x1 x2 h = some q) : Call X 109 [.ref a, .ref x1, .int x2] (l, r, h, j) (none, (l, r, q, j)) := by
  unfold Tr_paintAnew at e
  refine ⟨Nat.le_of_ble_eq_true rfl, ?_⟩
  show Ev X 109 0 [some (.ref a), some (.ref x1), some (.int x2), none, none] [] (l, r, h, j) _
  refine g_run 1 1 [some (.ref a), some (.ref x1), some (.int x2), none, none] [.ref a] (fun _ => rfl) ?_
  refine g_getA 4 rfl rfl (Tr_l ka) (Tr_r3 ka) ?_
  refine g_run 1 5 [some (.ref a), some (.ref x1), some (.int x2), none, none] [.ref x1, .ref (a + 11)] (fun _ => rfl) ?_
  obtain ⟨q1, eq1, e⟩ := g_bd e
  refine g_cVv 8 rfl rfl rfl rfl rfl (Pk_l (Tr_k3 ka)) (Pk_copyFrom_s (Tr_k3 ka) kx1 eq1) ?_
  refine g_run 1 9 [some (.ref a), some (.ref x1), some (.int x2), none, none] [.ref a] (fun _ => rfl) ?_
  refine g_getA 12 rfl rfl (Tr_l ka) (Tr_r3 ka) ?_
  refine g_run 1 13 [some (.ref a), some (.ref x1), some (.int x2), none, none] [.int x2, .ref (a + 11)] (fun _ => rfl) ?_
  refine g_cV 16 rfl rfl rfl rfl rfl (Pk_l (Tr_k3 ka)) (Pk_hasBench_s (Tr_k3 ka)) ?_
  refine g_if (p1 := 19) (L1 := [some (.ref a), some (.ref x1), some (.int x2), none, none]) (S1 := []) (s1 := (l, r, q1, j)) (p2 := 20) (L2 := [some (.ref a), some (.ref x1), some (.int x2), none, none]) (S2 := []) (s2 := (l, r, q1, j)) rfl (fun _ _ => rfl) e (fun c2 e => ?_) (fun c2 e => ?_)
  · cases e
    exact g_ret rfl (fun _ _ => rfl)
  · refine g_run 2 22 [some (.ref a), some (.ref x1), some (.int x2), some (.int (0 : Int32)), none] [] (fun _ => rfl) ?_
    obtain ⟨q11, eq11, e⟩ := g_bd e
    refine Tr_paintAnew_l22_s ka (fun d12 y13 => ?_) _ _ _ _ eq11
    cases e
    exact g_ret rfl (fun _ _ => rfl)
