/-! methods as functions, and their runs -/
def Wp_act (l : List (Nat × Nat)) (r : am_R) (a : Nat) (x1 : Int32) (x2 : Int32) (x3 : Int32) (x4 : Int32) (x5 : Int32) (x6 : Int32) (h : am_F) : Option (Int32 × am_F × am_R) :=
  (Tl_parkAt l r (a + 1) x1 h).bind fun q1 =>
  (Wp_findFits l r a x1 x2 x3 h).bind fun q2 =>
  if q2.1 = 0 then
    some ((-1000000 : Int32), q2.2.1, q2.2.2)
  else
    g_on q1 (
      some ((-1000000 : Int32), q2.2.1, q2.2.2)) (fun p5 =>
      if (q2.2.1 (a + 100) 0) < (1 : Int32) then
        some ((-1000000 : Int32), q2.2.1, q2.2.2)
      else
        if (Wp_isHour x4) = 0 then
          some ((-1000000 : Int32), q2.2.1, q2.2.2)
        else
          if x5 < 0 then
            some ((-1000000 : Int32), q2.2.1, q2.2.2)
          else
            if (q2.2.1 (p5 + 11) 3) ≤ x5 then
              some ((-1000000 : Int32), q2.2.1, q2.2.2)
            else
              if x6 < 0 then
                some ((-1000000 : Int32), q2.2.1, q2.2.2)
              else
                if x6 ≤ (5 : Int32) then
                  (Fi_weighStages l q2.2.2 (a + 100) x4 q2.2.1).bind fun q12 =>
                  if x6 < (3 : Int32) then
                    (Fi_bestAct l q2.2.2 (a + 100) (p5 + 11) x5 q12).bind fun q14 =>
                    if x6 = 0 then
                      some (q14, q12, q2.2.2)
                    else
                      (Fi_worthOf l q2.2.2 (a + 100) q14 (p5 + 11) x5 q12).bind fun q16 =>
                      (if x6 = (2 : Int32) then
                          some (1 : Int32)
                        else
                          some (0 : Int32) : Option (Int32)).bind fun q19 =>
                      (Wp_inLeastTerms q16 (q12 (a + 100) 0) q19).bind fun q20 =>
                      some (q20, q12, q2.2.2)
                  else
                    (Fi_worthOf l q2.2.2 (a + 100) (x6 - (3 : Int32)) (p5 + 11) x5 q12).bind fun q21 =>
                    some (q21, q12, q2.2.2)
                else
                  some ((-1000000 : Int32), q2.2.1, q2.2.2))
theorem Wp_act_s {X : Nat × (Nat → Int32)} {l : List (Nat × Nat)} {r : am_R} {h : am_F} {j : am_J} {a : Nat} {x1 : Int32} {x2 : Int32} {x3 : Int32} {x4 : Int32} {x5 : Int32} {x6 : Int32} (ka : Wp_K l r a) {q : Int32 × am_F × am_R} (e : Wp_act l r a x1 x2 x3 x4 x5 x6 h = some q) : Call X 128 [.ref a, .int x1, .int x2, .int x3, .int x4, .int x5, .int x6] (l, r, h, j) (some (.int q.1), (l, q.2.2, q.2.1, j)) := by
  unfold Wp_act at e
  refine ⟨Nat.le_of_ble_eq_true rfl, ?_⟩
  show Ev X 128 0 [some (.ref a), some (.int x1), some (.int x2), some (.int x3), some (.int x4), some (.int x5), some (.int x6), none, none] [] (l, r, h, j) _
  refine g_run 1 1 [some (.ref a), some (.int x1), some (.int x2), some (.int x3), some (.int x4), some (.int x5), some (.int x6), none, none] [.ref a] (fun _ => rfl) ?_
  refine g_getA 4 rfl rfl (Wp_l ka) (Wp_r0 ka) ?_
  refine g_run 1 5 [some (.ref a), some (.int x1), some (.int x2), some (.int x3), some (.int x4), some (.int x5), some (.int x6), none, none] [.int x1, .ref (a + 1)] (fun _ => rfl) ?_
  obtain ⟨q1, eq1, e⟩ := g_bd e
  refine g_cV 8 rfl rfl rfl rfl rfl (Tl_l (Wp_k0 ka)) (Tl_parkAt_s (Wp_k0 ka) eq1) ?_
  refine g_run 1 10 [some (.ref a), some (.int x1), some (.int x2), some (.int x3), some (.int x4), some (.int x5), some (.int x6), some (va_rf q1), none] [] (fun _ => by generalize q1 = o90; cases o90 <;> rfl) ?_
  refine g_run 4 14 [some (.ref a), some (.int x1), some (.int x2), some (.int x3), some (.int x4), some (.int x5), some (.int x6), some (va_rf q1), none] [.int x3, .int x2, .int x1, .ref a] (fun _ => rfl) ?_
  obtain ⟨q2, eq2, e⟩ := g_bd e
  refine g_cV 17 rfl rfl rfl rfl rfl (Wp_l ka) (Wp_findFits_s ka eq2) ?_
  have kp3 := Wp_findFits_kp ka eq2
  refine g_if (p1 := 44) (L1 := [some (.ref a), some (.int x1), some (.int x2), some (.int x3), some (.int x4), some (.int x5), some (.int x6), some (va_rf q1), none]) (S1 := []) (s1 := (l, q2.2.2, q2.2.1, j)) (p2 := 20) (L2 := [some (.ref a), some (.int x1), some (.int x2), some (.int x3), some (.int x4), some (.int x5), some (.int x6), some (va_rf q1), none]) (S2 := []) (s2 := (l, q2.2.2, q2.2.1, j)) rfl (fun _ _ => rfl) e (fun c4 e => ?_) (fun c4 e => ?_)
  · refine g_run 1 46 [some (.ref a), some (.int x1), some (.int x2), some (.int x3), some (.int x4), some (.int x5), some (.int x6), some (va_rf q1), none] [.int (-1000000 : Int32)] (fun _ => rfl) ?_
    cases e
    exact g_ret rfl (fun _ _ => rfl)
  · refine g_run 1 22 [some (.ref a), some (.int x1), some (.int x2), some (.int x3), some (.int x4), some (.int x5), some (.int x6), some (va_rf q1), none] [va_rf q1] (fun _ => by generalize q1 = o90; cases o90 <;> rfl) ?_
    cases q1 with
    | none =>
      replace e := g_onN e
      refine g_run 1 44 [some (.ref a), some (.int x1), some (.int x2), some (.int x3), some (.int x4), some (.int x5), some (.int x6), some (.null), none] [] (fun _ => rfl) ?_
      refine g_run 1 46 [some (.ref a), some (.int x1), some (.int x2), some (.int x3), some (.int x4), some (.int x5), some (.int x6), some (.null), none] [.int (-1000000 : Int32)] (fun _ => rfl) ?_
      cases e
      exact g_ret rfl (fun _ _ => rfl)
    | some p5 =>
      replace e := g_onS e
      have kp5 := g_kp_Pk kp3 (Tl_parkAt_K (Wp_k0 ka) eq1)
      refine g_run 1 25 [some (.ref a), some (.int x1), some (.int x2), some (.int x3), some (.int x4), some (.int x5), some (.int x6), some (.ref p5), none] [] (fun _ => rfl) ?_
      refine g_run 1 26 [some (.ref a), some (.int x1), some (.int x2), some (.int x3), some (.int x4), some (.int x5), some (.int x6), some (.ref p5), none] [.ref a] (fun _ => rfl) ?_
      refine g_getA 29 rfl rfl (Wp_l (g_kp_Wp kp3 ka)) (Wp_r5 (g_kp_Wp kp3 ka)) ?_
      refine g_getI 32 rfl rfl (Fi_l (Wp_k5 (g_kp_Wp kp3 ka))) ?_
      refine g_run 1 33 [some (.ref a), some (.int x1), some (.int x2), some (.int x3), some (.int x4), some (.int x5), some (.int x6), some (.ref p5), none] [.int (1 : Int32), .int (q2.2.1 (a + 100) 0)] (fun _ => rfl) ?_
      refine g_if (p1 := 44) (L1 := [some (.ref a), some (.int x1), some (.int x2), some (.int x3), some (.int x4), some (.int x5), some (.int x6), some (.ref p5), none]) (S1 := []) (s1 := (l, q2.2.2, q2.2.1, j)) (p2 := 36) (L2 := [some (.ref a), some (.int x1), some (.int x2), some (.int x3), some (.int x4), some (.int x5), some (.int x6), some (.ref p5), none]) (S2 := []) (s2 := (l, q2.2.2, q2.2.1, j)) rfl (fun _ _ => rfl) e (fun c6 e => ?_) (fun c6 e => ?_)
      · refine g_run 1 46 [some (.ref a), some (.int x1), some (.int x2), some (.int x3), some (.int x4), some (.int x5), some (.int x6), some (.ref p5), none] [.int (-1000000 : Int32)] (fun _ => rfl) ?_
        cases e
        exact g_ret rfl (fun _ _ => rfl)
      · refine g_run 1 38 [some (.ref a), some (.int x1), some (.int x2), some (.int x3), some (.int x4), some (.int x5), some (.int x6), some (.ref p5), none] [.int x4] (fun _ => rfl) ?_
        refine g_cS 41 rfl rfl (by decide) rfl rfl rfl Wp_isHour_s ?_
        refine g_if (p1 := 44) (L1 := [some (.ref a), some (.int x1), some (.int x2), some (.int x3), some (.int x4), some (.int x5), some (.int x6), some (.ref p5), none]) (S1 := []) (s1 := (l, q2.2.2, q2.2.1, j)) (p2 := 47) (L2 := [some (.ref a), some (.int x1), some (.int x2), some (.int x3), some (.int x4), some (.int x5), some (.int x6), some (.ref p5), none]) (S2 := []) (s2 := (l, q2.2.2, q2.2.1, j)) rfl (fun _ _ => rfl) e (fun c7 e => ?_) (fun c7 e => ?_)
        · refine g_run 1 46 [some (.ref a), some (.int x1), some (.int x2), some (.int x3), some (.int x4), some (.int x5), some (.int x6), some (.ref p5), none] [.int (-1000000 : Int32)] (fun _ => rfl) ?_
          cases e
          exact g_ret rfl (fun _ _ => rfl)
        · refine g_run 1 49 [some (.ref a), some (.int x1), some (.int x2), some (.int x3), some (.int x4), some (.int x5), some (.int x6), some (.ref p5), none] [.int x5] (fun _ => rfl) ?_
          refine g_if (p1 := 76) (L1 := [some (.ref a), some (.int x1), some (.int x2), some (.int x3), some (.int x4), some (.int x5), some (.int x6), some (.ref p5), none]) (S1 := []) (s1 := (l, q2.2.2, q2.2.1, j)) (p2 := 52) (L2 := [some (.ref a), some (.int x1), some (.int x2), some (.int x3), some (.int x4), some (.int x5), some (.int x6), some (.ref p5), none]) (S2 := []) (s2 := (l, q2.2.2, q2.2.1, j)) rfl (fun _ _ => rfl) e (fun c8 e => ?_) (fun c8 e => ?_)
          · refine g_run 1 78 [some (.ref a), some (.int x1), some (.int x2), some (.int x3), some (.int x4), some (.int x5), some (.int x6), some (.ref p5), none] [.int (-1000000 : Int32)] (fun _ => rfl) ?_
            cases e
            exact g_ret rfl (fun _ _ => rfl)
          · refine g_run 2 56 [some (.ref a), some (.int x1), some (.int x2), some (.int x3), some (.int x4), some (.int x5), some (.int x6), some (.ref p5), none] [.ref p5, .int x5] (fun _ => rfl) ?_
            refine g_getA 59 rfl rfl (Pk_l kp5) (Pk_r12 kp5) ?_
            refine g_getI 62 rfl rfl (Rw_l (Pk_k12 kp5)) ?_
            refine g_if (p1 := 76) (L1 := [some (.ref a), some (.int x1), some (.int x2), some (.int x3), some (.int x4), some (.int x5), some (.int x6), some (.ref p5), none]) (S1 := []) (s1 := (l, q2.2.2, q2.2.1, j)) (p2 := 65) (L2 := [some (.ref a), some (.int x1), some (.int x2), some (.int x3), some (.int x4), some (.int x5), some (.int x6), some (.ref p5), none]) (S2 := []) (s2 := (l, q2.2.2, q2.2.1, j)) rfl (fun _ _ => rfl) e (fun c9 e => ?_) (fun c9 e => ?_)
            · refine g_run 1 78 [some (.ref a), some (.int x1), some (.int x2), some (.int x3), some (.int x4), some (.int x5), some (.int x6), some (.ref p5), none] [.int (-1000000 : Int32)] (fun _ => rfl) ?_
              cases e
              exact g_ret rfl (fun _ _ => rfl)
            · refine g_run 1 67 [some (.ref a), some (.int x1), some (.int x2), some (.int x3), some (.int x4), some (.int x5), some (.int x6), some (.ref p5), none] [.int x6] (fun _ => rfl) ?_
              refine g_if (p1 := 76) (L1 := [some (.ref a), some (.int x1), some (.int x2), some (.int x3), some (.int x4), some (.int x5), some (.int x6), some (.ref p5), none]) (S1 := []) (s1 := (l, q2.2.2, q2.2.1, j)) (p2 := 70) (L2 := [some (.ref a), some (.int x1), some (.int x2), some (.int x3), some (.int x4), some (.int x5), some (.int x6), some (.ref p5), none]) (S2 := []) (s2 := (l, q2.2.2, q2.2.1, j)) rfl (fun _ _ => rfl) e (fun c10 e => ?_) (fun c10 e => ?_)
              · refine g_run 1 78 [some (.ref a), some (.int x1), some (.int x2), some (.int x3), some (.int x4), some (.int x5), some (.int x6), some (.ref p5), none] [.int (-1000000 : Int32)] (fun _ => rfl) ?_
                cases e
                exact g_ret rfl (fun _ _ => rfl)
              · refine g_run 2 73 [some (.ref a), some (.int x1), some (.int x2), some (.int x3), some (.int x4), some (.int x5), some (.int x6), some (.ref p5), none] [.int (5 : Int32), .int x6] (fun _ => rfl) ?_
                refine g_if (p1 := 79) (L1 := [some (.ref a), some (.int x1), some (.int x2), some (.int x3), some (.int x4), some (.int x5), some (.int x6), some (.ref p5), none]) (S1 := []) (s1 := (l, q2.2.2, q2.2.1, j)) (p2 := 76) (L2 := [some (.ref a), some (.int x1), some (.int x2), some (.int x3), some (.int x4), some (.int x5), some (.int x6), some (.ref p5), none]) (S2 := []) (s2 := (l, q2.2.2, q2.2.1, j)) rfl (fun _ _ => rfl) e (fun c11 e => ?_) (fun c11 e => ?_)
                · refine g_run 1 80 [some (.ref a), some (.int x1), some (.int x2), some (.int x3), some (.int x4), some (.int x5), some (.int x6), some (.ref p5), none] [.ref a] (fun _ => rfl) ?_
                  refine g_getA 83 rfl rfl (Wp_l (g_kp_Wp kp3 ka)) (Wp_r5 (g_kp_Wp kp3 ka)) ?_
                  refine g_run 1 85 [some (.ref a), some (.int x1), some (.int x2), some (.int x3), some (.int x4), some (.int x5), some (.int x6), some (.ref p5), none] [.int x4, .ref (a + 100)] (fun _ => rfl) ?_
                  obtain ⟨q12, eq12, e⟩ := g_bd e
                  refine g_cVv 88 rfl rfl rfl rfl rfl (Fi_l (Wp_k5 (g_kp_Wp kp3 ka))) (Fi_weighStages_s (Wp_k5 (g_kp_Wp kp3 ka)) eq12) ?_
                  refine g_run 2 91 [some (.ref a), some (.int x1), some (.int x2), some (.int x3), some (.int x4), some (.int x5), some (.int x6), some (.ref p5), none] [.int (3 : Int32), .int x6] (fun _ => rfl) ?_
                  refine g_if (p1 := 113) (L1 := [some (.ref a), some (.int x1), some (.int x2), some (.int x3), some (.int x4), some (.int x5), some (.int x6), some (.ref p5), none]) (S1 := []) (s1 := (l, q2.2.2, q12, j)) (p2 := 94) (L2 := [some (.ref a), some (.int x1), some (.int x2), some (.int x3), some (.int x4), some (.int x5), some (.int x6), some (.ref p5), none]) (S2 := []) (s2 := (l, q2.2.2, q12, j)) rfl (fun _ _ => rfl) e (fun c13 e => ?_) (fun c13 e => ?_)
                  · refine g_run 1 114 [some (.ref a), some (.int x1), some (.int x2), some (.int x3), some (.int x4), some (.int x5), some (.int x6), some (.ref p5), none] [.ref a] (fun _ => rfl) ?_
                    refine g_getA 117 rfl rfl (Wp_l (g_kp_Wp kp3 ka)) (Wp_r5 (g_kp_Wp kp3 ka)) ?_
                    refine g_run 1 119 [some (.ref a), some (.int x1), some (.int x2), some (.int x3), some (.int x4), some (.int x5), some (.int x6), some (.ref p5), none] [.ref p5, .ref (a + 100)] (fun _ => rfl) ?_
                    refine g_getA 122 rfl rfl (Pk_l kp5) (Pk_r12 kp5) ?_
                    refine g_run 1 124 [some (.ref a), some (.int x1), some (.int x2), some (.int x3), some (.int x4), some (.int x5), some (.int x6), some (.ref p5), none] [.int x5, .ref (p5 + 11), .ref (a + 100)] (fun _ => rfl) ?_
                    obtain ⟨q14, eq14, e⟩ := g_bd e
                    refine g_cV 127 rfl rfl rfl rfl rfl (Fi_l (Wp_k5 (g_kp_Wp kp3 ka))) (Fi_bestAct_s (Wp_k5 (g_kp_Wp kp3 ka)) (Pk_k12 kp5) eq14) ?_
                    refine g_run 2 131 [some (.ref a), some (.int x1), some (.int x2), some (.int x3), some (.int x4), some (.int x5), some (.int x6), some (.ref p5), some (.int q14)] [.int x6] (fun _ => rfl) ?_
                    refine g_if (p1 := 134) (L1 := [some (.ref a), some (.int x1), some (.int x2), some (.int x3), some (.int x4), some (.int x5), some (.int x6), some (.ref p5), some (.int q14)]) (S1 := []) (s1 := (l, q2.2.2, q12, j)) (p2 := 137) (L2 := [some (.ref a), some (.int x1), some (.int x2), some (.int x3), some (.int x4), some (.int x5), some (.int x6), some (.ref p5), some (.int q14)]) (S2 := []) (s2 := (l, q2.2.2, q12, j)) rfl (fun _ _ => rfl) e (fun c15 e => ?_) (fun c15 e => ?_)
                    · refine g_run 1 136 [some (.ref a), some (.int x1), some (.int x2), some (.int x3), some (.int x4), some (.int x5), some (.int x6), some (.ref p5), some (.int q14)] [.int q14] (fun _ => rfl) ?_
                      cases e
                      exact g_ret rfl (fun _ _ => rfl)
                    · refine g_run 1 138 [some (.ref a), some (.int x1), some (.int x2), some (.int x3), some (.int x4), some (.int x5), some (.int x6), some (.ref p5), some (.int q14)] [.ref a] (fun _ => rfl) ?_
                      refine g_getA 141 rfl rfl (Wp_l (g_kp_Wp kp3 ka)) (Wp_r5 (g_kp_Wp kp3 ka)) ?_
                      refine g_run 2 145 [some (.ref a), some (.int x1), some (.int x2), some (.int x3), some (.int x4), some (.int x5), some (.int x6), some (.ref p5), some (.int q14)] [.ref p5, .int q14, .ref (a + 100)] (fun _ => rfl) ?_
                      refine g_getA 148 rfl rfl (Pk_l kp5) (Pk_r12 kp5) ?_
                      refine g_run 1 150 [some (.ref a), some (.int x1), some (.int x2), some (.int x3), some (.int x4), some (.int x5), some (.int x6), some (.ref p5), some (.int q14)] [.int x5, .ref (p5 + 11), .int q14, .ref (a + 100)] (fun _ => rfl) ?_
                      obtain ⟨q16, eq16, e⟩ := g_bd e
                      refine g_cV 153 rfl rfl rfl rfl rfl (Fi_l (Wp_k5 (g_kp_Wp kp3 ka))) (Fi_worthOf_s (Wp_k5 (g_kp_Wp kp3 ka)) (Pk_k12 kp5) eq16) ?_
                      refine g_run 1 154 [some (.ref a), some (.int x1), some (.int x2), some (.int x3), some (.int x4), some (.int x5), some (.int x6), some (.ref p5), some (.int q14)] [.ref a, .int q16] (fun _ => rfl) ?_
                      refine g_getA 157 rfl rfl (Wp_l (g_kp_Wp kp3 ka)) (Wp_r5 (g_kp_Wp kp3 ka)) ?_
                      refine g_getI 160 rfl rfl (Fi_l (Wp_k5 (g_kp_Wp kp3 ka))) ?_
                      refine g_run 2 163 [some (.ref a), some (.int x1), some (.int x2), some (.int x3), some (.int x4), some (.int x5), some (.int x6), some (.ref p5), some (.int q14)] [.int (2 : Int32), .int x6, .int (q12 (a + 100) 0), .int q16] (fun _ => rfl) ?_
                      obtain ⟨q19, eq19, e⟩ := g_bd e
                      have hjq19 : ∀ (_ : True), Ev X 128 171 [some (.ref a), some (.int x1), some (.int x2), some (.int x3), some (.int x4), some (.int x5), some (.int x6), some (.ref p5), some (.int q14)] [.int q19, .int (q12 (a + 100) 0), .int q16] (l, q2.2.2, q12, j) (some (.int q.1), (l, q.2.2, q.2.1, j)) := by
                        intro _
                        obtain ⟨q20, eq20, e⟩ := g_bd e
                        refine g_cS 174 rfl rfl (by decide) rfl rfl rfl (Wp_inLeastTerms_s eq20) ?_
                        cases e
                        exact g_ret rfl (fun _ _ => rfl)
                      replace e := eq19
                      refine g_if (p1 := 166) (L1 := [some (.ref a), some (.int x1), some (.int x2), some (.int x3), some (.int x4), some (.int x5), some (.int x6), some (.ref p5), some (.int q14)]) (S1 := [.int (q12 (a + 100) 0), .int q16]) (s1 := (l, q2.2.2, q12, j)) (p2 := 170) (L2 := [some (.ref a), some (.int x1), some (.int x2), some (.int x3), some (.int x4), some (.int x5), some (.int x6), some (.ref p5), some (.int q14)]) (S2 := [.int (q12 (a + 100) 0), .int q16]) (s2 := (l, q2.2.2, q12, j)) rfl (fun _ _ => rfl) e (fun c17 e => ?_) (fun c17 e => ?_)
                      · refine g_run 2 171 [some (.ref a), some (.int x1), some (.int x2), some (.int x3), some (.int x4), some (.int x5), some (.int x6), some (.ref p5), some (.int q14)] [.int (1 : Int32), .int (q12 (a + 100) 0), .int q16] (fun _ => rfl) ?_
                        cases e
                        exact hjq19 trivial
                      · refine g_run 1 171 [some (.ref a), some (.int x1), some (.int x2), some (.int x3), some (.int x4), some (.int x5), some (.int x6), some (.ref p5), some (.int q14)] [.int (0 : Int32), .int (q12 (a + 100) 0), .int q16] (fun _ => rfl) ?_
                        cases e
                        exact hjq19 trivial
                  · refine g_run 1 95 [some (.ref a), some (.int x1), some (.int x2), some (.int x3), some (.int x4), some (.int x5), some (.int x6), some (.ref p5), none] [.ref a] (fun _ => rfl) ?_
                    refine g_getA 98 rfl rfl (Wp_l (g_kp_Wp kp3 ka)) (Wp_r5 (g_kp_Wp kp3 ka)) ?_
                    refine g_run 4 104 [some (.ref a), some (.int x1), some (.int x2), some (.int x3), some (.int x4), some (.int x5), some (.int x6), some (.ref p5), none] [.ref p5, .int (x6 - (3 : Int32)), .ref (a + 100)] (fun _ => rfl) ?_
                    refine g_getA 107 rfl rfl (Pk_l kp5) (Pk_r12 kp5) ?_
                    refine g_run 1 109 [some (.ref a), some (.int x1), some (.int x2), some (.int x3), some (.int x4), some (.int x5), some (.int x6), some (.ref p5), none] [.int x5, .ref (p5 + 11), .int (x6 - (3 : Int32)), .ref (a + 100)] (fun _ => rfl) ?_
                    obtain ⟨q21, eq21, e⟩ := g_bd e
                    refine g_cV 112 rfl rfl rfl rfl rfl (Fi_l (Wp_k5 (g_kp_Wp kp3 ka))) (Fi_worthOf_s (Wp_k5 (g_kp_Wp kp3 ka)) (Pk_k12 kp5) eq21) ?_
                    cases e
                    exact g_ret rfl (fun _ _ => rfl)
                · refine g_run 1 78 [some (.ref a), some (.int x1), some (.int x2), some (.int x3), some (.int x4), some (.int x5), some (.int x6), some (.ref p5), none] [.int (-1000000 : Int32)] (fun _ => rfl) ?_
                  cases e
                  exact g_ret rfl (fun _ _ => rfl)
def Wp_read (l : List (Nat × Nat)) (r : am_R) (a : Nat) (x1 : Int32) (x2 : Int32) (x3 : Int32) (x4 : Int32) (h : am_F) : Option (Int32 × am_F × am_R) :=
  (Wp_findFits l r a x1 x2 x3 h).bind fun q1 =>
  if q1.1 = 0 then
    some ((-2 : Int32), q1.2.1, q1.2.2)
  else
    if x4 = (0 : Int32) then
      (Fi_unlikeHours (a + 100) q1.2.1).bind fun q4 =>
      some (q4, q1.2.1, q1.2.2)
    else if x4 = (1 : Int32) then
      (Fi_firstHour (a + 100) q1.2.1).bind fun q6 =>
      some (q6, q1.2.1, q1.2.2)
    else if x4 = (2 : Int32) then
      (Fi_lastHour (a + 100) q1.2.1).bind fun q8 =>
      some (q8, q1.2.1, q1.2.2)
    else if x4 = (3 : Int32) then
      some ((q1.2.1 (a + 100) 0), q1.2.1, q1.2.2)
    else if x4 = (4 : Int32) then
      (Fi_tellingHour l q1.2.2 (a + 100) q1.2.1).bind fun q11 =>
      some (q11.1, q11.2, q1.2.2)
    else 
      some ((-2 : Int32), q1.2.1, q1.2.2)
theorem Wp_read_s {X : Nat × (Nat → Int32)} {l : List (Nat × Nat)} {r : am_R} {h : am_F} {j : am_J} {a : Nat} {x1 : Int32} {x2 : Int32} {x3 : Int32} {x4 : Int32} (ka : Wp_K l r a) {q : Int32 × am_F × am_R} (e : Wp_read l r a x1 x2 x3 x4 h = some q) : Call X 129 [.ref a, .int x1, .int x2, .int x3, .int x4] (l, r, h, j) (some (.int q.1), (l, q.2.2, q.2.1, j)) := by
  unfold Wp_read at e
  refine ⟨Nat.le_of_ble_eq_true rfl, ?_⟩
  show Ev X 129 0 [some (.ref a), some (.int x1), some (.int x2), some (.int x3), some (.int x4)] [] (l, r, h, j) _
  refine g_run 4 4 [some (.ref a), some (.int x1), some (.int x2), some (.int x3), some (.int x4)] [.int x3, .int x2, .int x1, .ref a] (fun _ => rfl) ?_
  obtain ⟨q1, eq1, e⟩ := g_bd e
  refine g_cV 7 rfl rfl rfl rfl rfl (Wp_l ka) (Wp_findFits_s ka eq1) ?_
  have kp2 := Wp_findFits_kp ka eq1
  refine g_if (p1 := 10) (L1 := [some (.ref a), some (.int x1), some (.int x2), some (.int x3), some (.int x4)]) (S1 := []) (s1 := (l, q1.2.2, q1.2.1, j)) (p2 := 13) (L2 := [some (.ref a), some (.int x1), some (.int x2), some (.int x3), some (.int x4)]) (S2 := []) (s2 := (l, q1.2.2, q1.2.1, j)) rfl (fun _ _ => rfl) e (fun c3 e => ?_) (fun c3 e => ?_)
  · refine g_run 1 12 [some (.ref a), some (.int x1), some (.int x2), some (.int x3), some (.int x4)] [.int (-2 : Int32)] (fun _ => rfl) ?_
    cases e
    exact g_ret rfl (fun _ _ => rfl)
  · refine g_run 1 15 [some (.ref a), some (.int x1), some (.int x2), some (.int x3), some (.int x4)] [.int x4] (fun _ => rfl) ?_
    by_cases c5 : x4 = (0 : Int32)
    · replace e := (if_pos c5).symm.trans e
      refine g_sw (p1 := 48) (L1 := [some (.ref a), some (.int x1), some (.int x2), some (.int x3), some (.int x4)]) (S1 := []) (s1 := (l, q1.2.2, q1.2.1, j)) rfl c5 (fun _ _ => rfl) ?_
      refine g_run 1 49 [some (.ref a), some (.int x1), some (.int x2), some (.int x3), some (.int x4)] [.ref a] (fun _ => rfl) ?_
      refine g_getA 52 rfl rfl (Wp_l (g_kp_Wp kp2 ka)) (Wp_r5 (g_kp_Wp kp2 ka)) ?_
      obtain ⟨q4, eq4, e⟩ := g_bd e
      refine g_cV 55 rfl rfl rfl rfl rfl (Fi_l (Wp_k5 (g_kp_Wp kp2 ka))) (Fi_unlikeHours_s (Wp_k5 (g_kp_Wp kp2 ka)) eq4) ?_
      cases e
      exact g_ret rfl (fun _ _ => rfl)
    replace e := (if_neg c5).symm.trans e
    by_cases c7 : x4 = (1 : Int32)
    · replace e := (if_pos c7).symm.trans e
      refine g_sw (p1 := 56) (L1 := [some (.ref a), some (.int x1), some (.int x2), some (.int x3), some (.int x4)]) (S1 := []) (s1 := (l, q1.2.2, q1.2.1, j)) rfl c7 (fun _ _ => rfl) ?_
      refine g_run 1 57 [some (.ref a), some (.int x1), some (.int x2), some (.int x3), some (.int x4)] [.ref a] (fun _ => rfl) ?_
      refine g_getA 60 rfl rfl (Wp_l (g_kp_Wp kp2 ka)) (Wp_r5 (g_kp_Wp kp2 ka)) ?_
      obtain ⟨q6, eq6, e⟩ := g_bd e
      refine g_cV 63 rfl rfl rfl rfl rfl (Fi_l (Wp_k5 (g_kp_Wp kp2 ka))) (Fi_firstHour_s (Wp_k5 (g_kp_Wp kp2 ka)) eq6) ?_
      cases e
      exact g_ret rfl (fun _ _ => rfl)
    replace e := (if_neg c7).symm.trans e
    by_cases c9 : x4 = (2 : Int32)
    · replace e := (if_pos c9).symm.trans e
      refine g_sw (p1 := 64) (L1 := [some (.ref a), some (.int x1), some (.int x2), some (.int x3), some (.int x4)]) (S1 := []) (s1 := (l, q1.2.2, q1.2.1, j)) rfl c9 (fun _ _ => rfl) ?_
      refine g_run 1 65 [some (.ref a), some (.int x1), some (.int x2), some (.int x3), some (.int x4)] [.ref a] (fun _ => rfl) ?_
      refine g_getA 68 rfl rfl (Wp_l (g_kp_Wp kp2 ka)) (Wp_r5 (g_kp_Wp kp2 ka)) ?_
      obtain ⟨q8, eq8, e⟩ := g_bd e
      refine g_cV 71 rfl rfl rfl rfl rfl (Fi_l (Wp_k5 (g_kp_Wp kp2 ka))) (Fi_lastHour_s (Wp_k5 (g_kp_Wp kp2 ka)) eq8) ?_
      cases e
      exact g_ret rfl (fun _ _ => rfl)
    replace e := (if_neg c9).symm.trans e
    by_cases c10 : x4 = (3 : Int32)
    · replace e := (if_pos c10).symm.trans e
      refine g_sw (p1 := 72) (L1 := [some (.ref a), some (.int x1), some (.int x2), some (.int x3), some (.int x4)]) (S1 := []) (s1 := (l, q1.2.2, q1.2.1, j)) rfl c10 (fun _ _ => rfl) ?_
      refine g_run 1 73 [some (.ref a), some (.int x1), some (.int x2), some (.int x3), some (.int x4)] [.ref a] (fun _ => rfl) ?_
      refine g_getA 76 rfl rfl (Wp_l (g_kp_Wp kp2 ka)) (Wp_r5 (g_kp_Wp kp2 ka)) ?_
      refine g_getI 79 rfl rfl (Fi_l (Wp_k5 (g_kp_Wp kp2 ka))) ?_
      cases e
      exact g_ret rfl (fun _ _ => rfl)
    replace e := (if_neg c10).symm.trans e
    by_cases c12 : x4 = (4 : Int32)
    · replace e := (if_pos c12).symm.trans e
      refine g_sw (p1 := 80) (L1 := [some (.ref a), some (.int x1), some (.int x2), some (.int x3), some (.int x4)]) (S1 := []) (s1 := (l, q1.2.2, q1.2.1, j)) rfl c12 (fun _ _ => rfl) ?_
      refine g_run 1 81 [some (.ref a), some (.int x1), some (.int x2), some (.int x3), some (.int x4)] [.ref a] (fun _ => rfl) ?_
      refine g_getA 84 rfl rfl (Wp_l (g_kp_Wp kp2 ka)) (Wp_r5 (g_kp_Wp kp2 ka)) ?_
      obtain ⟨q11, eq11, e⟩ := g_bd e
      refine g_cV 87 rfl rfl rfl rfl rfl (Fi_l (Wp_k5 (g_kp_Wp kp2 ka))) (Fi_tellingHour_s (Wp_k5 (g_kp_Wp kp2 ka)) eq11) ?_
      cases e
      exact g_ret rfl (fun _ _ => rfl)
    replace e := (if_neg c12).symm.trans e
    have ic5 : (Int32.toInt x4) ≠ 0 := g_ne c5
    have ic7 : (Int32.toInt x4) ≠ 1 := g_ne c7
    have ic9 : (Int32.toInt x4) ≠ 2 := g_ne c9
    have ic10 : (Int32.toInt x4) ≠ 3 := g_ne c10
    have ic12 : (Int32.toInt x4) ≠ 4 := g_ne c12
    refine g_swd (p1 := 88) (L1 := [some (.ref a), some (.int x1), some (.int x2), some (.int x3), some (.int x4)]) (S1 := []) (s1 := (l, q1.2.2, q1.2.1, j)) (x := x4) (lo := 0) (hi := 4) rfl (fun _ _ => rfl) (by omega) ?_
    refine g_run 1 90 [some (.ref a), some (.int x1), some (.int x2), some (.int x3), some (.int x4)] [.int (-2 : Int32)] (fun _ => rfl) ?_
    cases e
    exact g_ret rfl (fun _ _ => rfl)
def Wp_costUnheeded (l : List (Nat × Nat)) (r : am_R) (x0 : Nat) (x1 : Int32) (h : am_F) : Option (Int32) :=
  (Rw_get l r x0 x1 (0 : Int32) h).bind fun q1 =>
  (Rw_get l r x0 x1 (2 : Int32) h).bind fun q2 =>
  some (q1 * q2)
theorem Wp_costUnheeded_s {X : Nat × (Nat → Int32)} {l : List (Nat × Nat)} {r : am_R} {h : am_F} {j : am_J} {x0 : Nat} {x1 : Int32} (kx0 : Rw_K l r x0) {q : Int32} (e : Wp_costUnheeded l r x0 x1 h = some q) : Call X 145 [.ref x0, .int x1] (l, r, h, j) (some (.int q), (l, r, h, j)) := by
  unfold Wp_costUnheeded at e
  refine ⟨Nat.le_of_ble_eq_true rfl, ?_⟩
  show Ev X 145 0 [some (.ref x0), some (.int x1)] [] (l, r, h, j) _
  refine g_run 3 3 [some (.ref x0), some (.int x1)] [.int (0 : Int32), .int x1, .ref x0] (fun _ => rfl) ?_
  obtain ⟨q1, eq1, e⟩ := g_bd e
  refine g_cV 6 rfl rfl rfl rfl rfl (Rw_l kx0) (Rw_get_s kx0 eq1) ?_
  refine g_run 3 9 [some (.ref x0), some (.int x1)] [.int (2 : Int32), .int x1, .ref x0, .int q1] (fun _ => rfl) ?_
  obtain ⟨q2, eq2, e⟩ := g_bd e
  refine g_cV 12 rfl rfl rfl rfl rfl (Rw_l kx0) (Rw_get_s kx0 eq2) ?_
  refine g_run 1 13 [some (.ref x0), some (.int x1)] [.int (q1 * q2)] (fun _ => rfl) ?_
  cases e
  exact g_ret rfl (fun _ _ => rfl)
def Wp_costHeeded (l : List (Nat × Nat)) (r : am_R) (x0 : Nat) (x1 : Int32) (h : am_F) : Option (Int32) :=
  (Rw_get l r x0 x1 (1 : Int32) h).bind fun q1 =>
  (Rw_get l r x0 x1 (3 : Int32) h).bind fun q2 =>
  some (q1 * q2)
theorem Wp_costHeeded_s {X : Nat × (Nat → Int32)} {l : List (Nat × Nat)} {r : am_R} {h : am_F} {j : am_J} {x0 : Nat} {x1 : Int32} (kx0 : Rw_K l r x0) {q : Int32} (e : Wp_costHeeded l r x0 x1 h = some q) : Call X 146 [.ref x0, .int x1] (l, r, h, j) (some (.int q), (l, r, h, j)) := by
  unfold Wp_costHeeded at e
  refine ⟨Nat.le_of_ble_eq_true rfl, ?_⟩
  show Ev X 146 0 [some (.ref x0), some (.int x1)] [] (l, r, h, j) _
  refine g_run 3 3 [some (.ref x0), some (.int x1)] [.int (1 : Int32), .int x1, .ref x0] (fun _ => rfl) ?_
  obtain ⟨q1, eq1, e⟩ := g_bd e
  refine g_cV 6 rfl rfl rfl rfl rfl (Rw_l kx0) (Rw_get_s kx0 eq1) ?_
  refine g_run 3 9 [some (.ref x0), some (.int x1)] [.int (3 : Int32), .int x1, .ref x0, .int q1] (fun _ => rfl) ?_
  obtain ⟨q2, eq2, e⟩ := g_bd e
  refine g_cV 12 rfl rfl rfl rfl rfl (Rw_l kx0) (Rw_get_s kx0 eq2) ?_
  refine g_run 1 13 [some (.ref x0), some (.int x1)] [.int (q1 * q2)] (fun _ => rfl) ?_
  cases e
  exact g_ret rfl (fun _ _ => rfl)
def Wp_costTimesOf (l : List (Nat × Nat)) (r : am_R) (x0 : Nat) (x1 : Int32) (h : am_F) : Option (Int32) :=
  (Wp_costUnheeded l r x0 x1 h).bind fun q1 =>
  (Wp_costHeeded l r x0 x1 h).bind fun q2 =>
  some (if q2 < q1 then q2 else q1)
theorem Wp_costTimesOf_s {X : Nat × (Nat → Int32)} {l : List (Nat × Nat)} {r : am_R} {h : am_F} {j : am_J} {x0 : Nat} {x1 : Int32} (kx0 : Rw_K l r x0) {q : Int32} (e : Wp_costTimesOf l r x0 x1 h = some q) : Call X 147 [.ref x0, .int x1] (l, r, h, j) (some (.int q), (l, r, h, j)) := by
  unfold Wp_costTimesOf at e
  refine ⟨Nat.le_of_ble_eq_true rfl, ?_⟩
  show Ev X 147 0 [some (.ref x0), some (.int x1)] [] (l, r, h, j) _
  refine g_run 2 2 [some (.ref x0), some (.int x1)] [.int x1, .ref x0] (fun _ => rfl) ?_
  obtain ⟨q1, eq1, e⟩ := g_bd e
  refine g_cS 5 rfl rfl (by decide) rfl rfl rfl (Wp_costUnheeded_s kx0 eq1) ?_
  refine g_run 2 7 [some (.ref x0), some (.int x1)] [.int x1, .ref x0, .int q1] (fun _ => rfl) ?_
  obtain ⟨q2, eq2, e⟩ := g_bd e
  refine g_cS 10 rfl rfl (by decide) rfl rfl rfl (Wp_costHeeded_s kx0 eq2) ?_
  refine g_run 1 13 [some (.ref x0), some (.int x1)] [.int (if q2 < q1 then q2 else q1)] (fun _ => rfl) ?_
  cases e
  exact g_ret rfl (fun _ _ => rfl)
def Wp_fallTimesOf (l : List (Nat × Nat)) (r : am_R) (x0 : Nat) (x1 : Int32) (h : am_F) : Option (Int32) :=
  (Rw_get l r x0 x1 (0 : Int32) h).bind fun q1 =>
  (Rw_get l r x0 x1 (2 : Int32) h).bind fun q2 =>
  (Rw_get l r x0 x1 (3 : Int32) h).bind fun q3 =>
  (Wp_costTimesOf l r x0 x1 h).bind fun q4 =>
  some (q4 - (q1 * (if q3 < q2 then q3 else q2)))
theorem Wp_fallTimesOf_s {X : Nat × (Nat → Int32)} {l : List (Nat × Nat)} {r : am_R} {h : am_F} {j : am_J} {x0 : Nat} {x1 : Int32} (kx0 : Rw_K l r x0) {q : Int32} (e : Wp_fallTimesOf l r x0 x1 h = some q) : Call X 148 [.ref x0, .int x1] (l, r, h, j) (some (.int q), (l, r, h, j)) := by
  unfold Wp_fallTimesOf at e
  refine ⟨Nat.le_of_ble_eq_true rfl, ?_⟩
  show Ev X 148 0 [some (.ref x0), some (.int x1), none] [] (l, r, h, j) _
  refine g_run 3 3 [some (.ref x0), some (.int x1), none] [.int (0 : Int32), .int x1, .ref x0] (fun _ => rfl) ?_
  obtain ⟨q1, eq1, e⟩ := g_bd e
  refine g_cV 6 rfl rfl rfl rfl rfl (Rw_l kx0) (Rw_get_s kx0 eq1) ?_
  refine g_run 3 9 [some (.ref x0), some (.int x1), none] [.int (2 : Int32), .int x1, .ref x0, .int q1] (fun _ => rfl) ?_
  obtain ⟨q2, eq2, e⟩ := g_bd e
  refine g_cV 12 rfl rfl rfl rfl rfl (Rw_l kx0) (Rw_get_s kx0 eq2) ?_
  refine g_run 3 15 [some (.ref x0), some (.int x1), none] [.int (3 : Int32), .int x1, .ref x0, .int q2, .int q1] (fun _ => rfl) ?_
  obtain ⟨q3, eq3, e⟩ := g_bd e
  refine g_cV 18 rfl rfl rfl rfl rfl (Rw_l kx0) (Rw_get_s kx0 eq3) ?_
  refine g_run 5 25 [some (.ref x0), some (.int x1), some (.int (q1 * (if q3 < q2 then q3 else q2)))] [.int x1, .ref x0] (fun _ => rfl) ?_
  obtain ⟨q4, eq4, e⟩ := g_bd e
  refine g_cS 28 rfl rfl (by decide) rfl rfl rfl (Wp_costTimesOf_s kx0 eq4) ?_
  refine g_run 2 30 [some (.ref x0), some (.int x1), some (.int (q1 * (if q3 < q2 then q3 else q2)))] [.int (q4 - (q1 * (if q3 < q2 then q3 else q2)))] (fun _ => rfl) ?_
  cases e
  exact g_ret rfl (fun _ _ => rfl)
def Wp_alarmToMend_l9 (l : List (Nat × Nat)) (r : am_R) (x0 : Nat) (h : am_F) : Nat → Int32 → Int32 → Int32 → Int32 → Option (Int32)
  | 0, _, _, _, _ => none
  | n + 1, x1, x2, x3, x4 =>
    if (h x0 3) ≤ x4 then
      some x1
    else
      (Wp_fallTimesOf l r x0 x4 h).bind fun q2 =>
      (Rw_get l r x0 x4 (1 : Int32) h).bind fun q3 =>
      (if x1 = (-1 : Int32) then
          some (x4, q2, q3)
        else
          if (q2 * x3) ≤ (x2 * q3) then
            some (x1, x2, x3)
          else
            some (x4, q2, q3) : Option (Int32 × Int32 × Int32)).bind fun q7 =>
      Wp_alarmToMend_l9 l r x0 h n q7.1 q7.2.1 q7.2.2 (x4 + (1 : Int32))
def Wp_alarmToMend (l : List (Nat × Nat)) (r : am_R) (x0 : Nat) (h : am_F) : Option (Int32) :=
  (Wp_alarmToMend_l9 l r x0 h g_fu (-1 : Int32) (0 : Int32) (1 : Int32) (0 : Int32)).bind fun q8 =>
  some q8
theorem Wp_alarmToMend_l9_s {X : Nat × (Nat → Int32)} {l : List (Nat × Nat)} {r : am_R} {x0 : Nat} {h : am_F} {j : am_J} {q : Int32} {R : Option Value × am_S} (kx0 : Rw_K l r x0) (hx : ∀ (d5 : Option Value) (d6 : Option Value) (y2 : Int32) (y3 : Int32) (y4 : Int32) , Ev X 149 66 [some (.ref x0), some (.int q), some (.int y2), some (.int y3), some (.int y4), d5, d6] [] (l, r, h, j) R) : ∀ (n : Nat) (x1 : Int32) (x2 : Int32) (x3 : Int32) (x4 : Int32) (d5 : Option Value) (d6 : Option Value), Wp_alarmToMend_l9 l r x0 h n x1 x2 x3 x4 = some q → Ev X 149 9 [some (.ref x0), some (.int x1), some (.int x2), some (.int x3), some (.int x4), d5, d6] [] (l, r, h, j) R := by
  intro n
  induction n with
  | zero => intro x1 x2 x3 x4 d5 d6 e; cases e
  | succ n ih =>
    intro x1 x2 x3 x4 d5 d6 e
    unfold Wp_alarmToMend_l9 at e
    refine g_run 2 12 [some (.ref x0), some (.int x1), some (.int x2), some (.int x3), some (.int x4), d5, d6] [.ref x0, .int x4] (fun _ => rfl) ?_
    refine g_getI 15 rfl rfl (Rw_l kx0) ?_
    refine g_if (p1 := 66) (L1 := [some (.ref x0), some (.int x1), some (.int x2), some (.int x3), some (.int x4), d5, d6]) (S1 := []) (s1 := (l, r, h, j)) (p2 := 18) (L2 := [some (.ref x0), some (.int x1), some (.int x2), some (.int x3), some (.int x4), d5, d6]) (S2 := []) (s2 := (l, r, h, j)) rfl (fun _ _ => rfl) e (fun c1 e => ?_) (fun c1 e => ?_)
    · cases e
      exact hx _ _ _ _ _
    · refine g_run 2 21 [some (.ref x0), some (.int x1), some (.int x2), some (.int x3), some (.int x4), d5, d6] [.int x4, .ref x0] (fun _ => rfl) ?_
      obtain ⟨q2, eq2, e⟩ := g_bd e
      refine g_cS 24 rfl rfl (by decide) rfl rfl rfl (Wp_fallTimesOf_s kx0 eq2) ?_
      refine g_run 4 30 [some (.ref x0), some (.int x1), some (.int x2), some (.int x3), some (.int x4), some (.int q2), d6] [.int (1 : Int32), .int x4, .ref x0] (fun _ => rfl) ?_
      obtain ⟨q3, eq3, e⟩ := g_bd e
      refine g_cV 33 rfl rfl rfl rfl rfl (Rw_l kx0) (Rw_get_s kx0 eq3) ?_
      refine g_run 3 37 [some (.ref x0), some (.int x1), some (.int x2), some (.int x3), some (.int x4), some (.int q2), some (.int q3)] [.int (-1 : Int32), .int x1] (fun _ => rfl) ?_
      obtain ⟨q7, eq7, e⟩ := g_bd e
      have hjq7 : ∀ (_ : True), Ev X 149 60 [some (.ref x0), some (.int q7.1), some (.int q7.2.1), some (.int q7.2.2), some (.int x4), some (.int q2), some (.int q3)] [] (l, r, h, j) R := by
        intro _
        refine g_run 2 9 [some (.ref x0), some (.int q7.1), some (.int q7.2.1), some (.int q7.2.2), some (.int (x4 + (1 : Int32))), some (.int q2), some (.int q3)] [] (fun _ => rfl) ?_
        exact ih _ _ _ _ _ _ e
      replace e := eq7
      refine g_if (p1 := 51) (L1 := [some (.ref x0), some (.int x1), some (.int x2), some (.int x3), some (.int x4), some (.int q2), some (.int q3)]) (S1 := []) (s1 := (l, r, h, j)) (p2 := 40) (L2 := [some (.ref x0), some (.int x1), some (.int x2), some (.int x3), some (.int x4), some (.int q2), some (.int q3)]) (S2 := []) (s2 := (l, r, h, j)) rfl (fun _ _ => rfl) e (fun c4 e => ?_) (fun c4 e => ?_)
      · refine g_run 6 60 [some (.ref x0), some (.int x4), some (.int q2), some (.int q3), some (.int x4), some (.int q2), some (.int q3)] [] (fun _ => rfl) ?_
        cases e
        exact hjq7 trivial
      · refine g_run 6 48 [some (.ref x0), some (.int x1), some (.int x2), some (.int x3), some (.int x4), some (.int q2), some (.int q3)] [.int (x2 * q3), .int (q2 * x3)] (fun _ => rfl) ?_
        refine g_if (p1 := 60) (L1 := [some (.ref x0), some (.int x1), some (.int x2), some (.int x3), some (.int x4), some (.int q2), some (.int q3)]) (S1 := []) (s1 := (l, r, h, j)) (p2 := 51) (L2 := [some (.ref x0), some (.int x1), some (.int x2), some (.int x3), some (.int x4), some (.int q2), some (.int q3)]) (S2 := []) (s2 := (l, r, h, j)) rfl (fun _ _ => rfl) e (fun c6 e => ?_) (fun c6 e => ?_)
        · cases e
          exact hjq7 trivial
        · refine g_run 6 60 [some (.ref x0), some (.int x4), some (.int q2), some (.int q3), some (.int x4), some (.int q2), some (.int q3)] [] (fun _ => rfl) ?_
          cases e
          exact hjq7 trivial
theorem Wp_alarmToMend_s {X : Nat × (Nat → Int32)} {l : List (Nat × Nat)} {r : am_R} {h : am_F} {j : am_J} {x0 : Nat} (kx0 : Rw_K l r x0) {q : Int32} (e : Wp_alarmToMend l r x0 h = some q) : Call X 149 [.ref x0] (l, r, h, j) (some (.int q), (l, r, h, j)) := by
  unfold Wp_alarmToMend at e
  refine ⟨Nat.le_of_ble_eq_true rfl, ?_⟩
  show Ev X 149 0 [some (.ref x0), none, none, none, none, none, none] [] (l, r, h, j) _
  refine g_run 8 9 [some (.ref x0), some (.int (-1 : Int32)), some (.int (0 : Int32)), some (.int (1 : Int32)), some (.int (0 : Int32)), none, none] [] (fun _ => rfl) ?_
  obtain ⟨q8, eq8, e⟩ := g_bd e
  refine Wp_alarmToMend_l9_s kx0 (fun d9 d10 y11 y12 y13 => ?_) _ _ _ _ _ _ _ eq8
  refine g_run 1 67 [some (.ref x0), some (.int q8), some (.int y11), some (.int y12), some (.int y13), d9, d10] [.int q8] (fun _ => rfl) ?_
  cases e
  exact g_ret rfl (fun _ _ => rfl)
def Wp_alarm (l : List (Nat × Nat)) (r : am_R) (a : Nat) (x1 : Int32) (x2 : Int32) (x3 : Int32) (h : am_F) : Option (Int32) :=
  (Tl_rowsAt l r (a + 1) (2 : Int32) x1 h).bind fun q1 =>
  g_on q1 (
    some (-2 : Int32)) (fun p2 =>
    if x2 = (-1 : Int32) then
      if x3 = (1 : Int32) then
        (Wp_alarmToMend l r p2 h).bind fun q5 =>
        some q5
      else
        if x2 < 0 then
          (Wp_rowsAnswer l r (some p2) x2 x3 h).bind fun q7 =>
          some q7
        else
          if (h p2 3) ≤ x2 then
            (Wp_rowsAnswer l r (some p2) x2 x3 h).bind fun q9 =>
            some q9
          else
            if (4 : Int32) ≤ x3 then
              if x3 = (4 : Int32) then
                (Wp_costUnheeded l r p2 x2 h).bind fun q12 =>
                (Wp_costHeeded l r p2 x2 h).bind fun q13 =>
                if q12 < q13 then
                  some (0 : Int32)
                else
                  some (1 : Int32)
              else
                if x3 = (5 : Int32) then
                  (Wp_costTimesOf l r p2 x2 h).bind fun q16 =>
                  some q16
                else
                  some (-2 : Int32)
            else
              (Wp_rowsAnswer l r (some p2) x2 x3 h).bind fun q17 =>
              some q17
    else
      if x2 < 0 then
        (Wp_rowsAnswer l r (some p2) x2 x3 h).bind fun q19 =>
        some q19
      else
        if (h p2 3) ≤ x2 then
          (Wp_rowsAnswer l r (some p2) x2 x3 h).bind fun q21 =>
          some q21
        else
          if (4 : Int32) ≤ x3 then
            if x3 = (4 : Int32) then
              (Wp_costUnheeded l r p2 x2 h).bind fun q24 =>
              (Wp_costHeeded l r p2 x2 h).bind fun q25 =>
              if q24 < q25 then
                some (0 : Int32)
              else
                some (1 : Int32)
            else
              if x3 = (5 : Int32) then
                (Wp_costTimesOf l r p2 x2 h).bind fun q28 =>
                some q28
              else
                some (-2 : Int32)
          else
            (Wp_rowsAnswer l r (some p2) x2 x3 h).bind fun q29 =>
            some q29)
theorem Wp_alarm_s {X : Nat × (Nat → Int32)} {l : List (Nat × Nat)} {r : am_R} {h : am_F} {j : am_J} {a : Nat} {x1 : Int32} {x2 : Int32} {x3 : Int32} (ka : Wp_K l r a) {q : Int32} (e : Wp_alarm l r a x1 x2 x3 h = some q) : Call X 130 [.ref a, .int x1, .int x2, .int x3] (l, r, h, j) (some (.int q), (l, r, h, j)) := by
  unfold Wp_alarm at e
  refine ⟨Nat.le_of_ble_eq_true rfl, ?_⟩
  show Ev X 130 0 [some (.ref a), some (.int x1), some (.int x2), some (.int x3), none] [] (l, r, h, j) _
  refine g_run 1 1 [some (.ref a), some (.int x1), some (.int x2), some (.int x3), none] [.ref a] (fun _ => rfl) ?_
  refine g_getA 4 rfl rfl (Wp_l ka) (Wp_r0 ka) ?_
  refine g_run 2 6 [some (.ref a), some (.int x1), some (.int x2), some (.int x3), none] [.int x1, .int (2 : Int32), .ref (a + 1)] (fun _ => rfl) ?_
  obtain ⟨q1, eq1, e⟩ := g_bd e
  refine g_cV 9 rfl rfl rfl rfl rfl (Tl_l (Wp_k0 ka)) (Tl_rowsAt_s (Wp_k0 ka) eq1) ?_
  refine g_run 1 11 [some (.ref a), some (.int x1), some (.int x2), some (.int x3), some (va_rf q1)] [] (fun _ => by generalize q1 = o90; cases o90 <;> rfl) ?_
  refine g_run 1 13 [some (.ref a), some (.int x1), some (.int x2), some (.int x3), some (va_rf q1)] [va_rf q1] (fun _ => by generalize q1 = o90; cases o90 <;> rfl) ?_
  cases q1 with
  | none =>
    replace e := g_onN e
    refine g_run 1 16 [some (.ref a), some (.int x1), some (.int x2), some (.int x3), some (.null)] [] (fun _ => rfl) ?_
    refine g_run 1 18 [some (.ref a), some (.int x1), some (.int x2), some (.int x3), some (.null)] [.int (-2 : Int32)] (fun _ => rfl) ?_
    cases e
    exact g_ret rfl (fun _ _ => rfl)
  | some p2 =>
    replace e := g_onS e
    have kp2 := Tl_rowsAt_K (Wp_k0 ka) eq1
    refine g_run 1 19 [some (.ref a), some (.int x1), some (.int x2), some (.int x3), some (.ref p2)] [] (fun _ => rfl) ?_
    refine g_run 2 21 [some (.ref a), some (.int x1), some (.int x2), some (.int x3), some (.ref p2)] [.int (-1 : Int32), .int x2] (fun _ => rfl) ?_
    refine g_if (p1 := 24) (L1 := [some (.ref a), some (.int x1), some (.int x2), some (.int x3), some (.ref p2)]) (S1 := []) (s1 := (l, r, h, j)) (p2 := 35) (L2 := [some (.ref a), some (.int x1), some (.int x2), some (.int x3), some (.ref p2)]) (S2 := []) (s2 := (l, r, h, j)) rfl (fun _ _ => rfl) e (fun c3 e => ?_) (fun c3 e => ?_)
    · refine g_run 2 26 [some (.ref a), some (.int x1), some (.int x2), some (.int x3), some (.ref p2)] [.int (1 : Int32), .int x3] (fun _ => rfl) ?_
      refine g_if (p1 := 29) (L1 := [some (.ref a), some (.int x1), some (.int x2), some (.int x3), some (.ref p2)]) (S1 := []) (s1 := (l, r, h, j)) (p2 := 35) (L2 := [some (.ref a), some (.int x1), some (.int x2), some (.int x3), some (.ref p2)]) (S2 := []) (s2 := (l, r, h, j)) rfl (fun _ _ => rfl) e (fun c4 e => ?_) (fun c4 e => ?_)
      · refine g_run 1 31 [some (.ref a), some (.int x1), some (.int x2), some (.int x3), some (.ref p2)] [.ref p2] (fun _ => rfl) ?_
        obtain ⟨q5, eq5, e⟩ := g_bd e
        refine g_cS 34 rfl rfl (by decide) rfl rfl rfl (Wp_alarmToMend_s kp2 eq5) ?_
        cases e
        exact g_ret rfl (fun _ _ => rfl)
      · refine g_run 1 36 [some (.ref a), some (.int x1), some (.int x2), some (.int x3), some (.ref p2)] [.int x2] (fun _ => rfl) ?_
        refine g_if (p1 := 53) (L1 := [some (.ref a), some (.int x1), some (.int x2), some (.int x3), some (.ref p2)]) (S1 := []) (s1 := (l, r, h, j)) (p2 := 39) (L2 := [some (.ref a), some (.int x1), some (.int x2), some (.int x3), some (.ref p2)]) (S2 := []) (s2 := (l, r, h, j)) rfl (fun _ _ => rfl) e (fun c6 e => ?_) (fun c6 e => ?_)
        · refine g_run 3 57 [some (.ref a), some (.int x1), some (.int x2), some (.int x3), some (.ref p2)] [.int x3, .int x2, .ref p2] (fun _ => rfl) ?_
          obtain ⟨q7, eq7, e⟩ := g_bd e
          refine g_cS 60 rfl rfl (by decide) rfl rfl rfl (Wp_rowsAnswer_s (fun p hp => by cases hp; exact kp2) eq7) ?_
          cases e
          exact g_ret rfl (fun _ _ => rfl)
        · refine g_run 2 42 [some (.ref a), some (.int x1), some (.int x2), some (.int x3), some (.ref p2)] [.ref p2, .int x2] (fun _ => rfl) ?_
          refine g_getI 45 rfl rfl (Rw_l kp2) ?_
          refine g_if (p1 := 53) (L1 := [some (.ref a), some (.int x1), some (.int x2), some (.int x3), some (.ref p2)]) (S1 := []) (s1 := (l, r, h, j)) (p2 := 48) (L2 := [some (.ref a), some (.int x1), some (.int x2), some (.int x3), some (.ref p2)]) (S2 := []) (s2 := (l, r, h, j)) rfl (fun _ _ => rfl) e (fun c8 e => ?_) (fun c8 e => ?_)
          · refine g_run 3 57 [some (.ref a), some (.int x1), some (.int x2), some (.int x3), some (.ref p2)] [.int x3, .int x2, .ref p2] (fun _ => rfl) ?_
            obtain ⟨q9, eq9, e⟩ := g_bd e
            refine g_cS 60 rfl rfl (by decide) rfl rfl rfl (Wp_rowsAnswer_s (fun p hp => by cases hp; exact kp2) eq9) ?_
            cases e
            exact g_ret rfl (fun _ _ => rfl)
          · refine g_run 2 50 [some (.ref a), some (.int x1), some (.int x2), some (.int x3), some (.ref p2)] [.int (4 : Int32), .int x3] (fun _ => rfl) ?_
            refine g_if (p1 := 61) (L1 := [some (.ref a), some (.int x1), some (.int x2), some (.int x3), some (.ref p2)]) (S1 := []) (s1 := (l, r, h, j)) (p2 := 53) (L2 := [some (.ref a), some (.int x1), some (.int x2), some (.int x3), some (.ref p2)]) (S2 := []) (s2 := (l, r, h, j)) rfl (fun _ _ => rfl) e (fun c10 e => ?_) (fun c10 e => ?_)
            · refine g_run 2 63 [some (.ref a), some (.int x1), some (.int x2), some (.int x3), some (.ref p2)] [.int (4 : Int32), .int x3] (fun _ => rfl) ?_
              refine g_if (p1 := 66) (L1 := [some (.ref a), some (.int x1), some (.int x2), some (.int x3), some (.ref p2)]) (S1 := []) (s1 := (l, r, h, j)) (p2 := 87) (L2 := [some (.ref a), some (.int x1), some (.int x2), some (.int x3), some (.ref p2)]) (S2 := []) (s2 := (l, r, h, j)) rfl (fun _ _ => rfl) e (fun c11 e => ?_) (fun c11 e => ?_)
              · refine g_run 2 69 [some (.ref a), some (.int x1), some (.int x2), some (.int x3), some (.ref p2)] [.int x2, .ref p2] (fun _ => rfl) ?_
                obtain ⟨q12, eq12, e⟩ := g_bd e
                refine g_cS 72 rfl rfl (by decide) rfl rfl rfl (Wp_costUnheeded_s kp2 eq12) ?_
                refine g_run 2 75 [some (.ref a), some (.int x1), some (.int x2), some (.int x3), some (.ref p2)] [.int x2, .ref p2, .int q12] (fun _ => rfl) ?_
                obtain ⟨q13, eq13, e⟩ := g_bd e
                refine g_cS 78 rfl rfl (by decide) rfl rfl rfl (Wp_costHeeded_s kp2 eq13) ?_
                refine g_if (p1 := 85) (L1 := [some (.ref a), some (.int x1), some (.int x2), some (.int x3), some (.ref p2)]) (S1 := []) (s1 := (l, r, h, j)) (p2 := 81) (L2 := [some (.ref a), some (.int x1), some (.int x2), some (.int x3), some (.ref p2)]) (S2 := []) (s2 := (l, r, h, j)) rfl (fun _ _ => rfl) e (fun c14 e => ?_) (fun c14 e => ?_)
                · refine g_run 1 86 [some (.ref a), some (.int x1), some (.int x2), some (.int x3), some (.ref p2)] [.int (0 : Int32)] (fun _ => rfl) ?_
                  cases e
                  exact g_ret rfl (fun _ _ => rfl)
                · refine g_run 2 86 [some (.ref a), some (.int x1), some (.int x2), some (.int x3), some (.ref p2)] [.int (1 : Int32)] (fun _ => rfl) ?_
                  cases e
                  exact g_ret rfl (fun _ _ => rfl)
              · refine g_run 2 89 [some (.ref a), some (.int x1), some (.int x2), some (.int x3), some (.ref p2)] [.int (5 : Int32), .int x3] (fun _ => rfl) ?_
                refine g_if (p1 := 92) (L1 := [some (.ref a), some (.int x1), some (.int x2), some (.int x3), some (.ref p2)]) (S1 := []) (s1 := (l, r, h, j)) (p2 := 101) (L2 := [some (.ref a), some (.int x1), some (.int x2), some (.int x3), some (.ref p2)]) (S2 := []) (s2 := (l, r, h, j)) rfl (fun _ _ => rfl) e (fun c15 e => ?_) (fun c15 e => ?_)
                · refine g_run 2 95 [some (.ref a), some (.int x1), some (.int x2), some (.int x3), some (.ref p2)] [.int x2, .ref p2] (fun _ => rfl) ?_
                  obtain ⟨q16, eq16, e⟩ := g_bd e
                  refine g_cS 98 rfl rfl (by decide) rfl rfl rfl (Wp_costTimesOf_s kp2 eq16) ?_
                  refine g_run 1 103 [some (.ref a), some (.int x1), some (.int x2), some (.int x3), some (.ref p2)] [.int q16] (fun _ => rfl) ?_
                  cases e
                  exact g_ret rfl (fun _ _ => rfl)
                · refine g_run 1 103 [some (.ref a), some (.int x1), some (.int x2), some (.int x3), some (.ref p2)] [.int (-2 : Int32)] (fun _ => rfl) ?_
                  cases e
                  exact g_ret rfl (fun _ _ => rfl)
            · refine g_run 3 57 [some (.ref a), some (.int x1), some (.int x2), some (.int x3), some (.ref p2)] [.int x3, .int x2, .ref p2] (fun _ => rfl) ?_
              obtain ⟨q17, eq17, e⟩ := g_bd e
              refine g_cS 60 rfl rfl (by decide) rfl rfl rfl (Wp_rowsAnswer_s (fun p hp => by cases hp; exact kp2) eq17) ?_
              cases e
              exact g_ret rfl (fun _ _ => rfl)
    · refine g_run 1 36 [some (.ref a), some (.int x1), some (.int x2), some (.int x3), some (.ref p2)] [.int x2] (fun _ => rfl) ?_
      refine g_if (p1 := 53) (L1 := [some (.ref a), some (.int x1), some (.int x2), some (.int x3), some (.ref p2)]) (S1 := []) (s1 := (l, r, h, j)) (p2 := 39) (L2 := [some (.ref a), some (.int x1), some (.int x2), some (.int x3), some (.ref p2)]) (S2 := []) (s2 := (l, r, h, j)) rfl (fun _ _ => rfl) e (fun c18 e => ?_) (fun c18 e => ?_)
      · refine g_run 3 57 [some (.ref a), some (.int x1), some (.int x2), some (.int x3), some (.ref p2)] [.int x3, .int x2, .ref p2] (fun _ => rfl) ?_
        obtain ⟨q19, eq19, e⟩ := g_bd e
        refine g_cS 60 rfl rfl (by decide) rfl rfl rfl (Wp_rowsAnswer_s (fun p hp => by cases hp; exact kp2) eq19) ?_
        cases e
        exact g_ret rfl (fun _ _ => rfl)
      · refine g_run 2 42 [some (.ref a), some (.int x1), some (.int x2), some (.int x3), some (.ref p2)] [.ref p2, .int x2] (fun _ => rfl) ?_
        refine g_getI 45 rfl rfl (Rw_l kp2) ?_
        refine g_if (p1 := 53) (L1 := [some (.ref a), some (.int x1), some (.int x2), some (.int x3), some (.ref p2)]) (S1 := []) (s1 := (l, r, h, j)) (p2 := 48) (L2 := [some (.ref a), some (.int x1), some (.int x2), some (.int x3), some (.ref p2)]) (S2 := []) (s2 := (l, r, h, j)) rfl (fun _ _ => rfl) e (fun c20 e => ?_) (fun c20 e => ?_)
        · refine g_run 3 57 [some (.ref a), some (.int x1), some (.int x2), some (.int x3), some (.ref p2)] [.int x3, .int x2, .ref p2] (fun _ => rfl) ?_
          obtain ⟨q21, eq21, e⟩ := g_bd e
          refine g_cS 60 rfl rfl (by decide) rfl rfl rfl (Wp_rowsAnswer_s (fun p hp => by cases hp; exact kp2) eq21) ?_
          cases e
          exact g_ret rfl (fun _ _ => rfl)
        · refine g_run 2 50 [some (.ref a), some (.int x1), some (.int x2), some (.int x3), some (.ref p2)] [.int (4 : Int32), .int x3] (fun _ => rfl) ?_
          refine g_if (p1 := 61) (L1 := [some (.ref a), some (.int x1), some (.int x2), some (.int x3), some (.ref p2)]) (S1 := []) (s1 := (l, r, h, j)) (p2 := 53) (L2 := [some (.ref a), some (.int x1), some (.int x2), some (.int x3), some (.ref p2)]) (S2 := []) (s2 := (l, r, h, j)) rfl (fun _ _ => rfl) e (fun c22 e => ?_) (fun c22 e => ?_)
          · refine g_run 2 63 [some (.ref a), some (.int x1), some (.int x2), some (.int x3), some (.ref p2)] [.int (4 : Int32), .int x3] (fun _ => rfl) ?_
            refine g_if (p1 := 66) (L1 := [some (.ref a), some (.int x1), some (.int x2), some (.int x3), some (.ref p2)]) (S1 := []) (s1 := (l, r, h, j)) (p2 := 87) (L2 := [some (.ref a), some (.int x1), some (.int x2), some (.int x3), some (.ref p2)]) (S2 := []) (s2 := (l, r, h, j)) rfl (fun _ _ => rfl) e (fun c23 e => ?_) (fun c23 e => ?_)
            · refine g_run 2 69 [some (.ref a), some (.int x1), some (.int x2), some (.int x3), some (.ref p2)] [.int x2, .ref p2] (fun _ => rfl) ?_
              obtain ⟨q24, eq24, e⟩ := g_bd e
              refine g_cS 72 rfl rfl (by decide) rfl rfl rfl (Wp_costUnheeded_s kp2 eq24) ?_
              refine g_run 2 75 [some (.ref a), some (.int x1), some (.int x2), some (.int x3), some (.ref p2)] [.int x2, .ref p2, .int q24] (fun _ => rfl) ?_
              obtain ⟨q25, eq25, e⟩ := g_bd e
              refine g_cS 78 rfl rfl (by decide) rfl rfl rfl (Wp_costHeeded_s kp2 eq25) ?_
              refine g_if (p1 := 85) (L1 := [some (.ref a), some (.int x1), some (.int x2), some (.int x3), some (.ref p2)]) (S1 := []) (s1 := (l, r, h, j)) (p2 := 81) (L2 := [some (.ref a), some (.int x1), some (.int x2), some (.int x3), some (.ref p2)]) (S2 := []) (s2 := (l, r, h, j)) rfl (fun _ _ => rfl) e (fun c26 e => ?_) (fun c26 e => ?_)
              · refine g_run 1 86 [some (.ref a), some (.int x1), some (.int x2), some (.int x3), some (.ref p2)] [.int (0 : Int32)] (fun _ => rfl) ?_
                cases e
                exact g_ret rfl (fun _ _ => rfl)
              · refine g_run 2 86 [some (.ref a), some (.int x1), some (.int x2), some (.int x3), some (.ref p2)] [.int (1 : Int32)] (fun _ => rfl) ?_
                cases e
                exact g_ret rfl (fun _ _ => rfl)
            · refine g_run 2 89 [some (.ref a), some (.int x1), some (.int x2), some (.int x3), some (.ref p2)] [.int (5 : Int32), .int x3] (fun _ => rfl) ?_
              refine g_if (p1 := 92) (L1 := [some (.ref a), some (.int x1), some (.int x2), some (.int x3), some (.ref p2)]) (S1 := []) (s1 := (l, r, h, j)) (p2 := 101) (L2 := [some (.ref a), some (.int x1), some (.int x2), some (.int x3), some (.ref p2)]) (S2 := []) (s2 := (l, r, h, j)) rfl (fun _ _ => rfl) e (fun c27 e => ?_) (fun c27 e => ?_)
              · refine g_run 2 95 [some (.ref a), some (.int x1), some (.int x2), some (.int x3), some (.ref p2)] [.int x2, .ref p2] (fun _ => rfl) ?_
                obtain ⟨q28, eq28, e⟩ := g_bd e
                refine g_cS 98 rfl rfl (by decide) rfl rfl rfl (Wp_costTimesOf_s kp2 eq28) ?_
                refine g_run 1 103 [some (.ref a), some (.int x1), some (.int x2), some (.int x3), some (.ref p2)] [.int q28] (fun _ => rfl) ?_
                cases e
                exact g_ret rfl (fun _ _ => rfl)
              · refine g_run 1 103 [some (.ref a), some (.int x1), some (.int x2), some (.int x3), some (.ref p2)] [.int (-2 : Int32)] (fun _ => rfl) ?_
                cases e
                exact g_ret rfl (fun _ _ => rfl)
          · refine g_run 3 57 [some (.ref a), some (.int x1), some (.int x2), some (.int x3), some (.ref p2)] [.int x3, .int x2, .ref p2] (fun _ => rfl) ?_
            obtain ⟨q29, eq29, e⟩ := g_bd e
            refine g_cS 60 rfl rfl (by decide) rfl rfl rfl (Wp_rowsAnswer_s (fun p hp => by cases hp; exact kp2) eq29) ?_
            cases e
            exact g_ret rfl (fun _ _ => rfl)
def Wp_plan (l : List (Nat × Nat)) (r : am_R) (a : Nat) (x1 : Int32) (x2 : Int32) (x3 : Int32) (h : am_F) : Option (Int32) :=
  (Tl_rowsAt l r (a + 1) (3 : Int32) x1 h).bind fun q1 =>
  (Wp_rowsAnswer l r q1 x2 x3 h).bind fun q2 =>
  some q2
theorem Wp_plan_s {X : Nat × (Nat → Int32)} {l : List (Nat × Nat)} {r : am_R} {h : am_F} {j : am_J} {a : Nat} {x1 : Int32} {x2 : Int32} {x3 : Int32} (ka : Wp_K l r a) {q : Int32} (e : Wp_plan l r a x1 x2 x3 h = some q) : Call X 131 [.ref a, .int x1, .int x2, .int x3] (l, r, h, j) (some (.int q), (l, r, h, j)) := by
  unfold Wp_plan at e
  refine ⟨Nat.le_of_ble_eq_true rfl, ?_⟩
  show Ev X 131 0 [some (.ref a), some (.int x1), some (.int x2), some (.int x3), none] [] (l, r, h, j) _
  refine g_run 1 1 [some (.ref a), some (.int x1), some (.int x2), some (.int x3), none] [.ref a] (fun _ => rfl) ?_
  refine g_getA 4 rfl rfl (Wp_l ka) (Wp_r0 ka) ?_
  refine g_run 2 6 [some (.ref a), some (.int x1), some (.int x2), some (.int x3), none] [.int x1, .int (3 : Int32), .ref (a + 1)] (fun _ => rfl) ?_
  obtain ⟨q1, eq1, e⟩ := g_bd e
  refine g_cV 9 rfl rfl rfl rfl rfl (Tl_l (Wp_k0 ka)) (Tl_rowsAt_s (Wp_k0 ka) eq1) ?_
  refine g_run 1 11 [some (.ref a), some (.int x1), some (.int x2), some (.int x3), some (va_rf q1)] [] (fun _ => by generalize q1 = o90; cases o90 <;> rfl) ?_
  refine g_run 1 13 [some (.ref a), some (.int x1), some (.int x2), some (.int x3), some (va_rf q1)] [va_rf q1] (fun _ => by generalize q1 = o90; cases o90 <;> rfl) ?_
  refine g_run 2 15 [some (.ref a), some (.int x1), some (.int x2), some (.int x3), some (va_rf q1)] [.int x3, .int x2, va_rf q1] (fun _ => rfl) ?_
  obtain ⟨q2, eq2, e⟩ := g_bd e
  refine g_cS 18 rfl rfl (by decide) rfl rfl rfl (Wp_rowsAnswer_s (fun p hp => Tl_rowsAt_K (Wp_k0 ka) (hp ▸ eq1)) eq2) ?_
  cases e
  exact g_ret rfl (fun _ _ => rfl)
def Wp_allThere_l2 (l : List (Nat × Nat)) (r : am_R) (x0 : Nat) (x1 : Nat) (h : am_F) : Nat → Int32 → Option (Int32)
  | 0, _ => none
  | n + 1, x2 =>
    if (h x1 3) ≤ x2 then
      some (1 : Int32)
    else
      (Rw_get l r x1 x2 (0 : Int32) h).bind fun q2 =>
      if (Pk_hasBench x0 q2 h) = 0 then
        some (0 : Int32)
      else
        Wp_allThere_l2 l r x0 x1 h n (x2 + (1 : Int32))
def Wp_allThere (l : List (Nat × Nat)) (r : am_R) (x0 : Nat) (x1 : Nat) (h : am_F) : Option (Int32) :=
  Wp_allThere_l2 l r x0 x1 h g_fu (0 : Int32)
theorem Wp_allThere_l2_s {X : Nat × (Nat → Int32)} {l : List (Nat × Nat)} {r : am_R} {x0 : Nat} {x1 : Nat} {h : am_F} {j : am_J} {q : Int32} (kx0 : Pk_K l r x0) (kx1 : Rw_K l r x1) : ∀ (n : Nat) (x2 : Int32), Wp_allThere_l2 l r x0 x1 h n x2 = some q → Ev X 150 2 [some (.ref x0), some (.ref x1), some (.int x2)] [] (l, r, h, j) (some (.int q), (l, r, h, j)) := by
  intro n
  induction n with
  | zero => intro x2 e; cases e
  | succ n ih =>
    intro x2 e
    unfold Wp_allThere_l2 at e
    refine g_run 2 4 [some (.ref x0), some (.ref x1), some (.int x2)] [.ref x1, .int x2] (fun _ => rfl) ?_
    refine g_getI 7 rfl rfl (Rw_l kx1) ?_
    refine g_if (p1 := 31) (L1 := [some (.ref x0), some (.ref x1), some (.int x2)]) (S1 := []) (s1 := (l, r, h, j)) (p2 := 10) (L2 := [some (.ref x0), some (.ref x1), some (.int x2)]) (S2 := []) (s2 := (l, r, h, j)) rfl (fun _ _ => rfl) e (fun c1 e => ?_) (fun c1 e => ?_)
    · refine g_run 1 32 [some (.ref x0), some (.ref x1), some (.int x2)] [.int (1 : Int32)] (fun _ => rfl) ?_
      cases e
      exact g_retZ rfl (y := (1 : Int32)) rfl rfl
    · refine g_run 4 14 [some (.ref x0), some (.ref x1), some (.int x2)] [.int (0 : Int32), .int x2, .ref x1, .ref x0] (fun _ => rfl) ?_
      obtain ⟨q2, eq2, e⟩ := g_bd e
      refine g_cV 17 rfl rfl rfl rfl rfl (Rw_l kx1) (Rw_get_s kx1 eq2) ?_
      refine g_cV 20 rfl rfl rfl rfl rfl (Pk_l kx0) (Pk_hasBench_s kx0) ?_
      refine g_if (p1 := 23) (L1 := [some (.ref x0), some (.ref x1), some (.int x2)]) (S1 := []) (s1 := (l, r, h, j)) (p2 := 25) (L2 := [some (.ref x0), some (.ref x1), some (.int x2)]) (S2 := []) (s2 := (l, r, h, j)) rfl (fun _ _ => rfl) e (fun c3 e => ?_) (fun c3 e => ?_)
      · refine g_run 1 24 [some (.ref x0), some (.ref x1), some (.int x2)] [.int (0 : Int32)] (fun _ => rfl) ?_
        cases e
        exact g_retZ rfl (y := (0 : Int32)) rfl rfl
      · refine g_run 2 2 [some (.ref x0), some (.ref x1), some (.int (x2 + (1 : Int32)))] [] (fun _ => rfl) ?_
        exact ih _ e
theorem Wp_allThere_s {X : Nat × (Nat → Int32)} {l : List (Nat × Nat)} {r : am_R} {h : am_F} {j : am_J} {x0 : Nat} {x1 : Nat} (kx0 : Pk_K l r x0) (kx1 : Rw_K l r x1) {q : Int32} (e : Wp_allThere l r x0 x1 h = some q) : Call X 150 [.ref x0, .ref x1] (l, r, h, j) (some (.int q), (l, r, h, j)) := by
  unfold Wp_allThere at e
  refine ⟨Nat.le_of_ble_eq_true rfl, ?_⟩
  show Ev X 150 0 [some (.ref x0), some (.ref x1), none] [] (l, r, h, j) _
  refine g_run 2 2 [some (.ref x0), some (.ref x1), some (.int (0 : Int32))] [] (fun _ => rfl) ?_
  exact Wp_allThere_l2_s kx0 kx1 _ _ e
def Wp_lastToldOf_l4 (l : List (Nat × Nat)) (r : am_R) (x0 : Nat) (x1 : Int32) (h : am_F) : Nat → Int32 → Int32 → Option (Int32)
  | 0, _, _ => none
  | n + 1, x2, x3 =>
    if (h x0 3) ≤ x3 then
      some x2
    else
      (Rw_get l r x0 x3 (0 : Int32) h).bind fun q2 =>
      (if q2 = x1 then
          some x3
        else
          some x2 : Option (Int32)).bind fun q5 =>
      Wp_lastToldOf_l4 l r x0 x1 h n q5 (x3 + (1 : Int32))
def Wp_lastToldOf (l : List (Nat × Nat)) (r : am_R) (x0 : Nat) (x1 : Int32) (h : am_F) : Option (Int32) :=
  (Wp_lastToldOf_l4 l r x0 x1 h g_fu (-1 : Int32) (0 : Int32)).bind fun q6 =>
  some q6
theorem Wp_lastToldOf_l4_s {X : Nat × (Nat → Int32)} {l : List (Nat × Nat)} {r : am_R} {x0 : Nat} {x1 : Int32} {h : am_F} {j : am_J} {q : Int32} {R : Option Value × am_S} (kx0 : Rw_K l r x0) (hx : ∀ (y3 : Int32) , Ev X 153 30 [some (.ref x0), some (.int x1), some (.int q), some (.int y3)] [] (l, r, h, j) R) : ∀ (n : Nat) (x2 : Int32) (x3 : Int32), Wp_lastToldOf_l4 l r x0 x1 h n x2 x3 = some q → Ev X 153 4 [some (.ref x0), some (.int x1), some (.int x2), some (.int x3)] [] (l, r, h, j) R := by
  intro n
  induction n with
  | zero => intro x2 x3 e; cases e
  | succ n ih =>
    intro x2 x3 e
    unfold Wp_lastToldOf_l4 at e
    refine g_run 2 6 [some (.ref x0), some (.int x1), some (.int x2), some (.int x3)] [.ref x0, .int x3] (fun _ => rfl) ?_
    refine g_getI 9 rfl rfl (Rw_l kx0) ?_
    refine g_if (p1 := 30) (L1 := [some (.ref x0), some (.int x1), some (.int x2), some (.int x3)]) (S1 := []) (s1 := (l, r, h, j)) (p2 := 12) (L2 := [some (.ref x0), some (.int x1), some (.int x2), some (.int x3)]) (S2 := []) (s2 := (l, r, h, j)) rfl (fun _ _ => rfl) e (fun c1 e => ?_) (fun c1 e => ?_)
    · cases e
      exact hx _
    · refine g_run 3 15 [some (.ref x0), some (.int x1), some (.int x2), some (.int x3)] [.int (0 : Int32), .int x3, .ref x0] (fun _ => rfl) ?_
      obtain ⟨q2, eq2, e⟩ := g_bd e
      refine g_cV 18 rfl rfl rfl rfl rfl (Rw_l kx0) (Rw_get_s kx0 eq2) ?_
      refine g_run 1 19 [some (.ref x0), some (.int x1), some (.int x2), some (.int x3)] [.int x1, .int q2] (fun _ => rfl) ?_
      obtain ⟨q5, eq5, e⟩ := g_bd e
      have hjq5 : ∀ (_ : True), Ev X 153 24 [some (.ref x0), some (.int x1), some (.int q5), some (.int x3)] [] (l, r, h, j) R := by
        intro _
        refine g_run 2 4 [some (.ref x0), some (.int x1), some (.int q5), some (.int (x3 + (1 : Int32)))] [] (fun _ => rfl) ?_
        exact ih _ _ e
      replace e := eq5
      refine g_if (p1 := 22) (L1 := [some (.ref x0), some (.int x1), some (.int x2), some (.int x3)]) (S1 := []) (s1 := (l, r, h, j)) (p2 := 24) (L2 := [some (.ref x0), some (.int x1), some (.int x2), some (.int x3)]) (S2 := []) (s2 := (l, r, h, j)) rfl (fun _ _ => rfl) e (fun c3 e => ?_) (fun c3 e => ?_)
      · refine g_run 2 24 [some (.ref x0), some (.int x1), some (.int x3), some (.int x3)] [] (fun _ => rfl) ?_
        cases e
        exact hjq5 trivial
      · cases e
        exact hjq5 trivial
theorem Wp_lastToldOf_s {X : Nat × (Nat → Int32)} {l : List (Nat × Nat)} {r : am_R} {h : am_F} {j : am_J} {x0 : Nat} {x1 : Int32} (kx0 : Rw_K l r x0) {q : Int32} (e : Wp_lastToldOf l r x0 x1 h = some q) : Call X 153 [.ref x0, .int x1] (l, r, h, j) (some (.int q), (l, r, h, j)) := by
  unfold Wp_lastToldOf at e
  refine ⟨Nat.le_of_ble_eq_true rfl, ?_⟩
  show Ev X 153 0 [some (.ref x0), some (.int x1), none, none] [] (l, r, h, j) _
  refine g_run 4 4 [some (.ref x0), some (.int x1), some (.int (-1 : Int32)), some (.int (0 : Int32))] [] (fun _ => rfl) ?_
  obtain ⟨q6, eq6, e⟩ := g_bd e
  refine Wp_lastToldOf_l4_s kx0 (fun y7 => ?_) _ _ _ eq6
  refine g_run 1 31 [some (.ref x0), some (.int x1), some (.int q6), some (.int y7)] [.int q6] (fun _ => rfl) ?_
  cases e
  exact g_ret rfl (fun _ _ => rfl)
def Wp_dryHalves (l : List (Nat × Nat)) (r : am_R) (x0 : Nat) (x1 : Nat) (x2 : Int32) (x3 : Int32) (h : am_F) : Option (Int32) :=
  (Rw_get l r x1 x2 (1 : Int32) h).bind fun q1 =>
  (Pk_stage x0 q1 x3 h).bind fun q2 =>
  (if q2 = 0 then
      some (1 : Int32)
    else
      some (0 : Int32) : Option (Int32)).bind fun q5 =>
  (Rw_get l r x1 x2 (2 : Int32) h).bind fun q6 =>
  (Pk_stage x0 q6 x3 h).bind fun q7 =>
  (if q7 = 0 then
      some (1 : Int32)
    else
      some (0 : Int32) : Option (Int32)).bind fun q10 =>
  some (q5 + q10)
theorem Wp_dryHalves_s {X : Nat × (Nat → Int32)} {l : List (Nat × Nat)} {r : am_R} {h : am_F} {j : am_J} {x0 : Nat} {x1 : Nat} {x2 : Int32} {x3 : Int32} (kx0 : Pk_K l r x0) (kx1 : Rw_K l r x1) {q : Int32} (e : Wp_dryHalves l r x0 x1 x2 x3 h = some q) : Call X 151 [.ref x0, .ref x1, .int x2, .int x3] (l, r, h, j) (some (.int q), (l, r, h, j)) := by
  unfold Wp_dryHalves at e
  refine ⟨Nat.le_of_ble_eq_true rfl, ?_⟩
  show Ev X 151 0 [some (.ref x0), some (.ref x1), some (.int x2), some (.int x3), none, none] [] (l, r, h, j) _
  refine g_run 4 4 [some (.ref x0), some (.ref x1), some (.int x2), some (.int x3), none, none] [.int (1 : Int32), .int x2, .ref x1, .ref x0] (fun _ => rfl) ?_
  obtain ⟨q1, eq1, e⟩ := g_bd e
  refine g_cV 7 rfl rfl rfl rfl rfl (Rw_l kx1) (Rw_get_s kx1 eq1) ?_
  refine g_run 1 8 [some (.ref x0), some (.ref x1), some (.int x2), some (.int x3), none, none] [.int x3, .int q1, .ref x0] (fun _ => rfl) ?_
  obtain ⟨q2, eq2, e⟩ := g_bd e
  refine g_cV 11 rfl rfl rfl rfl rfl (Pk_l kx0) (Pk_stage_s kx0 eq2) ?_
  obtain ⟨q5, eq5, e⟩ := g_bd e
  have hjq5 : ∀ (_ : True), Ev X 151 19 [some (.ref x0), some (.ref x1), some (.int x2), some (.int x3), none, none] [.int q5] (l, r, h, j) (some (.int q), (l, r, h, j)) := by
    intro _
    refine g_run 5 25 [some (.ref x0), some (.ref x1), some (.int x2), some (.int x3), some (.int q5), none] [.int (2 : Int32), .int x2, .ref x1, .ref x0] (fun _ => rfl) ?_
    obtain ⟨q6, eq6, e⟩ := g_bd e
    refine g_cV 28 rfl rfl rfl rfl rfl (Rw_l kx1) (Rw_get_s kx1 eq6) ?_
    refine g_run 1 29 [some (.ref x0), some (.ref x1), some (.int x2), some (.int x3), some (.int q5), none] [.int x3, .int q6, .ref x0] (fun _ => rfl) ?_
    obtain ⟨q7, eq7, e⟩ := g_bd e
    refine g_cV 32 rfl rfl rfl rfl rfl (Pk_l kx0) (Pk_stage_s kx0 eq7) ?_
    obtain ⟨q10, eq10, e⟩ := g_bd e
    have hjq10 : ∀ (_ : True), Ev X 151 40 [some (.ref x0), some (.ref x1), some (.int x2), some (.int x3), some (.int q5), none] [.int q10] (l, r, h, j) (some (.int q), (l, r, h, j)) := by
      intro _
      refine g_run 4 47 [some (.ref x0), some (.ref x1), some (.int x2), some (.int x3), some (.int q5), some (.int q10)] [.int (q5 + q10)] (fun _ => rfl) ?_
      cases e
      exact g_ret rfl (fun _ _ => rfl)
    replace e := eq10
    refine g_if (p1 := 35) (L1 := [some (.ref x0), some (.ref x1), some (.int x2), some (.int x3), some (.int q5), none]) (S1 := []) (s1 := (l, r, h, j)) (p2 := 39) (L2 := [some (.ref x0), some (.ref x1), some (.int x2), some (.int x3), some (.int q5), none]) (S2 := []) (s2 := (l, r, h, j)) rfl (fun _ _ => rfl) e (fun c8 e => ?_) (fun c8 e => ?_)
    · refine g_run 2 40 [some (.ref x0), some (.ref x1), some (.int x2), some (.int x3), some (.int q5), none] [.int (1 : Int32)] (fun _ => rfl) ?_
      cases e
      exact hjq10 trivial
    · refine g_run 1 40 [some (.ref x0), some (.ref x1), some (.int x2), some (.int x3), some (.int q5), none] [.int (0 : Int32)] (fun _ => rfl) ?_
      cases e
      exact hjq10 trivial
  replace e := eq5
  refine g_if (p1 := 14) (L1 := [some (.ref x0), some (.ref x1), some (.int x2), some (.int x3), none, none]) (S1 := []) (s1 := (l, r, h, j)) (p2 := 18) (L2 := [some (.ref x0), some (.ref x1), some (.int x2), some (.int x3), none, none]) (S2 := []) (s2 := (l, r, h, j)) rfl (fun _ _ => rfl) e (fun c3 e => ?_) (fun c3 e => ?_)
  · refine g_run 2 19 [some (.ref x0), some (.ref x1), some (.int x2), some (.int x3), none, none] [.int (1 : Int32)] (fun _ => rfl) ?_
    cases e
    exact hjq5 trivial
  · refine g_run 1 19 [some (.ref x0), some (.ref x1), some (.int x2), some (.int x3), none, none] [.int (0 : Int32)] (fun _ => rfl) ?_
    cases e
    exact hjq5 trivial
def Wp_oneAlwaysDry_l13 (l : List (Nat × Nat)) (r : am_R) (x0 : Nat) (x1 : Nat) (x2 : Int32) (h : am_F) : Nat → Int32 → Int32 → Option (Int32)
  | 0, _, _ => none
  | n + 1, x3, x4 =>
    if (h x0 3) ≤ x4 then
      some x3
    else
      if x3 = 0 then
        (Wp_lastToldOf l r x1 x4 h).bind fun q4 =>
        (if q4 = (-1 : Int32) then
            (Pk_stageOf x0 x4 x2 h).bind fun q7 =>
            if q7 = 0 then
              some (1 : Int32)
            else
              some (0 : Int32)
          else
            (Wp_dryHalves l r x0 x1 q4 x2 h).bind fun q9 =>
            if q9 ≤ 0 then
              some (0 : Int32)
            else
              some (1 : Int32) : Option (Int32)).bind fun q11 =>
        Wp_oneAlwaysDry_l13 l r x0 x1 x2 h n q11 (x4 + (1 : Int32))
      else
        some x3
def Wp_oneAlwaysDry_l2 (l : List (Nat × Nat)) (r : am_R) (x0 : Nat) (x1 : Nat) (h : am_F) : Nat → Int32 → Option (Int32)
  | 0, _ => none
  | n + 1, x2 =>
    if (48 : Int32) ≤ x2 then
      some (1 : Int32)
    else
      (Wp_oneAlwaysDry_l13 l r x0 x1 x2 h g_fu (0 : Int32) (0 : Int32)).bind fun q12 =>
      if q12 = 0 then
        some (0 : Int32)
      else
        Wp_oneAlwaysDry_l2 l r x0 x1 h n (x2 + (1 : Int32))
def Wp_oneAlwaysDry (l : List (Nat × Nat)) (r : am_R) (x0 : Nat) (x1 : Nat) (h : am_F) : Option (Int32) :=
  Wp_oneAlwaysDry_l2 l r x0 x1 h g_fu (0 : Int32)
theorem Wp_oneAlwaysDry_l13_s {X : Nat × (Nat → Int32)} {l : List (Nat × Nat)} {r : am_R} {x0 : Nat} {x1 : Nat} {x2 : Int32} {h : am_F} {j : am_J} {q : Int32} {R : Option Value × am_S} (kx0 : Pk_K l r x0) (kx1 : Rw_K l r x1) (hx : ∀ (d5 : Option Value) (y4 : Int32) , Ev X 152 81 [some (.ref x0), some (.ref x1), some (.int x2), some (.int q), some (.int y4), d5] [] (l, r, h, j) R) : ∀ (n : Nat) (x3 : Int32) (x4 : Int32) (d5 : Option Value), Wp_oneAlwaysDry_l13 l r x0 x1 x2 h n x3 x4 = some q → Ev X 152 13 [some (.ref x0), some (.ref x1), some (.int x2), some (.int x3), some (.int x4), d5] [] (l, r, h, j) R := by
  intro n
  induction n with
  | zero => intro x3 x4 d5 e; cases e
  | succ n ih =>
    intro x3 x4 d5 e
    unfold Wp_oneAlwaysDry_l13 at e
    refine g_run 2 16 [some (.ref x0), some (.ref x1), some (.int x2), some (.int x3), some (.int x4), d5] [.ref x0, .int x4] (fun _ => rfl) ?_
    refine g_getI 19 rfl rfl (Pk_l kx0) ?_
    refine g_if (p1 := 81) (L1 := [some (.ref x0), some (.ref x1), some (.int x2), some (.int x3), some (.int x4), d5]) (S1 := []) (s1 := (l, r, h, j)) (p2 := 22) (L2 := [some (.ref x0), some (.ref x1), some (.int x2), some (.int x3), some (.int x4), d5]) (S2 := []) (s2 := (l, r, h, j)) rfl (fun _ _ => rfl) e (fun c2 e => ?_) (fun c2 e => ?_)
    · cases e
      exact hx _ _
    · refine g_run 1 23 [some (.ref x0), some (.ref x1), some (.int x2), some (.int x3), some (.int x4), d5] [.int x3] (fun _ => rfl) ?_
      refine g_if (p1 := 26) (L1 := [some (.ref x0), some (.ref x1), some (.int x2), some (.int x3), some (.int x4), d5]) (S1 := []) (s1 := (l, r, h, j)) (p2 := 81) (L2 := [some (.ref x0), some (.ref x1), some (.int x2), some (.int x3), some (.int x4), d5]) (S2 := []) (s2 := (l, r, h, j)) rfl (fun _ _ => rfl) e (fun c3 e => ?_) (fun c3 e => ?_)
      · refine g_run 2 29 [some (.ref x0), some (.ref x1), some (.int x2), some (.int x3), some (.int x4), d5] [.int x4, .ref x1] (fun _ => rfl) ?_
        obtain ⟨q4, eq4, e⟩ := g_bd e
        refine g_cS 32 rfl rfl (by decide) rfl rfl rfl (Wp_lastToldOf_s kx1 eq4) ?_
        refine g_run 3 37 [some (.ref x0), some (.ref x1), some (.int x2), some (.int x3), some (.int x4), some (.int q4)] [.int (-1 : Int32), .int q4] (fun _ => rfl) ?_
        obtain ⟨q11, eq11, e⟩ := g_bd e
        have hjq11 : ∀ (_ : True), Ev X 152 74 [some (.ref x0), some (.ref x1), some (.int x2), some (.int x3), some (.int x4), some (.int q4)] [.int q11] (l, r, h, j) R := by
          intro _
          refine g_run 3 13 [some (.ref x0), some (.ref x1), some (.int x2), some (.int q11), some (.int (x4 + (1 : Int32))), some (.int q4)] [] (fun _ => rfl) ?_
          exact ih _ _ _ e
        replace e := eq11
        refine g_if (p1 := 40) (L1 := [some (.ref x0), some (.ref x1), some (.int x2), some (.int x3), some (.int x4), some (.int q4)]) (S1 := []) (s1 := (l, r, h, j)) (p2 := 58) (L2 := [some (.ref x0), some (.ref x1), some (.int x2), some (.int x3), some (.int x4), some (.int q4)]) (S2 := []) (s2 := (l, r, h, j)) rfl (fun _ _ => rfl) e (fun c5 e => ?_) (fun c5 e => ?_)
        · refine g_run 3 44 [some (.ref x0), some (.ref x1), some (.int x2), some (.int x3), some (.int x4), some (.int q4)] [.int x2, .int x4, .ref x0] (fun _ => rfl) ?_
          obtain ⟨q7, eq7, e⟩ := g_bd e
          refine g_cV 47 rfl rfl rfl rfl rfl (Pk_l kx0) (Pk_stageOf_s kx0 eq7) ?_
          refine g_if (p1 := 50) (L1 := [some (.ref x0), some (.ref x1), some (.int x2), some (.int x3), some (.int x4), some (.int q4)]) (S1 := []) (s1 := (l, r, h, j)) (p2 := 54) (L2 := [some (.ref x0), some (.ref x1), some (.int x2), some (.int x3), some (.int x4), some (.int q4)]) (S2 := []) (s2 := (l, r, h, j)) rfl (fun _ _ => rfl) e (fun c8 e => ?_) (fun c8 e => ?_)
          · refine g_run 2 74 [some (.ref x0), some (.ref x1), some (.int x2), some (.int x3), some (.int x4), some (.int q4)] [.int (1 : Int32)] (fun _ => rfl) ?_
            cases e
            exact hjq11 trivial
          · refine g_run 2 74 [some (.ref x0), some (.ref x1), some (.int x2), some (.int x3), some (.int x4), some (.int q4)] [.int (0 : Int32)] (fun _ => rfl) ?_
            cases e
            exact hjq11 trivial
        · refine g_run 4 63 [some (.ref x0), some (.ref x1), some (.int x2), some (.int x3), some (.int x4), some (.int q4)] [.int x2, .int q4, .ref x1, .ref x0] (fun _ => rfl) ?_
          obtain ⟨q9, eq9, e⟩ := g_bd e
          refine g_cS 66 rfl rfl (by decide) rfl rfl rfl (Wp_dryHalves_s kx0 kx1 eq9) ?_
          refine g_if (p1 := 73) (L1 := [some (.ref x0), some (.ref x1), some (.int x2), some (.int x3), some (.int x4), some (.int q4)]) (S1 := []) (s1 := (l, r, h, j)) (p2 := 69) (L2 := [some (.ref x0), some (.ref x1), some (.int x2), some (.int x3), some (.int x4), some (.int q4)]) (S2 := []) (s2 := (l, r, h, j)) rfl (fun _ _ => rfl) e (fun c10 e => ?_) (fun c10 e => ?_)
          · refine g_run 1 74 [some (.ref x0), some (.ref x1), some (.int x2), some (.int x3), some (.int x4), some (.int q4)] [.int (0 : Int32)] (fun _ => rfl) ?_
            cases e
            exact hjq11 trivial
          · refine g_run 2 74 [some (.ref x0), some (.ref x1), some (.int x2), some (.int x3), some (.int x4), some (.int q4)] [.int (1 : Int32)] (fun _ => rfl) ?_
            cases e
            exact hjq11 trivial
      · cases e
        exact hx _ _
theorem Wp_oneAlwaysDry_l2_s {X : Nat × (Nat → Int32)} {l : List (Nat × Nat)} {r : am_R} {x0 : Nat} {x1 : Nat} {h : am_F} {j : am_J} {q : Int32} (kx0 : Pk_K l r x0) (kx1 : Rw_K l r x1) : ∀ (n : Nat) (x2 : Int32) (d3 : Option Value) (d4 : Option Value) (d5 : Option Value), Wp_oneAlwaysDry_l2 l r x0 x1 h n x2 = some q → Ev X 152 2 [some (.ref x0), some (.ref x1), some (.int x2), d3, d4, d5] [] (l, r, h, j) (some (.int q), (l, r, h, j)) := by
  intro n
  induction n with
  | zero => intro x2 d3 d4 d5 e; cases e
  | succ n ih =>
    intro x2 d3 d4 d5 e
    unfold Wp_oneAlwaysDry_l2 at e
    refine g_run 2 5 [some (.ref x0), some (.ref x1), some (.int x2), d3, d4, d5] [.int (48 : Int32), .int x2] (fun _ => rfl) ?_
    refine g_if (p1 := 93) (L1 := [some (.ref x0), some (.ref x1), some (.int x2), d3, d4, d5]) (S1 := []) (s1 := (l, r, h, j)) (p2 := 8) (L2 := [some (.ref x0), some (.ref x1), some (.int x2), d3, d4, d5]) (S2 := []) (s2 := (l, r, h, j)) rfl (fun _ _ => rfl) e (fun c1 e => ?_) (fun c1 e => ?_)
    · refine g_run 1 94 [some (.ref x0), some (.ref x1), some (.int x2), d3, d4, d5] [.int (1 : Int32)] (fun _ => rfl) ?_
      cases e
      exact g_ret rfl (fun _ _ => rfl)
    · refine g_run 4 13 [some (.ref x0), some (.ref x1), some (.int x2), some (.int (0 : Int32)), some (.int (0 : Int32)), d5] [] (fun _ => rfl) ?_
      obtain ⟨q12, eq12, e⟩ := g_bd e
      refine Wp_oneAlwaysDry_l13_s kx0 kx1 (fun d13 y14 => ?_) _ _ _ _ eq12
      refine g_run 1 82 [some (.ref x0), some (.ref x1), some (.int x2), some (.int q12), some (.int y14), d13] [.int q12] (fun _ => rfl) ?_
      refine g_if (p1 := 85) (L1 := [some (.ref x0), some (.ref x1), some (.int x2), some (.int q12), some (.int y14), d13]) (S1 := []) (s1 := (l, r, h, j)) (p2 := 87) (L2 := [some (.ref x0), some (.ref x1), some (.int x2), some (.int q12), some (.int y14), d13]) (S2 := []) (s2 := (l, r, h, j)) rfl (fun _ _ => rfl) e (fun c15 e => ?_) (fun c15 e => ?_)
      · refine g_run 1 86 [some (.ref x0), some (.ref x1), some (.int x2), some (.int q12), some (.int y14), d13] [.int (0 : Int32)] (fun _ => rfl) ?_
        cases e
        exact g_ret rfl (fun _ _ => rfl)
      · refine g_run 2 2 [some (.ref x0), some (.ref x1), some (.int (x2 + (1 : Int32))), some (.int q12), some (.int y14), d13] [] (fun _ => rfl) ?_
        exact ih _ _ _ _ e
theorem Wp_oneAlwaysDry_s {X : Nat × (Nat → Int32)} {l : List (Nat × Nat)} {r : am_R} {h : am_F} {j : am_J} {x0 : Nat} {x1 : Nat} (kx0 : Pk_K l r x0) (kx1 : Rw_K l r x1) {q : Int32} (e : Wp_oneAlwaysDry l r x0 x1 h = some q) : Call X 152 [.ref x0, .ref x1] (l, r, h, j) (some (.int q), (l, r, h, j)) := by
  unfold Wp_oneAlwaysDry at e
  refine ⟨Nat.le_of_ble_eq_true rfl, ?_⟩
  show Ev X 152 0 [some (.ref x0), some (.ref x1), none, none, none, none] [] (l, r, h, j) _
  refine g_run 2 2 [some (.ref x0), some (.ref x1), some (.int (0 : Int32)), none, none, none] [] (fun _ => rfl) ?_
  exact Wp_oneAlwaysDry_l2_s kx0 kx1 _ _ _ _ _ e
def Wp_halves_l109 (l : List (Nat × Nat)) (r : am_R) (x3 : Int32) (x5 : Nat) (x6 : Nat) (x8 : Int32) (h : am_F) : Nat → Int32 → Int32 → Option (Int32)
  | 0, _, _ => none
  | n + 1, x7, x9 =>
    if (48 : Int32) ≤ x9 then
      some x7
    else
      (Wp_dryHalves l r x5 x6 x3 x9 h).bind fun q18 =>
      (if q18 < x8 then
          some x7
        else
          some (x7 + (1 : Int32)) : Option (Int32)).bind fun q21 =>
      Wp_halves_l109 l r x3 x5 x6 x8 h n q21 (x9 + (1 : Int32))
def Wp_halves (l : List (Nat × Nat)) (r : am_R) (a : Nat) (x1 : Int32) (x2 : Int32) (x3 : Int32) (x4 : Int32) (h : am_F) : Option (Int32) :=
  (Tl_parkAt l r (a + 1) x1 h).bind fun q1 =>
  (Tl_rowsAt l r (a + 1) (3 : Int32) x2 h).bind fun q2 =>
  g_on q1 (
    some (-1 : Int32)) (fun p3 =>
    g_on q2 (
      some (-1 : Int32)) (fun p4 =>
      (Wp_allThere l r p3 p4 h).bind fun q5 =>
      if q5 = 0 then
        some (-1 : Int32)
      else
        if x3 = (-1 : Int32) then
          if x4 = 0 then
            (Wp_oneAlwaysDry l r p3 p4 h).bind fun q9 =>
            some q9
          else
            some (-1 : Int32)
        else
          if x3 < 0 then
            some (-1 : Int32)
          else
            if (h p4 3) ≤ x3 then
              some (-1 : Int32)
            else
              if x4 < 0 then
                some (-1 : Int32)
              else
                if x4 ≤ (1 : Int32) then
                  (if x4 = 0 then
                      some (1 : Int32)
                    else
                      some (2 : Int32) : Option (Int32)).bind fun q16 =>
                  (Wp_halves_l109 l r x3 p3 p4 q16 h g_fu (0 : Int32) (0 : Int32)).bind fun q22 =>
                  some q22
                else
                  some (-1 : Int32)))
theorem Wp_halves_l109_s {X : Nat × (Nat → Int32)} {l : List (Nat × Nat)} {r : am_R} {x3 : Int32} {x5 : Nat} {x6 : Nat} {x8 : Int32} {y0 : Nat} {y1 : Int32} {y2 : Int32} {y4 : Int32} {h : am_F} {j : am_J} {q : Int32} {R : Option Value × am_S} (kx5 : Pk_K l r x5) (kx6 : Rw_K l r x6) (hx : ∀ (y9 : Int32) , Ev X 132 140 [some (.ref y0), some (.int y1), some (.int y2), some (.int x3), some (.int y4), some (.ref x5), some (.ref x6), some (.int q), some (.int x8), some (.int y9)] [] (l, r, h, j) R) : ∀ (n : Nat) (x7 : Int32) (x9 : Int32), Wp_halves_l109 l r x3 x5 x6 x8 h n x7 x9 = some q → Ev X 132 109 [some (.ref y0), some (.int y1), some (.int y2), some (.int x3), some (.int y4), some (.ref x5), some (.ref x6), some (.int x7), some (.int x8), some (.int x9)] [] (l, r, h, j) R := by
  intro n
  induction n with
  | zero => intro x7 x9 e; cases e
  | succ n ih =>
    intro x7 x9 e
    unfold Wp_halves_l109 at e
    refine g_run 2 113 [some (.ref y0), some (.int y1), some (.int y2), some (.int x3), some (.int y4), some (.ref x5), some (.ref x6), some (.int x7), some (.int x8), some (.int x9)] [.int (48 : Int32), .int x9] (fun _ => rfl) ?_
    refine g_if (p1 := 140) (L1 := [some (.ref y0), some (.int y1), some (.int y2), some (.int x3), some (.int y4), some (.ref x5), some (.ref x6), some (.int x7), some (.int x8), some (.int x9)]) (S1 := []) (s1 := (l, r, h, j)) (p2 := 116) (L2 := [some (.ref y0), some (.int y1), some (.int y2), some (.int x3), some (.int y4), some (.ref x5), some (.ref x6), some (.int x7), some (.int x8), some (.int x9)]) (S2 := []) (s2 := (l, r, h, j)) rfl (fun _ _ => rfl) e (fun c17 e => ?_) (fun c17 e => ?_)
    · cases e
      exact hx _
    · refine g_run 4 123 [some (.ref y0), some (.int y1), some (.int y2), some (.int x3), some (.int y4), some (.ref x5), some (.ref x6), some (.int x7), some (.int x8), some (.int x9)] [.int x9, .int x3, .ref x6, .ref x5] (fun _ => rfl) ?_
      obtain ⟨q18, eq18, e⟩ := g_bd e
      refine g_cS 126 rfl rfl (by decide) rfl rfl rfl (Wp_dryHalves_s kx5 kx6 eq18) ?_
      refine g_run 1 128 [some (.ref y0), some (.int y1), some (.int y2), some (.int x3), some (.int y4), some (.ref x5), some (.ref x6), some (.int x7), some (.int x8), some (.int x9)] [.int x8, .int q18] (fun _ => rfl) ?_
      obtain ⟨q21, eq21, e⟩ := g_bd e
      have hjq21 : ∀ (_ : True), Ev X 132 134 [some (.ref y0), some (.int y1), some (.int y2), some (.int x3), some (.int y4), some (.ref x5), some (.ref x6), some (.int q21), some (.int x8), some (.int x9)] [] (l, r, h, j) R := by
        intro _
        refine g_run 2 109 [some (.ref y0), some (.int y1), some (.int y2), some (.int x3), some (.int y4), some (.ref x5), some (.ref x6), some (.int q21), some (.int x8), some (.int (x9 + (1 : Int32)))] [] (fun _ => rfl) ?_
        exact ih _ _ e
      replace e := eq21
      refine g_if (p1 := 134) (L1 := [some (.ref y0), some (.int y1), some (.int y2), some (.int x3), some (.int y4), some (.ref x5), some (.ref x6), some (.int x7), some (.int x8), some (.int x9)]) (S1 := []) (s1 := (l, r, h, j)) (p2 := 131) (L2 := [some (.ref y0), some (.int y1), some (.int y2), some (.int x3), some (.int y4), some (.ref x5), some (.ref x6), some (.int x7), some (.int x8), some (.int x9)]) (S2 := []) (s2 := (l, r, h, j)) rfl (fun _ _ => rfl) e (fun c19 e => ?_) (fun c19 e => ?_)
      · cases e
        exact hjq21 trivial
      · refine g_run 1 134 [some (.ref y0), some (.int y1), some (.int y2), some (.int x3), some (.int y4), some (.ref x5), some (.ref x6), some (.int (x7 + (1 : Int32))), some (.int x8), some (.int x9)] [] (fun _ => rfl) ?_
        cases e
        exact hjq21 trivial
theorem Wp_halves_s {X : Nat × (Nat → Int32)} {l : List (Nat × Nat)} {r : am_R} {h : am_F} {j : am_J} {a : Nat} {x1 : Int32} {x2 : Int32} {x3 : Int32} {x4 : Int32} (ka : Wp_K l r a) {q : Int32} (e : Wp_halves l r a x1 x2 x3 x4 h = some q) : Call X 132 [.ref a, .int x1, .int x2, .int x3, .int x4] (l, r, h, j) (some (.int q), (l, r, h, j)) := by
  unfold Wp_halves at e
  refine ⟨Nat.le_of_ble_eq_true rfl, ?_⟩
  show Ev X 132 0 [some (.ref a), some (.int x1), some (.int x2), some (.int x3), some (.int x4), none, none, none, none, none] [] (l, r, h, j) _
  refine g_run 1 1 [some (.ref a), some (.int x1), some (.int x2), some (.int x3), some (.int x4), none, none, none, none, none] [.ref a] (fun _ => rfl) ?_
  refine g_getA 4 rfl rfl (Wp_l ka) (Wp_r0 ka) ?_
  refine g_run 1 5 [some (.ref a), some (.int x1), some (.int x2), some (.int x3), some (.int x4), none, none, none, none, none] [.int x1, .ref (a + 1)] (fun _ => rfl) ?_
  obtain ⟨q1, eq1, e⟩ := g_bd e
  refine g_cV 8 rfl rfl rfl rfl rfl (Tl_l (Wp_k0 ka)) (Tl_parkAt_s (Wp_k0 ka) eq1) ?_
  refine g_run 1 10 [some (.ref a), some (.int x1), some (.int x2), some (.int x3), some (.int x4), some (va_rf q1), none, none, none, none] [] (fun _ => by generalize q1 = o90; cases o90 <;> rfl) ?_
  refine g_run 1 11 [some (.ref a), some (.int x1), some (.int x2), some (.int x3), some (.int x4), some (va_rf q1), none, none, none, none] [.ref a] (fun _ => rfl) ?_
  refine g_getA 14 rfl rfl (Wp_l ka) (Wp_r0 ka) ?_
  refine g_run 2 16 [some (.ref a), some (.int x1), some (.int x2), some (.int x3), some (.int x4), some (va_rf q1), none, none, none, none] [.int x2, .int (3 : Int32), .ref (a + 1)] (fun _ => rfl) ?_
  obtain ⟨q2, eq2, e⟩ := g_bd e
  refine g_cV 19 rfl rfl rfl rfl rfl (Tl_l (Wp_k0 ka)) (Tl_rowsAt_s (Wp_k0 ka) eq2) ?_
  refine g_run 1 21 [some (.ref a), some (.int x1), some (.int x2), some (.int x3), some (.int x4), some (va_rf q1), some (va_rf q2), none, none, none] [] (fun _ => by generalize q1 = o90; generalize q2 = o91; cases o90 <;> cases o91 <;> rfl) ?_
  refine g_run 1 23 [some (.ref a), some (.int x1), some (.int x2), some (.int x3), some (.int x4), some (va_rf q1), some (va_rf q2), none, none, none] [va_rf q1] (fun _ => by generalize q1 = o90; generalize q2 = o91; cases o90 <;> cases o91 <;> rfl) ?_
  cases q1 with
  | none =>
    replace e := g_onN e
    refine g_run 1 41 [some (.ref a), some (.int x1), some (.int x2), some (.int x3), some (.int x4), some (.null), some (va_rf q2), none, none, none] [] (fun _ => rfl) ?_
    refine g_run 1 42 [some (.ref a), some (.int x1), some (.int x2), some (.int x3), some (.int x4), some (.null), some (va_rf q2), none, none, none] [.int (-1 : Int32)] (fun _ => rfl) ?_
    cases e
    exact g_ret rfl (fun _ _ => rfl)
  | some p3 =>
    replace e := g_onS e
    have kp3 := Tl_parkAt_K (Wp_k0 ka) eq1
    refine g_run 1 26 [some (.ref a), some (.int x1), some (.int x2), some (.int x3), some (.int x4), some (.ref p3), some (va_rf q2), none, none, none] [] (fun _ => rfl) ?_
    refine g_run 1 28 [some (.ref a), some (.int x1), some (.int x2), some (.int x3), some (.int x4), some (.ref p3), some (va_rf q2), none, none, none] [va_rf q2] (fun _ => by generalize q2 = o90; cases o90 <;> rfl) ?_
    cases q2 with
    | none =>
      replace e := g_onN e
      refine g_run 1 41 [some (.ref a), some (.int x1), some (.int x2), some (.int x3), some (.int x4), some (.ref p3), some (.null), none, none, none] [] (fun _ => rfl) ?_
      refine g_run 1 42 [some (.ref a), some (.int x1), some (.int x2), some (.int x3), some (.int x4), some (.ref p3), some (.null), none, none, none] [.int (-1 : Int32)] (fun _ => rfl) ?_
      cases e
      exact g_ret rfl (fun _ _ => rfl)
    | some p4 =>
      replace e := g_onS e
      have kp4 := Tl_rowsAt_K (Wp_k0 ka) eq2
      refine g_run 1 31 [some (.ref a), some (.int x1), some (.int x2), some (.int x3), some (.int x4), some (.ref p3), some (.ref p4), none, none, none] [] (fun _ => rfl) ?_
      refine g_run 2 35 [some (.ref a), some (.int x1), some (.int x2), some (.int x3), some (.int x4), some (.ref p3), some (.ref p4), none, none, none] [.ref p4, .ref p3] (fun _ => rfl) ?_
      obtain ⟨q5, eq5, e⟩ := g_bd e
      refine g_cS 38 rfl rfl (by decide) rfl rfl rfl (Wp_allThere_s kp3 kp4 eq5) ?_
      refine g_if (p1 := 41) (L1 := [some (.ref a), some (.int x1), some (.int x2), some (.int x3), some (.int x4), some (.ref p3), some (.ref p4), none, none, none]) (S1 := []) (s1 := (l, r, h, j)) (p2 := 43) (L2 := [some (.ref a), some (.int x1), some (.int x2), some (.int x3), some (.int x4), some (.ref p3), some (.ref p4), none, none, none]) (S2 := []) (s2 := (l, r, h, j)) rfl (fun _ _ => rfl) e (fun c6 e => ?_) (fun c6 e => ?_)
      · refine g_run 1 42 [some (.ref a), some (.int x1), some (.int x2), some (.int x3), some (.int x4), some (.ref p3), some (.ref p4), none, none, none] [.int (-1 : Int32)] (fun _ => rfl) ?_
        cases e
        exact g_ret rfl (fun _ _ => rfl)
      · refine g_run 2 45 [some (.ref a), some (.int x1), some (.int x2), some (.int x3), some (.int x4), some (.ref p3), some (.ref p4), none, none, none] [.int (-1 : Int32), .int x3] (fun _ => rfl) ?_
        refine g_if (p1 := 48) (L1 := [some (.ref a), some (.int x1), some (.int x2), some (.int x3), some (.int x4), some (.ref p3), some (.ref p4), none, none, none]) (S1 := []) (s1 := (l, r, h, j)) (p2 := 65) (L2 := [some (.ref a), some (.int x1), some (.int x2), some (.int x3), some (.int x4), some (.ref p3), some (.ref p4), none, none, none]) (S2 := []) (s2 := (l, r, h, j)) rfl (fun _ _ => rfl) e (fun c7 e => ?_) (fun c7 e => ?_)
        · refine g_run 1 50 [some (.ref a), some (.int x1), some (.int x2), some (.int x3), some (.int x4), some (.ref p3), some (.ref p4), none, none, none] [.int x4] (fun _ => rfl) ?_
          refine g_if (p1 := 53) (L1 := [some (.ref a), some (.int x1), some (.int x2), some (.int x3), some (.int x4), some (.ref p3), some (.ref p4), none, none, none]) (S1 := []) (s1 := (l, r, h, j)) (p2 := 63) (L2 := [some (.ref a), some (.int x1), some (.int x2), some (.int x3), some (.int x4), some (.ref p3), some (.ref p4), none, none, none]) (S2 := []) (s2 := (l, r, h, j)) rfl (fun _ _ => rfl) e (fun c8 e => ?_) (fun c8 e => ?_)
          · refine g_run 2 57 [some (.ref a), some (.int x1), some (.int x2), some (.int x3), some (.int x4), some (.ref p3), some (.ref p4), none, none, none] [.ref p4, .ref p3] (fun _ => rfl) ?_
            obtain ⟨q9, eq9, e⟩ := g_bd e
            refine g_cS 60 rfl rfl (by decide) rfl rfl rfl (Wp_oneAlwaysDry_s kp3 kp4 eq9) ?_
            refine g_run 1 64 [some (.ref a), some (.int x1), some (.int x2), some (.int x3), some (.int x4), some (.ref p3), some (.ref p4), none, none, none] [.int q9] (fun _ => rfl) ?_
            cases e
            exact g_ret rfl (fun _ _ => rfl)
          · refine g_run 1 64 [some (.ref a), some (.int x1), some (.int x2), some (.int x3), some (.int x4), some (.ref p3), some (.ref p4), none, none, none] [.int (-1 : Int32)] (fun _ => rfl) ?_
            cases e
            exact g_ret rfl (fun _ _ => rfl)
        · refine g_run 1 66 [some (.ref a), some (.int x1), some (.int x2), some (.int x3), some (.int x4), some (.ref p3), some (.ref p4), none, none, none] [.int x3] (fun _ => rfl) ?_
          refine g_if (p1 := 89) (L1 := [some (.ref a), some (.int x1), some (.int x2), some (.int x3), some (.int x4), some (.ref p3), some (.ref p4), none, none, none]) (S1 := []) (s1 := (l, r, h, j)) (p2 := 69) (L2 := [some (.ref a), some (.int x1), some (.int x2), some (.int x3), some (.int x4), some (.ref p3), some (.ref p4), none, none, none]) (S2 := []) (s2 := (l, r, h, j)) rfl (fun _ _ => rfl) e (fun c10 e => ?_) (fun c10 e => ?_)
          · refine g_run 1 90 [some (.ref a), some (.int x1), some (.int x2), some (.int x3), some (.int x4), some (.ref p3), some (.ref p4), none, none, none] [.int (-1 : Int32)] (fun _ => rfl) ?_
            cases e
            exact g_ret rfl (fun _ _ => rfl)
          · refine g_run 2 72 [some (.ref a), some (.int x1), some (.int x2), some (.int x3), some (.int x4), some (.ref p3), some (.ref p4), none, none, none] [.ref p4, .int x3] (fun _ => rfl) ?_
            refine g_getI 75 rfl rfl (Rw_l kp4) ?_
            refine g_if (p1 := 89) (L1 := [some (.ref a), some (.int x1), some (.int x2), some (.int x3), some (.int x4), some (.ref p3), some (.ref p4), none, none, none]) (S1 := []) (s1 := (l, r, h, j)) (p2 := 78) (L2 := [some (.ref a), some (.int x1), some (.int x2), some (.int x3), some (.int x4), some (.ref p3), some (.ref p4), none, none, none]) (S2 := []) (s2 := (l, r, h, j)) rfl (fun _ _ => rfl) e (fun c11 e => ?_) (fun c11 e => ?_)
            · refine g_run 1 90 [some (.ref a), some (.int x1), some (.int x2), some (.int x3), some (.int x4), some (.ref p3), some (.ref p4), none, none, none] [.int (-1 : Int32)] (fun _ => rfl) ?_
              cases e
              exact g_ret rfl (fun _ _ => rfl)
            · refine g_run 1 80 [some (.ref a), some (.int x1), some (.int x2), some (.int x3), some (.int x4), some (.ref p3), some (.ref p4), none, none, none] [.int x4] (fun _ => rfl) ?_
              refine g_if (p1 := 89) (L1 := [some (.ref a), some (.int x1), some (.int x2), some (.int x3), some (.int x4), some (.ref p3), some (.ref p4), none, none, none]) (S1 := []) (s1 := (l, r, h, j)) (p2 := 83) (L2 := [some (.ref a), some (.int x1), some (.int x2), some (.int x3), some (.int x4), some (.ref p3), some (.ref p4), none, none, none]) (S2 := []) (s2 := (l, r, h, j)) rfl (fun _ _ => rfl) e (fun c12 e => ?_) (fun c12 e => ?_)
              · refine g_run 1 90 [some (.ref a), some (.int x1), some (.int x2), some (.int x3), some (.int x4), some (.ref p3), some (.ref p4), none, none, none] [.int (-1 : Int32)] (fun _ => rfl) ?_
                cases e
                exact g_ret rfl (fun _ _ => rfl)
              · refine g_run 2 86 [some (.ref a), some (.int x1), some (.int x2), some (.int x3), some (.int x4), some (.ref p3), some (.ref p4), none, none, none] [.int (1 : Int32), .int x4] (fun _ => rfl) ?_
                refine g_if (p1 := 91) (L1 := [some (.ref a), some (.int x1), some (.int x2), some (.int x3), some (.int x4), some (.ref p3), some (.ref p4), none, none, none]) (S1 := []) (s1 := (l, r, h, j)) (p2 := 89) (L2 := [some (.ref a), some (.int x1), some (.int x2), some (.int x3), some (.int x4), some (.ref p3), some (.ref p4), none, none, none]) (S2 := []) (s2 := (l, r, h, j)) rfl (fun _ _ => rfl) e (fun c13 e => ?_) (fun c13 e => ?_)
                · refine g_run 3 96 [some (.ref a), some (.int x1), some (.int x2), some (.int x3), some (.int x4), some (.ref p3), some (.ref p4), some (.int (0 : Int32)), none, none] [.int x4] (fun _ => rfl) ?_
                  obtain ⟨q16, eq16, e⟩ := g_bd e
                  have hjq16 : ∀ (_ : True), Ev X 132 104 [some (.ref a), some (.int x1), some (.int x2), some (.int x3), some (.int x4), some (.ref p3), some (.ref p4), some (.int (0 : Int32)), none, none] [.int q16] (l, r, h, j) (some (.int q), (l, r, h, j)) := by
                    intro _
                    refine g_run 3 109 [some (.ref a), some (.int x1), some (.int x2), some (.int x3), some (.int x4), some (.ref p3), some (.ref p4), some (.int (0 : Int32)), some (.int q16), some (.int (0 : Int32))] [] (fun _ => rfl) ?_
                    obtain ⟨q22, eq22, e⟩ := g_bd e
                    refine Wp_halves_l109_s kp3 kp4 (fun y23 => ?_) _ _ _ eq22
                    refine g_run 1 142 [some (.ref a), some (.int x1), some (.int x2), some (.int x3), some (.int x4), some (.ref p3), some (.ref p4), some (.int q22), some (.int q16), some (.int y23)] [.int q22] (fun _ => rfl) ?_
                    cases e
                    exact g_ret rfl (fun _ _ => rfl)
                  replace e := eq16
                  refine g_if (p1 := 99) (L1 := [some (.ref a), some (.int x1), some (.int x2), some (.int x3), some (.int x4), some (.ref p3), some (.ref p4), some (.int (0 : Int32)), none, none]) (S1 := []) (s1 := (l, r, h, j)) (p2 := 103) (L2 := [some (.ref a), some (.int x1), some (.int x2), some (.int x3), some (.int x4), some (.ref p3), some (.ref p4), some (.int (0 : Int32)), none, none]) (S2 := []) (s2 := (l, r, h, j)) rfl (fun _ _ => rfl) e (fun c14 e => ?_) (fun c14 e => ?_)
                  · refine g_run 2 104 [some (.ref a), some (.int x1), some (.int x2), some (.int x3), some (.int x4), some (.ref p3), some (.ref p4), some (.int (0 : Int32)), none, none] [.int (1 : Int32)] (fun _ => rfl) ?_
                    cases e
                    exact hjq16 trivial
                  · refine g_run 1 104 [some (.ref a), some (.int x1), some (.int x2), some (.int x3), some (.int x4), some (.ref p3), some (.ref p4), some (.int (0 : Int32)), none, none] [.int (2 : Int32)] (fun _ => rfl) ?_
                    cases e
                    exact hjq16 trivial
                · refine g_run 1 90 [some (.ref a), some (.int x1), some (.int x2), some (.int x3), some (.int x4), some (.ref p3), some (.ref p4), none, none, none] [.int (-1 : Int32)] (fun _ => rfl) ?_
                  cases e
                  exact g_ret rfl (fun _ _ => rfl)
def Wp_drawn (l : List (Nat × Nat)) (r : am_R) (a : Nat) (x1 : Int32) (x2 : Int32) (x3 : Int32) (x4 : Int32) (h : am_F) : Option (Int32 × am_F) :=
  (Tl_parkAt l r (a + 1) x1 h).bind fun q1 =>
  g_on q1 (
    some ((-1 : Int32), h)) (fun p2 =>
    if (h p2 3) < (1 : Int32) then
      some ((-1 : Int32), h)
    else
      if x3 < (1 : Int32) then
        some ((-1 : Int32), h)
      else
        if x3 ≤ (14 : Int32) then
          (Tr_draw l r (a + 76) p2 x2 x3 h).bind fun q6 =>
          if x4 < (30 : Int32) then
            (Dy_sum l r ((a + 76) + 1) x4 (q6 p2 3) q6).bind fun q8 =>
            some (q8, q6)
          else
            (Rw_get l r (((a + 76) + 1) + 1) (x4 - (30 : Int32)) (0 : Int32) q6).bind fun q9 =>
            some (q9, q6)
        else
          some ((-1 : Int32), h))
theorem Wp_drawn_s {X : Nat × (Nat → Int32)} {l : List (Nat × Nat)} {r : am_R} {h : am_F} {j : am_J} {a : Nat} {x1 : Int32} {x2 : Int32} {x3 : Int32} {x4 : Int32} (ka : Wp_K l r a) {q : Int32 × am_F} (e : Wp_drawn l r a x1 x2 x3 x4 h = some q) : Call X 133 [.ref a, .int x1, .int x2, .int x3, .int x4] (l, r, h, j) (some (.int q.1), (l, r, q.2, j)) := by
  unfold Wp_drawn at e
  refine ⟨Nat.le_of_ble_eq_true rfl, ?_⟩
  show Ev X 133 0 [some (.ref a), some (.int x1), some (.int x2), some (.int x3), some (.int x4), none] [] (l, r, h, j) _
  refine g_run 1 1 [some (.ref a), some (.int x1), some (.int x2), some (.int x3), some (.int x4), none] [.ref a] (fun _ => rfl) ?_
  refine g_getA 4 rfl rfl (Wp_l ka) (Wp_r0 ka) ?_
  refine g_run 1 5 [some (.ref a), some (.int x1), some (.int x2), some (.int x3), some (.int x4), none] [.int x1, .ref (a + 1)] (fun _ => rfl) ?_
  obtain ⟨q1, eq1, e⟩ := g_bd e
  refine g_cV 8 rfl rfl rfl rfl rfl (Tl_l (Wp_k0 ka)) (Tl_parkAt_s (Wp_k0 ka) eq1) ?_
  refine g_run 1 10 [some (.ref a), some (.int x1), some (.int x2), some (.int x3), some (.int x4), some (va_rf q1)] [] (fun _ => by generalize q1 = o90; cases o90 <;> rfl) ?_
  refine g_run 1 12 [some (.ref a), some (.int x1), some (.int x2), some (.int x3), some (.int x4), some (va_rf q1)] [va_rf q1] (fun _ => by generalize q1 = o90; cases o90 <;> rfl) ?_
  cases q1 with
  | none =>
    replace e := g_onN e
    refine g_run 1 35 [some (.ref a), some (.int x1), some (.int x2), some (.int x3), some (.int x4), some (.null)] [] (fun _ => rfl) ?_
    refine g_run 1 36 [some (.ref a), some (.int x1), some (.int x2), some (.int x3), some (.int x4), some (.null)] [.int (-1 : Int32)] (fun _ => rfl) ?_
    cases e
    exact g_ret rfl (fun _ _ => rfl)
  | some p2 =>
    replace e := g_onS e
    have kp2 := Tl_parkAt_K (Wp_k0 ka) eq1
    refine g_run 1 15 [some (.ref a), some (.int x1), some (.int x2), some (.int x3), some (.int x4), some (.ref p2)] [] (fun _ => rfl) ?_
    refine g_run 1 17 [some (.ref a), some (.int x1), some (.int x2), some (.int x3), some (.int x4), some (.ref p2)] [.ref p2] (fun _ => rfl) ?_
    refine g_getI 20 rfl rfl (Pk_l kp2) ?_
    refine g_run 1 21 [some (.ref a), some (.int x1), some (.int x2), some (.int x3), some (.int x4), some (.ref p2)] [.int (1 : Int32), .int (h p2 3)] (fun _ => rfl) ?_
    refine g_if (p1 := 35) (L1 := [some (.ref a), some (.int x1), some (.int x2), some (.int x3), some (.int x4), some (.ref p2)]) (S1 := []) (s1 := (l, r, h, j)) (p2 := 24) (L2 := [some (.ref a), some (.int x1), some (.int x2), some (.int x3), some (.int x4), some (.ref p2)]) (S2 := []) (s2 := (l, r, h, j)) rfl (fun _ _ => rfl) e (fun c3 e => ?_) (fun c3 e => ?_)
    · refine g_run 1 36 [some (.ref a), some (.int x1), some (.int x2), some (.int x3), some (.int x4), some (.ref p2)] [.int (-1 : Int32)] (fun _ => rfl) ?_
      cases e
      exact g_ret rfl (fun _ _ => rfl)
    · refine g_run 2 26 [some (.ref a), some (.int x1), some (.int x2), some (.int x3), some (.int x4), some (.ref p2)] [.int (1 : Int32), .int x3] (fun _ => rfl) ?_
      refine g_if (p1 := 35) (L1 := [some (.ref a), some (.int x1), some (.int x2), some (.int x3), some (.int x4), some (.ref p2)]) (S1 := []) (s1 := (l, r, h, j)) (p2 := 29) (L2 := [some (.ref a), some (.int x1), some (.int x2), some (.int x3), some (.int x4), some (.ref p2)]) (S2 := []) (s2 := (l, r, h, j)) rfl (fun _ _ => rfl) e (fun c4 e => ?_) (fun c4 e => ?_)
      · refine g_run 1 36 [some (.ref a), some (.int x1), some (.int x2), some (.int x3), some (.int x4), some (.ref p2)] [.int (-1 : Int32)] (fun _ => rfl) ?_
        cases e
        exact g_ret rfl (fun _ _ => rfl)
      · refine g_run 2 32 [some (.ref a), some (.int x1), some (.int x2), some (.int x3), some (.int x4), some (.ref p2)] [.int (14 : Int32), .int x3] (fun _ => rfl) ?_
        refine g_if (p1 := 37) (L1 := [some (.ref a), some (.int x1), some (.int x2), some (.int x3), some (.int x4), some (.ref p2)]) (S1 := []) (s1 := (l, r, h, j)) (p2 := 35) (L2 := [some (.ref a), some (.int x1), some (.int x2), some (.int x3), some (.int x4), some (.ref p2)]) (S2 := []) (s2 := (l, r, h, j)) rfl (fun _ _ => rfl) e (fun c5 e => ?_) (fun c5 e => ?_)
        · refine g_run 1 38 [some (.ref a), some (.int x1), some (.int x2), some (.int x3), some (.int x4), some (.ref p2)] [.ref a] (fun _ => rfl) ?_
          refine g_getA 41 rfl rfl (Wp_l ka) (Wp_r4 ka) ?_
          refine g_run 3 45 [some (.ref a), some (.int x1), some (.int x2), some (.int x3), some (.int x4), some (.ref p2)] [.int x3, .int x2, .ref p2, .ref (a + 76)] (fun _ => rfl) ?_
          obtain ⟨q6, eq6, e⟩ := g_bd e
          refine g_cVv 48 rfl rfl rfl rfl rfl (Tr_l (Wp_k4 ka)) (Tr_draw_s (Wp_k4 ka) kp2 eq6) ?_
          refine g_run 2 52 [some (.ref a), some (.int x1), some (.int x2), some (.int x3), some (.int x4), some (.ref p2)] [.int (30 : Int32), .int x4] (fun _ => rfl) ?_
          refine g_if (p1 := 75) (L1 := [some (.ref a), some (.int x1), some (.int x2), some (.int x3), some (.int x4), some (.ref p2)]) (S1 := []) (s1 := (l, r, q6, j)) (p2 := 55) (L2 := [some (.ref a), some (.int x1), some (.int x2), some (.int x3), some (.int x4), some (.ref p2)]) (S2 := []) (s2 := (l, r, q6, j)) rfl (fun _ _ => rfl) e (fun c7 e => ?_) (fun c7 e => ?_)
          · refine g_run 1 76 [some (.ref a), some (.int x1), some (.int x2), some (.int x3), some (.int x4), some (.ref p2)] [.ref a] (fun _ => rfl) ?_
            refine g_getA 79 rfl rfl (Wp_l ka) (Wp_r4 ka) ?_
            refine g_getA 82 rfl rfl (Tr_l (Wp_k4 ka)) (Tr_r2 (Wp_k4 ka)) ?_
            refine g_run 2 86 [some (.ref a), some (.int x1), some (.int x2), some (.int x3), some (.int x4), some (.ref p2)] [.ref p2, .int x4, .ref ((a + 76) + 1)] (fun _ => rfl) ?_
            refine g_getI 89 rfl rfl (Pk_l kp2) ?_
            obtain ⟨q8, eq8, e⟩ := g_bd e
            refine g_cV 92 rfl rfl rfl rfl rfl (Dy_l (Tr_k2 (Wp_k4 ka))) (Dy_sum_s (Tr_k2 (Wp_k4 ka)) eq8) ?_
            cases e
            exact g_ret rfl (fun _ _ => rfl)
          · refine g_run 1 56 [some (.ref a), some (.int x1), some (.int x2), some (.int x3), some (.int x4), some (.ref p2)] [.ref a] (fun _ => rfl) ?_
            refine g_getA 59 rfl rfl (Wp_l ka) (Wp_r4 ka) ?_
            refine g_getA 62 rfl rfl (Tr_l (Wp_k4 ka)) (Tr_r2 (Wp_k4 ka)) ?_
            refine g_getA 65 rfl rfl (Dy_l (Tr_k2 (Wp_k4 ka))) (Dy_r3 (Tr_k2 (Wp_k4 ka))) ?_
            refine g_run 4 71 [some (.ref a), some (.int x1), some (.int x2), some (.int x3), some (.int x4), some (.ref p2)] [.int (0 : Int32), .int (x4 - (30 : Int32)), .ref (((a + 76) + 1) + 1)] (fun _ => rfl) ?_
            obtain ⟨q9, eq9, e⟩ := g_bd e
            refine g_cV 74 rfl rfl rfl rfl rfl (Rw_l (Dy_k3 (Tr_k2 (Wp_k4 ka)))) (Rw_get_s (Dy_k3 (Tr_k2 (Wp_k4 ka))) eq9) ?_
            cases e
            exact g_ret rfl (fun _ _ => rfl)
        · refine g_run 1 36 [some (.ref a), some (.int x1), some (.int x2), some (.int x3), some (.int x4), some (.ref p2)] [.int (-1 : Int32)] (fun _ => rfl) ?_
          cases e
          exact g_ret rfl (fun _ _ => rfl)
def Wp_otherwise (l : List (Nat × Nat)) (r : am_R) (a : Nat) (x1 : Int32) (x2 : Int32) (x3 : Int32) (h : am_F) : Option (Int32 × am_F) :=
  (Tl_parkAt l r (a + 1) x1 h).bind fun q1 =>
  g_on q1 (
    some ((-1000000 : Int32), h)) (fun p2 =>
    if x2 < 0 then
      some ((-1000000 : Int32), h)
    else
      if x2 < (h (p2 + 11) 3) then
        if x3 = (0 : Int32) then
          (Tr_hasAsTold l r (a + 76) p2 x2 h).bind fun q5 =>
          some (q5.1, q5.2)
        else if x3 = (1 : Int32) then
          (Tr_comeLater l r (a + 76) p2 x2 h).bind fun q7 =>
          some ((q7 (a + 76) 0), q7)
        else if x3 = (2 : Int32) then
          (Tr_comeLater l r (a + 76) p2 x2 h).bind fun q9 =>
          some ((q9 (a + 76) 1), q9)
        else if x3 = (3 : Int32) then
          (Tr_comeElsewhere l r (a + 76) p2 x2 h).bind fun q11 =>
          some ((q11 (a + 76) 0), q11)
        else if x3 = (4 : Int32) then
          (Tr_comeElsewhere l r (a + 76) p2 x2 h).bind fun q13 =>
          some ((q13 (a + 76) 1), q13)
        else 
          some ((-1000000 : Int32), h)
      else
        some ((-1000000 : Int32), h))
theorem Wp_otherwise_s {X : Nat × (Nat → Int32)} {l : List (Nat × Nat)} {r : am_R} {h : am_F} {j : am_J} {a : Nat} {x1 : Int32} {x2 : Int32} {x3 : Int32} (ka : Wp_K l r a) {q : Int32 × am_F} (e : Wp_otherwise l r a x1 x2 x3 h = some q) : Call X 134 [.ref a, .int x1, .int x2, .int x3] (l, r, h, j) (some (.int q.1), (l, r, q.2, j)) := by
  unfold Wp_otherwise at e
  refine ⟨Nat.le_of_ble_eq_true rfl, ?_⟩
  show Ev X 134 0 [some (.ref a), some (.int x1), some (.int x2), some (.int x3), none] [] (l, r, h, j) _
  refine g_run 1 1 [some (.ref a), some (.int x1), some (.int x2), some (.int x3), none] [.ref a] (fun _ => rfl) ?_
  refine g_getA 4 rfl rfl (Wp_l ka) (Wp_r0 ka) ?_
  refine g_run 1 5 [some (.ref a), some (.int x1), some (.int x2), some (.int x3), none] [.int x1, .ref (a + 1)] (fun _ => rfl) ?_
  obtain ⟨q1, eq1, e⟩ := g_bd e
  refine g_cV 8 rfl rfl rfl rfl rfl (Tl_l (Wp_k0 ka)) (Tl_parkAt_s (Wp_k0 ka) eq1) ?_
  refine g_run 1 10 [some (.ref a), some (.int x1), some (.int x2), some (.int x3), some (va_rf q1)] [] (fun _ => by generalize q1 = o90; cases o90 <;> rfl) ?_
  refine g_run 1 12 [some (.ref a), some (.int x1), some (.int x2), some (.int x3), some (va_rf q1)] [va_rf q1] (fun _ => by generalize q1 = o90; cases o90 <;> rfl) ?_
  cases q1 with
  | none =>
    replace e := g_onN e
    refine g_run 1 31 [some (.ref a), some (.int x1), some (.int x2), some (.int x3), some (.null)] [] (fun _ => rfl) ?_
    refine g_run 1 33 [some (.ref a), some (.int x1), some (.int x2), some (.int x3), some (.null)] [.int (-1000000 : Int32)] (fun _ => rfl) ?_
    cases e
    exact g_ret rfl (fun _ _ => rfl)
  | some p2 =>
    replace e := g_onS e
    have kp2 := Tl_parkAt_K (Wp_k0 ka) eq1
    refine g_run 1 15 [some (.ref a), some (.int x1), some (.int x2), some (.int x3), some (.ref p2)] [] (fun _ => rfl) ?_
    refine g_run 1 16 [some (.ref a), some (.int x1), some (.int x2), some (.int x3), some (.ref p2)] [.int x2] (fun _ => rfl) ?_
    refine g_if (p1 := 31) (L1 := [some (.ref a), some (.int x1), some (.int x2), some (.int x3), some (.ref p2)]) (S1 := []) (s1 := (l, r, h, j)) (p2 := 19) (L2 := [some (.ref a), some (.int x1), some (.int x2), some (.int x3), some (.ref p2)]) (S2 := []) (s2 := (l, r, h, j)) rfl (fun _ _ => rfl) e (fun c3 e => ?_) (fun c3 e => ?_)
    · refine g_run 1 33 [some (.ref a), some (.int x1), some (.int x2), some (.int x3), some (.ref p2)] [.int (-1000000 : Int32)] (fun _ => rfl) ?_
      cases e
      exact g_ret rfl (fun _ _ => rfl)
    · refine g_run 2 22 [some (.ref a), some (.int x1), some (.int x2), some (.int x3), some (.ref p2)] [.ref p2, .int x2] (fun _ => rfl) ?_
      refine g_getA 25 rfl rfl (Pk_l kp2) (Pk_r12 kp2) ?_
      refine g_getI 28 rfl rfl (Rw_l (Pk_k12 kp2)) ?_
      refine g_if (p1 := 34) (L1 := [some (.ref a), some (.int x1), some (.int x2), some (.int x3), some (.ref p2)]) (S1 := []) (s1 := (l, r, h, j)) (p2 := 31) (L2 := [some (.ref a), some (.int x1), some (.int x2), some (.int x3), some (.ref p2)]) (S2 := []) (s2 := (l, r, h, j)) rfl (fun _ _ => rfl) e (fun c4 e => ?_) (fun c4 e => ?_)
      · refine g_run 1 35 [some (.ref a), some (.int x1), some (.int x2), some (.int x3), some (.ref p2)] [.int x3] (fun _ => rfl) ?_
        by_cases c6 : x3 = (0 : Int32)
        · replace e := (if_pos c6).symm.trans e
          refine g_sw (p1 := 68) (L1 := [some (.ref a), some (.int x1), some (.int x2), some (.int x3), some (.ref p2)]) (S1 := []) (s1 := (l, r, h, j)) rfl c6 (fun _ _ => rfl) ?_
          refine g_run 1 69 [some (.ref a), some (.int x1), some (.int x2), some (.int x3), some (.ref p2)] [.ref a] (fun _ => rfl) ?_
          refine g_getA 72 rfl rfl (Wp_l ka) (Wp_r4 ka) ?_
          refine g_run 2 75 [some (.ref a), some (.int x1), some (.int x2), some (.int x3), some (.ref p2)] [.int x2, .ref p2, .ref (a + 76)] (fun _ => rfl) ?_
          obtain ⟨q5, eq5, e⟩ := g_bd e
          refine g_cV 78 rfl rfl rfl rfl rfl (Tr_l (Wp_k4 ka)) (Tr_hasAsTold_s (Wp_k4 ka) kp2 eq5) ?_
          cases e
          exact g_ret rfl (fun _ _ => rfl)
        replace e := (if_neg c6).symm.trans e
        by_cases c8 : x3 = (1 : Int32)
        · replace e := (if_pos c8).symm.trans e
          refine g_sw (p1 := 79) (L1 := [some (.ref a), some (.int x1), some (.int x2), some (.int x3), some (.ref p2)]) (S1 := []) (s1 := (l, r, h, j)) rfl c8 (fun _ _ => rfl) ?_
          refine g_run 1 80 [some (.ref a), some (.int x1), some (.int x2), some (.int x3), some (.ref p2)] [.ref a] (fun _ => rfl) ?_
          refine g_getA 83 rfl rfl (Wp_l ka) (Wp_r4 ka) ?_
          refine g_run 2 86 [some (.ref a), some (.int x1), some (.int x2), some (.int x3), some (.ref p2)] [.int x2, .ref p2, .ref (a + 76)] (fun _ => rfl) ?_
          obtain ⟨q7, eq7, e⟩ := g_bd e
          refine g_cVv 89 rfl rfl rfl rfl rfl (Tr_l (Wp_k4 ka)) (Tr_comeLater_s (Wp_k4 ka) kp2 eq7) ?_
          refine g_run 1 90 [some (.ref a), some (.int x1), some (.int x2), some (.int x3), some (.ref p2)] [.ref a] (fun _ => rfl) ?_
          refine g_getA 93 rfl rfl (Wp_l ka) (Wp_r4 ka) ?_
          refine g_getI 96 rfl rfl (Tr_l (Wp_k4 ka)) ?_
          cases e
          exact g_ret rfl (fun _ _ => rfl)
        replace e := (if_neg c8).symm.trans e
        by_cases c10 : x3 = (2 : Int32)
        · replace e := (if_pos c10).symm.trans e
          refine g_sw (p1 := 97) (L1 := [some (.ref a), some (.int x1), some (.int x2), some (.int x3), some (.ref p2)]) (S1 := []) (s1 := (l, r, h, j)) rfl c10 (fun _ _ => rfl) ?_
          refine g_run 1 98 [some (.ref a), some (.int x1), some (.int x2), some (.int x3), some (.ref p2)] [.ref a] (fun _ => rfl) ?_
          refine g_getA 101 rfl rfl (Wp_l ka) (Wp_r4 ka) ?_
          refine g_run 2 104 [some (.ref a), some (.int x1), some (.int x2), some (.int x3), some (.ref p2)] [.int x2, .ref p2, .ref (a + 76)] (fun _ => rfl) ?_
          obtain ⟨q9, eq9, e⟩ := g_bd e
          refine g_cVv 107 rfl rfl rfl rfl rfl (Tr_l (Wp_k4 ka)) (Tr_comeLater_s (Wp_k4 ka) kp2 eq9) ?_
          refine g_run 1 108 [some (.ref a), some (.int x1), some (.int x2), some (.int x3), some (.ref p2)] [.ref a] (fun _ => rfl) ?_
          refine g_getA 111 rfl rfl (Wp_l ka) (Wp_r4 ka) ?_
          refine g_getI 114 rfl rfl (Tr_l (Wp_k4 ka)) ?_
          cases e
          exact g_ret rfl (fun _ _ => rfl)
        replace e := (if_neg c10).symm.trans e
        by_cases c12 : x3 = (3 : Int32)
        · replace e := (if_pos c12).symm.trans e
          refine g_sw (p1 := 115) (L1 := [some (.ref a), some (.int x1), some (.int x2), some (.int x3), some (.ref p2)]) (S1 := []) (s1 := (l, r, h, j)) rfl c12 (fun _ _ => rfl) ?_
          refine g_run 1 116 [some (.ref a), some (.int x1), some (.int x2), some (.int x3), some (.ref p2)] [.ref a] (fun _ => rfl) ?_
          refine g_getA 119 rfl rfl (Wp_l ka) (Wp_r4 ka) ?_
          refine g_run 2 122 [some (.ref a), some (.int x1), some (.int x2), some (.int x3), some (.ref p2)] [.int x2, .ref p2, .ref (a + 76)] (fun _ => rfl) ?_
          obtain ⟨q11, eq11, e⟩ := g_bd e
          refine g_cVv 125 rfl rfl rfl rfl rfl (Tr_l (Wp_k4 ka)) (Tr_comeElsewhere_s (Wp_k4 ka) kp2 eq11) ?_
          refine g_run 1 126 [some (.ref a), some (.int x1), some (.int x2), some (.int x3), some (.ref p2)] [.ref a] (fun _ => rfl) ?_
          refine g_getA 129 rfl rfl (Wp_l ka) (Wp_r4 ka) ?_
          refine g_getI 132 rfl rfl (Tr_l (Wp_k4 ka)) ?_
          cases e
          exact g_ret rfl (fun _ _ => rfl)
        replace e := (if_neg c12).symm.trans e
        by_cases c14 : x3 = (4 : Int32)
        · replace e := (if_pos c14).symm.trans e
          refine g_sw (p1 := 133) (L1 := [some (.ref a), some (.int x1), some (.int x2), some (.int x3), some (.ref p2)]) (S1 := []) (s1 := (l, r, h, j)) rfl c14 (fun _ _ => rfl) ?_
          refine g_run 1 134 [some (.ref a), some (.int x1), some (.int x2), some (.int x3), some (.ref p2)] [.ref a] (fun _ => rfl) ?_
          refine g_getA 137 rfl rfl (Wp_l ka) (Wp_r4 ka) ?_
          refine g_run 2 140 [some (.ref a), some (.int x1), some (.int x2), some (.int x3), some (.ref p2)] [.int x2, .ref p2, .ref (a + 76)] (fun _ => rfl) ?_
          obtain ⟨q13, eq13, e⟩ := g_bd e
          refine g_cVv 143 rfl rfl rfl rfl rfl (Tr_l (Wp_k4 ka)) (Tr_comeElsewhere_s (Wp_k4 ka) kp2 eq13) ?_
          refine g_run 1 144 [some (.ref a), some (.int x1), some (.int x2), some (.int x3), some (.ref p2)] [.ref a] (fun _ => rfl) ?_
          refine g_getA 147 rfl rfl (Wp_l ka) (Wp_r4 ka) ?_
          refine g_getI 150 rfl rfl (Tr_l (Wp_k4 ka)) ?_
          cases e
          exact g_ret rfl (fun _ _ => rfl)
        replace e := (if_neg c14).symm.trans e
        have ic6 : (Int32.toInt x3) ≠ 0 := g_ne c6
        have ic8 : (Int32.toInt x3) ≠ 1 := g_ne c8
        have ic10 : (Int32.toInt x3) ≠ 2 := g_ne c10
        have ic12 : (Int32.toInt x3) ≠ 3 := g_ne c12
        have ic14 : (Int32.toInt x3) ≠ 4 := g_ne c14
        refine g_swd (p1 := 151) (L1 := [some (.ref a), some (.int x1), some (.int x2), some (.int x3), some (.ref p2)]) (S1 := []) (s1 := (l, r, h, j)) (x := x3) (lo := 0) (hi := 4) rfl (fun _ _ => rfl) (by omega) ?_
        refine g_run 1 153 [some (.ref a), some (.int x1), some (.int x2), some (.int x3), some (.ref p2)] [.int (-1000000 : Int32)] (fun _ => rfl) ?_
        cases e
        exact g_ret rfl (fun _ _ => rfl)
      · refine g_run 1 33 [some (.ref a), some (.int x1), some (.int x2), some (.int x3), some (.ref p2)] [.int (-1000000 : Int32)] (fun _ => rfl) ?_
        cases e
        exact g_ret rfl (fun _ _ => rfl)
def Wp_spare (l : List (Nat × Nat)) (r : am_R) (a : Nat) (x1 : Int32) (x2 : Int32) (h : am_F) : Option (Int32 × am_F) :=
  (Tl_parkAt l r (a + 1) x1 h).bind fun q1 =>
  g_on q1 (
    some ((-2 : Int32), h)) (fun p2 =>
    if x2 < 0 then
      some ((-2 : Int32), h)
    else
      if x2 ≤ (3 : Int32) then
        if (h (p2 + 11) 3) = 0 then
          some ((-1 : Int32), h)
        else
          (if (2 : Int32) ≤ x2 then
              (Tr_findWorst l r (a + 76) p2 h).bind fun q8 =>
              some q8
            else
              (Tr_leaveOneOut l r (a + 76) p2 h).bind fun q9 =>
              some q9 : Option (am_F)).bind fun q10 =>
          if x2 = 0 then
            some ((q10 (a + 76) 0), q10)
          else
            if x2 = (2 : Int32) then
              some ((q10 (a + 76) 0), q10)
            else
              some ((q10 (a + 76) 1), q10)
      else
        some ((-2 : Int32), h))
theorem Wp_spare_s {X : Nat × (Nat → Int32)} {l : List (Nat × Nat)} {r : am_R} {h : am_F} {j : am_J} {a : Nat} {x1 : Int32} {x2 : Int32} (ka : Wp_K l r a) {q : Int32 × am_F} (e : Wp_spare l r a x1 x2 h = some q) : Call X 135 [.ref a, .int x1, .int x2] (l, r, h, j) (some (.int q.1), (l, r, q.2, j)) := by
  unfold Wp_spare at e
  refine ⟨Nat.le_of_ble_eq_true rfl, ?_⟩
  show Ev X 135 0 [some (.ref a), some (.int x1), some (.int x2), none] [] (l, r, h, j) _
  refine g_run 1 1 [some (.ref a), some (.int x1), some (.int x2), none] [.ref a] (fun _ => rfl) ?_
  refine g_getA 4 rfl rfl (Wp_l ka) (Wp_r0 ka) ?_
  refine g_run 1 5 [some (.ref a), some (.int x1), some (.int x2), none] [.int x1, .ref (a + 1)] (fun _ => rfl) ?_
  obtain ⟨q1, eq1, e⟩ := g_bd e
  refine g_cV 8 rfl rfl rfl rfl rfl (Tl_l (Wp_k0 ka)) (Tl_parkAt_s (Wp_k0 ka) eq1) ?_
  refine g_run 1 9 [some (.ref a), some (.int x1), some (.int x2), some (va_rf q1)] [] (fun _ => by generalize q1 = o90; cases o90 <;> rfl) ?_
  refine g_run 1 10 [some (.ref a), some (.int x1), some (.int x2), some (va_rf q1)] [va_rf q1] (fun _ => by generalize q1 = o90; cases o90 <;> rfl) ?_
  cases q1 with
  | none =>
    replace e := g_onN e
    refine g_run 1 22 [some (.ref a), some (.int x1), some (.int x2), some (.null)] [] (fun _ => rfl) ?_
    refine g_run 1 24 [some (.ref a), some (.int x1), some (.int x2), some (.null)] [.int (-2 : Int32)] (fun _ => rfl) ?_
    cases e
    exact g_ret rfl (fun _ _ => rfl)
  | some p2 =>
    replace e := g_onS e
    have kp2 := Tl_parkAt_K (Wp_k0 ka) eq1
    refine g_run 1 13 [some (.ref a), some (.int x1), some (.int x2), some (.ref p2)] [] (fun _ => rfl) ?_
    refine g_run 1 14 [some (.ref a), some (.int x1), some (.int x2), some (.ref p2)] [.int x2] (fun _ => rfl) ?_
    refine g_if (p1 := 22) (L1 := [some (.ref a), some (.int x1), some (.int x2), some (.ref p2)]) (S1 := []) (s1 := (l, r, h, j)) (p2 := 17) (L2 := [some (.ref a), some (.int x1), some (.int x2), some (.ref p2)]) (S2 := []) (s2 := (l, r, h, j)) rfl (fun _ _ => rfl) e (fun c3 e => ?_) (fun c3 e => ?_)
    · refine g_run 1 24 [some (.ref a), some (.int x1), some (.int x2), some (.ref p2)] [.int (-2 : Int32)] (fun _ => rfl) ?_
      cases e
      exact g_ret rfl (fun _ _ => rfl)
    · refine g_run 2 19 [some (.ref a), some (.int x1), some (.int x2), some (.ref p2)] [.int (3 : Int32), .int x2] (fun _ => rfl) ?_
      refine g_if (p1 := 25) (L1 := [some (.ref a), some (.int x1), some (.int x2), some (.ref p2)]) (S1 := []) (s1 := (l, r, h, j)) (p2 := 22) (L2 := [some (.ref a), some (.int x1), some (.int x2), some (.ref p2)]) (S2 := []) (s2 := (l, r, h, j)) rfl (fun _ _ => rfl) e (fun c4 e => ?_) (fun c4 e => ?_)
      · refine g_run 1 26 [some (.ref a), some (.int x1), some (.int x2), some (.ref p2)] [.ref p2] (fun _ => rfl) ?_
        refine g_getA 29 rfl rfl (Pk_l kp2) (Pk_r12 kp2) ?_
        refine g_getI 32 rfl rfl (Rw_l (Pk_k12 kp2)) ?_
        refine g_if (p1 := 35) (L1 := [some (.ref a), some (.int x1), some (.int x2), some (.ref p2)]) (S1 := []) (s1 := (l, r, h, j)) (p2 := 37) (L2 := [some (.ref a), some (.int x1), some (.int x2), some (.ref p2)]) (S2 := []) (s2 := (l, r, h, j)) rfl (fun _ _ => rfl) e (fun c5 e => ?_) (fun c5 e => ?_)
        · refine g_run 1 36 [some (.ref a), some (.int x1), some (.int x2), some (.ref p2)] [.int (-1 : Int32)] (fun _ => rfl) ?_
          cases e
          exact g_ret rfl (fun _ _ => rfl)
        · refine g_run 2 39 [some (.ref a), some (.int x1), some (.int x2), some (.ref p2)] [.int (2 : Int32), .int x2] (fun _ => rfl) ?_
          obtain ⟨q10, eq10, e⟩ := g_bd e
          have hjq10 : ∀ (_ : True), Ev X 135 61 [some (.ref a), some (.int x1), some (.int x2), some (.ref p2)] [] (l, r, q10, j) (some (.int q.1), (l, r, q.2, j)) := by
            intro _
            refine g_run 1 62 [some (.ref a), some (.int x1), some (.int x2), some (.ref p2)] [.int x2] (fun _ => rfl) ?_
            refine g_if (p1 := 70) (L1 := [some (.ref a), some (.int x1), some (.int x2), some (.ref p2)]) (S1 := []) (s1 := (l, r, q10, j)) (p2 := 65) (L2 := [some (.ref a), some (.int x1), some (.int x2), some (.ref p2)]) (S2 := []) (s2 := (l, r, q10, j)) rfl (fun _ _ => rfl) e (fun c11 e => ?_) (fun c11 e => ?_)
            · refine g_run 1 71 [some (.ref a), some (.int x1), some (.int x2), some (.ref p2)] [.ref a] (fun _ => rfl) ?_
              refine g_getA 74 rfl rfl (Wp_l ka) (Wp_r4 ka) ?_
              refine g_getI 77 rfl rfl (Tr_l (Wp_k4 ka)) ?_
              refine g_run 1 87 [some (.ref a), some (.int x1), some (.int x2), some (.ref p2)] [.int (q10 (a + 76) 0)] (fun _ => rfl) ?_
              cases e
              exact g_ret rfl (fun _ _ => rfl)
            · refine g_run 2 67 [some (.ref a), some (.int x1), some (.int x2), some (.ref p2)] [.int (2 : Int32), .int x2] (fun _ => rfl) ?_
              refine g_if (p1 := 70) (L1 := [some (.ref a), some (.int x1), some (.int x2), some (.ref p2)]) (S1 := []) (s1 := (l, r, q10, j)) (p2 := 80) (L2 := [some (.ref a), some (.int x1), some (.int x2), some (.ref p2)]) (S2 := []) (s2 := (l, r, q10, j)) rfl (fun _ _ => rfl) e (fun c12 e => ?_) (fun c12 e => ?_)
              · refine g_run 1 71 [some (.ref a), some (.int x1), some (.int x2), some (.ref p2)] [.ref a] (fun _ => rfl) ?_
                refine g_getA 74 rfl rfl (Wp_l ka) (Wp_r4 ka) ?_
                refine g_getI 77 rfl rfl (Tr_l (Wp_k4 ka)) ?_
                refine g_run 1 87 [some (.ref a), some (.int x1), some (.int x2), some (.ref p2)] [.int (q10 (a + 76) 0)] (fun _ => rfl) ?_
                cases e
                exact g_ret rfl (fun _ _ => rfl)
              · refine g_run 1 81 [some (.ref a), some (.int x1), some (.int x2), some (.ref p2)] [.ref a] (fun _ => rfl) ?_
                refine g_getA 84 rfl rfl (Wp_l ka) (Wp_r4 ka) ?_
                refine g_getI 87 rfl rfl (Tr_l (Wp_k4 ka)) ?_
                cases e
                exact g_ret rfl (fun _ _ => rfl)
          replace e := eq10
          refine g_if (p1 := 53) (L1 := [some (.ref a), some (.int x1), some (.int x2), some (.ref p2)]) (S1 := []) (s1 := (l, r, h, j)) (p2 := 42) (L2 := [some (.ref a), some (.int x1), some (.int x2), some (.ref p2)]) (S2 := []) (s2 := (l, r, h, j)) rfl (fun _ _ => rfl) e (fun c6 e => ?_) (fun c6 e => ?_)
          · refine g_run 1 54 [some (.ref a), some (.int x1), some (.int x2), some (.ref p2)] [.ref a] (fun _ => rfl) ?_
            refine g_getA 57 rfl rfl (Wp_l ka) (Wp_r4 ka) ?_
            refine g_run 1 58 [some (.ref a), some (.int x1), some (.int x2), some (.ref p2)] [.ref p2, .ref (a + 76)] (fun _ => rfl) ?_
            obtain ⟨q8, eq8, e⟩ := g_bd e
            refine g_cVv 61 rfl rfl rfl rfl rfl (Tr_l (Wp_k4 ka)) (Tr_findWorst_s (Wp_k4 ka) kp2 eq8) ?_
            cases e
            exact hjq10 trivial
          · refine g_run 1 43 [some (.ref a), some (.int x1), some (.int x2), some (.ref p2)] [.ref a] (fun _ => rfl) ?_
            refine g_getA 46 rfl rfl (Wp_l ka) (Wp_r4 ka) ?_
            refine g_run 1 47 [some (.ref a), some (.int x1), some (.int x2), some (.ref p2)] [.ref p2, .ref (a + 76)] (fun _ => rfl) ?_
            obtain ⟨q9, eq9, e⟩ := g_bd e
            refine g_cVv 50 rfl rfl rfl rfl rfl (Tr_l (Wp_k4 ka)) (Tr_leaveOneOut_s (Wp_k4 ka) kp2 eq9) ?_
            refine g_run 1 61 [some (.ref a), some (.int x1), some (.int x2), some (.ref p2)] [] (fun _ => rfl) ?_
            cases e
            exact hjq10 trivial
      · refine g_run 1 24 [some (.ref a), some (.int x1), some (.int x2), some (.ref p2)] [.int (-2 : Int32)] (fun _ => rfl) ?_
        cases e
        exact g_ret rfl (fun _ _ => rfl)
def Wp_anew (l : List (Nat × Nat)) (r : am_R) (a : Nat) (x1 : Int32) (x2 : Int32) (x3 : Int32) (h : am_F) : Option (Int32 × am_F) :=
  (Tl_parkAt l r (a + 1) x1 h).bind fun q1 =>
  g_on q1 (
    some ((-2 : Int32), h)) (fun p2 =>
    if (Pk_hasBench p2 x2 h) = 0 then
      some ((-2 : Int32), h)
    else
      (Tr_paintAnew l r (a + 76) p2 x2 h).bind fun q4 =>
      if x3 = 0 then
        some ((q4 (a + 76) 1), q4)
      else
        some ((q4 (a + 76) 0), q4))
theorem Wp_anew_s {X : Nat × (Nat → Int32)} {l : List (Nat × Nat)} {r : am_R} {h : am_F} {j : am_J} {a : Nat} {x1 : Int32} {x2 : Int32} {x3 : Int32} (ka : Wp_K l r a) {q : Int32 × am_F} (e : Wp_anew l r a x1 x2 x3 h = some q) : Call X 136 [.ref a, .int x1, .int x2, .int x3] (l, r, h, j) (some (.int q.1), (l, r, q.2, j)) := by
  unfold Wp_anew at e
  refine ⟨Nat.le_of_ble_eq_true rfl, ?_⟩
  show Ev X 136 0 [some (.ref a), some (.int x1), some (.int x2), some (.int x3), none] [] (l, r, h, j) _
  refine g_run 1 1 [some (.ref a), some (.int x1), some (.int x2), some (.int x3), none] [.ref a] (fun _ => rfl) ?_
  refine g_getA 4 rfl rfl (Wp_l ka) (Wp_r0 ka) ?_
  refine g_run 1 5 [some (.ref a), some (.int x1), some (.int x2), some (.int x3), none] [.int x1, .ref (a + 1)] (fun _ => rfl) ?_
  obtain ⟨q1, eq1, e⟩ := g_bd e
  refine g_cV 8 rfl rfl rfl rfl rfl (Tl_l (Wp_k0 ka)) (Tl_parkAt_s (Wp_k0 ka) eq1) ?_
  refine g_run 1 10 [some (.ref a), some (.int x1), some (.int x2), some (.int x3), some (va_rf q1)] [] (fun _ => by generalize q1 = o90; cases o90 <;> rfl) ?_
  refine g_run 1 12 [some (.ref a), some (.int x1), some (.int x2), some (.int x3), some (va_rf q1)] [va_rf q1] (fun _ => by generalize q1 = o90; cases o90 <;> rfl) ?_
  cases q1 with
  | none =>
    replace e := g_onN e
    refine g_run 1 24 [some (.ref a), some (.int x1), some (.int x2), some (.int x3), some (.null)] [] (fun _ => rfl) ?_
    refine g_run 1 26 [some (.ref a), some (.int x1), some (.int x2), some (.int x3), some (.null)] [.int (-2 : Int32)] (fun _ => rfl) ?_
    cases e
    exact g_ret rfl (fun _ _ => rfl)
  | some p2 =>
    replace e := g_onS e
    have kp2 := Tl_parkAt_K (Wp_k0 ka) eq1
    refine g_run 1 15 [some (.ref a), some (.int x1), some (.int x2), some (.int x3), some (.ref p2)] [] (fun _ => rfl) ?_
    refine g_run 2 18 [some (.ref a), some (.int x1), some (.int x2), some (.int x3), some (.ref p2)] [.int x2, .ref p2] (fun _ => rfl) ?_
    refine g_cV 21 rfl rfl rfl rfl rfl (Pk_l kp2) (Pk_hasBench_s kp2) ?_
    refine g_if (p1 := 24) (L1 := [some (.ref a), some (.int x1), some (.int x2), some (.int x3), some (.ref p2)]) (S1 := []) (s1 := (l, r, h, j)) (p2 := 27) (L2 := [some (.ref a), some (.int x1), some (.int x2), some (.int x3), some (.ref p2)]) (S2 := []) (s2 := (l, r, h, j)) rfl (fun _ _ => rfl) e (fun c3 e => ?_) (fun c3 e => ?_)
    · refine g_run 1 26 [some (.ref a), some (.int x1), some (.int x2), some (.int x3), some (.ref p2)] [.int (-2 : Int32)] (fun _ => rfl) ?_
      cases e
      exact g_ret rfl (fun _ _ => rfl)
    · refine g_run 1 28 [some (.ref a), some (.int x1), some (.int x2), some (.int x3), some (.ref p2)] [.ref a] (fun _ => rfl) ?_
      refine g_getA 31 rfl rfl (Wp_l ka) (Wp_r4 ka) ?_
      refine g_run 2 34 [some (.ref a), some (.int x1), some (.int x2), some (.int x3), some (.ref p2)] [.int x2, .ref p2, .ref (a + 76)] (fun _ => rfl) ?_
      obtain ⟨q4, eq4, e⟩ := g_bd e
      refine g_cVv 37 rfl rfl rfl rfl rfl (Tr_l (Wp_k4 ka)) (Tr_paintAnew_s (Wp_k4 ka) kp2 eq4) ?_
      refine g_run 1 38 [some (.ref a), some (.int x1), some (.int x2), some (.int x3), some (.ref p2)] [.int x3] (fun _ => rfl) ?_
      refine g_if (p1 := 51) (L1 := [some (.ref a), some (.int x1), some (.int x2), some (.int x3), some (.ref p2)]) (S1 := []) (s1 := (l, r, q4, j)) (p2 := 41) (L2 := [some (.ref a), some (.int x1), some (.int x2), some (.int x3), some (.ref p2)]) (S2 := []) (s2 := (l, r, q4, j)) rfl (fun _ _ => rfl) e (fun c5 e => ?_) (fun c5 e => ?_)
      · refine g_run 1 52 [some (.ref a), some (.int x1), some (.int x2), some (.int x3), some (.ref p2)] [.ref a] (fun _ => rfl) ?_
        refine g_getA 55 rfl rfl (Wp_l ka) (Wp_r4 ka) ?_
        refine g_getI 58 rfl rfl (Tr_l (Wp_k4 ka)) ?_
        cases e
        exact g_ret rfl (fun _ _ => rfl)
      · refine g_run 1 42 [some (.ref a), some (.int x1), some (.int x2), some (.int x3), some (.ref p2)] [.ref a] (fun _ => rfl) ?_
        refine g_getA 45 rfl rfl (Wp_l ka) (Wp_r4 ka) ?_
        refine g_getI 48 rfl rfl (Tr_l (Wp_k4 ka)) ?_
        refine g_run 1 58 [some (.ref a), some (.int x1), some (.int x2), some (.int x3), some (.ref p2)] [.int (q4 (a + 76) 0)] (fun _ => rfl) ?_
        cases e
        exact g_ret rfl (fun _ _ => rfl)
def Wp_count (a : Nat) (x1 : Int32) (h : am_F) : Option (Int32) :=
  (Tl_howMany (a + 1) x1 h).bind fun q1 =>
  some q1
theorem Wp_count_s {X : Nat × (Nat → Int32)} {l : List (Nat × Nat)} {r : am_R} {h : am_F} {j : am_J} {a : Nat} {x1 : Int32} (ka : Wp_K l r a) {q : Int32} (e : Wp_count a x1 h = some q) : Call X 137 [.ref a, .int x1] (l, r, h, j) (some (.int q), (l, r, h, j)) := by
  unfold Wp_count at e
  refine ⟨Nat.le_of_ble_eq_true rfl, ?_⟩
  show Ev X 137 0 [some (.ref a), some (.int x1)] [] (l, r, h, j) _
  refine g_run 1 1 [some (.ref a), some (.int x1)] [.ref a] (fun _ => rfl) ?_
  refine g_getA 4 rfl rfl (Wp_l ka) (Wp_r0 ka) ?_
  refine g_run 1 5 [some (.ref a), some (.int x1)] [.int x1, .ref (a + 1)] (fun _ => rfl) ?_
  obtain ⟨q1, eq1, e⟩ := g_bd e
  refine g_cV 8 rfl rfl rfl rfl rfl (Tl_l (Wp_k0 ka)) (Tl_howMany_s (Wp_k0 ka) eq1) ?_
  cases e
  exact g_ret rfl (fun _ _ => rfl)
def Wp_again (l : List (Nat × Nat)) (r : am_R) (a : Nat) (x1 : Int32) (h : am_F) : Option (Int32 × am_F) :=
  if x1 < 0 then
    some ((0 : Int32), h)
  else
    if x1 < (3 : Int32) then
      (g_ix x1 3).bind fun k3 =>
      g_on (r (a + 44) k3) (
        some ((0 : Int32), h)) (fun p4 =>
        (Tl_copyFrom l r (a + 1) p4 h).bind fun q5 =>
        some ((1 : Int32), q5))
    else
      some ((0 : Int32), h)
theorem Wp_again_s {X : Nat × (Nat → Int32)} {l : List (Nat × Nat)} {r : am_R} {h : am_F} {j : am_J} {a : Nat} {x1 : Int32} (ka : Wp_K l r a) {q : Int32 × am_F} (e : Wp_again l r a x1 h = some q) : Call X 139 [.ref a, .int x1] (l, r, h, j) (some (.int q.1), (l, r, q.2, j)) := by
  unfold Wp_again at e
  refine ⟨Nat.le_of_ble_eq_true rfl, ?_⟩
  show Ev X 139 0 [some (.ref a), some (.int x1), none] [] (l, r, h, j) _
  refine g_run 1 1 [some (.ref a), some (.int x1), none] [.int x1] (fun _ => rfl) ?_
  refine g_if (p1 := 9) (L1 := [some (.ref a), some (.int x1), none]) (S1 := []) (s1 := (l, r, h, j)) (p2 := 4) (L2 := [some (.ref a), some (.int x1), none]) (S2 := []) (s2 := (l, r, h, j)) rfl (fun _ _ => rfl) e (fun c1 e => ?_) (fun c1 e => ?_)
  · refine g_run 1 10 [some (.ref a), some (.int x1), none] [.int (0 : Int32)] (fun _ => rfl) ?_
    cases e
    exact g_retZ rfl (y := (0 : Int32)) rfl rfl
  · refine g_run 2 6 [some (.ref a), some (.int x1), none] [.int (3 : Int32), .int x1] (fun _ => rfl) ?_
    refine g_if (p1 := 11) (L1 := [some (.ref a), some (.int x1), none]) (S1 := []) (s1 := (l, r, h, j)) (p2 := 9) (L2 := [some (.ref a), some (.int x1), none]) (S2 := []) (s2 := (l, r, h, j)) rfl (fun _ _ => rfl) e (fun c2 e => ?_) (fun c2 e => ?_)
    · refine g_run 1 12 [some (.ref a), some (.int x1), none] [.ref a] (fun _ => rfl) ?_
      refine g_getA 15 rfl rfl (Wp_l ka) (Wp_r1 ka) ?_
      refine g_run 1 16 [some (.ref a), some (.int x1), none] [.int x1, .ref (a + 44)] (fun _ => rfl) ?_
      obtain ⟨k3, ek3, e⟩ := g_bd e
      refine g_aald 17 rfl rfl (Wp_k1 ka) rfl ek3 ?_
      refine g_run 1 18 [some (.ref a), some (.int x1), some (va_rf (r (a + 44) k3))] [] (fun _ => by generalize (r (a + 44) k3) = o90; cases o90 <;> rfl) ?_
      refine g_run 1 19 [some (.ref a), some (.int x1), some (va_rf (r (a + 44) k3))] [va_rf (r (a + 44) k3)] (fun _ => by generalize (r (a + 44) k3) = o90; cases o90 <;> rfl) ?_
      cases Hp4 : (r (a + 44) k3) with
      | none =>
        replace e := g_onN2 Hp4 e
        refine g_run 1 22 [some (.ref a), some (.int x1), some (.null)] [] (fun _ => rfl) ?_
        refine g_run 1 23 [some (.ref a), some (.int x1), some (.null)] [.int (0 : Int32)] (fun _ => rfl) ?_
        cases e
        exact g_retZ rfl (y := (0 : Int32)) rfl rfl
      | some p4 =>
        replace e := g_onS2 Hp4 e
        have kp4 := (Wp_e1 ka) _ _ Hp4
        refine g_run 1 24 [some (.ref a), some (.int x1), some (.ref p4)] [] (fun _ => rfl) ?_
        refine g_run 1 25 [some (.ref a), some (.int x1), some (.ref p4)] [.ref a] (fun _ => rfl) ?_
        refine g_getA 28 rfl rfl (Wp_l ka) (Wp_r0 ka) ?_
        refine g_run 1 29 [some (.ref a), some (.int x1), some (.ref p4)] [.ref p4, .ref (a + 1)] (fun _ => rfl) ?_
        obtain ⟨q5, eq5, e⟩ := g_bd e
        refine g_cVv 32 rfl rfl rfl rfl rfl (Tl_l (Wp_k0 ka)) (Tl_copyFrom_s (Wp_k0 ka) kp4 eq5) ?_
        refine g_run 1 33 [some (.ref a), some (.int x1), some (.ref p4)] [.int (1 : Int32)] (fun _ => rfl) ?_
        cases e
        exact g_retZ rfl (y := (1 : Int32)) rfl rfl
    · refine g_run 1 10 [some (.ref a), some (.int x1), none] [.int (0 : Int32)] (fun _ => rfl) ?_
      cases e
      exact g_retZ rfl (y := (0 : Int32)) rfl rfl
