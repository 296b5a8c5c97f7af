/-! the lines of a park -/
section PARK
variable {l : List (Nat × Nat)} {r : am_R} {hc hm : am_F} {a m tp L f e : Nat} {T : Nat → Nat} {j : am_J}
theorem park_0 (htp : tp < a) (hl6 : g_ln l (a + 20) = 6) (H : tpR l r hc hm a m tp L T) (Kt : tkR hc hm j a m L T f e) (h13 : hm m 13 ≠ 0) (F : ftR hc hm a m f) (h22 : hm m 22 = 1) (hC : ct0 m hm) (hD : hc a 4 = 0 → dr0 l a m hc hm) (Hd : hdR l hc a) : LO l r a m tp L T (dr0 l a m) (ct0 m) hc hm f (rdK l r a (nI 0) hc) (Md_parkLine m (1918989413 : Int64) (nI f) hm j) := by
  obtain ⟨hc1, hm1, j1, f1, e1, n1, n2, ⟨s1, s2, s3, s4, s5, s6, s7, s8, s9⟩, n4⟩ := head_free (l := l) (r := r) H Kt h13 F
  have hRd : rdK l r a (nI 0) hc = tkC l r a (nI 0) (List.map tC [kI 104 0 false 47 false, kI 117 0 true 47 false, kI 100 0 false 9 false]) 0 hc1 := by
    rw [rdK_free (sh := 15) (by unfold Rd_isFull; rw [if_neg (show ¬ nI 0 = 4 by decide), if_neg (show ¬ nI 0 = 5 by decide), if_neg (show ¬ nI 0 = 6 by decide), if_neg (show ¬ nI 0 = 7 by decide), if_neg (show ¬ nI 0 = 8 by decide), if_neg (show ¬ nI 0 = 9 by decide), if_neg (show ¬ nI 0 = 10 by decide), if_neg (show ¬ nI 0 = 11 by decide), if_neg (show ¬ nI 0 = 12 by decide), if_neg (show ¬ nI 0 = 13 by decide), if_neg (show ¬ nI 0 = 14 by decide)]) (by decide) (by decide) (by decide), n1, Option.bind_some]
    rfl
  have hMd : Md_parkLine m (1918989413 : Int64) (nI f) hm j = gz (mtC m 0 (fun h j => (Md_rateLine_l47 m j g_fu (h (m + 11) 0) h).bind fun q10 => some ((1 : Int32), q10, j)) [kI 104 0 false 47 false, kI 117 0 true 47 false, kI 100 0 false 9 false] 0 hm1 j1) := by
    unfold Md_parkLine
    simp only [cmpE]
    rw [if_pos trivial]
    unfold Md_parkLine_t85
    rw [n2, Option.bind_some]
    simp only [cmpE]
    rw [if_pos trivial]
    rfl
  rw [hRd, hMd]
  apply LO_gz
  refine line_fin (b0 := 0) (vs := fun _ => 0) [kI 104 0 false 47 false, kI 117 0 true 47 false, kI 100 0 false 9 false] htp ⟨ok_h, by decide, ⟨ok_u, by decide, ⟨ok_d, by decide, trivial⟩⟩⟩ (by decide) s2 s3 s4 (fun k hk => by omega) s1 (fun x hx => s5 x (by omega)) (fun x h1 _ _ => s6 x h1) (hd_fr Hd (fun x h1 h2 => s5 x (by omega))) ?_
  intro vs' hc' hm' j' N' _ fc fm h4 h22a h22b hB
  have hct : ct0 m hm' := ct_fr (ct_fr hC (fun x h1 _ => s6 x h1)) fm
  have pre := pk_pre (by rw [s9]; exact h22) (by
    intro t ht
    rcases List.mem_cons.1 ht with rfl | ht
    · decide
    rcases List.mem_cons.1 ht with rfl | ht
    · decide
    rcases List.mem_cons.1 ht with rfl | ht
    · decide
    cases ht) (fun c => dr_fr (hD (n4 c)) s5 s6 s7 s8) fc fm h4 h22a hB
  have c0 : hc' (a + 20) 0 = nI (vs' 0) := (N' 0 (by decide)).1
  have m0 : hm' (m + 11) 0 = nI (vs' 0) := (N' 0 (by decide)).2.1 (by decide)
  have c1 : hc' (a + 20) 1 = nI (vs' 1) := (N' 1 (by decide)).1
  have m1 : hm' (m + 11) 1 = nI (vs' 1) := (N' 1 (by decide)).2.1 (by decide)
  have c2 : hc' (a + 20) 2 = nI (vs' 2) := (N' 2 (by decide)).1
  have m2 : hm' (m + 11) 2 = nI (vs' 2) := (N' 2 (by decide)).2.1 (by decide)
  by_cases c22 : hm' m 22 = 0
  · refine ⟨hm', ?_, fun _ _ _ => rfl, hct, fun c4 => ?_⟩
    · show (Md_rateLine_l47 m j' g_fu (hm' (m + 11) 0) hm').bind _ = _
      have : Md_rateLine_l47 m j' g_fu (hm' (m + 11) 0) hm' = some hm' := by
        obtain ⟨q, hq⟩ : ∃ q, g_fu = q + 1 := ⟨99999, rfl⟩
        rw [hq]
        unfold Md_rateLine_l47
        rw [if_pos c22]
      rw [this]
      rfl
    · obtain ⟨_, _, _, _, _, _, _, _, h⟩ := pre c4
      exact absurd c22 h
  · obtain ⟨⟨_, g1⟩, ⟨g2, g3⟩, ⟨_, g4⟩, _⟩ := h22b c22
    have g1' : vs' 0 ≤ 47 := g1
    have g2' : max 0 (vs' 0) ≤ vs' 1 := g2
    have g3' : vs' 1 ≤ 47 := g3
    have g4' : vs' 2 ≤ 9 := g4
    refine ⟨fun b y => if b = m + 10 ∧ 7 + vs' 0 ≤ y ∧ y ≤ 7 + vs' 1 then nI (vs' 2) else hm' b y, ?_, ?_, ?_, ?_⟩
    · show (Md_rateLine_l47 m j' g_fu (hm' (m + 11) 0) hm').bind _ = _
      rw [m0, rate_l (v1 := vs' 1) (by omega) (vs' 1 + 1 - vs' 0) (vs' 0) g_fu hm' (by omega) (by unfold g_fu; omega) c22 m1, m2]
      rfl
    · intro x h1 h2
      funext y
      exact if_neg (fun z => h1 z.1)
    · obtain ⟨z1, z2, z3, z4⟩ := hct
      refine ⟨?_, ?_, ?_, ?_⟩
      · show zN (if m + 10 = m + 10 ∧ 7 + vs' 0 ≤ 3 ∧ 3 ≤ 7 + vs' 1 then nI (vs' 2) else hm' (m + 10) 3) 7
        rw [if_neg (by omega)]; exact z1
      · show zN (if m + 10 = m + 10 ∧ 7 + vs' 0 ≤ 4 ∧ 4 ≤ 7 + vs' 1 then nI (vs' 2) else hm' (m + 10) 4) 9
        rw [if_neg (by omega)]; exact z2
      · show zN (if m + 10 = m + 10 ∧ 7 + vs' 0 ≤ 5 ∧ 5 ≤ 7 + vs' 1 then nI (vs' 2) else hm' (m + 10) 5) 5
        rw [if_neg (by omega)]; exact z3
      · show zN (if m + 10 = m + 10 ∧ 7 + vs' 0 ≤ 6 ∧ 6 ≤ 7 + vs' 1 then nI (vs' 2) else hm' (m + 10) 6) 15
        rw [if_neg (by omega)]; exact z4
    · intro c4
      obtain ⟨B, b1, b2, b3, J, W, bn, rg, _⟩ := pre c4
      exact pk_done (hm' := hm') (fun x h1 h2 => by funext y; exact if_neg (fun z => h1 z.1)) (tell_0 (vs := vs') J W c0 c1 c2 (by omega) (by omega) (by omega) (fun y => by simp only [true_and])) b1 b2 b3
theorem park_1 (htp : tp < a) (hl6 : g_ln l (a + 20) = 6) (H : tpR l r hc hm a m tp L T) (Kt : tkR hc hm j a m L T f e) (h13 : hm m 13 ≠ 0) (F : ftR hc hm a m f) (h22 : hm m 22 = 1) (hC : ct0 m hm) (hD : hc a 4 = 0 → dr0 l a m hc hm) (Hd : hdR l hc a) : LO l r a m tp L T (dr0 l a m) (ct0 m) hc hm f (rdK l r a (nI 1) hc) (Md_parkLine m (440005915496 : Int64) (nI f) hm j) := by
  obtain ⟨hc1, hm1, j1, f1, e1, n1, n2, ⟨s1, s2, s3, s4, s5, s6, s7, s8, s9⟩, n4⟩ := head_free (l := l) (r := r) H Kt h13 F
  have hRd : rdK l r a (nI 1) hc = tkC l r a (nI 1) (List.map tC [kI 102 1 false 60 false]) 0 hc1 := by
    rw [rdK_free (sh := 16) (by unfold Rd_isFull; rw [if_neg (show ¬ nI 1 = 4 by decide), if_neg (show ¬ nI 1 = 5 by decide), if_neg (show ¬ nI 1 = 6 by decide), if_neg (show ¬ nI 1 = 7 by decide), if_neg (show ¬ nI 1 = 8 by decide), if_neg (show ¬ nI 1 = 9 by decide), if_neg (show ¬ nI 1 = 10 by decide), if_neg (show ¬ nI 1 = 11 by decide), if_neg (show ¬ nI 1 = 12 by decide), if_neg (show ¬ nI 1 = 13 by decide), if_neg (show ¬ nI 1 = 14 by decide)]) (by decide) (by decide) (by decide), n1, Option.bind_some]
    rfl
  have hMd : Md_parkLine m (440005915496 : Int64) (nI f) hm j = gz (mtC m 0 (fun h j => (g_ix (0 : Int32) 195).bind fun k3 => some ((1 : Int32), am_up h (m + 10) k3 (h (m + 11) 0), j)) [kI 102 1 false 60 false] 0 hm1 j1) := by
    unfold Md_parkLine
    simp only [cmpE]
    rw [if_neg (show ¬ (440005915496 : Int64) = 1918989413 by decide), if_pos trivial]
    unfold Md_parkLine_t85
    rw [n2, Option.bind_some]
    simp only [cmpE]
    rw [if_neg (show ¬ (440005915496 : Int64) = 1918989413 by decide), if_pos trivial]
    simp only [if_true, Option.bind_some]
    rfl
  rw [hRd, hMd]
  apply LO_gz
  refine line_fin (b0 := 0) (vs := fun _ => 0) [kI 102 1 false 60 false] htp ⟨ok_f, by decide, trivial⟩ (by decide) s2 s3 s4 (fun k hk => by omega) s1 (fun x hx => s5 x (by omega)) (fun x h1 _ _ => s6 x h1) (hd_fr Hd (fun x h1 h2 => s5 x (by omega))) ?_
  intro vs' hc' hm' j' N' _ fc fm h4 h22a h22b hB
  have hct : ct0 m hm' := ct_fr (ct_fr hC (fun x h1 _ => s6 x h1)) fm
  have pre := pk_pre (by rw [s9]; exact h22) (by
    intro t ht
    rcases List.mem_cons.1 ht with rfl | ht
    · decide
    cases ht) (fun c => dr_fr (hD (n4 c)) s5 s6 s7 s8) fc fm h4 h22a hB
  have c0 : hc' (a + 20) 0 = nI (vs' 0) := (N' 0 (by decide)).1
  have m0 : hm' (m + 11) 0 = nI (vs' 0) := (N' 0 (by decide)).2.1 (by decide)
  refine ⟨am_up hm' (m + 10) 0 (nI (vs' 0)), ?_, ?_, ?_, ?_⟩
  · show (g_ix (nI 0) 195).bind _ = _
    rw [z_ix (by decide) (by decide), Option.bind_some, m0]
  · intro x h1 h2
    rw [z_upr h1]
  · obtain ⟨z1, z2, z3, z4⟩ := hct
    exact ⟨by rw [z_ups, upz_n (by omega)]; exact z1, by rw [z_ups, upz_n (by omega)]; exact z2, by rw [z_ups, upz_n (by omega)]; exact z3, by rw [z_ups, upz_n (by omega)]; exact z4⟩
  · intro c4
    obtain ⟨B, b1, b2, b3, J, W, bn, ⟨⟨g1, g2⟩, _⟩, _⟩ := pre c4
    have g1' : 1 ≤ vs' 0 := g1
    have g2' : vs' 0 ≤ 60 := g2
    exact pk_done (hm' := hm') (fun x h1 h2 => z_upr h1) (tell_1 (vs := vs') J W c0 (by omega) (by omega) (fun y => by rw [up_row])) b1 b2 b3
theorem park_2 (htp : tp < a) (hl6 : g_ln l (a + 20) = 6) (H : tpR l r hc hm a m tp L T) (Kt : tkR hc hm j a m L T f e) (h13 : hm m 13 ≠ 0) (F : ftR hc hm a m f) (h22 : hm m 22 = 1) (hC : ct0 m hm) (hD : hc a 4 = 0 → dr0 l a m hc hm) (Hd : hdR l hc a) : LO l r a m tp L T (dr0 l a m) (ct0 m) hc hm f (rdK l r a (nI 2) hc) (Md_parkLine m (126943821523833 : Int64) (nI f) hm j) := by
  obtain ⟨hc1, hm1, j1, f1, e1, n1, n2, ⟨s1, s2, s3, s4, s5, s6, s7, s8, s9⟩, n4⟩ := head_free (l := l) (r := r) H Kt h13 F
  have hRd : rdK l r a (nI 2) hc = tkC l r a (nI 2) (List.map tC [kI 115 0 false 60 false]) 0 hc1 := by
    rw [rdK_free (sh := 17) (by unfold Rd_isFull; rw [if_neg (show ¬ nI 2 = 4 by decide), if_neg (show ¬ nI 2 = 5 by decide), if_neg (show ¬ nI 2 = 6 by decide), if_neg (show ¬ nI 2 = 7 by decide), if_neg (show ¬ nI 2 = 8 by decide), if_neg (show ¬ nI 2 = 9 by decide), if_neg (show ¬ nI 2 = 10 by decide), if_neg (show ¬ nI 2 = 11 by decide), if_neg (show ¬ nI 2 = 12 by decide), if_neg (show ¬ nI 2 = 13 by decide), if_neg (show ¬ nI 2 = 14 by decide)]) (by decide) (by decide) (by decide), n1, Option.bind_some]
    rfl
  have hMd : Md_parkLine m (126943821523833 : Int64) (nI f) hm j = gz (mtC m 0 (fun h j => (g_ix (1 : Int32) 195).bind fun k3 => some ((1 : Int32), am_up h (m + 10) k3 (h (m + 11) 0), j)) [kI 115 0 false 60 false] 0 hm1 j1) := by
    unfold Md_parkLine
    simp only [cmpE]
    rw [if_neg (show ¬ (126943821523833 : Int64) = 1918989413 by decide), if_neg (show ¬ (126943821523833 : Int64) = 440005915496 by decide), if_pos trivial]
    unfold Md_parkLine_t85
    rw [n2, Option.bind_some]
    simp only [cmpE]
    rw [if_neg (show ¬ (126943821523833 : Int64) = 1918989413 by decide), if_neg (show ¬ (126943821523833 : Int64) = 440005915496 by decide), if_pos trivial]
    rw [if_neg (show ¬ (126943821523833 : Int64) = 440005915496 by decide)]
    simp only [Option.bind_some]
    rfl
  rw [hRd, hMd]
  apply LO_gz
  refine line_fin (b0 := 0) (vs := fun _ => 0) [kI 115 0 false 60 false] htp ⟨ok_s, by decide, trivial⟩ (by decide) s2 s3 s4 (fun k hk => by omega) s1 (fun x hx => s5 x (by omega)) (fun x h1 _ _ => s6 x h1) (hd_fr Hd (fun x h1 h2 => s5 x (by omega))) ?_
  intro vs' hc' hm' j' N' _ fc fm h4 h22a h22b hB
  have hct : ct0 m hm' := ct_fr (ct_fr hC (fun x h1 _ => s6 x h1)) fm
  have pre := pk_pre (by rw [s9]; exact h22) (by
    intro t ht
    rcases List.mem_cons.1 ht with rfl | ht
    · decide
    cases ht) (fun c => dr_fr (hD (n4 c)) s5 s6 s7 s8) fc fm h4 h22a hB
  have c0 : hc' (a + 20) 0 = nI (vs' 0) := (N' 0 (by decide)).1
  have m0 : hm' (m + 11) 0 = nI (vs' 0) := (N' 0 (by decide)).2.1 (by decide)
  refine ⟨am_up hm' (m + 10) 1 (nI (vs' 0)), ?_, ?_, ?_, ?_⟩
  · show (g_ix (nI 1) 195).bind _ = _
    rw [z_ix (by decide) (by decide), Option.bind_some, m0]
  · intro x h1 h2
    rw [z_upr h1]
  · obtain ⟨z1, z2, z3, z4⟩ := hct
    exact ⟨by rw [z_ups, upz_n (by omega)]; exact z1, by rw [z_ups, upz_n (by omega)]; exact z2, by rw [z_ups, upz_n (by omega)]; exact z3, by rw [z_ups, upz_n (by omega)]; exact z4⟩
  · intro c4
    obtain ⟨B, b1, b2, b3, J, W, bn, ⟨⟨g1, g2⟩, _⟩, _⟩ := pre c4
    have g1' : 0 ≤ vs' 0 := g1
    have g2' : vs' 0 ≤ 60 := g2
    exact pk_done (hm' := hm') (fun x h1 h2 => z_upr h1) (tell_2 (vs := vs') J W c0 (by omega) (by omega) (fun y => by rw [up_row])) b1 b2 b3
theorem park_3 (htp : tp < a) (hl6 : g_ln l (a + 20) = 6) (H : tpR l r hc hm a m tp L T) (Kt : tkR hc hm j a m L T f e) (h13 : hm m 13 ≠ 0) (F : ftR hc hm a m f) (h22 : hm m 22 = 1) (hC : ct0 m hm) (hD : hc a 4 = 0 → dr0 l a m hc hm) (Hd : hdR l hc a) : LO l r a m tp L T (dr0 l a m) (ct0 m) hc hm f (rdK l r a (nI 3) hc) (Md_parkLine m (108187750065510 : Int64) (nI f) hm j) := by
  obtain ⟨hc1, hm1, j1, f1, e1, n1, n2, ⟨s1, s2, s3, s4, s5, s6, s7, s8, s9⟩, n4⟩ := head_free (l := l) (r := r) H Kt h13 F
  have hRd : rdK l r a (nI 3) hc = tkC l r a (nI 3) (List.map tC [kI 112 0 false 100 false]) 0 hc1 := by
    rw [rdK_free (sh := 18) (by unfold Rd_isFull; rw [if_neg (show ¬ nI 3 = 4 by decide), if_neg (show ¬ nI 3 = 5 by decide), if_neg (show ¬ nI 3 = 6 by decide), if_neg (show ¬ nI 3 = 7 by decide), if_neg (show ¬ nI 3 = 8 by decide), if_neg (show ¬ nI 3 = 9 by decide), if_neg (show ¬ nI 3 = 10 by decide), if_neg (show ¬ nI 3 = 11 by decide), if_neg (show ¬ nI 3 = 12 by decide), if_neg (show ¬ nI 3 = 13 by decide), if_neg (show ¬ nI 3 = 14 by decide)]) (by decide) (by decide) (by decide), n1, Option.bind_some]
    rfl
  have hMd : Md_parkLine m (108187750065510 : Int64) (nI f) hm j = gz (mtC m 0 (fun h j => (g_ix (2 : Int32) 195).bind fun k3 => some ((1 : Int32), am_up h (m + 10) k3 (h (m + 11) 0), j)) [kI 112 0 false 100 false] 0 hm1 j1) := by
    unfold Md_parkLine
    simp only [cmpE]
    rw [if_neg (show ¬ (108187750065510 : Int64) = 1918989413 by decide), if_neg (show ¬ (108187750065510 : Int64) = 440005915496 by decide), if_neg (show ¬ (108187750065510 : Int64) = 126943821523833 by decide), if_pos trivial]
    unfold Md_parkLine_t85
    rw [n2, Option.bind_some]
    simp only [cmpE]
    rw [if_neg (show ¬ (108187750065510 : Int64) = 1918989413 by decide), if_neg (show ¬ (108187750065510 : Int64) = 440005915496 by decide), if_neg (show ¬ (108187750065510 : Int64) = 126943821523833 by decide), if_pos trivial]
    rfl
  rw [hRd, hMd]
  apply LO_gz
  refine line_fin (b0 := 0) (vs := fun _ => 0) [kI 112 0 false 100 false] htp ⟨ok_p, by decide, trivial⟩ (by decide) s2 s3 s4 (fun k hk => by omega) s1 (fun x hx => s5 x (by omega)) (fun x h1 _ _ => s6 x h1) (hd_fr Hd (fun x h1 h2 => s5 x (by omega))) ?_
  intro vs' hc' hm' j' N' _ fc fm h4 h22a h22b hB
  have hct : ct0 m hm' := ct_fr (ct_fr hC (fun x h1 _ => s6 x h1)) fm
  have pre := pk_pre (by rw [s9]; exact h22) (by
    intro t ht
    rcases List.mem_cons.1 ht with rfl | ht
    · decide
    cases ht) (fun c => dr_fr (hD (n4 c)) s5 s6 s7 s8) fc fm h4 h22a hB
  have c0 : hc' (a + 20) 0 = nI (vs' 0) := (N' 0 (by decide)).1
  have m0 : hm' (m + 11) 0 = nI (vs' 0) := (N' 0 (by decide)).2.1 (by decide)
  refine ⟨am_up hm' (m + 10) 2 (nI (vs' 0)), ?_, ?_, ?_, ?_⟩
  · show (g_ix (nI 2) 195).bind _ = _
    rw [z_ix (by decide) (by decide), Option.bind_some, m0]
  · intro x h1 h2
    rw [z_upr h1]
  · obtain ⟨z1, z2, z3, z4⟩ := hct
    exact ⟨by rw [z_ups, upz_n (by omega)]; exact z1, by rw [z_ups, upz_n (by omega)]; exact z2, by rw [z_ups, upz_n (by omega)]; exact z3, by rw [z_ups, upz_n (by omega)]; exact z4⟩
  · intro c4
    obtain ⟨B, b1, b2, b3, J, W, bn, ⟨⟨g1, g2⟩, _⟩, _⟩ := pre c4
    have g1' : 0 ≤ vs' 0 := g1
    have g2' : vs' 0 ≤ 100 := g2
    exact pk_done (hm' := hm') (fun x h1 h2 => z_upr h1) (tell_3 (vs := vs') J W c0 (by omega) (by omega) (fun y => by rw [up_row])) b1 b2 b3
theorem park_5 (htp : tp < a) (hl6 : g_ln l (a + 20) = 6) (H : tpR l r hc hm a m tp L T) (Kt : tkR hc hm j a m L T f e) (h13 : hm m 13 ≠ 0) (F : ftR hc hm a m f) (h22 : hm m 22 = 1) (hC : ct0 m hm) (hD : hc a 4 = 0 → dr0 l a m hc hm) (Hd : hdR l hc a) : LO l r a m tp L T (dr0 l a m) (ct0 m) hc hm f (rdK l r a (nI 5) hc) (Md_parkLine m (31632302844175716 : Int64) (nI f) hm j) := by
  obtain ⟨hc1, hm1, j1, f1, e1, n1, n2, ⟨s1, s2, s3, s4, s5, s6, s7, s8, s9⟩, n4⟩ := head_free (l := l) (r := r) H Kt h13 F
  have hRd : rdK l r a (nI 5) hc = tkC l r a (nI 5) (List.map tC [kI 98 0 false 5 true, kI 104 0 false 47 false]) 0 hc1 := by
    rw [rdK_free (sh := 20) (by unfold Rd_isFull; rw [if_neg (show ¬ nI 5 = 4 by decide), if_pos (show nI 5 = 5 from rfl)]) (by decide) (by decide) (by decide), n1, Option.bind_some]
    rfl
  have hMd : Md_parkLine m (31632302844175716 : Int64) (nI f) hm j = gz (mtC m 0 (fun h j => (if (h m 22) = 0 then some h else (g_ix (((55 : Int32) + ((4 : Int32) * (h (m + 11) 0))) + (1 : Int32)) 195).bind fun k7 => some (am_up h (m + 10) k7 (h (m + 11) 1)) : Option (am_F)).bind fun q8 => some ((1 : Int32), q8, j)) [kI 98 0 false 5 true, kI 104 0 false 47 false] 0 hm1 j1) := by
    unfold Md_parkLine
    simp only [cmpE]
    rw [if_neg (show ¬ (31632302844175716 : Int64) = 1918989413 by decide), if_neg (show ¬ (31632302844175716 : Int64) = 440005915496 by decide), if_neg (show ¬ (31632302844175716 : Int64) = 126943821523833 by decide), if_neg (show ¬ (31632302844175716 : Int64) = 108187750065510 by decide), if_neg (show ¬ (31632302844175716 : Int64) = 422608528232 by decide), if_pos trivial]
    unfold Md_parkLine_t85
    rw [n2, Option.bind_some]
    simp only [cmpE]
    rw [if_neg (show ¬ (31632302844175716 : Int64) = 1918989413 by decide), if_neg (show ¬ (31632302844175716 : Int64) = 440005915496 by decide), if_neg (show ¬ (31632302844175716 : Int64) = 126943821523833 by decide), if_neg (show ¬ (31632302844175716 : Int64) = 108187750065510 by decide), if_neg (show ¬ (31632302844175716 : Int64) = 422608528232 by decide), if_pos trivial]
    rfl
  rw [hRd, hMd]
  apply LO_gz
  refine line_fin (b0 := 0) (vs := fun _ => 0) [kI 98 0 false 5 true, kI 104 0 false 47 false] htp ⟨ok_b, by decide, ⟨ok_h, by decide, trivial⟩⟩ (by decide) s2 s3 s4 (fun k hk => by omega) s1 (fun x hx => s5 x (by omega)) (fun x h1 _ _ => s6 x h1) (hd_fr Hd (fun x h1 h2 => s5 x (by omega))) ?_
  intro vs' hc' hm' j' N' _ fc fm h4 h22a h22b hB
  have hct : ct0 m hm' := ct_fr (ct_fr hC (fun x h1 _ => s6 x h1)) fm
  have pre := pk_pre (by rw [s9]; exact h22) (by
    intro t ht
    rcases List.mem_cons.1 ht with rfl | ht
    · decide
    rcases List.mem_cons.1 ht with rfl | ht
    · decide
    cases ht) (fun c => dr_fr (hD (n4 c)) s5 s6 s7 s8) fc fm h4 h22a hB
  have c0 : hc' (a + 20) 0 = nI (vs' 0) := (N' 0 (by decide)).1
  have m0 : hm' (m + 11) 0 = nI (vs' 0) := (N' 0 (by decide)).2.1 (by decide)
  have c1 : hc' (a + 20) 1 = nI (vs' 1) := (N' 1 (by decide)).1
  have m1 : hm' (m + 11) 1 = nI (vs' 1) := (N' 1 (by decide)).2.1 (by decide)
  by_cases c22 : hm' m 22 = 0
  · refine ⟨hm', ?_, fun _ _ _ => rfl, hct, fun c4 => ?_⟩
    · show (if (hm' m 22) = 0 then _ else _ : Option am_F).bind _ = _
      rw [if_pos c22]
      rfl
    · obtain ⟨_, _, _, _, _, _, _, _, h⟩ := pre c4
      exact absurd c22 h
  · obtain ⟨⟨_, g1⟩, ⟨_, g2⟩, _⟩ := h22b c22
    have g1' : vs' 0 ≤ 5 := g1
    have g2' : vs' 1 ≤ 47 := g2
    have ei : (((55 : Int32) + ((4 : Int32) * (nI (vs' 0)))) + (1 : Int32)) = nI (56 + 4 * vs' 0) := by
      rw [show (55 : Int32) = nI 55 from rfl, show (4 : Int32) = nI 4 from rfl, pk_mul, nI_add, nI_1]
      congr 1
      omega
    refine ⟨am_up hm' (m + 10) (56 + 4 * vs' 0) (nI (vs' 1)), ?_, ?_, ?_, ?_⟩
    · show (if (hm' m 22) = 0 then _ else _ : Option am_F).bind _ = _
      rw [if_neg c22, m0, ei, z_ix (by omega) (by decide), m1]
      rfl
    · intro x h1 h2
      rw [z_upr h1]
    · obtain ⟨z1, z2, z3, z4⟩ := hct
      exact ⟨by rw [z_ups, upz_n (by omega)]; exact z1, by rw [z_ups, upz_n (by omega)]; exact z2, by rw [z_ups, upz_n (by omega)]; exact z3, by rw [z_ups, upz_n (by omega)]; exact z4⟩
    · intro c4
      obtain ⟨B, b1, b2, b3, J, W, bn, _⟩ := pre c4
      exact pk_done (hm' := hm') (fun x h1 h2 => z_upr h1) (tell_5 (vs := vs') J W c0 c1 (by omega) (by omega) (fun y => by rw [up_row])) b1 b2 b3
theorem park_6 (htp : tp < a) (hl6 : g_ln l (a + 20) = 6) (H : tpR l r hc hm a m tp L T) (Kt : tkR hc hm j a m L T f e) (h13 : hm m 13 ≠ 0) (F : ftR hc hm a m f) (h22 : hm m 22 = 1) (hC : ct0 m hm) (hD : hc a 4 = 0 → dr0 l a m hc hm) (Hd : hdR l hc a) : LO l r a m tp L T (dr0 l a m) (ct0 m) hc hm f (rdK l r a (nI 6) hc) (Md_parkLine m (1667330660 : Int64) (nI f) hm j) := by
  obtain ⟨hc1, hm1, j1, f1, e1, n1, n2, ⟨s1, s2, s3, s4, s5, s6, s7, s8, s9⟩, n4⟩ := head_free (l := l) (r := r) H Kt h13 F
  have hRd : rdK l r a (nI 6) hc = tkC l r a (nI 6) (List.map tC [kI 98 0 false 5 true, kI 104 0 false 47 false, kI 117 0 true 47 false]) 0 hc1 := by
    rw [rdK_free (sh := 21) (by unfold Rd_isFull; rw [if_neg (show ¬ nI 6 = 4 by decide), if_neg (show ¬ nI 6 = 5 by decide), if_pos (show nI 6 = 6 from rfl)]) (by decide) (by decide) (by decide), n1, Option.bind_some]
    rfl
  have hMd : Md_parkLine m (1667330660 : Int64) (nI f) hm j = gz (mtC m 0 (fun h j => (if (h m 22) = 0 then some h else (g_ix (((55 : Int32) + ((4 : Int32) * (h (m + 11) 0))) + (2 : Int32)) 195).bind fun k9 => (g_ix (((55 : Int32) + ((4 : Int32) * ((am_up h (m + 10) k9 (h (m + 11) 1)) (m + 11) 0))) + (3 : Int32)) 195).bind fun k10 => some (am_up (am_up h (m + 10) k9 (h (m + 11) 1)) (m + 10) k10 ((am_up h (m + 10) k9 (h (m + 11) 1)) (m + 11) 2)) : Option (am_F)).bind fun q11 => some ((1 : Int32), q11, j)) [kI 98 0 false 5 true, kI 104 0 false 47 false, kI 117 0 true 47 false] 0 hm1 j1) := by
    unfold Md_parkLine
    simp only [cmpE]
    rw [if_neg (show ¬ (1667330660 : Int64) = 1918989413 by decide), if_neg (show ¬ (1667330660 : Int64) = 440005915496 by decide), if_neg (show ¬ (1667330660 : Int64) = 126943821523833 by decide), if_neg (show ¬ (1667330660 : Int64) = 108187750065510 by decide), if_neg (show ¬ (1667330660 : Int64) = 422608528232 by decide), if_neg (show ¬ (1667330660 : Int64) = 31632302844175716 by decide), if_pos trivial]
    unfold Md_parkLine_t85
    rw [n2, Option.bind_some]
    simp only [cmpE]
    rw [if_neg (show ¬ (1667330660 : Int64) = 1918989413 by decide), if_neg (show ¬ (1667330660 : Int64) = 440005915496 by decide), if_neg (show ¬ (1667330660 : Int64) = 126943821523833 by decide), if_neg (show ¬ (1667330660 : Int64) = 108187750065510 by decide), if_neg (show ¬ (1667330660 : Int64) = 422608528232 by decide), if_neg (show ¬ (1667330660 : Int64) = 31632302844175716 by decide), if_pos trivial]
    rfl
  rw [hRd, hMd]
  apply LO_gz
  refine line_fin (b0 := 0) (vs := fun _ => 0) [kI 98 0 false 5 true, kI 104 0 false 47 false, kI 117 0 true 47 false] htp ⟨ok_b, by decide, ⟨ok_h, by decide, ⟨ok_u, by decide, trivial⟩⟩⟩ (by decide) s2 s3 s4 (fun k hk => by omega) s1 (fun x hx => s5 x (by omega)) (fun x h1 _ _ => s6 x h1) (hd_fr Hd (fun x h1 h2 => s5 x (by omega))) ?_
  intro vs' hc' hm' j' N' _ fc fm h4 h22a h22b hB
  have hct : ct0 m hm' := ct_fr (ct_fr hC (fun x h1 _ => s6 x h1)) fm
  have pre := pk_pre (by rw [s9]; exact h22) (by
    intro t ht
    rcases List.mem_cons.1 ht with rfl | ht
    · decide
    rcases List.mem_cons.1 ht with rfl | ht
    · decide
    rcases List.mem_cons.1 ht with rfl | ht
    · decide
    cases ht) (fun c => dr_fr (hD (n4 c)) s5 s6 s7 s8) fc fm h4 h22a hB
  have c0 : hc' (a + 20) 0 = nI (vs' 0) := (N' 0 (by decide)).1
  have m0 : hm' (m + 11) 0 = nI (vs' 0) := (N' 0 (by decide)).2.1 (by decide)
  have c1 : hc' (a + 20) 1 = nI (vs' 1) := (N' 1 (by decide)).1
  have m1 : hm' (m + 11) 1 = nI (vs' 1) := (N' 1 (by decide)).2.1 (by decide)
  have c2 : hc' (a + 20) 2 = nI (vs' 2) := (N' 2 (by decide)).1
  have m2 : hm' (m + 11) 2 = nI (vs' 2) := (N' 2 (by decide)).2.1 (by decide)
  by_cases c22 : hm' m 22 = 0
  · refine ⟨hm', ?_, fun _ _ _ => rfl, hct, fun c4 => ?_⟩
    · show (if (hm' m 22) = 0 then _ else _ : Option am_F).bind _ = _
      rw [if_pos c22]
      rfl
    · obtain ⟨_, _, _, _, _, _, _, _, h⟩ := pre c4
      exact absurd c22 h
  · obtain ⟨⟨_, g1⟩, ⟨_, g2⟩, ⟨_, g3⟩, _⟩ := h22b c22
    have g1' : vs' 0 ≤ 5 := g1
    have g2' : vs' 1 ≤ 47 := g2
    have g3' : vs' 2 ≤ 47 := g3
    have ei : (((55 : Int32) + ((4 : Int32) * (nI (vs' 0)))) + (2 : Int32)) = nI (57 + 4 * vs' 0) := by
      rw [show (55 : Int32) = nI 55 from rfl, show (4 : Int32) = nI 4 from rfl, show (2 : Int32) = nI 2 from rfl, pk_mul, nI_add, nI_add]
      congr 1
      omega
    have ej : (((55 : Int32) + ((4 : Int32) * (nI (vs' 0)))) + (3 : Int32)) = nI (58 + 4 * vs' 0) := by
      rw [show (55 : Int32) = nI 55 from rfl, show (4 : Int32) = nI 4 from rfl, show (3 : Int32) = nI 3 from rfl, pk_mul, nI_add, nI_add]
      congr 1
      omega
    refine ⟨am_up (am_up hm' (m + 10) (57 + 4 * vs' 0) (nI (vs' 1))) (m + 10) (58 + 4 * vs' 0) (nI (vs' 2)), ?_, ?_, ?_, ?_⟩
    · show (if (hm' m 22) = 0 then _ else _ : Option am_F).bind _ = _
      rw [if_neg c22, m0, ei, z_ix (by omega) (by decide), Option.bind_some, z_upr (show m + 11 ≠ m + 10 by omega), m0, ej, z_ix (by omega) (by decide), m1, m2]
      rfl
    · intro x h1 h2
      rw [z_upr h1, z_upr h1]
    · obtain ⟨z1, z2, z3, z4⟩ := hct
      exact ⟨by rw [z_ups, upz_n (by omega), z_ups, upz_n (by omega)]; exact z1, by rw [z_ups, upz_n (by omega), z_ups, upz_n (by omega)]; exact z2, by rw [z_ups, upz_n (by omega), z_ups, upz_n (by omega)]; exact z3, by rw [z_ups, upz_n (by omega), z_ups, upz_n (by omega)]; exact z4⟩
    · intro c4
      obtain ⟨B, b1, b2, b3, J, W, bn, _⟩ := pre c4
      refine pk_done (hm' := hm') (fun x h1 h2 => by rw [z_upr h1, z_upr h1]) (tell_6 (vs := vs') J W c0 c1 c2 (by omega) (by omega) (by omega) (fun y => ?_)) b1 b2 b3
      rw [z_ups, z_ups]
      unfold upz
      repeat' split
      all_goals first | rfl | (exfalso; omega)
theorem park_4 (htp : tp < a) (hl6 : g_ln l (a + 20) = 6) (H : tpR l r hc hm a m tp L T) (Kt : tkR hc hm j a m L T f e) (h13 : hm m 13 ≠ 0) (F : ftR hc hm a m f) (h22 : hm m 22 = 1) (hC : ct0 m hm) (hD : hc a 4 = 0 → dr0 l a m hc hm) (Hd : hdR l hc a) : LO l r a m tp L T (dr0 l a m) (ct0 m) hc hm f (rdK l r a (nI 4) hc) (Md_parkLine m (422608528232 : Int64) (nI f) hm j) := by
  have ec := zN_V hC.1 (by decide)
  generalize ecg : nV (hm (m + 10) 3) = c at ec
  have hq : hc a 4 = 0 → (if hc (a + 1) 3 < 6 then (0 : Int32) else 1) = if c = 6 then 1 else 0 := by
    intro c4
    obtain ⟨B, _, _, _, J, _⟩ := hD c4
    rw [J.1.2.2.2, ec.1]
    by_cases q : c = 6
    · rw [if_pos q, q]; rfl
    · rw [if_neg q, if_pos (show nI c < 6 from nI_lt (show c < 6 by omega) (by decide))]
  have hIs : Rd_isFull a (nI 4) hc = some (if hc (a + 1) 3 < 6 then (0 : Int32) else 1) := by
    unfold Rd_isFull
    rw [if_pos (show nI 4 = 4 from rfl)]
    split <;> rfl
  obtain ⟨q8, hc1, hm0, hm1, j1, f1, e1, n0, n1, n2, n3, ⟨s1, s2, s3, s4, s5, s6, s7, s8, s9⟩, n4⟩ := head_park (l := l) (r := r) (q4 := (if hc (a + 1) 3 < 6 then (0 : Int32) else 1)) (kx := 3) (lim := 6) (c := c) (by decide) (by decide) ec.1 (by omega) hq H Kt h13 F
  have hRd : rdK l r a (nI 4) hc = tkC l r a (nI 4) (List.map tC [kI 110 1 false 9 false]) 0 hc1 := by
    unfold rdK
    rw [hIs, Option.bind_some, Kt.2.2.1, n0, Option.bind_some, show Rd_shapeOf (nI 4) = 19 by decide]
    have := l41_eq (l := l) (r := r) (a := a) (x2 := nI 4) (x3 := 19) (by decide) (by decide) (am_str 19).length 0 g_fu q8 (by omega) (by unfold g_fu; have : (am_str 19).length = 1 := rfl; omega)
    rw [List.drop_zero, n1, Option.bind_some] at this
    exact this
  have n3' : Md_full m 3 6 (nI f) hm0 = some hm1 := n3
  have hMd : Md_parkLine m (422608528232 : Int64) (nI f) hm j = gz (mtC m 0 (fun h j => (Md_keep m (3 : Int32) (55 : Int32) (1 : Int32) (4 : Int32) (6 : Int32) h).bind fun q4 => some ((1 : Int32), q4, j)) [kI 110 1 false 9 false] 0 hm1 j1) := by
    unfold Md_parkLine
    simp only [cmpE]
    rw [if_neg (show ¬ (422608528232 : Int64) = 1918989413 by decide), if_neg (show ¬ (422608528232 : Int64) = 440005915496 by decide), if_neg (show ¬ (422608528232 : Int64) = 126943821523833 by decide), if_neg (show ¬ (422608528232 : Int64) = 108187750065510 by decide), if_pos trivial]
    unfold Md_parkLine_t85
    rw [n2, Option.bind_some]
    simp only [cmpE]
    rw [if_neg (show ¬ (422608528232 : Int64) = 1918989413 by decide), if_neg (show ¬ (422608528232 : Int64) = 440005915496 by decide), if_neg (show ¬ (422608528232 : Int64) = 126943821523833 by decide), if_neg (show ¬ (422608528232 : Int64) = 108187750065510 by decide), if_pos trivial]
    unfold Md_benchLine
    rw [n3', Option.bind_some]
    rfl
  rw [hRd, hMd]
  apply LO_gz
  refine line_fin (b0 := 0) (vs := fun _ => 0) [kI 110 1 false 9 false] htp ⟨ok_n, by decide, trivial⟩ (by decide) s2 s3 s4 (fun k hk => by omega) s1 (fun x hx => s5 x (by omega)) (fun x h1 _ _ => s6 x h1) (hd_fr Hd (fun x h1 h2 => s5 x (by omega))) ?_
  intro vs' hc' hm' j' N' _ fc fm h4 h22a h22b hB
  have hct : ct0 m hm' := ct_fr (ct_fr hC (fun x h1 _ => s6 x h1)) fm
  have pre := pk_pre (by rw [s9]; exact h22) (by
    intro t ht
    rcases List.mem_cons.1 ht with rfl | ht
    · decide
    cases ht) (fun c => dr_fr (hD (n4 c).1) s5 s6 s7 s8) fc fm h4 h22a hB
  have c0 : hc' (a + 20) 0 = nI (vs' 0) := (N' 0 (by decide)).1
  have m0 : hm' (m + 11) 0 = nI (vs' 0) := (N' 0 (by decide)).2.1 (by decide)
  have eg : hm' (m + 10) = hm (m + 10) := by rw [fm _ (by omega) (by omega), s6 _ (by omega)]
  have ek : hm' (m + 10) 3 = nI c := by rw [eg]; exact ec.1
  have ecx : nV (hm' (m + 10) 3) = c := by rw [ek, nV_nI (by omega)]
  by_cases cl : c = 6
  · refine ⟨hm', ?_, fun _ _ _ => rfl, hct, fun c4 => ?_⟩
    · show (Md_keep m (nI 3) (nI 55) (nI 1) (nI 4) (nI 6) hm').bind _ = _
      rw [keep_full (by decide) (by rw [ek, cl])]
      rfl
    · have := (n4 (h4 c4).1).2
      omega
  · refine ⟨fun b y => if b = m + 10 ∧ 55 + 4 * c ≤ y ∧ y < 55 + 4 * c + 1 then hm' (m + 11) (y - (55 + 4 * c)) else if b = m + 10 ∧ y = 3 then nI (c + 1) else hm' b y, ?_, ?_, ?_, ?_⟩
    · show (Md_keep m (nI 3) (nI 55) (nI 1) (nI 4) (nI 6) hm').bind _ = _
      rw [keep_at (by decide) (by decide) (by decide) (by omega) (by decide) ek (by omega)]
      rfl
    · intro x h1 h2
      funext y
      exact (if_neg (fun z => h1 z.1)).trans (if_neg (fun z => h1 z.1))
    · obtain ⟨z1, z2, z3, z4⟩ := hct
      refine ⟨?_, ?_, ?_, ?_⟩
      · show zN (if m + 10 = m + 10 ∧ 55 + 4 * c ≤ 3 ∧ 3 < 55 + 4 * c + 1 then hm' (m + 11) (3 - (55 + 4 * c)) else if m + 10 = m + 10 ∧ 3 = 3 then nI (c + 1) else hm' (m + 10) 3) 7
        rw [if_neg (by omega), if_pos ⟨rfl, rfl⟩]; exact zN_nI (by omega)
      · show zN (if m + 10 = m + 10 ∧ 55 + 4 * c ≤ 4 ∧ 4 < 55 + 4 * c + 1 then hm' (m + 11) (4 - (55 + 4 * c)) else if m + 10 = m + 10 ∧ 4 = 3 then nI (c + 1) else hm' (m + 10) 4) 9
        rw [if_neg (by omega), if_neg (by omega)]; exact z2
      · show zN (if m + 10 = m + 10 ∧ 55 + 4 * c ≤ 5 ∧ 5 < 55 + 4 * c + 1 then hm' (m + 11) (5 - (55 + 4 * c)) else if m + 10 = m + 10 ∧ 5 = 3 then nI (c + 1) else hm' (m + 10) 5) 5
        rw [if_neg (by omega), if_neg (by omega)]; exact z3
      · show zN (if m + 10 = m + 10 ∧ 55 + 4 * c ≤ 6 ∧ 6 < 55 + 4 * c + 1 then hm' (m + 11) (6 - (55 + 4 * c)) else if m + 10 = m + 10 ∧ 6 = 3 then nI (c + 1) else hm' (m + 10) 6) 15
        rw [if_neg (by omega), if_neg (by omega)]; exact z4
    · intro c4
      obtain ⟨B, b1, b2, b3, J, W, bn, ⟨⟨g1, g2⟩, _⟩, _⟩ := pre c4
      have g1' : 1 ≤ vs' 0 := g1
      have g2' : vs' 0 ≤ 9 := g2
      refine pk_done (hm' := hm') (fun x h1 h2 => by funext y; exact (if_neg (fun z => h1 z.1)).trans (if_neg (fun z => h1 z.1))) (tell_4 (vs := vs') J W c0 g1' g2' (by rw [ecx]; omega) (fun y => ?_)) b1 b2 b3
      rw [ecx]
      show (if m + 10 = m + 10 ∧ 55 + 4 * c ≤ y ∧ y < 55 + 4 * c + 1 then hm' (m + 11) (y - (55 + 4 * c)) else if m + 10 = m + 10 ∧ y = 3 then nI (c + 1) else hm' (m + 10) y) = _
      by_cases y1 : y = 55 + 4 * c
      · rw [if_pos (by omega), if_pos y1, show y - (55 + 4 * c) = 0 by omega, m0]
      · rw [if_neg (by omega), if_neg y1]
        simp only [true_and]
theorem park_7 (htp : tp < a) (hl6 : g_ln l (a + 20) = 6) (H : tpR l r hc hm a m tp L T) (Kt : tkR hc hm j a m L T f e) (h13 : hm m 13 ≠ 0) (F : ftR hc hm a m f) (h22 : hm m 22 = 1) (hC : ct0 m hm) (hD : hc a 4 = 0 → dr0 l a m hc hm) (Hd : hdR l hc a) : LO l r a m tp L T (dr0 l a m) (ct0 m) hc hm f (rdK l r a (nI 7) hc) (Md_parkLine m (469786780261 : Int64) (nI f) hm j) := by
  have ec := zN_V hC.2.1 (by decide)
  generalize ecg : nV (hm (m + 10) 4) = c at ec
  have hq : hc a 4 = 0 → (Rw_isFull ((a + 1) + 7) hc) = if c = 8 then 1 else 0 := by
    intro c4
    obtain ⟨B, _, _, _, J, _⟩ := hD c4
    have J' := J.2.2.2.2.1
    rw [ecg] at J'
    by_cases q : c = 8
    · rw [if_pos q]; rw [q] at J'; exact Rw_full_yes J'
    · rw [if_neg q]; exact Rw_full_no J' (by omega)
  have hIs : Rd_isFull a (nI 7) hc = some (Rw_isFull ((a + 1) + 7) hc) := by
    unfold Rd_isFull
    rw [if_neg (show ¬ nI 7 = 4 by decide), if_neg (show ¬ nI 7 = 5 by decide), if_neg (show ¬ nI 7 = 6 by decide), if_pos (show nI 7 = 7 from rfl)]
    unfold g_bz Rw_isFull
    split <;> rfl
  obtain ⟨q8, hc1, hm0, hm1, j1, f1, e1, n0, n1, n2, n3, ⟨s1, s2, s3, s4, s5, s6, s7, s8, s9⟩, n4⟩ := head_park (l := l) (r := r) (q4 := (Rw_isFull ((a + 1) + 7) hc)) (kx := 4) (lim := 8) (c := c) (by decide) (by decide) ec.1 (by omega) hq H Kt h13 F
  have hRd : rdK l r a (nI 7) hc = tkC l r a (nI 7) (List.map tC [kI 98 0 false 5 true, kI 104 0 false 47 false, kI 110 1 false 9 false]) 0 hc1 := by
    unfold rdK
    rw [hIs, Option.bind_some, Kt.2.2.1, n0, Option.bind_some, show Rd_shapeOf (nI 7) = 22 by decide]
    have := l41_eq (l := l) (r := r) (a := a) (x2 := nI 7) (x3 := 22) (by decide) (by decide) (am_str 22).length 0 g_fu q8 (by omega) (by unfold g_fu; have : (am_str 22).length = 3 := rfl; omega)
    rw [List.drop_zero, n1, Option.bind_some] at this
    exact this
  have n3' : Md_full m 4 8 (nI f) hm0 = some hm1 := n3
  have hMd : Md_parkLine m (469786780261 : Int64) (nI f) hm j = gz (mtC m 0 (fun h j => (Md_keep m (4 : Int32) (79 : Int32) (3 : Int32) (3 : Int32) (8 : Int32) h).bind fun q4 => some ((1 : Int32), q4, j)) [kI 98 0 false 5 true, kI 104 0 false 47 false, kI 110 1 false 9 false] 0 hm1 j1) := by
    unfold Md_parkLine
    simp only [cmpE]
    rw [if_neg (show ¬ (469786780261 : Int64) = 1918989413 by decide), if_neg (show ¬ (469786780261 : Int64) = 440005915496 by decide), if_neg (show ¬ (469786780261 : Int64) = 126943821523833 by decide), if_neg (show ¬ (469786780261 : Int64) = 108187750065510 by decide), if_neg (show ¬ (469786780261 : Int64) = 422608528232 by decide), if_neg (show ¬ (469786780261 : Int64) = 31632302844175716 by decide), if_neg (show ¬ (469786780261 : Int64) = 1667330660 by decide), if_pos trivial]
    unfold Md_parkLine_t85
    rw [n2, Option.bind_some]
    simp only [cmpE]
    rw [if_neg (show ¬ (469786780261 : Int64) = 1918989413 by decide), if_neg (show ¬ (469786780261 : Int64) = 440005915496 by decide), if_neg (show ¬ (469786780261 : Int64) = 126943821523833 by decide), if_neg (show ¬ (469786780261 : Int64) = 108187750065510 by decide), if_neg (show ¬ (469786780261 : Int64) = 422608528232 by decide), if_neg (show ¬ (469786780261 : Int64) = 31632302844175716 by decide), if_neg (show ¬ (469786780261 : Int64) = 1667330660 by decide), if_pos trivial]
    unfold Md_maybeLine
    rw [n3', Option.bind_some]
    rfl
  rw [hRd, hMd]
  apply LO_gz
  refine line_fin (b0 := 0) (vs := fun _ => 0) [kI 98 0 false 5 true, kI 104 0 false 47 false, kI 110 1 false 9 false] htp ⟨ok_b, by decide, ⟨ok_h, by decide, ⟨ok_n, by decide, trivial⟩⟩⟩ (by decide) s2 s3 s4 (fun k hk => by omega) s1 (fun x hx => s5 x (by omega)) (fun x h1 _ _ => s6 x h1) (hd_fr Hd (fun x h1 h2 => s5 x (by omega))) ?_
  intro vs' hc' hm' j' N' _ fc fm h4 h22a h22b hB
  have hct : ct0 m hm' := ct_fr (ct_fr hC (fun x h1 _ => s6 x h1)) fm
  have pre := pk_pre (by rw [s9]; exact h22) (by
    intro t ht
    rcases List.mem_cons.1 ht with rfl | ht
    · decide
    rcases List.mem_cons.1 ht with rfl | ht
    · decide
    rcases List.mem_cons.1 ht with rfl | ht
    · decide
    cases ht) (fun c => dr_fr (hD (n4 c).1) s5 s6 s7 s8) fc fm h4 h22a hB
  have c0 : hc' (a + 20) 0 = nI (vs' 0) := (N' 0 (by decide)).1
  have m0 : hm' (m + 11) 0 = nI (vs' 0) := (N' 0 (by decide)).2.1 (by decide)
  have c1 : hc' (a + 20) 1 = nI (vs' 1) := (N' 1 (by decide)).1
  have m1 : hm' (m + 11) 1 = nI (vs' 1) := (N' 1 (by decide)).2.1 (by decide)
  have c2 : hc' (a + 20) 2 = nI (vs' 2) := (N' 2 (by decide)).1
  have m2 : hm' (m + 11) 2 = nI (vs' 2) := (N' 2 (by decide)).2.1 (by decide)
  have eg : hm' (m + 10) = hm (m + 10) := by rw [fm _ (by omega) (by omega), s6 _ (by omega)]
  have ek : hm' (m + 10) 4 = nI c := by rw [eg]; exact ec.1
  have ecx : nV (hm' (m + 10) 4) = c := by rw [ek, nV_nI (by omega)]
  by_cases cl : c = 8
  · refine ⟨hm', ?_, fun _ _ _ => rfl, hct, fun c4 => ?_⟩
    · show (Md_keep m (nI 4) (nI 79) (nI 3) (nI 3) (nI 8) hm').bind _ = _
      rw [keep_full (by decide) (by rw [ek, cl])]
      rfl
    · have := (n4 (h4 c4).1).2
      omega
  · refine ⟨fun b y => if b = m + 10 ∧ 79 + 3 * c ≤ y ∧ y < 79 + 3 * c + 3 then hm' (m + 11) (y - (79 + 3 * c)) else if b = m + 10 ∧ y = 4 then nI (c + 1) else hm' b y, ?_, ?_, ?_, ?_⟩
    · show (Md_keep m (nI 4) (nI 79) (nI 3) (nI 3) (nI 8) hm').bind _ = _
      rw [keep_at (by decide) (by decide) (by decide) (by omega) (by decide) ek (by omega)]
      rfl
    · intro x h1 h2
      funext y
      exact (if_neg (fun z => h1 z.1)).trans (if_neg (fun z => h1 z.1))
    · obtain ⟨z1, z2, z3, z4⟩ := hct
      refine ⟨?_, ?_, ?_, ?_⟩
      · show zN (if m + 10 = m + 10 ∧ 79 + 3 * c ≤ 3 ∧ 3 < 79 + 3 * c + 3 then hm' (m + 11) (3 - (79 + 3 * c)) else if m + 10 = m + 10 ∧ 3 = 4 then nI (c + 1) else hm' (m + 10) 3) 7
        rw [if_neg (by omega), if_neg (by omega)]; exact z1
      · show zN (if m + 10 = m + 10 ∧ 79 + 3 * c ≤ 4 ∧ 4 < 79 + 3 * c + 3 then hm' (m + 11) (4 - (79 + 3 * c)) else if m + 10 = m + 10 ∧ 4 = 4 then nI (c + 1) else hm' (m + 10) 4) 9
        rw [if_neg (by omega), if_pos ⟨rfl, rfl⟩]; exact zN_nI (by omega)
      · show zN (if m + 10 = m + 10 ∧ 79 + 3 * c ≤ 5 ∧ 5 < 79 + 3 * c + 3 then hm' (m + 11) (5 - (79 + 3 * c)) else if m + 10 = m + 10 ∧ 5 = 4 then nI (c + 1) else hm' (m + 10) 5) 5
        rw [if_neg (by omega), if_neg (by omega)]; exact z3
      · show zN (if m + 10 = m + 10 ∧ 79 + 3 * c ≤ 6 ∧ 6 < 79 + 3 * c + 3 then hm' (m + 11) (6 - (79 + 3 * c)) else if m + 10 = m + 10 ∧ 6 = 4 then nI (c + 1) else hm' (m + 10) 6) 15
        rw [if_neg (by omega), if_neg (by omega)]; exact z4
    · intro c4
      obtain ⟨B, b1, b2, b3, J, W, bn, ⟨_, ⟨_, g2⟩, ⟨g3, g4⟩, _⟩, _⟩ := pre c4
      have g1' : vs' 0 < B := bn.1 rfl
      have g2' : vs' 1 ≤ 47 := g2
      have g3' : 1 ≤ vs' 2 := g3
      have g4' : vs' 2 ≤ 9 := g4
      refine pk_done (hm' := hm') (fun x h1 h2 => by funext y; exact (if_neg (fun z => h1 z.1)).trans (if_neg (fun z => h1 z.1))) (tell_7 (vs := vs') J W (fun i hi => (N' i hi).1) hl6 g1' g2' g3' g4' (by rw [ecx]; omega) (fun y => ?_)) b1 b2 b3
      rw [ecx]
      show (if m + 10 = m + 10 ∧ 79 + 3 * c ≤ y ∧ y < 79 + 3 * c + 3 then hm' (m + 11) (y - (79 + 3 * c)) else if m + 10 = m + 10 ∧ y = 4 then nI (c + 1) else hm' (m + 10) y) = _
      by_cases y1 : 79 + 3 * c ≤ y ∧ y < 79 + 3 * c + 3
      · rw [if_pos ⟨rfl, y1⟩, if_pos y1]
        exact (N' (y - (79 + 3 * c)) (show _ < 3 by omega)).2.1 (Nat.zero_le _)
      · rw [if_neg (by omega), if_neg y1]
        simp only [true_and]
theorem park_8 (htp : tp < a) (hl6 : g_ln l (a + 20) = 6) (H : tpR l r hc hm a m tp L T) (Kt : tkR hc hm j a m L T f e) (h13 : hm m 13 ≠ 0) (F : ftR hc hm a m f) (h22 : hm m 22 = 1) (hC : ct0 m hm) (hD : hc a 4 = 0 → dr0 l a m hc hm) (Hd : hdR l hc a) : LO l r a m tp L T (dr0 l a m) (ct0 m) hc hm f (rdK l r a (nI 8) hc) (Md_parkLine m (123598008577902 : Int64) (nI f) hm j) := by
  have ec := zN_V hC.2.2.1 (by decide)
  generalize ecg : nV (hm (m + 10) 5) = c at ec
  have hq : hc a 4 = 0 → (Rw_isFull ((a + 1) + 9) hc) = if c = 4 then 1 else 0 := by
    intro c4
    obtain ⟨B, _, _, _, J, _⟩ := hD c4
    have J' := J.2.2.2.2.2.1
    rw [ecg] at J'
    by_cases q : c = 4
    · rw [if_pos q]; rw [q] at J'; exact Rw_full_yes J'
    · rw [if_neg q]; exact Rw_full_no J' (by omega)
  have hIs : Rd_isFull a (nI 8) hc = some (Rw_isFull ((a + 1) + 9) hc) := by
    unfold Rd_isFull
    rw [if_neg (show ¬ nI 8 = 4 by decide), if_neg (show ¬ nI 8 = 5 by decide), if_neg (show ¬ nI 8 = 6 by decide), if_neg (show ¬ nI 8 = 7 by decide), if_pos (show nI 8 = 8 from rfl)]
    unfold g_bz Rw_isFull
    split <;> rfl
  obtain ⟨q8, hc1, hm0, hm1, j1, f1, e1, n0, n1, n2, n3, ⟨s1, s2, s3, s4, s5, s6, s7, s8, s9⟩, n4⟩ := head_park (l := l) (r := r) (q4 := (Rw_isFull ((a + 1) + 9) hc)) (kx := 5) (lim := 4) (c := c) (by decide) (by decide) ec.1 (by omega) hq H Kt h13 F
  have hRd : rdK l r a (nI 8) hc = tkC l r a (nI 8) (List.map tC [kI 98 0 false 5 true, kI 104 0 false 47 false]) 0 hc1 := by
    unfold rdK
    rw [hIs, Option.bind_some, Kt.2.2.1, n0, Option.bind_some, show Rd_shapeOf (nI 8) = 20 by decide]
    have := l41_eq (l := l) (r := r) (a := a) (x2 := nI 8) (x3 := 20) (by decide) (by decide) (am_str 20).length 0 g_fu q8 (by omega) (by unfold g_fu; have : (am_str 20).length = 2 := rfl; omega)
    rw [List.drop_zero, n1, Option.bind_some] at this
    exact this
  have n3' : Md_full m 5 4 (nI f) hm0 = some hm1 := n3
  have hMd : Md_parkLine m (123598008577902 : Int64) (nI f) hm j = gz (mtC m 0 (fun h j => (Md_keep m (5 : Int32) (103 : Int32) (2 : Int32) (2 : Int32) (4 : Int32) h).bind fun q4 => some ((1 : Int32), q4, j)) [kI 98 0 false 5 true, kI 104 0 false 47 false] 0 hm1 j1) := by
    unfold Md_parkLine
    simp only [cmpE]
    rw [if_neg (show ¬ (123598008577902 : Int64) = 1918989413 by decide), if_neg (show ¬ (123598008577902 : Int64) = 440005915496 by decide), if_neg (show ¬ (123598008577902 : Int64) = 126943821523833 by decide), if_neg (show ¬ (123598008577902 : Int64) = 108187750065510 by decide), if_neg (show ¬ (123598008577902 : Int64) = 422608528232 by decide), if_neg (show ¬ (123598008577902 : Int64) = 31632302844175716 by decide), if_neg (show ¬ (123598008577902 : Int64) = 1667330660 by decide), if_neg (show ¬ (123598008577902 : Int64) = 469786780261 by decide), if_pos trivial]
    unfold Md_parkLine_t85
    rw [n2, Option.bind_some]
    simp only [cmpE]
    rw [if_neg (show ¬ (123598008577902 : Int64) = 1918989413 by decide), if_neg (show ¬ (123598008577902 : Int64) = 440005915496 by decide), if_neg (show ¬ (123598008577902 : Int64) = 126943821523833 by decide), if_neg (show ¬ (123598008577902 : Int64) = 108187750065510 by decide), if_neg (show ¬ (123598008577902 : Int64) = 422608528232 by decide), if_neg (show ¬ (123598008577902 : Int64) = 31632302844175716 by decide), if_neg (show ¬ (123598008577902 : Int64) = 1667330660 by decide), if_neg (show ¬ (123598008577902 : Int64) = 469786780261 by decide), if_pos trivial]
    unfold Md_pigeonLine
    rw [n3', Option.bind_some]
    rfl
  rw [hRd, hMd]
  apply LO_gz
  refine line_fin (b0 := 0) (vs := fun _ => 0) [kI 98 0 false 5 true, kI 104 0 false 47 false] htp ⟨ok_b, by decide, ⟨ok_h, by decide, trivial⟩⟩ (by decide) s2 s3 s4 (fun k hk => by omega) s1 (fun x hx => s5 x (by omega)) (fun x h1 _ _ => s6 x h1) (hd_fr Hd (fun x h1 h2 => s5 x (by omega))) ?_
  intro vs' hc' hm' j' N' _ fc fm h4 h22a h22b hB
  have hct : ct0 m hm' := ct_fr (ct_fr hC (fun x h1 _ => s6 x h1)) fm
  have pre := pk_pre (by rw [s9]; exact h22) (by
    intro t ht
    rcases List.mem_cons.1 ht with rfl | ht
    · decide
    rcases List.mem_cons.1 ht with rfl | ht
    · decide
    cases ht) (fun c => dr_fr (hD (n4 c).1) s5 s6 s7 s8) fc fm h4 h22a hB
  have c0 : hc' (a + 20) 0 = nI (vs' 0) := (N' 0 (by decide)).1
  have m0 : hm' (m + 11) 0 = nI (vs' 0) := (N' 0 (by decide)).2.1 (by decide)
  have c1 : hc' (a + 20) 1 = nI (vs' 1) := (N' 1 (by decide)).1
  have m1 : hm' (m + 11) 1 = nI (vs' 1) := (N' 1 (by decide)).2.1 (by decide)
  have eg : hm' (m + 10) = hm (m + 10) := by rw [fm _ (by omega) (by omega), s6 _ (by omega)]
  have ek : hm' (m + 10) 5 = nI c := by rw [eg]; exact ec.1
  have ecx : nV (hm' (m + 10) 5) = c := by rw [ek, nV_nI (by omega)]
  by_cases cl : c = 4
  · refine ⟨hm', ?_, fun _ _ _ => rfl, hct, fun c4 => ?_⟩
    · show (Md_keep m (nI 5) (nI 103) (nI 2) (nI 2) (nI 4) hm').bind _ = _
      rw [keep_full (by decide) (by rw [ek, cl])]
      rfl
    · have := (n4 (h4 c4).1).2
      omega
  · refine ⟨fun b y => if b = m + 10 ∧ 103 + 2 * c ≤ y ∧ y < 103 + 2 * c + 2 then hm' (m + 11) (y - (103 + 2 * c)) else if b = m + 10 ∧ y = 5 then nI (c + 1) else hm' b y, ?_, ?_, ?_, ?_⟩
    · show (Md_keep m (nI 5) (nI 103) (nI 2) (nI 2) (nI 4) hm').bind _ = _
      rw [keep_at (by decide) (by decide) (by decide) (by omega) (by decide) ek (by omega)]
      rfl
    · intro x h1 h2
      funext y
      exact (if_neg (fun z => h1 z.1)).trans (if_neg (fun z => h1 z.1))
    · obtain ⟨z1, z2, z3, z4⟩ := hct
      refine ⟨?_, ?_, ?_, ?_⟩
      · show zN (if m + 10 = m + 10 ∧ 103 + 2 * c ≤ 3 ∧ 3 < 103 + 2 * c + 2 then hm' (m + 11) (3 - (103 + 2 * c)) else if m + 10 = m + 10 ∧ 3 = 5 then nI (c + 1) else hm' (m + 10) 3) 7
        rw [if_neg (by omega), if_neg (by omega)]; exact z1
      · show zN (if m + 10 = m + 10 ∧ 103 + 2 * c ≤ 4 ∧ 4 < 103 + 2 * c + 2 then hm' (m + 11) (4 - (103 + 2 * c)) else if m + 10 = m + 10 ∧ 4 = 5 then nI (c + 1) else hm' (m + 10) 4) 9
        rw [if_neg (by omega), if_neg (by omega)]; exact z2
      · show zN (if m + 10 = m + 10 ∧ 103 + 2 * c ≤ 5 ∧ 5 < 103 + 2 * c + 2 then hm' (m + 11) (5 - (103 + 2 * c)) else if m + 10 = m + 10 ∧ 5 = 5 then nI (c + 1) else hm' (m + 10) 5) 5
        rw [if_neg (by omega), if_pos ⟨rfl, rfl⟩]; exact zN_nI (by omega)
      · show zN (if m + 10 = m + 10 ∧ 103 + 2 * c ≤ 6 ∧ 6 < 103 + 2 * c + 2 then hm' (m + 11) (6 - (103 + 2 * c)) else if m + 10 = m + 10 ∧ 6 = 5 then nI (c + 1) else hm' (m + 10) 6) 15
        rw [if_neg (by omega), if_neg (by omega)]; exact z4
    · intro c4
      obtain ⟨B, b1, b2, b3, J, W, bn, ⟨_, ⟨_, g2⟩, _⟩, _⟩ := pre c4
      have g1' : vs' 0 < B := bn.1 rfl
      have g2' : vs' 1 ≤ 47 := g2
      refine pk_done (hm' := hm') (fun x h1 h2 => by funext y; exact (if_neg (fun z => h1 z.1)).trans (if_neg (fun z => h1 z.1))) (tell_8 (vs := vs') J W (fun i hi => (N' i hi).1) hl6 g1' g2' (by rw [ecx]; omega) (fun y => ?_)) b1 b2 b3
      rw [ecx]
      show (if m + 10 = m + 10 ∧ 103 + 2 * c ≤ y ∧ y < 103 + 2 * c + 2 then hm' (m + 11) (y - (103 + 2 * c)) else if m + 10 = m + 10 ∧ y = 5 then nI (c + 1) else hm' (m + 10) y) = _
      by_cases y1 : 103 + 2 * c ≤ y ∧ y < 103 + 2 * c + 2
      · rw [if_pos ⟨rfl, y1⟩, if_pos y1]
        exact (N' (y - (103 + 2 * c)) (show _ < 2 by omega)).2.1 (Nat.zero_le _)
      · rw [if_neg (by omega), if_neg y1]
        simp only [true_and]
end PARK
