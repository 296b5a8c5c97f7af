/-! a comer's line; a line of a park -/
section COMER
variable {l : List (Nat × Nat)} {r : am_R} {hc hm : am_F} {a m tp L f e : Nat} {T : Nat → Nat} {j : am_J}
theorem take_w {v : Int32} (h : Rd_habitHere l r a hc = some v) : Rd_takeNumber l r a (nI 119) (nI 0) hc = some (if v = -1 then 0 else 1, am_up hc (a + 20) 0 v) := by
  unfold Rd_takeNumber
  rw [if_neg (show ¬ nI 0 < 0 by decide), if_pos (show nI 0 < 6 by decide), if_pos (show nI 119 = 119 from rfl), h, Option.bind_some, z_ix (by decide) (by decide), Option.bind_some, Option.bind_some, z_ups, upz_s]
  split <;> rfl
theorem comer_md {f' : Int32} {hm1 : am_F} {j1 : am_J} {q4 : Int32} (hq : (if hm1 m 13 = 2 then some (Md_habitBy (j1 m 15)) else some (-1) : Option Int32) = some q4) {hm0 : am_F} (hf : Md_full m 6 14 f' hm0 = some hm1) : Md_comerLine m f' hm0 j1 = if q4 = -1 then (Md_fails m hm1).bind fun q6 => (g_bz q6.1).bind fun z9 => some (z9, q6.2, j1) else (Md_token m hm1 j1).bind fun q7 => mtC m 0 (fun h j => (Md_keep m (6 : Int32) (111 : Int32) (6 : Int32) (6 : Int32) (14 : Int32) (am_up h (m + 11) 0 q4)).bind fun q18 => some ((1 : Int32), q18, j)) [kI 104 0 false 47 false, kI 98 0 false 5 true, kI 100 0 false 9 false, kI 100 0 false 9 false, kI 100 0 false 9 false] 1 q7.1 q7.2 := by
  unfold Md_comerLine
  rw [hf, Option.bind_some, hq, Option.bind_some]
  rfl
theorem park_9 (htp : tp < a) (hl6 : g_ln l (a + 20) = 6) (H : tpR l r hc hm a m tp L T) (Kt : tkR hc hm j a m L T f e) (h13 : hm m 13 ≠ 0) (F : ftR hc hm a m f) (h22 : hm m 22 = 1) (hC : ct0 m hm) (hD : hc a 4 = 0 → dr0 l a m hc hm) (Hd : hdR l hc a) : LO l r a m tp L T (dr0 l a m) (ct0 m) hc hm f (rdK l r a (nI 9) hc) (Md_parkLine m (427071202674 : Int64) (nI f) hm j) := by
  have ec := zN_V hC.2.2.2 (by decide)
  generalize ecg : nV (hm (m + 10) 6) = c at ec
  have hq : hc a 4 = 0 → (Rw_isFull ((a + 1) + 11) hc) = if c = 14 then 1 else 0 := by
    intro c4
    obtain ⟨B, _, _, _, J, _⟩ := hD c4
    have J' := J.2.2.2.2.2.2
    rw [ecg] at J'
    by_cases q : c = 14
    · rw [if_pos q]; rw [q] at J'; exact Rw_full_yes J'
    · rw [if_neg q]; exact Rw_full_no J' (by omega)
  have hIs : Rd_isFull a (nI 9) hc = some (Rw_isFull ((a + 1) + 11) hc) := by
    unfold Rd_isFull
    rw [if_neg (show ¬ nI 9 = 4 by decide), if_neg (show ¬ nI 9 = 5 by decide), if_neg (show ¬ nI 9 = 6 by decide), if_neg (show ¬ nI 9 = 7 by decide), if_neg (show ¬ nI 9 = 8 by decide), if_pos (show nI 9 = 9 from rfl)]
    unfold g_bz Rw_isFull
    split <;> rfl
  obtain ⟨q8, hc1, hm0, hm1, j1, f1, e1, n0, n1, n2, n3, ⟨s1, s2, s3, s4, s5, s6, s7, s8, s9⟩, n4⟩ := head_park (l := l) (r := r) (q4 := (Rw_isFull ((a + 1) + 11) hc)) (kx := 6) (lim := 14) (c := c) (by decide) (by decide) ec.1 (by omega) hq H Kt h13 F
  have hRd : rdK l r a (nI 9) hc = tkC l r a (nI 9) (119 :: List.map tC [kI 104 0 false 47 false, kI 98 0 false 5 true, kI 100 0 false 9 false, kI 100 0 false 9 false, kI 100 0 false 9 false]) 0 hc1 := by
    unfold rdK
    rw [hIs, Option.bind_some, Kt.2.2.1, n0, Option.bind_some, show Rd_shapeOf (nI 9) = 23 by decide]
    have := l41_eq (l := l) (r := r) (a := a) (x2 := nI 9) (x3 := 23) (by decide) (by decide) (am_str 23).length 0 g_fu q8 (by omega) (by unfold g_fu; have : (am_str 23).length = 6 := rfl; omega)
    rw [List.drop_zero, n1, Option.bind_some] at this
    exact this
  have n3' : Md_full m 6 14 (nI f) hm0 = some hm1 := n3
  have hMd : Md_parkLine m (427071202674 : Int64) (nI f) hm j = gz (Md_comerLine m (nI f) hm0 j1) := by
    unfold Md_parkLine
    simp only [cmpE]
    rw [if_neg (show ¬ (427071202674 : Int64) = 1918989413 by decide), if_neg (show ¬ (427071202674 : Int64) = 440005915496 by decide), if_neg (show ¬ (427071202674 : Int64) = 126943821523833 by decide), if_neg (show ¬ (427071202674 : Int64) = 108187750065510 by decide), if_neg (show ¬ (427071202674 : Int64) = 422608528232 by decide), if_neg (show ¬ (427071202674 : Int64) = 31632302844175716 by decide), if_neg (show ¬ (427071202674 : Int64) = 1667330660 by decide), if_neg (show ¬ (427071202674 : Int64) = 469786780261 by decide), if_neg (show ¬ (427071202674 : Int64) = 123598008577902 by decide), if_pos trivial]
    unfold Md_parkLine_t85
    rw [n2, Option.bind_some]
    simp only [cmpE]
    rw [if_neg (show ¬ (427071202674 : Int64) = 1918989413 by decide), if_neg (show ¬ (427071202674 : Int64) = 440005915496 by decide), if_neg (show ¬ (427071202674 : Int64) = 126943821523833 by decide), if_neg (show ¬ (427071202674 : Int64) = 108187750065510 by decide), if_neg (show ¬ (427071202674 : Int64) = 422608528232 by decide), if_neg (show ¬ (427071202674 : Int64) = 31632302844175716 by decide), if_neg (show ¬ (427071202674 : Int64) = 1667330660 by decide), if_neg (show ¬ (427071202674 : Int64) = 469786780261 by decide), if_neg (show ¬ (427071202674 : Int64) = 123598008577902 by decide)]
    rfl
  rw [hRd, hMd]
  apply LO_gz
  have Hd1 : hdR l hc1 a := hd_fr Hd (fun x h1 h2 => s5 x (by omega))
  have n20 : a ≠ a + 20 := by omega
  rcases habit_at s2 s3 with ⟨i0, hi5, ha, h132, hb⟩ | ⟨ha, hb⟩
  · have hqq : (if hm1 m 13 = 2 then some (Md_habitBy (j1 m 15)) else some (-1) : Option Int32) = some (nI i0) := by rw [if_pos h132, hb]
    have H2 : tpR l r (am_up hc1 (a + 20) 0 (nI i0)) hm1 a m tp L T := tp_fr s2 (z_upr (by omega)) (by rw [z_upr n20]) rfl rfl
    have fe1 := tk_lt s3 (by rw [h132]; decide)
    obtain ⟨f2, e2, hc2, hm2, j2, t1, t2, t3, t4, t5, t6, t7, t8, t9⟩ := next_eq (j := j1) H2 s3.2.2.2.2.2.1 (by rw [z_upr n20]; exact s3.1) s3.2.1
    rw [comer_md hqq n3', if_neg (z_nem (by omega)), t2, Option.bind_some]
    dsimp only
    have eC : tkC l r a (nI 9) (119 :: List.map tC [kI 104 0 false 47 false, kI 98 0 false 5 true, kI 100 0 false 9 false, kI 100 0 false 9 false, kI 100 0 false 9 false]) 0 hc1 = tkC l r a (nI 9) (List.map tC [kI 104 0 false 47 false, kI 98 0 false 5 true, kI 100 0 false 9 false, kI 100 0 false 9 false, kI 100 0 false 9 false]) 1 hc2 := by
      show (Rd_takeNumber l r a (nI 119) (nI 0) hc1).bind _ = _
      rw [take_w ha, Option.bind_some, if_neg (show ¬ nI i0 = -1 from z_nem (by omega)), if_neg (show ¬ (1 : Int32) = 0 by decide), t1, Option.bind_some]
    rw [eC]
    have e4 : hc2 a 4 = hc1 a 4 := by rw [t6 4 (by decide) (by decide) (by decide) (by decide), z_upr n20]
    have e5 : hc2 a 5 = hc1 a 5 := by rw [t6 5 (by decide) (by decide) (by decide) (by decide), z_upr n20]
    have e13 : hc2 a 13 = hc1 a 13 := by rw [t6 13 (by decide) (by decide) (by decide) (by decide), z_upr n20]
    have e17 := t8 17 (by decide) (by decide) (by decide) (by decide)
    have e18 := t8 18 (by decide) (by decide) (by decide) (by decide)
    have e21 := t8 21 (by decide) (by decide) (by decide) (by decide)
    have e22 := t8 22 (by decide) (by decide) (by decide) (by decide)
    have F2 : ftR hc2 hm2 a m f2 := ft_le (ft_fr s4 e4 e5 e17 e18) (by omega)
    have r20 : hc2 (a + 20) 0 = nI i0 := by rw [t7 _ (by omega), z_ups, upz_s]
    have fr2 : ∀ x, x ≠ a → x ≠ a + 20 → hc2 x = hc1 x := fun x h1 h2 => by rw [t7 x h1, z_upr h2]
    refine line_fin (b0 := 1) (i := 1) (vs := fun _ => i0) [kI 104 0 false 47 false, kI 98 0 false 5 true, kI 100 0 false 9 false, kI 100 0 false 9 false, kI 100 0 false 9 false] htp ⟨ok_h, by decide, ok_b, by decide, ok_d, by decide, ok_d, by decide, ok_d, by decide, trivial⟩ (by decide) t4 t5 F2 (fun k hk => ?_) (by omega) (fun x hx => by rw [fr2 x (by omega) (by omega), s5 x (by omega)]) (fun x h1 _ _ => by rw [t9 x h1, s6 x h1]) (hd_fr Hd1 (fun x h1 h2 => fr2 x (by omega) (by omega))) ?_
    · rw [show k = 0 by omega]
      exact ⟨r20, fun h => by omega, show i0 < 1000 by omega⟩
    · intro vs' hc' hm' j' N' hv0 fc fm h4 h22a h22b hB
      have v0 : vs' 0 = i0 := hv0 0 (by decide)
      have hct : ct0 m hm' := ct_fr (ct_fr (ct_fr hC (fun x h1 _ => s6 x h1)) (fun x h1 _ => t9 x h1)) fm
      have hD2 : hc2 a 4 = 0 → dr0 l a m hc2 hm2 := fun c => by
        obtain ⟨B, b1, b2, b3, b4, b5⟩ := hD (n4 (by rw [← e4]; exact c)).1
        refine ⟨B, b1, by rw [e13, s7]; exact b2, by rw [e21, s8]; exact b3, ?_, ?_⟩
        · rw [t9 _ (by omega), s6 _ (by omega)]
          exact pkJ_fr b4 (fun x h1 h2 => by rw [fr2 x (by omega) (by omega), s5 x (by omega)])
        · rw [t9 _ (by omega), s6 _ (by omega)]
          exact b5
      have pre := pk_pre (by rw [e22, s9]; exact h22) (by
        intro t ht
        rcases List.mem_cons.1 ht with rfl | ht
        · decide
        rcases List.mem_cons.1 ht with rfl | ht
        · decide
        rcases List.mem_cons.1 ht with rfl | ht
        · decide
        rcases List.mem_cons.1 ht with rfl | ht
        · decide
        rcases List.mem_cons.1 ht with rfl | ht
        · decide
        cases ht) hD2 fc fm h4 h22a hB
      have eg : hm' (m + 10) = hm (m + 10) := by rw [fm _ (by omega) (by omega), t9 _ (by omega), s6 _ (by omega)]
      have ek : (am_up hm' (m + 11) 0 (nI i0)) (m + 10) 6 = nI c := by rw [z_upr (by omega), eg]; exact ec.1
      have ecx : nV (hm' (m + 10) 6) = c := by rw [eg, ecg]
      have rd : ∀ k, k < 6 → (am_up hm' (m + 11) 0 (nI i0)) (m + 11) k = nI (vs' k) := by
        intro k hk
        rw [z_ups]
        by_cases c0 : k = 0
        · rw [c0, upz_s, v0]
        · rw [upz_n c0]
          exact (N' k hk).2.1 (by omega)
      by_cases cl : c = 14
      · refine ⟨am_up hm' (m + 11) 0 (nI i0), ?_, fun x _ h2 => z_upr h2, ?_, fun c4 => ?_⟩
        · show (Md_keep m (nI 6) (nI 111) (nI 6) (nI 6) (nI 14) (am_up hm' (m + 11) 0 (nI i0))).bind _ = _
          rw [keep_full (by decide) (by rw [ek, cl])]
          rfl
        · unfold ct0
          rw [z_upr (by omega)]
          exact hct
        · have := (n4 (by rw [← e4]; exact (h4 c4).1)).2
          omega
      · refine ⟨fun b y => if b = m + 10 ∧ 111 + 6 * c ≤ y ∧ y < 111 + 6 * c + 6 then (am_up hm' (m + 11) 0 (nI i0)) (m + 11) (y - (111 + 6 * c)) else if b = m + 10 ∧ y = 6 then nI (c + 1) else (am_up hm' (m + 11) 0 (nI i0)) b y, ?_, ?_, ?_, ?_⟩
        · show (Md_keep m (nI 6) (nI 111) (nI 6) (nI 6) (nI 14) (am_up hm' (m + 11) 0 (nI i0))).bind _ = _
          rw [keep_at (by decide) (by decide) (by decide) (by omega) (by decide) ek (by omega)]
          rfl
        · intro x h1 h2
          funext y
          exact ((if_neg (fun z => h1 z.1)).trans (if_neg (fun z => h1 z.1))).trans (congrFun (z_upr h2) y)
        · have ez : ∀ y, y < 111 → y ≠ 6 → (if m + 10 = m + 10 ∧ 111 + 6 * c ≤ y ∧ y < 111 + 6 * c + 6 then (am_up hm' (m + 11) 0 (nI i0)) (m + 11) (y - (111 + 6 * c)) else if m + 10 = m + 10 ∧ y = 6 then nI (c + 1) else (am_up hm' (m + 11) 0 (nI i0)) (m + 10) y) = hm' (m + 10) y := by
            intro y h1 h2
            rw [if_neg (by omega), if_neg (by omega), z_upr (by omega)]
          obtain ⟨z1, z2, z3, z4⟩ := hct
          refine ⟨?_, ?_, ?_, ?_⟩
          · rw [← ez 3 (by decide) (by decide)] at z1; exact z1
          · rw [← ez 4 (by decide) (by decide)] at z2; exact z2
          · rw [← ez 5 (by decide) (by decide)] at z3; exact z3
          · show zN (if m + 10 = m + 10 ∧ 111 + 6 * c ≤ 6 ∧ 6 < 111 + 6 * c + 6 then (am_up hm' (m + 11) 0 (nI i0)) (m + 11) (6 - (111 + 6 * c)) else if m + 10 = m + 10 ∧ 6 = 6 then nI (c + 1) else (am_up hm' (m + 11) 0 (nI i0)) (m + 10) 6) 15
            rw [if_neg (by omega), if_pos ⟨rfl, rfl⟩]
            exact zN_nI (by omega)
        · intro c4
          obtain ⟨B, b1, b2, b3, J, W, bn, ⟨⟨_, g1⟩, _, ⟨_, g3⟩, ⟨_, g4⟩, ⟨_, g5⟩, _⟩, _⟩ := pre c4
          have g1' : vs' 1 ≤ 47 := g1
          have g2' : vs' 2 < B := bn.2.1 rfl
          have g3' : vs' 3 ≤ 9 := g3
          have g4' : vs' 4 ≤ 9 := g4
          have g5' : vs' 5 ≤ 9 := g5
          refine pk_done (hm' := hm') (fun x h1 h2 => by funext y; exact ((if_neg (fun z => h1 z.1)).trans (if_neg (fun z => h1 z.1))).trans (congrFun (z_upr h2) y)) (tell_9 (vs := vs') J W (fun i hi => (N' i hi).1) hl6 (by omega) g1' g2' g3' g4' g5' (by rw [ecx]; omega) (fun y => ?_)) b1 b2 b3
          rw [ecx]
          show (if m + 10 = m + 10 ∧ 111 + 6 * c ≤ y ∧ y < 111 + 6 * c + 6 then (am_up hm' (m + 11) 0 (nI i0)) (m + 11) (y - (111 + 6 * c)) else if m + 10 = m + 10 ∧ y = 6 then nI (c + 1) else (am_up hm' (m + 11) 0 (nI i0)) (m + 10) y) = _
          by_cases y1 : 111 + 6 * c ≤ y ∧ y < 111 + 6 * c + 6
          · rw [if_pos ⟨rfl, y1⟩, if_pos y1]
            exact rd _ (by omega)
          · rw [if_neg (by omega), if_neg y1, z_upr (by omega)]
            simp only [true_and]
  · rw [comer_md hb n3', if_pos rfl]
    have eC : tkC l r a (nI 9) (119 :: List.map tC [kI 104 0 false 47 false, kI 98 0 false 5 true, kI 100 0 false 9 false, kI 100 0 false 9 false, kI 100 0 false 9 false]) 0 hc1 = some (am_up (am_up (am_up hc1 (a + 20) 0 (-1)) a 4 1) a 5 (nI f1)) := by
      show (Rd_takeNumber l r a (nI 119) (nI 0) hc1).bind _ = _
      rw [take_w ha, Option.bind_some, if_pos rfl, if_pos rfl]
      unfold Rd_breakOff
      rw [Option.bind_some, z_ups, upz_n (by decide)]
      show some (am_up (am_up (am_up hc1 (a + 20) 0 (-1)) a 4 1) a 5 ((am_up hc1 (a + 20) 0 (-1)) a 11)) = _
      rw [z_upr n20, s3.2.2.1]
    have eM : ((Md_fails m hm1).bind fun q6 => (g_bz q6.1).bind fun z9 => some (z9, q6.2, j1)) = some (0, am_up hm1 m 16 (nI f1), j1) := by
      unfold Md_fails
      rw [s3.2.2.2.1]
      rfl
    rw [eC, eM]
    have H2 : tpR l r (am_up hc1 (a + 20) 0 (-1)) hm1 a m tp L T := tp_fr s2 (z_upr (by omega)) (by rw [z_upr n20]) rfl rfl
    have K2 : tkR (am_up hc1 (a + 20) 0 (-1)) hm1 j1 a m L T f1 e1 := by
      unfold tkR
      rw [z_upr n20]
      exact s3
    exact LO_brk H2 K2 (fun x hx => by rw [z_upr (by omega), s5 x (by omega)]) (fun x h1 _ _ => s6 x h1) (hd_fr Hd1 (fun x h1 h2 => z_upr (by omega)))
end COMER
