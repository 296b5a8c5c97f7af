/-! a text read: class and reference -/
def fdS (l : List (Nat × Nat)) (a m s : Nat) (hc hm : am_F) : Prop := match s with
  | 0 => pkI l hc (a + 1) (hm (m + 10)) ∧ pkV (hm (m + 10)) ∧ ∀ y, y < 6 → hc (a + 1 + 6) y = hm (m + 10) (58 + 4 * y)
  | s + 1 => drS l a m (s + 1) hc hm ∧ ctS m (s + 1) hm
section READ
variable {l : List (Nat × Nat)} {r : am_R} {hc hm : am_F} {a m tp L s : Nat} {T : Nat → Nat} {j : am_J}
theorem blk_r (i : Nat) (hi : i < 48) : blkW 0 (7 + i) = 2 := by
  unfold blkW blkV
  rw [if_neg (by omega), if_neg (by omega), if_pos rfl, if_pos (by omega)]
theorem blk_b (i : Nat) (h1 : 55 ≤ i) (h2 : i ≤ 78) : blkW 0 i = -1 := by
  unfold blkW blkV
  rw [if_neg (by omega), if_neg (by omega), if_pos rfl, if_neg (by omega), if_pos (by omega)]
theorem init_0 (Hd : hdR l hc a) (q0 : hc (a + 1) 0 = 20) (q1 : hc (a + 1) 1 = 8) (q2 : hc (a + 1) 2 = 0) (q3 : hc (a + 1) 3 = 0) (q4 : ∀ i, i < 48 → hc (a + 1 + 1) i = 2) (q5 : ∀ b, b < 6 → hc (a + 1 + 4) b = -1 ∧ hc (a + 1 + 5) b = -1 ∧ hc (a + 1 + 6) b = -1) (q6 : hc (a + 8) 3 = 0 ∧ hc (a + 10) 3 = 0 ∧ hc (a + 12) 3 = 0) (q7 : hc a 13 = -1) (g0 : ∀ y, y < 195 → hm (m + 10) y = blkW 0 y) (g1 : hm m 21 = -1) : dr0 l a m hc hm ∧ ct0 m hm := by
  have e0 : hm (m + 10) 0 = 20 := g0 0 (by decide)
  have e1 : hm (m + 10) 1 = 8 := g0 1 (by decide)
  have e2 : hm (m + 10) 2 = 0 := g0 2 (by decide)
  have e3 : hm (m + 10) 3 = 0 := g0 3 (by decide)
  have e4 : hm (m + 10) 4 = 0 := g0 4 (by decide)
  have e5 : hm (m + 10) 5 = 0 := g0 5 (by decide)
  have e6 : hm (m + 10) 6 = 0 := g0 6 (by decide)
  have z0 : nV (0 : Int32) = 0 := nV_nI (n := 0) (by decide)
  have zr : ∀ i, i < 48 → hm (m + 10) (7 + i) = 2 := fun i hi => by rw [g0 _ (by omega), blk_r i hi]
  have zb : ∀ i, 55 ≤ i → i ≤ 78 → hm (m + 10) i = -1 := fun i h1 h2 => by rw [g0 _ (by omega), blk_b i h1 h2]
  refine ⟨⟨0, by decide, q7, g1, ⟨⟨by rw [q0, e0], by rw [q1, e1], by rw [q2, e2], by rw [q3, e3]⟩, ?_, ?_, ?_, ?_, ?_, ?_⟩, ?_⟩, ?_⟩
  · intro i hi
    rw [q4 i hi, zr i hi]
  · intro b hb
    rw [e3, z0] at hb
    omega
  · intro b hb
    rw [zb _ (by omega) (by omega), zb _ (by omega) (by omega), zb _ (by omega) (by omega)]
    exact q5 b hb
  · rw [e4, z0]
    exact rw_zero Hd.1 rfl rfl q6.1
  · rw [e5, z0]
    exact rw_zero Hd.2.1 rfl rfl q6.2.1
  · rw [e6, z0]
    exact rw_zero Hd.2.2.1 rfl rfl q6.2.2
  · refine ⟨?_, ?_, ?_, ?_, ?_, ?_, ?_, ?_, ?_, ?_, ?_, ?_, ?_⟩
    · rw [e0]
      exact ⟨⟨20, by decide, rfl⟩, by decide⟩
    · rw [e1]
      exact ⟨8, by decide, rfl⟩
    · rw [e2]
      exact ⟨0, by decide, rfl⟩
    · rw [e3]
      exact ⟨0, by decide, rfl⟩
    · rw [e4]
      exact ⟨0, by decide, rfl⟩
    · rw [e5]
      exact ⟨0, by decide, rfl⟩
    · rw [e6]
      exact ⟨0, by decide, rfl⟩
    · intro i hi
      rw [zr i hi]
      exact ⟨2, by decide, rfl⟩
    · intro b hb
      rw [zb _ (by omega) (by omega), zb _ (by omega) (by omega), zb _ (by omega) (by omega)]
      exact ⟨.inl rfl, .inl rfl, .inl rfl⟩
    · intro b hb
      rw [e3, z0] at hb
      omega
    · intro b hb
      rw [e4, z0] at hb
      omega
    · intro b hb
      rw [e5, z0] at hb
      omega
    · intro b hb
      rw [e6, z0] at hb
      omega
  · unfold ct0
    rw [e3, e4, e5, e6]
    exact ⟨⟨0, by decide, rfl⟩, ⟨0, by decide, rfl⟩, ⟨0, by decide, rfl⟩, ⟨0, by decide, rfl⟩⟩
theorem init_s (hs : s < 4) (Hd : hdR l hc a) (q0 : hc (a + 1) 0 = 20) (q1 : hc (a + 1) 1 = 8) (q2 : hc (a + 1) 2 = 0) (q3 : hc (a + 1) 3 = 0) (q4 : ∀ i, i < 48 → hc (a + 1 + 1) i = 2) (q5 : ∀ b, b < 6 → hc (a + 1 + 4) b = -1 ∧ hc (a + 1 + 5) b = -1 ∧ hc (a + 1 + 6) b = -1) (q6 : hc (a + 8) 3 = 0 ∧ hc (a + 10) 3 = 0 ∧ hc (a + 12) 3 = 0) (q7 : hc a 13 = -1) (q8 : hc (a + 14) 3 = 0 ∧ hc (a + 16) 3 = 0 ∧ hc (a + 18) 3 = 0) (g0 : ∀ y, y < 195 → hm (m + 10) y = blkW s y) (g1 : hm m 21 = -1) : drS l a m s hc hm ∧ ctS m s hm := by
  have z0 : nV (0 : Int32) = 0 := nV_nI (n := 0) (by decide)
  have : s = 0 ∨ s = 1 ∨ s = 2 ∨ s = 3 := by omega
  rcases this with rfl | rfl | rfl | rfl
  · exact init_0 Hd q0 q1 q2 q3 q4 q5 q6 q7 g0 g1
  · have e0 : hm (m + 10) 0 = 0 := g0 0 (by decide)
    refine ⟨⟨?_, ?_⟩, ?_⟩
    · rw [e0, z0]
      exact rw_zero Hd.2.2.2.1 rfl rfl q8.1
    · rw [e0, z0]
      intro k hk
      omega
    · show zN (hm (m + 10) 0) 11
      rw [e0]
      exact ⟨0, by decide, rfl⟩
  · have e0 : hm (m + 10) 0 = 0 := g0 0 (by decide)
    refine ⟨⟨?_, ?_⟩, ?_⟩
    · rw [e0, z0]
      exact rw_zero Hd.2.2.2.2.1 rfl rfl q8.2.1
    · rw [e0, z0]
      intro k hk
      omega
    · show zN (hm (m + 10) 0) 9
      rw [e0]
      exact ⟨0, by decide, rfl⟩
  · have e0 : hm (m + 10) 0 = 0 := g0 0 (by decide)
    refine ⟨⟨?_, ?_⟩, ?_⟩
    · rw [e0, z0]
      exact rw_zero Hd.2.2.2.2.2 rfl rfl q8.2.2
    · rw [e0, z0]
      intro k hk
      omega
    · show zN (hm (m + 10) 0) 7
      rw [e0]
      exact ⟨0, by decide, rfl⟩
/-- the reference's end of a text -/
def mdE (m : Nat) (x1 : Int32) (q3 : Int32 × am_F × am_J) : Option (Int32 × am_F × am_J) :=
  (if q3.1 = 0 then
      some q3.2.1
    else
      if x1 = 0 then
        if (q3.2.1 m 17) = 0 then
          if (q3.2.1 m 21) < (q3.2.1 (m + 10) 3) then
            if (q3.2.1 (m + 10) 1) ≤ (q3.2.1 (m + 10) 0) then
              some q3.2.1
            else
              (Md_later m (5 : Int32) (q3.2.1 m 12) q3.2.1).bind fun q10 =>
              some q10
          else
            (Md_later m (4 : Int32) (q3.2.1 m 12) q3.2.1).bind fun q11 =>
            some q11
        else
          some q3.2.1
      else
        some q3.2.1 : Option (am_F)).bind fun q12 =>
  (if q3.1 = 0 then
      some (1 : Int32)
    else
      some (q12 m 17) : Option (Int32)).bind fun q15 =>
  (if q3.1 = 0 then
      some ((am_up q12 (m + 3) 0 q15) m 16)
    else
      if ((am_up q12 (m + 3) 0 q15) m 17) ≤ 0 then
        some (-1 : Int32)
      else
        some ((am_up q12 (m + 3) 0 q15) m 18) : Option (Int32)).bind fun q19 =>
  if ((am_up (am_up q12 (m + 3) 0 q15) (m + 4) 0 q19) (m + 3) 0) = 0 then
    some ((1 : Int32), (am_up (am_up q12 (m + 3) 0 q15) (m + 4) 0 q19), q3.2.2)
  else
    some ((0 : Int32), (am_up (am_up q12 (m + 3) 0 q15) (m + 4) 0 q19), q3.2.2)
def mdO (m : Nat) (h : am_F) (x y : Int32) : am_F := am_up (am_up h (m + 3) 0 x) (m + 4) 0 y
theorem mdE_brk {x1 : Int32} {h : am_F} {j : am_J} : mdE m x1 (0, h, j) = some (0, mdO m h 1 (h m 16), j) := by
  unfold mdE mdO
  simp only [if_true, Option.bind_some]
  rw [z_upr (show m ≠ m + 3 by omega), z_upr (show m + 3 ≠ m + 4 by omega), z_ups, upz_s, if_neg (by decide)]
theorem mdE_fin {x1 : Int32} {h q12 : am_F} {j : am_J} (h12 : (if x1 = 0 then if (h m 17) = 0 then if (h m 21) < (h (m + 10) 3) then if (h (m + 10) 1) ≤ (h (m + 10) 0) then some h else (Md_later m (5 : Int32) (h m 12) h).bind fun q10 => some q10 else (Md_later m (4 : Int32) (h m 12) h).bind fun q11 => some q11 else some h else some h : Option am_F) = some q12) : mdE m x1 (1, h, j) = some (if q12 m 17 = 0 then 1 else 0, mdO m q12 (q12 m 17) (if q12 m 17 ≤ 0 then -1 else q12 m 18), j) := by
  unfold mdE mdO
  simp only [show ((1 : Int32) = 0) = False from eq_false (by decide), if_false]
  rw [h12]
  simp only [Option.bind_some]
  rw [z_upr (show m ≠ m + 3 by omega)]
  by_cases c : q12 m 17 ≤ 0
  · rw [if_pos c, if_pos c]
    simp only [Option.bind_some]
    rw [z_upr (show m + 3 ≠ m + 4 by omega), z_ups, upz_s]
    split <;> rfl
  · rw [if_neg c, if_neg c]
    simp only [Option.bind_some]
    rw [z_upr (show m + 3 ≠ m + 4 by omega), z_ups, upz_s]
    split <;> rfl
/-- the class's end of a text -/
def rdE (a : Nat) (x3 : Int32) (R : am_R) (q9 : am_F) : Option (am_F × am_R) := if (q9 a 4) = 0 then (if x3 = 0 then (Rd_endPark a q9).bind fun q13 => some (q13, R) else some (q9, R)) else some (q9, R)
theorem fb_lt {B n : Nat} (hB : B ≤ 6) (hn : n < 7) : (fbI B < nI n) ↔ B ≤ n := by
  have h : ∀ B, B ≤ 6 → ∀ n, n < 7 → ((fbI B < nI n) ↔ B ≤ n) := by decide +kernel
  exact h B hB n hn
/-- how both end -/
def RE (l : List (Nat × Nat)) (a m s : Nat) (hc0 hm0 : am_F) (R : am_R) (Cx : Option (am_F × am_R)) (Mx : Option (Int32 × am_F × am_J)) : Prop := ∃ v hc' hm' j', Cx = some (hc', R) ∧ Mx = some (v, hm', j') ∧ hm' (m + 3) 0 = hc' a 4 ∧ hm' (m + 4) 0 = hc' a 5 ∧ ((v = 1 ∧ hc' a 4 = 0 ∧ fdS l a m s hc' hm') ∨ (v = 0 ∧ hc' a 4 ≠ 0)) ∧ rdF hc0 hc' a ∧ (∀ x, x ≠ m → x ≠ m + 3 → x ≠ m + 4 → x ≠ m + 10 → x ≠ m + 11 → hm' x = hm0 x) ∧ (∀ y, 1 ≤ y → hm' (m + 3) y = hm0 (m + 3) y ∧ hm' (m + 4) y = hm0 (m + 4) y) ∧ hdR l hc' a
theorem mdO_3 {h : am_F} {x y : Int32} : mdO m h x y (m + 3) 0 = x ∧ mdO m h x y (m + 4) 0 = y := by
  unfold mdO
  exact ⟨by rw [z_upr (by omega), z_ups, upz_s], by rw [z_ups, upz_s]⟩
theorem mdO_o {h : am_F} {x y : Int32} {k : Nat} (h1 : k ≠ m + 3) (h2 : k ≠ m + 4) : mdO m h x y k = h k := by
  unfold mdO
  rw [z_upr h2, z_upr h1]
theorem mdO_y {h : am_F} {x y : Int32} {z : Nat} (hz : 1 ≤ z) : mdO m h x y (m + 3) z = h (m + 3) z ∧ mdO m h x y (m + 4) z = h (m + 4) z := by
  unfold mdO
  exact ⟨by rw [z_upr (by omega), z_ups, upz_n (by omega)], by rw [z_ups, upz_n (by omega), z_upr (by omega)]⟩
theorem end_eq {hc0 hm0 : am_F} {R : am_R} {Cx : Option am_F} {Mx : Option (Int32 × am_F × am_J)} (hs : s < 4) (E : LE l r a m tp L s T hc0 hm0 Cx Mx) (hL : L ≤ 600) : RE l a m s hc0 hm0 R (Cx.bind (rdE a (nI s) R)) (Mx.bind (mdE m (nI s))) := by
  rcases E with ⟨f', hc', hm', j', e1, e2, e3, e4, e5, e6, e7, e8, e9⟩ | ⟨hc', hm', j', e1, e2, e3, e4, F, hC, hD, e7, e8, e9⟩
  · rw [e1, e2, Option.bind_some, Option.bind_some, mdE_brk]
    unfold rdE
    rw [e4, if_neg (by decide)]
    refine ⟨0, hc', _, j', rfl, rfl, ?_, ?_, .inr ⟨rfl, by rw [e4]; decide⟩, e7, ?_, fun y hy => ⟨by rw [(mdO_y hy).1, e8 _ (by omega) (by omega) (by omega)], by rw [(mdO_y hy).2, e8 _ (by omega) (by omega) (by omega)]⟩, e9⟩
    · rw [mdO_3.1, e4]
    · rw [mdO_3.2, e5, e6]
    · intro x h1 h2 h3 h4 h5
      rw [mdO_o h2 h3, e8 x h1 h4 h5]
  · rw [e1, e2, Option.bind_some, Option.bind_some]
    have fr : ∀ {q : am_F} {x y : Int32}, (∀ k, k ≠ m → q k = hm' k) → ∀ k, k ≠ m → k ≠ m + 3 → k ≠ m + 4 → k ≠ m + 10 → k ≠ m + 11 → mdO m q x y k = hm0 k := by
      intro q x y hq k h1 h2 h3 h4 h5
      rw [mdO_o h2 h3, hq k h1, e8 k h1 h4 h5]
    have fr2 : ∀ {q : am_F} {x y : Int32}, (∀ k, k ≠ m → q k = hm' k) → ∀ z, 1 ≤ z → mdO m q x y (m + 3) z = hm0 (m + 3) z ∧ mdO m q x y (m + 4) z = hm0 (m + 4) z := by
      intro q x y hq z hz
      exact ⟨by rw [(mdO_y hz).1, hq _ (by omega), e8 _ (by omega) (by omega) (by omega)], by rw [(mdO_y hz).2, hq _ (by omega), e8 _ (by omega) (by omega) (by omega)]⟩
    rcases F with ⟨f1, f2, f3⟩ | ⟨F', P, f1, f2, f3, f4, f5, f6⟩
    · have D := hD f1
      by_cases c0 : s = 0
      · subst c0
        obtain ⟨B, b1, b2, b3, J, W⟩ := D
        have W0 := W
        obtain ⟨w0, w1, w2, w3, w4, w5, w6, w7, w8, w9⟩ := W
        obtain ⟨q, t1, t2, t3⟩ := sums_at (h := hc') (p := a + 1) (g := hm' (m + 10)) (fun i hi => ⟨J.2.1 i hi, w7 i hi⟩)
        have v3 := zN_V w3 (by decide)
        have ea : q a = hc' a := t3 a (by omega)
        have ep : q (a + 1) = hc' (a + 1) := t3 _ (by omega)
        have Hq : hdR l q a := hd_fr e9 (fun x h1 h2 => t3 x (by omega))
        have Rq : rdF hc0 q a := fun x hx => by rw [t3 x (by omega), e7 x hx]
        unfold rdE Rd_endPark
        rw [f1, if_pos rfl, if_pos (show nI 0 = 0 from rfl), t1, Option.bind_some, ea, ep, b2, J.1.2.2.2, J.1.2.1, J.1.1, e3]
        by_cases cB : B ≤ nV (hm' (m + 10) 3)
        · have lt : fbI B < hm' (m + 10) 3 := by rw [v3.1]; exact (fb_lt b1 v3.2).2 cB
          rw [if_pos lt]
          by_cases cS : hm' (m + 10) 1 ≤ hm' (m + 10) 0
          · rw [if_pos cS, mdE_fin (q12 := hm') (by rw [if_pos (show nI 0 = 0 from rfl), if_pos f2, b3, if_pos lt, if_pos cS]), f2, if_pos rfl, if_pos (by decide)]
            have V : pkV (hm' (m + 10)) := pkW_V W0 cB
            have eg : ∀ x y, mdO m hm' x y (m + 10) = hm' (m + 10) := fun x y => mdO_o (by omega) (by omega)
            refine ⟨1, q, _, j', rfl, rfl, ?_, ?_, .inl ⟨rfl, by rw [ea]; exact f1, ?_⟩, Rq, fr (fun _ _ => rfl), fr2 (fun _ _ => rfl), Hq⟩
            · rw [mdO_3.1, ea, f1]
            · rw [mdO_3.2, ea, f3]
            · show pkI l q (a + 1) (mdO m hm' 0 (-1) (m + 10)) ∧ pkV (mdO m hm' 0 (-1) (m + 10)) ∧ ∀ y, y < 6 → q (a + 1 + 6) y = mdO m hm' 0 (-1) (m + 10) (58 + 4 * y)
              rw [eg]
              obtain ⟨j0, j1, j2, j3, j4, j5, j6⟩ := J
              refine ⟨⟨?_, ?_, t2, ?_, ?_, ?_, ?_, ?_⟩, V, ?_⟩
              · rw [ep]; exact j0
              · rw [t3 _ (by omega)]; exact j1
              · rw [t3 _ (by omega)]; exact j2
              · intro b hb
                rw [t3 _ (by omega), t3 _ (by omega), t3 _ (by omega)]
                exact ⟨(j3 b hb).1, (j3 b hb).2.1, fun _ => (j3 b hb).2.2⟩
              · exact rw_fr j4 (t3 _ (by omega)) (t3 _ (by omega))
              · exact rw_fr j5 (t3 _ (by omega)) (t3 _ (by omega))
              · exact rw_fr j6 (t3 _ (by omega)) (t3 _ (by omega))
              · intro y hy
                rw [t3 _ (by omega)]
                exact (j3 y hy).2.2
          · have eM : (Md_later m (5 : Int32) (hm' m 12) hm').bind (fun q10 => some q10) = some (am_up (am_up hm' m 17 5) m 18 (nI L)) := by
              unfold Md_later
              rw [if_pos f2, e4]
              rfl
            have eR : (Rd_noteFault a (5 : Int32) (nI L) q).bind (fun q4 => some q4) = some (am_up (am_up q a 4 5) a 5 (nI L)) := by
              unfold Rd_noteFault
              rw [ea, if_pos f1]
              rfl
            have q17 : (am_up (am_up hm' m 17 5) m 18 (nI L)) m 17 = 5 := by rw [z_ups, upz_n (by decide), z_ups, upz_s]
            have q18 : (am_up (am_up hm' m 17 5) m 18 (nI L)) m 18 = nI L := by rw [z_ups, upz_s]
            rw [if_neg cS, eR, mdE_fin (q12 := am_up (am_up hm' m 17 5) m 18 (nI L)) (by rw [if_pos (show nI 0 = 0 from rfl), if_pos f2, b3, if_pos lt, if_neg cS, eM]), q17, q18, if_neg (by decide), if_neg (by decide)]
            have r4 : (am_up (am_up q a 4 5) a 5 (nI L)) a 4 = 5 := by rw [z_ups, upz_n (by decide), z_ups, upz_s]
            refine ⟨0, _, _, j', rfl, rfl, ?_, ?_, .inr ⟨rfl, by rw [r4]; decide⟩, ?_, fr (fun k hk => by rw [z_upr hk, z_upr hk]), fr2 (fun k hk => by rw [z_upr hk, z_upr hk]), ?_⟩
            · rw [mdO_3.1, r4]
            · rw [mdO_3.2, z_ups, upz_s]
            · intro x hx
              rw [z_upr (by omega), z_upr (by omega), Rq x hx]
            · exact hd_fr Hq (fun x h1 h2 => by rw [z_upr (by omega), z_upr (by omega)])
        · have lt : ¬ fbI B < hm' (m + 10) 3 := by rw [v3.1]; exact fun h => cB ((fb_lt b1 v3.2).1 h)
          have eM : (Md_later m (4 : Int32) (hm' m 12) hm').bind (fun q10 => some q10) = some (am_up (am_up hm' m 17 4) m 18 (nI L)) := by
            unfold Md_later
            rw [if_pos f2, e4]
            rfl
          have eR : (Rd_noteFault a (4 : Int32) (nI L) q).bind (fun q4 => some q4) = some (am_up (am_up q a 4 4) a 5 (nI L)) := by
            unfold Rd_noteFault
            rw [ea, if_pos f1]
            rfl
          have q17 : (am_up (am_up hm' m 17 4) m 18 (nI L)) m 17 = 4 := by rw [z_ups, upz_n (by decide), z_ups, upz_s]
          have q18 : (am_up (am_up hm' m 17 4) m 18 (nI L)) m 18 = nI L := by rw [z_ups, upz_s]
          rw [if_neg lt, eR, mdE_fin (q12 := am_up (am_up hm' m 17 4) m 18 (nI L)) (by rw [if_pos (show nI 0 = 0 from rfl), if_pos f2, b3, if_neg lt, eM]), q17, q18, if_neg (by decide), if_neg (by decide)]
          have r4 : (am_up (am_up q a 4 4) a 5 (nI L)) a 4 = 4 := by rw [z_ups, upz_n (by decide), z_ups, upz_s]
          refine ⟨0, _, _, j', rfl, rfl, ?_, ?_, .inr ⟨rfl, by rw [r4]; decide⟩, ?_, fr (fun k hk => by rw [z_upr hk, z_upr hk]), fr2 (fun k hk => by rw [z_upr hk, z_upr hk]), ?_⟩
          · rw [mdO_3.1, r4]
          · rw [mdO_3.2, z_ups, upz_s]
          · intro x hx
            rw [z_upr (by omega), z_upr (by omega), Rq x hx]
          · exact hd_fr Hq (fun x h1 h2 => by rw [z_upr (by omega), z_upr (by omega)])
      · have n0 : ¬ nI s = 0 := fun e => c0 ((z_eq0 (by omega)).1 e)
        rw [mdE_fin (q12 := hm') (by rw [if_neg n0]), f2, if_pos rfl, if_pos (by decide)]
        unfold rdE
        rw [if_pos f1, if_neg n0]
        refine ⟨1, hc', _, j', rfl, rfl, ?_, ?_, .inl ⟨rfl, f1, ?_⟩, e7, fr (fun _ _ => rfl), fr2 (fun _ _ => rfl), e9⟩
        · rw [mdO_3.1, f1]
        · rw [mdO_3.2, f3]
        · obtain ⟨s, rfl⟩ : ∃ q, s = q + 1 := ⟨s - 1, by omega⟩
          show drS l a m (s + 1) hc' (mdO m hm' 0 (-1)) ∧ ctS m (s + 1) (mdO m hm' 0 (-1))
          refine ⟨?_, ctS_fr hs hC (mdO_o (by omega) (by omega))⟩
          have : s + 1 = 1 ∨ s + 1 = 2 ∨ s + 1 = 3 := by omega
          have eg : mdO m hm' 0 (-1) (m + 10) = hm' (m + 10) := mdO_o (by omega) (by omega)
          rcases this with h | h | h
          · rw [h] at D ⊢
            show drW l a m 14 3 10 prV hc' (mdO m hm' 0 (-1))
            unfold drW
            rw [eg]
            exact D
          · rw [h] at D ⊢
            show drW l a m 16 4 8 alV hc' (mdO m hm' 0 (-1))
            unfold drW
            rw [eg]
            exact D
          · rw [h] at D ⊢
            show drW l a m 18 3 6 plV hc' (mdO m hm' 0 (-1))
            unfold drW
            rw [eg]
            exact D
    · have hF : ¬ nI F' = 0 := by rcases f1 with rfl | rfl <;> decide
      have hF2 : ¬ nI F' ≤ 0 := by rcases f1 with rfl | rfl <;> decide
      have h12 : (if nI s = 0 then if (hm' m 17) = 0 then if (hm' m 21) < (hm' (m + 10) 3) then if (hm' (m + 10) 1) ≤ (hm' (m + 10) 0) then some hm' else (Md_later m (5 : Int32) (hm' m 12) hm').bind fun q10 => some q10 else (Md_later m (4 : Int32) (hm' m 12) hm').bind fun q11 => some q11 else some hm' else some hm' : Option am_F) = some hm' := by
        rw [f4, if_neg hF]
        split <;> rfl
      rw [mdE_fin h12, f4, f6, if_neg hF, if_neg hF2]
      unfold rdE
      rw [f3, if_neg hF]
      refine ⟨0, hc', _, j', rfl, rfl, ?_, ?_, .inr ⟨rfl, by rw [f3]; exact hF⟩, e7, fr (fun _ _ => rfl), fr2 (fun _ _ => rfl), e9⟩
      · rw [mdO_3.1, f3]
      · rw [mdO_3.2, f5]
end READ
