/-! the lines of a text, sort by sort -/
def drS (l : List (Nat × Nat)) (a m s : Nat) : am_F → am_F → Prop := match s with
  | 0 => dr0 l a m
  | 1 => drW l a m 14 3 10 prV
  | 2 => drW l a m 16 4 8 alV
  | _ => drW l a m 18 3 6 plV
def ctS (m s : Nat) : am_F → Prop := match s with
  | 0 => ct0 m
  | 1 => ctW m 10
  | 2 => ctW m 8
  | _ => ctW m 6
section SORT
variable {l : List (Nat × Nat)} {r : am_R} {hc hm : am_F} {a m tp L f e s : Nat} {T : Nat → Nat} {j : am_J}
theorem cw_all : cwT 0 = 1918989413 ∧ cwT 1 = 440005915496 ∧ cwT 2 = 126943821523833 ∧ cwT 3 = 108187750065510 ∧ cwT 4 = 422608528232 ∧ cwT 5 = 31632302844175716 ∧ cwT 6 = 1667330660 ∧ cwT 7 = 469786780261 ∧ cwT 8 = 123598008577902 ∧ cwT 9 = 427071202674 ∧ cwT 10 = 1685418868 ∧ cwT 11 = 439720963700 ∧ cwT 12 = 1684366704 ∧ cwT 13 = 418430153325 ∧ cwT 14 = 114767640814963 := by decide +kernel
theorem read_hit {x : Int32} {i : Nat} (hi : i < 15) (h : Rd_lineHere l r a x hc = some (nI i)) : Rd_readLine l r a x hc = rdK l r a (nI i) hc := by
  unfold Rd_readLine rdK
  rw [h, Option.bind_some, if_neg (z_nem (by omega))]
theorem read_miss {x : Int32} (h : Rd_lineHere l r a x hc = some (-1)) (hf : hc a 11 = nI f) : Rd_readLine l r a x hc = some (am_up (am_up hc a 4 1) a 5 (nI f)) := by
  unfold Rd_readLine Rd_breakOff
  rw [h, Option.bind_some, if_pos rfl, Option.bind_some, z_ups, upz_n (by decide), hf]
theorem fails_at (hf : hm m 12 = nI f) : ((Md_fails m hm).bind fun q => (g_bz q.1).bind fun z9 => some (z9, q.2, j)) = some ((0 : Int32), am_up hm m 16 (nI f), j) := by
  unfold Md_fails
  rw [hf]
  rfl
theorem line_0 (htp : tp < a) (hl6 : g_ln l (a + 20) = 6) (H : tpR l r hc hm a m tp L T) (Kt : tkR hc hm j a m L T f e) (h13 : hm m 13 ≠ 0) (F : ftR hc hm a m f) (h22 : hm m 22 = 1) (hC : ctS m 0 hm) (hD : hc a 4 = 0 → drS l a m 0 hc hm) (Hd : hdR l hc a) : LO l r a m tp L T (drS l a m 0) (ctS m 0) hc hm f (Rd_readLine l r a (nI 0) hc) (Md_lineOf m (nI 0) (wdX hm j m) (nI f) hm j) := by
  obtain ⟨w0, w1, w2, w3, w4, w5, w6, w7, w8, w9, w10, w11, w12, w13, w14⟩ := cw_all
  have eM : Md_lineOf m (nI 0) (wdX hm j m) (nI f) hm j = gz (Md_parkLine m (wdX hm j m) (nI f) hm j) := by
    unfold Md_lineOf
    rw [if_pos (show nI 0 = 0 from rfl)]
    rfl
  rw [eM]
  apply LO_gz
  rcases line_at (s := 0) (by decide) H Kt with ⟨i, h1, h2, h3, h4⟩ | ⟨h1, h2⟩
  · have h1' : 0 ≤ i := h1
    have h2' : i < 10 := h2
    rw [read_hit (by omega) h4, h3]
    have hi : i = 0 ∨ i = 1 ∨ i = 2 ∨ i = 3 ∨ i = 4 ∨ i = 5 ∨ i = 6 ∨ i = 7 ∨ i = 8 ∨ i = 9 := by omega
    rcases hi with rfl | rfl | rfl | rfl | rfl | rfl | rfl | rfl | rfl | rfl
    · rw [w0]; exact park_0 htp hl6 H Kt h13 F h22 hC hD Hd
    · rw [w1]; exact park_1 htp hl6 H Kt h13 F h22 hC hD Hd
    · rw [w2]; exact park_2 htp hl6 H Kt h13 F h22 hC hD Hd
    · rw [w3]; exact park_3 htp hl6 H Kt h13 F h22 hC hD Hd
    · rw [w4]; exact park_4 htp hl6 H Kt h13 F h22 hC hD Hd
    · rw [w5]; exact park_5 htp hl6 H Kt h13 F h22 hC hD Hd
    · rw [w6]; exact park_6 htp hl6 H Kt h13 F h22 hC hD Hd
    · rw [w7]; exact park_7 htp hl6 H Kt h13 F h22 hC hD Hd
    · rw [w8]; exact park_8 htp hl6 H Kt h13 F h22 hC hD Hd
    · rw [w9]; exact park_9 htp hl6 H Kt h13 F h22 hC hD Hd
  · rw [read_miss h2 Kt.2.2.1]
    have d0 := h1 0 (by decide) (by decide)
    rw [w0] at d0
    have d1 := h1 1 (by decide) (by decide)
    rw [w1] at d1
    have d2 := h1 2 (by decide) (by decide)
    rw [w2] at d2
    have d3 := h1 3 (by decide) (by decide)
    rw [w3] at d3
    have d4 := h1 4 (by decide) (by decide)
    rw [w4] at d4
    have d5 := h1 5 (by decide) (by decide)
    rw [w5] at d5
    have d6 := h1 6 (by decide) (by decide)
    rw [w6] at d6
    have d7 := h1 7 (by decide) (by decide)
    rw [w7] at d7
    have d8 := h1 8 (by decide) (by decide)
    rw [w8] at d8
    have d9 := h1 9 (by decide) (by decide)
    rw [w9] at d9
    have : Md_parkLine m (wdX hm j m) (nI f) hm j = some (0, am_up hm m 16 (nI f), j) := by
      unfold Md_parkLine
      simp only [cmpE]
      rw [if_neg d0, if_neg d1, if_neg d2, if_neg d3, if_neg d4, if_neg d5, if_neg d6, if_neg d7, if_neg d8, if_neg d9]
      exact fails_at Kt.2.2.2.1
    rw [this]
    exact LO_brk H Kt (fun _ _ => rfl) (fun _ _ _ _ => rfl) Hd
theorem line_1 (htp : tp < a) (hl6 : g_ln l (a + 20) = 6) (H : tpR l r hc hm a m tp L T) (Kt : tkR hc hm j a m L T f e) (h13 : hm m 13 ≠ 0) (F : ftR hc hm a m f) (h22 : hm m 22 = 1) (hC : ctS m 1 hm) (hD : hc a 4 = 0 → drS l a m 1 hc hm) (Hd : hdR l hc a) : LO l r a m tp L T (drS l a m 1) (ctS m 1) hc hm f (Rd_readLine l r a (nI 1) hc) (Md_lineOf m (nI 1) (wdX hm j m) (nI f) hm j) := by
  obtain ⟨w0, w1, w2, w3, w4, w5, w6, w7, w8, w9, w10, w11, w12, w13, w14⟩ := cw_all
  have eM : Md_lineOf m (nI 1) (wdX hm j m) (nI f) hm j = gz (Md_sightLine m (wdX hm j m) (nI f) hm j) := by
    unfold Md_lineOf
    rw [if_neg (show ¬ nI 1 = 0 by decide), if_pos (show nI 1 = 1 from rfl)]
    rfl
  rw [eM]
  apply LO_gz
  rcases line_at (s := 1) (by decide) H Kt with ⟨i, h1, h2, h3, h4⟩ | ⟨h1, h2⟩
  · have h1' : 10 ≤ i := h1
    have h2' : i < 13 := h2
    rw [read_hit (by omega) h4, h3]
    have hi : i = 10 ∨ i = 11 ∨ i = 12 := by omega
    rcases hi with rfl | rfl | rfl
    · rw [w10]; exact row_10 htp hl6 H Kt h13 F hC hD Hd
    · rw [w11]; exact row_11 htp hl6 H Kt h13 F hC hD Hd
    · rw [w12]; exact row_12 htp hl6 H Kt h13 F hC hD Hd
  · rw [read_miss h2 Kt.2.2.1]
    have d10 := h1 10 (by decide) (by decide)
    rw [w10] at d10
    have d11 := h1 11 (by decide) (by decide)
    rw [w11] at d11
    have d12 := h1 12 (by decide) (by decide)
    rw [w12] at d12
    have : Md_sightLine m (wdX hm j m) (nI f) hm j = some (0, am_up hm m 16 (nI f), j) := by
      unfold Md_sightLine
      simp only [cmpE]
      rw [if_neg d12, if_neg d11, if_neg d10]
      exact fails_at Kt.2.2.2.1
    rw [this]
    exact LO_brk H Kt (fun _ _ => rfl) (fun _ _ _ _ => rfl) Hd
theorem line_2 (htp : tp < a) (hl6 : g_ln l (a + 20) = 6) (H : tpR l r hc hm a m tp L T) (Kt : tkR hc hm j a m L T f e) (h13 : hm m 13 ≠ 0) (F : ftR hc hm a m f) (h22 : hm m 22 = 1) (hC : ctS m 2 hm) (hD : hc a 4 = 0 → drS l a m 2 hc hm) (Hd : hdR l hc a) : LO l r a m tp L T (drS l a m 2) (ctS m 2) hc hm f (Rd_readLine l r a (nI 2) hc) (Md_lineOf m (nI 2) (wdX hm j m) (nI f) hm j) := by
  obtain ⟨w0, w1, w2, w3, w4, w5, w6, w7, w8, w9, w10, w11, w12, w13, w14⟩ := cw_all
  have eM : Md_lineOf m (nI 2) (wdX hm j m) (nI f) hm j = gz (Md_alarmLine m (wdX hm j m) (nI f) hm j) := by
    unfold Md_lineOf
    rw [if_neg (show ¬ nI 2 = 0 by decide), if_neg (show ¬ nI 2 = 1 by decide), if_pos (show nI 2 = 2 from rfl)]
    rfl
  rw [eM]
  apply LO_gz
  rcases line_at (s := 2) (by decide) H Kt with ⟨i, h1, h2, h3, h4⟩ | ⟨h1, h2⟩
  · have h1' : 13 ≤ i := h1
    have h2' : i < 14 := h2
    rw [read_hit (by omega) h4, h3]
    have hi : i = 13 := by omega
    subst hi
    · rw [w13]; exact row_13 htp hl6 H Kt h13 F hC hD Hd
  · rw [read_miss h2 Kt.2.2.1]
    have d13 := h1 13 (by decide) (by decide)
    rw [w13] at d13
    have : Md_alarmLine m (wdX hm j m) (nI f) hm j = some (0, am_up hm m 16 (nI f), j) := by
      unfold Md_alarmLine
      simp only [cmpE]
      rw [if_neg d13]
      exact fails_at Kt.2.2.2.1
    rw [this]
    exact LO_brk H Kt (fun _ _ => rfl) (fun _ _ _ _ => rfl) Hd
theorem line_3 (htp : tp < a) (hl6 : g_ln l (a + 20) = 6) (H : tpR l r hc hm a m tp L T) (Kt : tkR hc hm j a m L T f e) (h13 : hm m 13 ≠ 0) (F : ftR hc hm a m f) (h22 : hm m 22 = 1) (hC : ctS m 3 hm) (hD : hc a 4 = 0 → drS l a m 3 hc hm) (Hd : hdR l hc a) : LO l r a m tp L T (drS l a m 3) (ctS m 3) hc hm f (Rd_readLine l r a (nI 3) hc) (Md_lineOf m (nI 3) (wdX hm j m) (nI f) hm j) := by
  obtain ⟨w0, w1, w2, w3, w4, w5, w6, w7, w8, w9, w10, w11, w12, w13, w14⟩ := cw_all
  have eM : Md_lineOf m (nI 3) (wdX hm j m) (nI f) hm j = gz (Md_planLine m (wdX hm j m) (nI f) hm j) := by
    unfold Md_lineOf
    rw [if_neg (show ¬ nI 3 = 0 by decide), if_neg (show ¬ nI 3 = 1 by decide), if_neg (show ¬ nI 3 = 2 by decide)]
    rfl
  rw [eM]
  apply LO_gz
  rcases line_at (s := 3) (by decide) H Kt with ⟨i, h1, h2, h3, h4⟩ | ⟨h1, h2⟩
  · have h1' : 14 ≤ i := h1
    have h2' : i < 15 := h2
    rw [read_hit (by omega) h4, h3]
    have hi : i = 14 := by omega
    subst hi
    · rw [w14]; exact row_14 htp hl6 H Kt h13 F hC hD Hd
  · rw [read_miss h2 Kt.2.2.1]
    have d14 := h1 14 (by decide) (by decide)
    rw [w14] at d14
    have : Md_planLine m (wdX hm j m) (nI f) hm j = some (0, am_up hm m 16 (nI f), j) := by
      unfold Md_planLine
      simp only [cmpE]
      rw [if_neg d14]
      exact fails_at Kt.2.2.2.1
    rw [this]
    exact LO_brk H Kt (fun _ _ => rfl) (fun _ _ _ _ => rfl) Hd
theorem line_s (hs : s < 4) (htp : tp < a) (hl6 : g_ln l (a + 20) = 6) (H : tpR l r hc hm a m tp L T) (Kt : tkR hc hm j a m L T f e) (h13 : hm m 13 ≠ 0) (F : ftR hc hm a m f) (h22 : hm m 22 = 1) (hC : ctS m s hm) (hD : hc a 4 = 0 → drS l a m s hc hm) (Hd : hdR l hc a) : LO l r a m tp L T (drS l a m s) (ctS m s) hc hm f (Rd_readLine l r a (nI s) hc) (Md_lineOf m (nI s) (wdX hm j m) (nI f) hm j) := by
  have : s = 0 ∨ s = 1 ∨ s = 2 ∨ s = 3 := by omega
  rcases this with rfl | rfl | rfl | rfl
  · exact line_0 htp hl6 H Kt h13 F h22 hC hD Hd
  · exact line_1 htp hl6 H Kt h13 F h22 hC hD Hd
  · exact line_2 htp hl6 H Kt h13 F h22 hC hD Hd
  · exact line_3 htp hl6 H Kt h13 F h22 hC hD Hd
theorem drS_fr {hc' hm' : am_F} (hs : s < 4) (h : drS l a m s hc hm) (e1 : ∀ x, x ≠ a → hc' x = hc x) (e2 : ∀ x, x ≠ m → hm' x = hm x) (e3 : hc' a 13 = hc a 13) (e4 : hm' m 21 = hm m 21) : drS l a m s hc' hm' := by
  have : s = 0 ∨ s = 1 ∨ s = 2 ∨ s = 3 := by omega
  rcases this with rfl | rfl | rfl | rfl
  · exact dr_fr h e1 e2 e3 e4
  · obtain ⟨d1, d2⟩ := h
    exact ⟨by rw [e2 _ (by omega)]; exact rw_fr d1 (e1 _ (by omega)) (e1 _ (by omega)), by rw [e2 _ (by omega)]; exact d2⟩
  · obtain ⟨d1, d2⟩ := h
    exact ⟨by rw [e2 _ (by omega)]; exact rw_fr d1 (e1 _ (by omega)) (e1 _ (by omega)), by rw [e2 _ (by omega)]; exact d2⟩
  · obtain ⟨d1, d2⟩ := h
    exact ⟨by rw [e2 _ (by omega)]; exact rw_fr d1 (e1 _ (by omega)) (e1 _ (by omega)), by rw [e2 _ (by omega)]; exact d2⟩
theorem ctS_fr {hm' : am_F} (hs : s < 4) (h : ctS m s hm) (e2 : hm' (m + 10) = hm (m + 10)) : ctS m s hm' := by
  have : s = 0 ∨ s = 1 ∨ s = 2 ∨ s = 3 := by omega
  rcases this with rfl | rfl | rfl | rfl
  · show ct0 m hm'
    unfold ct0
    rw [e2]
    exact h
  · show zN (hm' (m + 10) 0) 11
    rw [e2]
    exact h
  · show zN (hm' (m + 10) 0) 9
    rw [e2]
    exact h
  · show zN (hm' (m + 10) 0) 7
    rw [e2]
    exact h
theorem chk_bind {α : Type} {M : Option (Int32 × am_F × am_J)} {G : Int32 × am_F → am_J → Option α} : (M.bind fun q6 => (if q6.1 = 0 then some (q6.1, q6.2.1) else if (q6.2.1 m 13) = (4 : Int32) then some (q6.1, q6.2.1) else (Md_fails m q6.2.1).bind fun q10 => some (q10.1, q10.2) : Option (Int32 × am_F)).bind fun q11 => G q11 q6.2.2) = (chk m M).bind fun q => G q.1 q.2 := by
  unfold chk
  cases M with
  | none => rfl
  | some q6 =>
    simp only [Option.bind_some]
    generalize (if q6.1 = 0 then some (q6.1, q6.2.1) else if (q6.2.1 m 13) = (4 : Int32) then some (q6.1, q6.2.1) else (Md_fails m q6.2.1).bind fun q10 => some (q10.1, q10.2) : Option (Int32 × am_F)) = E
    cases E <;> rfl
end SORT
