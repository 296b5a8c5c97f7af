/-! the lines of prints, alarms, halves -/
section ROWL
variable {l : List (Nat × Nat)} {r : am_R} {hc hm : am_F} {a m tp L f e c : Nat} {T : Nat → Nat} {j : am_J} {vals : Nat → Int32}
theorem hd_14 {hc' hc'' : am_F} (Hd : hdR l hc' a) (hr : rwH l hc'' (a + 14) 3 10) (fr : ∀ x, x ≠ a + 14 → x ≠ a + 14 + 1 → hc'' x = hc' x) : hdR l hc'' a := by
  obtain ⟨h1, h2, h3, h4, h5, h6⟩ := Hd
  exact ⟨rwH_fr h1 (fr _ (by omega) (by omega)), rwH_fr h2 (fr _ (by omega) (by omega)), rwH_fr h3 (fr _ (by omega) (by omega)), hr, rwH_fr h5 (fr _ (by omega) (by omega)), rwH_fr h6 (fr _ (by omega) (by omega))⟩
theorem hd_16 {hc' hc'' : am_F} (Hd : hdR l hc' a) (hr : rwH l hc'' (a + 16) 4 8) (fr : ∀ x, x ≠ a + 16 → x ≠ a + 16 + 1 → hc'' x = hc' x) : hdR l hc'' a := by
  obtain ⟨h1, h2, h3, h4, h5, h6⟩ := Hd
  exact ⟨rwH_fr h1 (fr _ (by omega) (by omega)), rwH_fr h2 (fr _ (by omega) (by omega)), rwH_fr h3 (fr _ (by omega) (by omega)), rwH_fr h4 (fr _ (by omega) (by omega)), hr, rwH_fr h6 (fr _ (by omega) (by omega))⟩
theorem hd_18 {hc' hc'' : am_F} (Hd : hdR l hc' a) (hr : rwH l hc'' (a + 18) 3 6) (fr : ∀ x, x ≠ a + 18 → x ≠ a + 18 + 1 → hc'' x = hc' x) : hdR l hc'' a := by
  obtain ⟨h1, h2, h3, h4, h5, h6⟩ := Hd
  exact ⟨rwH_fr h1 (fr _ (by omega) (by omega)), rwH_fr h2 (fr _ (by omega) (by omega)), rwH_fr h3 (fr _ (by omega) (by omega)), rwH_fr h4 (fr _ (by omega) (by omega)), rwH_fr h5 (fr _ (by omega) (by omega)), hr⟩
theorem prV_ext (hv : zN (vals 0) 3 ∧ zN (vals 1) 6 ∧ zN (vals 2) 48) (f f' : Nat → Int32) (hV : prV f c) (h1 : ∀ i, i < 3 * c → f' i = f i) (h2 : ∀ k, k < 3 → f' (3 * c + k) = vals k) : prV f' (c + 1) := by
  intro k hk
  by_cases q : k = c
  · rw [q, h2 1 (by omega), h2 2 (by omega), show 3 * c = 3 * c + 0 from rfl, h2 0 (by omega)]
    exact hv
  · rw [h1 _ (by omega), h1 _ (by omega), h1 _ (by omega)]
    exact hV k (by omega)
theorem plV_ext (hv : zN (vals 0) 6 ∧ zN (vals 1) 48 ∧ zN (vals 2) 48) (f f' : Nat → Int32) (hV : plV f c) (h1 : ∀ i, i < 3 * c → f' i = f i) (h2 : ∀ k, k < 3 → f' (3 * c + k) = vals k) : plV f' (c + 1) := by
  intro k hk
  by_cases q : k = c
  · rw [q, h2 1 (by omega), h2 2 (by omega), show 3 * c = 3 * c + 0 from rfl, h2 0 (by omega)]
    exact hv
  · rw [h1 _ (by omega), h1 _ (by omega), h1 _ (by omega)]
    exact hV k (by omega)
theorem alV_ext {t o u v : Nat} (h0 : vals 0 = nI t) (h1' : vals 1 = nI o) (h2' : vals 2 = nI u) (h3 : vals 3 = nI v) (hv : t ≤ o ∧ 1 ≤ o ∧ o ≤ 20 ∧ u ≤ 99 ∧ v ≤ 99) (f f' : Nat → Int32) (hV : alV f c) (h1 : ∀ i, i < 4 * c → f' i = f i) (h2 : ∀ k, k < 4 → f' (4 * c + k) = vals k) : alV f' (c + 1) := by
  intro k hk
  by_cases q : k = c
  · rw [q, h2 1 (by omega), h2 2 (by omega), h2 3 (by omega), show 4 * c = 4 * c + 0 from rfl, h2 0 (by omega)]
    exact ⟨t, o, u, v, h0, h1', h2', h3, hv⟩
  · rw [h1 _ (by omega), h1 _ (by omega), h1 _ (by omega), h1 _ (by omega)]
    exact hV k (by omega)
theorem row_10 (htp : tp < a) (hl6 : g_ln l (a + 20) = 6) (H : tpR l r hc hm a m tp L T) (Kt : tkR hc hm j a m L T f e) (h13 : hm m 13 ≠ 0) (F : ftR hc hm a m f) (hC : ctW m 10 hm) (hD : hc a 4 = 0 → drW l a m 14 3 10 prV hc hm) (Hd : hdR l hc a) : LO l r a m tp L T (drW l a m 14 3 10 prV) (ctW m 10) hc hm f (rdK l r a (nI 10) hc) (Md_sightLine m (1685418868 : Int64) (nI f) hm j) := by
  have hIs : Rd_isFull a (nI 10) hc = some (Rw_isFull (a + 14) hc) := by
    unfold Rd_isFull
    rw [if_neg (show ¬ nI 10 = 4 by decide), if_neg (show ¬ nI 10 = 5 by decide), if_neg (show ¬ nI 10 = 6 by decide), if_neg (show ¬ nI 10 = 7 by decide), if_neg (show ¬ nI 10 = 8 by decide), if_neg (show ¬ nI 10 = 9 by decide), if_pos (show nI 10 = 10 from rfl)]
    unfold g_bz Rw_isFull
    split <;> rfl
  refine rows_line (c := nV (hm (m + 10) 0)) (d := 1) (ts := [kI 98 0 false 5 false, kI 104 0 false 47 false]) (K := fun h j => (Md_keep m (0 : Int32) (1 : Int32) (3 : Int32) (3 : Int32) (10 : Int32) (am_up h (m + 11) 0 (0 : Int32))).bind fun q12 => some ((1 : Int32), q12, j)) htp (by decide) hIs (show Rd_shapeOf (nI 10) = 20 by decide) (by decide) rfl (by decide) ⟨ok_c, by decide, ⟨ok_h, by decide, trivial⟩⟩ H Kt h13 F hC hD Hd rfl ?_ ?_ (by decide)
  · intro hm1 hm2 j' a1 a2
    have a1' : Md_full m 0 10 (nI f) hm = some hm1 := a1
    unfold Md_sightLine
    simp only [cmpE, show ((1685418868 : Int64) = 1684366704) = False from eq_false (by decide), show ((1685418868 : Int64) = 439720963700) = False from eq_false (by decide), if_true, if_false]
    rw [a1', Option.bind_some, a2, Option.bind_some]
    rfl
  · intro vs' hc' hm' j' N' eg hD'
    have ec := zN_V hC (by decide)
    have ek : hm' (m + 10) 0 = nI (nV (hm (m + 10) 0)) := by rw [eg]; exact ec.1
    have m0 : hm' (m + 11) 1 = nI (vs' 0) := (N' 0 (show 0 < 2 by decide)).2.1 (by decide)
    have m1 : hm' (m + 11) 2 = nI (vs' 1) := (N' 1 (show 1 < 2 by decide)).2.1 (by decide)
    have c0 : hc' (a + 20) 0 = nI (vs' 0) := (N' 0 (show 0 < 2 by decide)).1
    have c1 : hc' (a + 20) 1 = nI (vs' 1) := (N' 1 (show 1 < 2 by decide)).1
    refine row_K (vals := fun i => if i = 0 then nI 0 else nI (vs' (i - 1))) (w := 3) (lim := 10) (off := 14) (Hh := am_up hm' (m + 11) 0 (nI 0)) (fun x hx => z_upr hx) ?_ (by decide) (by decide) (by decide) (by decide) ek (by omega) (by decide) (fun hc'' h1 h2 h3 => hd_14 h1 h2 h3) ?_
    · intro k hk
      have : k = 0 ∨ k = 1 ∨ k = 2 := by omega
      rcases this with rfl | rfl | rfl
      · rw [z_ups, upz_s]; rfl
      · rw [z_ups, upz_n (by decide), m0]; rfl
      · rw [z_ups, upz_n (by decide), m1]; rfl
    · intro c4
      obtain ⟨cl, dr, ⟨_, g1⟩, ⟨_, g2⟩, _⟩ := hD' c4
      have g1' : vs' 0 ≤ 5 := g1
      have g2' : vs' 1 ≤ 47 := g2
      refine ⟨cl, dr, fun f f' hV h1 h2 => prV_ext (vals := fun i => if i = 0 then nI 0 else nI (vs' (i - 1))) ⟨zN_nI (show 0 < 3 by decide), zN_nI (show vs' 0 < 6 by omega), zN_nI (show vs' 1 < 48 by omega)⟩ f f' hV h1 h2, ?_⟩
      intro f R
      obtain ⟨hc'', t1, t2, t3⟩ := tell_print (r := r) (v := nI 0) R cl
      refine ⟨hc'', ?_, ?_, t3⟩
      · unfold Rd_tell
        rw [if_neg (show ¬ nI 10 = 0 by decide), if_neg (show ¬ nI 10 = 1 by decide), if_neg (show ¬ nI 10 = 2 by decide), if_neg (show ¬ nI 10 = 3 by decide), if_neg (show ¬ nI 10 = 4 by decide), if_neg (show ¬ nI 10 = 5 by decide), if_neg (show ¬ nI 10 = 6 by decide), if_neg (show ¬ nI 10 = 7 by decide), if_neg (show ¬ nI 10 = 8 by decide), if_neg (show ¬ nI 10 = 9 by decide), if_pos (show nI 10 = 10 from rfl), show nI 10 - 10 = nI 0 by decide, t1]
        rfl
      · intro f' h1 h2
        exact t2 f' (h1 0 (by decide)).symm (by rw [c0]; exact (h1 1 (by decide)).symm) (by rw [c1]; exact (h1 2 (by decide)).symm) h2
theorem row_11 (htp : tp < a) (hl6 : g_ln l (a + 20) = 6) (H : tpR l r hc hm a m tp L T) (Kt : tkR hc hm j a m L T f e) (h13 : hm m 13 ≠ 0) (F : ftR hc hm a m f) (hC : ctW m 10 hm) (hD : hc a 4 = 0 → drW l a m 14 3 10 prV hc hm) (Hd : hdR l hc a) : LO l r a m tp L T (drW l a m 14 3 10 prV) (ctW m 10) hc hm f (rdK l r a (nI 11) hc) (Md_sightLine m (439720963700 : Int64) (nI f) hm j) := by
  have hIs : Rd_isFull a (nI 11) hc = some (Rw_isFull (a + 14) hc) := by
    unfold Rd_isFull
    rw [if_neg (show ¬ nI 11 = 4 by decide), if_neg (show ¬ nI 11 = 5 by decide), if_neg (show ¬ nI 11 = 6 by decide), if_neg (show ¬ nI 11 = 7 by decide), if_neg (show ¬ nI 11 = 8 by decide), if_neg (show ¬ nI 11 = 9 by decide), if_neg (show ¬ nI 11 = 10 by decide), if_pos (show nI 11 = 11 from rfl)]
    unfold g_bz Rw_isFull
    split <;> rfl
  refine rows_line (c := nV (hm (m + 10) 0)) (d := 1) (ts := [kI 98 0 false 5 false, kI 104 0 false 47 false]) (K := fun h j => (Md_keep m (0 : Int32) (1 : Int32) (3 : Int32) (3 : Int32) (10 : Int32) (am_up h (m + 11) 0 (1 : Int32))).bind fun q12 => some ((1 : Int32), q12, j)) htp (by decide) hIs (show Rd_shapeOf (nI 11) = 20 by decide) (by decide) rfl (by decide) ⟨ok_c, by decide, ⟨ok_h, by decide, trivial⟩⟩ H Kt h13 F hC hD Hd rfl ?_ ?_ (by decide)
  · intro hm1 hm2 j' a1 a2
    have a1' : Md_full m 0 10 (nI f) hm = some hm1 := a1
    unfold Md_sightLine
    simp only [cmpE, show ((439720963700 : Int64) = 1684366704) = False from eq_false (by decide), if_true, if_false]
    rw [a1', Option.bind_some, a2, Option.bind_some]
    rfl
  · intro vs' hc' hm' j' N' eg hD'
    have ec := zN_V hC (by decide)
    have ek : hm' (m + 10) 0 = nI (nV (hm (m + 10) 0)) := by rw [eg]; exact ec.1
    have m0 : hm' (m + 11) 1 = nI (vs' 0) := (N' 0 (show 0 < 2 by decide)).2.1 (by decide)
    have m1 : hm' (m + 11) 2 = nI (vs' 1) := (N' 1 (show 1 < 2 by decide)).2.1 (by decide)
    have c0 : hc' (a + 20) 0 = nI (vs' 0) := (N' 0 (show 0 < 2 by decide)).1
    have c1 : hc' (a + 20) 1 = nI (vs' 1) := (N' 1 (show 1 < 2 by decide)).1
    refine row_K (vals := fun i => if i = 0 then nI 1 else nI (vs' (i - 1))) (w := 3) (lim := 10) (off := 14) (Hh := am_up hm' (m + 11) 0 (nI 1)) (fun x hx => z_upr hx) ?_ (by decide) (by decide) (by decide) (by decide) ek (by omega) (by decide) (fun hc'' h1 h2 h3 => hd_14 h1 h2 h3) ?_
    · intro k hk
      have : k = 0 ∨ k = 1 ∨ k = 2 := by omega
      rcases this with rfl | rfl | rfl
      · rw [z_ups, upz_s]; rfl
      · rw [z_ups, upz_n (by decide), m0]; rfl
      · rw [z_ups, upz_n (by decide), m1]; rfl
    · intro c4
      obtain ⟨cl, dr, ⟨_, g1⟩, ⟨_, g2⟩, _⟩ := hD' c4
      have g1' : vs' 0 ≤ 5 := g1
      have g2' : vs' 1 ≤ 47 := g2
      refine ⟨cl, dr, fun f f' hV h1 h2 => prV_ext (vals := fun i => if i = 0 then nI 1 else nI (vs' (i - 1))) ⟨zN_nI (show 1 < 3 by decide), zN_nI (show vs' 0 < 6 by omega), zN_nI (show vs' 1 < 48 by omega)⟩ f f' hV h1 h2, ?_⟩
      intro f R
      obtain ⟨hc'', t1, t2, t3⟩ := tell_print (r := r) (v := nI 1) R cl
      refine ⟨hc'', ?_, ?_, t3⟩
      · unfold Rd_tell
        rw [if_neg (show ¬ nI 11 = 0 by decide), if_neg (show ¬ nI 11 = 1 by decide), if_neg (show ¬ nI 11 = 2 by decide), if_neg (show ¬ nI 11 = 3 by decide), if_neg (show ¬ nI 11 = 4 by decide), if_neg (show ¬ nI 11 = 5 by decide), if_neg (show ¬ nI 11 = 6 by decide), if_neg (show ¬ nI 11 = 7 by decide), if_neg (show ¬ nI 11 = 8 by decide), if_neg (show ¬ nI 11 = 9 by decide), if_neg (show ¬ nI 11 = 10 by decide), if_pos (show nI 11 = 11 from rfl), show nI 11 - 10 = nI 1 by decide, t1]
        rfl
      · intro f' h1 h2
        exact t2 f' (h1 0 (by decide)).symm (by rw [c0]; exact (h1 1 (by decide)).symm) (by rw [c1]; exact (h1 2 (by decide)).symm) h2
theorem row_12 (htp : tp < a) (hl6 : g_ln l (a + 20) = 6) (H : tpR l r hc hm a m tp L T) (Kt : tkR hc hm j a m L T f e) (h13 : hm m 13 ≠ 0) (F : ftR hc hm a m f) (hC : ctW m 10 hm) (hD : hc a 4 = 0 → drW l a m 14 3 10 prV hc hm) (Hd : hdR l hc a) : LO l r a m tp L T (drW l a m 14 3 10 prV) (ctW m 10) hc hm f (rdK l r a (nI 12) hc) (Md_sightLine m (1684366704 : Int64) (nI f) hm j) := by
  have hIs : Rd_isFull a (nI 12) hc = some (Rw_isFull (a + 14) hc) := by
    unfold Rd_isFull
    rw [if_neg (show ¬ nI 12 = 4 by decide), if_neg (show ¬ nI 12 = 5 by decide), if_neg (show ¬ nI 12 = 6 by decide), if_neg (show ¬ nI 12 = 7 by decide), if_neg (show ¬ nI 12 = 8 by decide), if_neg (show ¬ nI 12 = 9 by decide), if_neg (show ¬ nI 12 = 10 by decide), if_neg (show ¬ nI 12 = 11 by decide), if_pos (show nI 12 = 12 from rfl)]
    unfold g_bz Rw_isFull
    split <;> rfl
  refine rows_line (c := nV (hm (m + 10) 0)) (d := 1) (ts := [kI 98 0 false 5 false, kI 104 0 false 47 false]) (K := fun h j => (Md_keep m (0 : Int32) (1 : Int32) (3 : Int32) (3 : Int32) (10 : Int32) (am_up h (m + 11) 0 (2 : Int32))).bind fun q12 => some ((1 : Int32), q12, j)) htp (by decide) hIs (show Rd_shapeOf (nI 12) = 20 by decide) (by decide) rfl (by decide) ⟨ok_c, by decide, ⟨ok_h, by decide, trivial⟩⟩ H Kt h13 F hC hD Hd rfl ?_ ?_ (by decide)
  · intro hm1 hm2 j' a1 a2
    have a1' : Md_full m 0 10 (nI f) hm = some hm1 := a1
    unfold Md_sightLine
    simp only [cmpE, if_true, if_false]
    rw [a1', Option.bind_some, a2, Option.bind_some]
    rfl
  · intro vs' hc' hm' j' N' eg hD'
    have ec := zN_V hC (by decide)
    have ek : hm' (m + 10) 0 = nI (nV (hm (m + 10) 0)) := by rw [eg]; exact ec.1
    have m0 : hm' (m + 11) 1 = nI (vs' 0) := (N' 0 (show 0 < 2 by decide)).2.1 (by decide)
    have m1 : hm' (m + 11) 2 = nI (vs' 1) := (N' 1 (show 1 < 2 by decide)).2.1 (by decide)
    have c0 : hc' (a + 20) 0 = nI (vs' 0) := (N' 0 (show 0 < 2 by decide)).1
    have c1 : hc' (a + 20) 1 = nI (vs' 1) := (N' 1 (show 1 < 2 by decide)).1
    refine row_K (vals := fun i => if i = 0 then nI 2 else nI (vs' (i - 1))) (w := 3) (lim := 10) (off := 14) (Hh := am_up hm' (m + 11) 0 (nI 2)) (fun x hx => z_upr hx) ?_ (by decide) (by decide) (by decide) (by decide) ek (by omega) (by decide) (fun hc'' h1 h2 h3 => hd_14 h1 h2 h3) ?_
    · intro k hk
      have : k = 0 ∨ k = 1 ∨ k = 2 := by omega
      rcases this with rfl | rfl | rfl
      · rw [z_ups, upz_s]; rfl
      · rw [z_ups, upz_n (by decide), m0]; rfl
      · rw [z_ups, upz_n (by decide), m1]; rfl
    · intro c4
      obtain ⟨cl, dr, ⟨_, g1⟩, ⟨_, g2⟩, _⟩ := hD' c4
      have g1' : vs' 0 ≤ 5 := g1
      have g2' : vs' 1 ≤ 47 := g2
      refine ⟨cl, dr, fun f f' hV h1 h2 => prV_ext (vals := fun i => if i = 0 then nI 2 else nI (vs' (i - 1))) ⟨zN_nI (show 2 < 3 by decide), zN_nI (show vs' 0 < 6 by omega), zN_nI (show vs' 1 < 48 by omega)⟩ f f' hV h1 h2, ?_⟩
      intro f R
      obtain ⟨hc'', t1, t2, t3⟩ := tell_print (r := r) (v := nI 2) R cl
      refine ⟨hc'', ?_, ?_, t3⟩
      · unfold Rd_tell
        rw [if_neg (show ¬ nI 12 = 0 by decide), if_neg (show ¬ nI 12 = 1 by decide), if_neg (show ¬ nI 12 = 2 by decide), if_neg (show ¬ nI 12 = 3 by decide), if_neg (show ¬ nI 12 = 4 by decide), if_neg (show ¬ nI 12 = 5 by decide), if_neg (show ¬ nI 12 = 6 by decide), if_neg (show ¬ nI 12 = 7 by decide), if_neg (show ¬ nI 12 = 8 by decide), if_neg (show ¬ nI 12 = 9 by decide), if_neg (show ¬ nI 12 = 10 by decide), if_neg (show ¬ nI 12 = 11 by decide), if_pos (show nI 12 = 12 from rfl), show nI 12 - 10 = nI 2 by decide, t1]
        rfl
      · intro f' h1 h2
        exact t2 f' (h1 0 (by decide)).symm (by rw [c0]; exact (h1 1 (by decide)).symm) (by rw [c1]; exact (h1 2 (by decide)).symm) h2
theorem row_13 (htp : tp < a) (hl6 : g_ln l (a + 20) = 6) (H : tpR l r hc hm a m tp L T) (Kt : tkR hc hm j a m L T f e) (h13 : hm m 13 ≠ 0) (F : ftR hc hm a m f) (hC : ctW m 8 hm) (hD : hc a 4 = 0 → drW l a m 16 4 8 alV hc hm) (Hd : hdR l hc a) : LO l r a m tp L T (drW l a m 16 4 8 alV) (ctW m 8) hc hm f (rdK l r a (nI 13) hc) (Md_alarmLine m (418430153325 : Int64) (nI f) hm j) := by
  have hIs : Rd_isFull a (nI 13) hc = some (Rw_isFull (a + 16) hc) := by
    unfold Rd_isFull
    rw [if_neg (show ¬ nI 13 = 4 by decide), if_neg (show ¬ nI 13 = 5 by decide), if_neg (show ¬ nI 13 = 6 by decide), if_neg (show ¬ nI 13 = 7 by decide), if_neg (show ¬ nI 13 = 8 by decide), if_neg (show ¬ nI 13 = 9 by decide), if_neg (show ¬ nI 13 = 10 by decide), if_neg (show ¬ nI 13 = 11 by decide), if_neg (show ¬ nI 13 = 12 by decide), if_pos (show nI 13 = 13 from rfl)]
    unfold g_bz Rw_isFull
    split <;> rfl
  refine rows_line (c := nV (hm (m + 10) 0)) (d := 0) (ts := [kI 116 0 false 20 false, kI 111 1 true 20 false, kI 108 0 false 99 false, kI 108 0 false 99 false]) (K := fun h j => (Md_keep m (0 : Int32) (1 : Int32) (4 : Int32) (4 : Int32) (8 : Int32) h).bind fun q12 => some ((1 : Int32), q12, j)) htp (by decide) hIs (show Rd_shapeOf (nI 13) = 24 by decide) (by decide) rfl (by decide) ⟨ok_t, by decide, ⟨ok_o, by decide, ⟨ok_l, by decide, ⟨ok_l, by decide, trivial⟩⟩⟩⟩ H Kt h13 F hC hD Hd rfl ?_ ?_ (by decide)
  · intro hm1 hm2 j' a1 a2
    have a1' : Md_full m 0 8 (nI f) hm = some hm1 := a1
    unfold Md_alarmLine
    simp only [cmpE, if_true]
    rw [a1', Option.bind_some, a2, Option.bind_some]
    rfl
  · intro vs' hc' hm' j' N' eg hD'
    have ec := zN_V hC (by decide)
    have ek : hm' (m + 10) 0 = nI (nV (hm (m + 10) 0)) := by rw [eg]; exact ec.1
    refine row_K (vals := fun i => nI (vs' i)) (w := 4) (lim := 8) (off := 16) (Hh := hm') (fun x hx => rfl) (fun k hk => (N' k hk).2.1 (Nat.zero_le _)) (by decide) (by decide) (by decide) (by decide) ek (by omega) (by decide) (fun hc'' h1 h2 h3 => hd_16 h1 h2 h3) ?_
    intro c4
    obtain ⟨cl, dr, ⟨_, g1⟩, ⟨g2, g3⟩, ⟨_, g4⟩, ⟨_, g5⟩, _⟩ := hD' c4
    have g2' : max 1 (vs' 0) ≤ vs' 1 := g2
    have g3' : vs' 1 ≤ 20 := g3
    have g4' : vs' 2 ≤ 99 := g4
    have g5' : vs' 3 ≤ 99 := g5
    refine ⟨cl, dr, fun f f' hV h1 h2 => alV_ext (vals := fun i => nI (vs' i)) rfl rfl rfl rfl (by omega) f f' hV h1 h2, ?_⟩
    intro f R
    refine ⟨rwN hc' (a + 16) 4 (nV (hm (m + 10) 0)) (hc' (a + 20)), ?_, ?_, fun x h1 h2 => rwN_o h1 h2⟩
    · unfold Rd_tell
      rw [if_neg (show ¬ nI 13 = 0 by decide), if_neg (show ¬ nI 13 = 1 by decide), if_neg (show ¬ nI 13 = 2 by decide), if_neg (show ¬ nI 13 = 3 by decide), if_neg (show ¬ nI 13 = 4 by decide), if_neg (show ¬ nI 13 = 5 by decide), if_neg (show ¬ nI 13 = 6 by decide), if_neg (show ¬ nI 13 = 7 by decide), if_neg (show ¬ nI 13 = 8 by decide), if_neg (show ¬ nI 13 = 9 by decide), if_neg (show ¬ nI 13 = 10 by decide), if_neg (show ¬ nI 13 = 11 by decide), if_neg (show ¬ nI 13 = 12 by decide), if_pos (show nI 13 = 13 from rfl), Rw_add_at R cl hl6 (by omega) (by omega)]
      rfl
    · intro f' h1 h2
      exact rw_add R cl (fun k hk => ((N' k hk).1).trans (h1 k hk)) h2
theorem row_14 (htp : tp < a) (hl6 : g_ln l (a + 20) = 6) (H : tpR l r hc hm a m tp L T) (Kt : tkR hc hm j a m L T f e) (h13 : hm m 13 ≠ 0) (F : ftR hc hm a m f) (hC : ctW m 6 hm) (hD : hc a 4 = 0 → drW l a m 18 3 6 plV hc hm) (Hd : hdR l hc a) : LO l r a m tp L T (drW l a m 18 3 6 plV) (ctW m 6) hc hm f (rdK l r a (nI 14) hc) (Md_planLine m (114767640814963 : Int64) (nI f) hm j) := by
  have hIs : Rd_isFull a (nI 14) hc = some (Rw_isFull (a + 18) hc) := by
    unfold Rd_isFull
    rw [if_neg (show ¬ nI 14 = 4 by decide), if_neg (show ¬ nI 14 = 5 by decide), if_neg (show ¬ nI 14 = 6 by decide), if_neg (show ¬ nI 14 = 7 by decide), if_neg (show ¬ nI 14 = 8 by decide), if_neg (show ¬ nI 14 = 9 by decide), if_neg (show ¬ nI 14 = 10 by decide), if_neg (show ¬ nI 14 = 11 by decide), if_neg (show ¬ nI 14 = 12 by decide), if_neg (show ¬ nI 14 = 13 by decide), if_pos (show nI 14 = 14 from rfl)]
    unfold g_bz Rw_isFull
    split <;> rfl
  refine rows_line (c := nV (hm (m + 10) 0)) (d := 0) (ts := [kI 98 0 false 5 false, kI 104 0 false 47 false, kI 104 0 false 47 false]) (K := fun h j => (Md_keep m (0 : Int32) (1 : Int32) (3 : Int32) (3 : Int32) (6 : Int32) h).bind fun q12 => some ((1 : Int32), q12, j)) htp (by decide) hIs (show Rd_shapeOf (nI 14) = 25 by decide) (by decide) rfl (by decide) ⟨ok_c, by decide, ⟨ok_h, by decide, ⟨ok_h, by decide, trivial⟩⟩⟩ H Kt h13 F hC hD Hd rfl ?_ ?_ (by decide)
  · intro hm1 hm2 j' a1 a2
    have a1' : Md_full m 0 6 (nI f) hm = some hm1 := a1
    unfold Md_planLine
    simp only [cmpE, if_true]
    rw [a1', Option.bind_some, a2, Option.bind_some]
    rfl
  · intro vs' hc' hm' j' N' eg hD'
    have ec := zN_V hC (by decide)
    have ek : hm' (m + 10) 0 = nI (nV (hm (m + 10) 0)) := by rw [eg]; exact ec.1
    refine row_K (vals := fun i => nI (vs' i)) (w := 3) (lim := 6) (off := 18) (Hh := hm') (fun x hx => rfl) (fun k hk => (N' k hk).2.1 (Nat.zero_le _)) (by decide) (by decide) (by decide) (by decide) ek (by omega) (by decide) (fun hc'' h1 h2 h3 => hd_18 h1 h2 h3) ?_
    intro c4
    obtain ⟨cl, dr, ⟨_, g1⟩, ⟨_, g2⟩, ⟨_, g3⟩, _⟩ := hD' c4
    have g1' : vs' 0 ≤ 5 := g1
    have g2' : vs' 1 ≤ 47 := g2
    have g3' : vs' 2 ≤ 47 := g3
    refine ⟨cl, dr, fun f f' hV h1 h2 => plV_ext (vals := fun i => nI (vs' i)) ⟨zN_nI (show vs' 0 < 6 by omega), zN_nI (show vs' 1 < 48 by omega), zN_nI (show vs' 2 < 48 by omega)⟩ f f' hV h1 h2, ?_⟩
    intro f R
    refine ⟨rwN hc' (a + 18) 3 (nV (hm (m + 10) 0)) (hc' (a + 20)), ?_, ?_, fun x h1 h2 => rwN_o h1 h2⟩
    · unfold Rd_tell
      rw [if_neg (show ¬ nI 14 = 0 by decide), if_neg (show ¬ nI 14 = 1 by decide), if_neg (show ¬ nI 14 = 2 by decide), if_neg (show ¬ nI 14 = 3 by decide), if_neg (show ¬ nI 14 = 4 by decide), if_neg (show ¬ nI 14 = 5 by decide), if_neg (show ¬ nI 14 = 6 by decide), if_neg (show ¬ nI 14 = 7 by decide), if_neg (show ¬ nI 14 = 8 by decide), if_neg (show ¬ nI 14 = 9 by decide), if_neg (show ¬ nI 14 = 10 by decide), if_neg (show ¬ nI 14 = 11 by decide), if_neg (show ¬ nI 14 = 12 by decide), if_neg (show ¬ nI 14 = 13 by decide), if_pos (show nI 14 = 14 from rfl), Rw_add_at R cl hl6 (by omega) (by omega)]
      rfl
    · intro f' h1 h2
      exact rw_add R cl (fun k hk => ((N' k hk).1).trans (h1 k hk)) h2
end ROWL
