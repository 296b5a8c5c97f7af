/-! lines of prints, alarms and halves -/
def drW (l : List (Nat × Nat)) (a m off w lim : Nat) (V : (Nat → Int32) → Nat → Prop) (hc hm : am_F) : Prop := rwI l hc (a + off) w lim (nV (hm (m + 10) 0)) (fun i => hm (m + 10) (1 + i)) ∧ V (fun i => hm (m + 10) (1 + i)) (nV (hm (m + 10) 0))
def ctW (m lim : Nat) (hm : am_F) : Prop := zN (hm (m + 10) 0) (lim + 1)
section ROWS
variable {l : List (Nat × Nat)} {r : am_R} {hc hm : am_F} {a m tp L f e d off w lim k sh c : Nat} {T : Nat → Nat} {j : am_J} {ts : List tkI} {K : am_F → am_J → Option (Int32 × am_F × am_J)} {Mx : Option (Int32 × am_F × am_J)} {V : (Nat → Int32) → Nat → Prop} {x2 : Int32} {vals : Nat → Int32}
theorem row_K {hc' hm' Hh : am_F} {j' : am_J} (hH : ∀ x, x ≠ m + 11 → Hh x = hm' x) (hv : ∀ k, k < w → Hh (m + 11) k = vals k) (hw : w ≤ 6) (h0w : 0 < w) (hl : lim ≤ 14) (hb : 1 + w * lim ≤ 195) (ek : hm' (m + 10) 0 = nI c) (hcl : c ≤ lim) (hoff : 14 ≤ off ∧ off ≤ 18)
    (hd : ∀ hc'', hdR l hc' a → rwH l hc'' (a + off) w lim → (∀ x, x ≠ a + off → x ≠ a + off + 1 → hc'' x = hc' x) → hdR l hc'' a)
    (hD : hc' a 4 = 0 → c < lim ∧ drW l a m off w lim V hc' hm' ∧ (∀ f f' : Nat → Int32, V f c → (∀ i, i < w * c → f' i = f i) → (∀ k, k < w → f' (w * c + k) = vals k) → V f' (c + 1)) ∧ (∀ f, rwI l hc' (a + off) w lim c f → ∃ hc'', Rd_tell l r a x2 hc' = some hc'' ∧ (∀ f', (∀ k, k < w → vals k = f' (w * c + k)) → (∀ i, i < w * c → f' i = f i) → rwI l hc'' (a + off) w lim (c + 1) f') ∧ (∀ x, x ≠ a + off → x ≠ a + off + 1 → hc'' x = hc' x))) :
    ∃ hm'', ((Md_keep m (nI 0) (nI 1) (nI w) (nI w) (nI lim) Hh).bind fun q12 => some ((1 : Int32), q12, j')) = some (1, hm'', j') ∧ (∀ x, x ≠ m + 10 → x ≠ m + 11 → hm'' x = hm' x) ∧ ctW m lim hm'' ∧ (hc' a 4 = 0 → ∃ hc'', Rd_tell l r a x2 hc' = some hc'' ∧ (∀ x, x < a + 1 ∨ a + 20 ≤ x → hc'' x = hc' x) ∧ drW l a m off w lim V hc'' hm'' ∧ (hdR l hc' a → hdR l hc'' a)) := by
  have ek' : Hh (m + 10) 0 = nI c := by rw [hH _ (by omega)]; exact ek
  have hwl : w * lim ≤ 84 := Nat.mul_le_mul hw hl
  by_cases cl : c = lim
  · refine ⟨Hh, ?_, fun x _ h2 => hH x h2, ?_, fun c4 => ?_⟩
    · rw [keep_full (by decide) (by rw [ek', cl])]
      rfl
    · unfold ctW
      rw [ek']
      exact zN_nI (by omega)
    · have := (hD c4).1
      omega
  · have hcw : w * c + w ≤ w * lim := by
      have := Nat.mul_le_mul_left w (show c + 1 ≤ lim by omega)
      rw [Nat.mul_add, Nat.mul_one] at this
      exact this
    refine ⟨fun b y => if b = m + 10 ∧ 1 + w * c ≤ y ∧ y < 1 + w * c + w then Hh (m + 11) (y - (1 + w * c)) else if b = m + 10 ∧ y = 0 then nI (c + 1) else Hh b y, ?_, ?_, ?_, ?_⟩
    · rw [keep_at hw (by decide) (by omega) (by omega) (by decide) ek' (by omega)]
      rfl
    · intro x h1 h2
      funext y
      exact ((if_neg (fun z => h1 z.1)).trans (if_neg (fun z => h1 z.1))).trans (congrFun (hH x h2) y)
    · show zN (if m + 10 = m + 10 ∧ 1 + w * c ≤ 0 ∧ 0 < 1 + w * c + w then Hh (m + 11) (0 - (1 + w * c)) else if m + 10 = m + 10 ∧ 0 = 0 then nI (c + 1) else Hh (m + 10) 0) (lim + 1)
      rw [if_neg (by omega), if_pos ⟨rfl, rfl⟩]
      exact zN_nI (by omega)
    · intro c4
      obtain ⟨d1, ⟨d2, d3⟩, d4, d5⟩ := hD c4
      rw [ek, nV_nI (by omega)] at d2 d3
      obtain ⟨hc'', t1, t2, t3⟩ := d5 _ d2
      have eN : ∀ k, k < w → (if m + 10 = m + 10 ∧ 1 + w * c ≤ 1 + (w * c + k) ∧ 1 + (w * c + k) < 1 + w * c + w then Hh (m + 11) (1 + (w * c + k) - (1 + w * c)) else if m + 10 = m + 10 ∧ 1 + (w * c + k) = 0 then nI (c + 1) else Hh (m + 10) (1 + (w * c + k))) = vals k := by
        intro k hk
        rw [if_pos (by omega), show 1 + (w * c + k) - (1 + w * c) = k by omega, hv k hk]
      have eO : ∀ i, i < w * c → (if m + 10 = m + 10 ∧ 1 + w * c ≤ 1 + i ∧ 1 + i < 1 + w * c + w then Hh (m + 11) (1 + i - (1 + w * c)) else if m + 10 = m + 10 ∧ 1 + i = 0 then nI (c + 1) else Hh (m + 10) (1 + i)) = hm' (m + 10) (1 + i) := by
        intro i hi
        rw [if_neg (by omega), if_neg (by omega), hH _ (by omega)]
      have e0 : (if m + 10 = m + 10 ∧ 1 + w * c ≤ 0 ∧ 0 < 1 + w * c + w then Hh (m + 11) (0 - (1 + w * c)) else if m + 10 = m + 10 ∧ 0 = 0 then nI (c + 1) else Hh (m + 10) 0) = nI (c + 1) := by
        rw [if_neg (by omega), if_pos ⟨rfl, rfl⟩]
      have R2 := t2 (fun i => if m + 10 = m + 10 ∧ 1 + w * c ≤ 1 + i ∧ 1 + i < 1 + w * c + w then Hh (m + 11) (1 + i - (1 + w * c)) else if m + 10 = m + 10 ∧ 1 + i = 0 then nI (c + 1) else Hh (m + 10) (1 + i)) (fun k hk => (eN k hk).symm) eO
      refine ⟨hc'', t1, fun x hx => t3 x (by omega) (by omega), ⟨?_, ?_⟩, fun h => hd hc'' h (rwI_H R2) t3⟩
      · show rwI l hc'' (a + off) w lim (nV (if m + 10 = m + 10 ∧ 1 + w * c ≤ 0 ∧ 0 < 1 + w * c + w then Hh (m + 11) (0 - (1 + w * c)) else if m + 10 = m + 10 ∧ 0 = 0 then nI (c + 1) else Hh (m + 10) 0)) _
        rw [e0, nV_nI (by omega)]
        exact R2
      · show V _ (nV (if m + 10 = m + 10 ∧ 1 + w * c ≤ 0 ∧ 0 < 1 + w * c + w then Hh (m + 11) (0 - (1 + w * c)) else if m + 10 = m + 10 ∧ 0 = 0 then nI (c + 1) else Hh (m + 10) 0))
        rw [e0, nV_nI (by omega)]
        exact d4 _ _ d3 eO eN
theorem rows_line (htp : tp < a) (hl14 : lim ≤ 14) (hIs : Rd_isFull a (nI k) hc = some (Rw_isFull (a + off) hc)) (hsh : Rd_shapeOf (nI k) = sh) (hs30 : sh < 30) (hst : am_str sh = ts.map tC) (h6 : ts.length + d ≤ 6) (ho : okA 0 ts 0) (H : tpR l r hc hm a m tp L T) (Kt : tkR hc hm j a m L T f e) (h13 : hm m 13 ≠ 0) (F : ftR hc hm a m f) (hC : ctW m lim hm) (hD : hc a 4 = 0 → drW l a m off w lim V hc hm) (Hd : hdR l hc a) (hcc : nV (hm (m + 10) 0) = c)
    (hMx : ∀ hm1 hm2 j', Md_full m (nI 0) (nI lim) (nI f) hm = some hm1 → Md_token m hm1 j = some (hm2, j') → Mx = mtC m d K ts 0 hm2 j')
    (hK : ∀ vs' hc' hm' j', nmR hc' hm' a m d 0 ts.length vs' → hm' (m + 10) = hm (m + 10) → (hc' a 4 = 0 → c < lim ∧ drW l a m off w lim V hc' hm' ∧ rgA ts 0 vs') → ∃ hm'', K hm' j' = some (1, hm'', j') ∧ (∀ x, x ≠ m + 10 → x ≠ m + 11 → hm'' x = hm' x) ∧ ctW m lim hm'' ∧ (hc' a 4 = 0 → ∃ hc'', Rd_tell l r a (nI k) hc' = some hc'' ∧ (∀ x, x < a + 1 ∨ a + 20 ≤ x → hc'' x = hc' x) ∧ drW l a m off w lim V hc'' hm'' ∧ (hdR l hc' a → hdR l hc'' a))) (hoff : 14 ≤ off ∧ off ≤ 18) :
    LO l r a m tp L T (drW l a m off w lim V) (ctW m lim) hc hm f (rdK l r a (nI k) hc) Mx := by
  have ec := zN_V hC (by omega)
  rw [hcc] at ec
  have hq : hc a 4 = 0 → (Rw_isFull (a + off) hc) = if c = lim then 1 else 0 := by
    intro c4
    have J := (hD c4).1
    rw [hcc] at J
    by_cases q : c = lim
    · rw [if_pos q]; rw [q] at J; exact Rw_full_yes J
    · rw [if_neg q]; exact Rw_full_no J (by omega)
  obtain ⟨q8, hc1, hm0, hm1, j1, f1, e1, n0, n1, n2, n3, ⟨s1, s2, s3, s4, s5, s6, s7, s8, s9⟩, n4⟩ := head_rows (l := l) (r := r) (q4 := Rw_isFull (a + off) hc) (kx := 0) (lim := lim) (c := c) (by decide) (by omega) ec.1 (by omega) hq H Kt h13 F
  have hRd : rdK l r a (nI k) hc = tkC l r a (nI k) (ts.map tC) 0 hc1 := by
    unfold rdK
    rw [hIs, Option.bind_some, Kt.2.2.1, n0, Option.bind_some, hsh]
    have hlen : (am_str sh).length = ts.length := by rw [hst, List.length_map]
    have := l41_eq (l := l) (r := r) (a := a) (x2 := nI k) (x3 := sh) hs30 (by omega) (am_str sh).length 0 g_fu q8 (by omega) (by unfold g_fu; omega)
    rw [List.drop_zero, n1, Option.bind_some, hst] at this
    exact this
  rw [hRd, hMx hm0 hm1 j1 n2 n3]
  refine line_fin (b0 := 0) (vs := fun _ => 0) ts htp ho (by omega) s2 s3 s4 (fun k hk => by omega) s1 (fun x hx => s5 x (by omega)) (fun x h1 _ _ => s6 x h1) (hd_fr Hd (fun x h1 h2 => s5 x (by omega))) ?_
  intro vs' hc' hm' j' N' _ fc fm h4 _ _ _
  have eg : hm' (m + 10) = hm (m + 10) := by rw [fm _ (by omega) (by omega), s6 _ (by omega)]
  refine hK vs' hc' hm' j' (fun k hk => N' k (by omega)) eg (fun c4 => ?_)
  obtain ⟨c5, rg⟩ := h4 c4
  obtain ⟨c6, cl⟩ := n4 c5
  obtain ⟨d1, d2⟩ := hD c6
  refine ⟨cl, ⟨?_, ?_⟩, rg⟩
  · rw [eg]
    exact rw_fr d1 (by rw [fc _ (by omega) (by omega), s5 _ (by omega)]) (by rw [fc _ (by omega) (by omega), s5 _ (by omega)])
  · rw [eg]
    exact d2
theorem rw_up {h : am_F} {n i : Nat} {v : Int32} {f : Nat → Int32} (H : rwI l h a w lim n f) : rwI l (am_up h (a + 1) i v) a w lim n (fun y => if y = i then v else f y) := by
  obtain ⟨h0, h1, h2, h3, h4, h5, h6, h7⟩ := H
  refine ⟨by rw [z_upr (by omega)]; exact h0, by rw [z_upr (by omega)]; exact h1, by rw [z_upr (by omega)]; exact h2, h3, h4, h5, h6, ?_⟩
  intro y hy
  rw [up_row]
  simp only
  by_cases q : y = i
  · rw [if_pos q, if_pos q]
  · rw [if_neg q, if_neg q, h7 y hy]
theorem tell_print {v : Int32} {f : Nat → Int32} (H : rwI l hc (a + 14) 3 10 c f) (hn : c < 10) : ∃ hc'', Rd_tellPrint l r a v hc = some hc'' ∧ (∀ f' : Nat → Int32, f' (3 * c) = v → f' (3 * c + 1) = hc (a + 20) 0 → f' (3 * c + 2) = hc (a + 20) 1 → (∀ i, i < 3 * c → f' i = f i) → rwI l hc'' (a + 14) 3 10 (c + 1) f') ∧ (∀ x, x ≠ a + 14 → x ≠ a + 14 + 1 → hc'' x = hc x) := by
  have h1 := rw_add (g := fun _ => 0) (f' := fun i => if i < 3 * c then f i else 0) H hn (fun k hk => (if_neg (by omega)).symm) (fun i hi => if_pos hi)
  have h2 := rw_up (i := 3 * c + 0) (v := v) h1
  have h3 := rw_up (i := 3 * c + 1) (v := hc (a + 20) 0) h2
  have h4 := rw_up (i := 3 * c + 2) (v := hc (a + 20) 1) h3
  have x1 : rwN hc (a + 14) 3 c (fun _ => 0) (a + 20) = hc (a + 20) := rwN_o (by omega) (by omega)
  have g1 := Rw_set_at (r := r) (k := c) (c := 0) (v := v) h1 (by omega) (by omega)
  have g2 := Rw_set_at (r := r) (k := c) (c := 1) (v := hc (a + 20) 0) h2 (by omega) (by omega)
  have g3 := Rw_set_at (r := r) (k := c) (c := 2) (v := hc (a + 20) 1) h3 (by omega) (by omega)
  have g1' : Rw_set l r (a + 14) (nI c) 0 v (rwN hc (a + 14) 3 c (fun _ => 0)) = _ := g1
  have g2' : Rw_set l r (a + 14) (nI c) 1 (hc (a + 20) 0) _ = _ := g2
  have g3' : Rw_set l r (a + 14) (nI c) 2 (hc (a + 20) 1) _ = _ := g3
  refine ⟨am_up (am_up (am_up (rwN hc (a + 14) 3 c (fun _ => 0)) (a + 14 + 1) (3 * c + 0) v) (a + 14 + 1) (3 * c + 1) (hc (a + 20) 0)) (a + 14 + 1) (3 * c + 2) (hc (a + 20) 1), ?_, ?_, ?_⟩
  · unfold Rd_tellPrint
    rw [Rw_open_at H hn, Option.bind_some]
    simp only
    rw [g1', Option.bind_some, z_upr (show a + 20 ≠ a + 14 + 1 by omega), x1, g2', Option.bind_some, z_upr (show a + 20 ≠ a + 14 + 1 by omega), z_upr (show a + 20 ≠ a + 14 + 1 by omega), x1, g3']
    rfl
  · intro f' e0 e1 e2 e3
    refine rwI_congr (fun i hi => ?_) h4
    by_cases q2 : i = 3 * c + 2
    · rw [if_pos q2, q2, e2]
    · rw [if_neg q2]
      by_cases q1 : i = 3 * c + 1
      · rw [if_pos q1, q1, e1]
      · rw [if_neg q1]
        by_cases q0 : i = 3 * c + 0
        · rw [if_pos q0, q0]
          exact e0
        · rw [if_neg q0, if_pos (by omega), e3 i (by omega)]
  · intro x hx1 hx2
    rw [z_upr hx2, z_upr hx2, z_upr hx2, rwN_o hx1 hx2]
end ROWS
