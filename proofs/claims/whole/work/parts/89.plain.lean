/-! lines of a park: class and reference -/
def dr0 (l : List (Nat × Nat)) (a m : Nat) (hc hm : am_F) : Prop := ∃ B, B ≤ 6 ∧ hc a 13 = fbI B ∧ hm m 21 = fbI B ∧ pkJ l hc (a + 1) (hm (m + 10)) ∧ pkW (hm (m + 10)) B
def ct0 (m : Nat) (hm : am_F) : Prop := zN (hm (m + 10) 3) 7 ∧ zN (hm (m + 10) 4) 9 ∧ zN (hm (m + 10) 5) 5 ∧ zN (hm (m + 10) 6) 15
def rdK (l : List (Nat × Nat)) (r : am_R) (a : Nat) (k : Int32) (h : am_F) : Option am_F := (Rd_isFull a k h).bind fun q4 => (if q4 = 0 then some h else (Rd_noteFault a (3 : Int32) (h a 11) h).bind fun q7 => some q7 : Option am_F).bind fun q8 => Rd_readLine_l41 l r a k (Rd_shapeOf k) g_fu (0 : Int32) q8
section PLAIN
variable {l : List (Nat × Nat)} {r : am_R} {hc hm : am_F} {a m tp L i d f e : Nat} {T vs : Nat → Nat} {j : am_J} {x2 : Int32}
theorem pkJ_fr {hc' : am_F} {g : Nat → Int32} (J : pkJ l hc (a + 1) g) (e : ∀ x, a + 1 ≤ x → x < a + 14 → hc' x = hc x) : pkJ l hc' (a + 1) g := by
  obtain ⟨j0, j1, j2, j3, j4, j5, j6⟩ := J
  refine ⟨?_, ?_, ?_, ?_, rw_fr j4 (e _ (by omega) (by omega)) (e _ (by omega) (by omega)), rw_fr j5 (e _ (by omega) (by omega)) (e _ (by omega) (by omega)), rw_fr j6 (e _ (by omega) (by omega)) (e _ (by omega) (by omega))⟩
  · rw [e _ (by omega) (by omega)]; exact j0
  · rw [e _ (by omega) (by omega)]; exact j1
  · rw [e _ (by omega) (by omega)]; exact j2
  · rw [e _ (by omega) (by omega), e _ (by omega) (by omega), e _ (by omega) (by omega)]; exact j3
theorem pk_post {hc' hc'' : am_F} {g' : Nat → Int32} (J : pkJ l hc'' (a + 1) g') (fr : ∀ x, x < a + 1 ∨ a + 14 ≤ x → hc'' x = hc' x) (Hd : hdR l hc' a) : hdR l hc'' a := by
  obtain ⟨_, _, _, h4, h5, h6⟩ := Hd
  exact ⟨rwI_H J.2.2.2.2.1, rwI_H J.2.2.2.2.2.1, rwI_H J.2.2.2.2.2.2, rwH_fr h4 (fr _ (by omega)), rwH_fr h5 (fr _ (by omega)), rwH_fr h6 (fr _ (by omega))⟩
theorem pk_pre {hc' hm' : am_F} {ts : List tkI} (h22 : hm m 22 = 1) (hb : ∀ t, t ∈ ts → tC t = 98 → tBn t = true) (hD : hc a 4 = 0 → dr0 l a m hc hm) (fc : ∀ x, x ≠ a → x ≠ a + 20 → hc' x = hc x) (fm : ∀ x, x ≠ m → x ≠ m + 11 → hm' x = hm x) (h4 : hc' a 4 = 0 → hc a 4 = 0 ∧ rgA ts i vs) (h22a : rgA ts i vs → hm' m 22 = hm m 22) (hB : ∀ B, B ≤ 6 → (∀ t, t ∈ ts → tC t = 98 → tBn t = true) → hc a 13 = fbI B → hm m 21 = fbI B → hc' a 4 = 0 → ∃ B', B ≤ B' ∧ B' ≤ 6 ∧ hc' a 13 = fbI B' ∧ hm' m 21 = fbI B' ∧ bnA B' ts i vs) (c4 : hc' a 4 = 0) : ∃ B, B ≤ 6 ∧ hc' a 13 = fbI B ∧ hm' m 21 = fbI B ∧ pkJ l hc' (a + 1) (hm' (m + 10)) ∧ pkW (hm' (m + 10)) B ∧ bnA B ts i vs ∧ rgA ts i vs ∧ hm' m 22 ≠ 0 := by
  obtain ⟨c5, rg⟩ := h4 c4
  obtain ⟨B, b1, b2, b3, b4, b5⟩ := hD c5
  obtain ⟨B', y1, y2, y3, y4, y5⟩ := hB B b1 hb b2 b3 c4
  have eg : hm' (m + 10) = hm (m + 10) := fm _ (by omega) (by omega)
  refine ⟨B', y2, y3, y4, ?_, ?_, y5, rg, ?_⟩
  · rw [eg]
    exact pkJ_fr b4 (fun x h1 h2 => fc x (by omega) (by omega))
  · rw [eg]
    exact pkW_le b5 y1
  · rw [h22a rg, h22]
    decide
theorem ct_fr {hm' : am_F} (h : ct0 m hm) (fm : ∀ x, x ≠ m → x ≠ m + 11 → hm' x = hm x) : ct0 m hm' := by
  unfold ct0
  rw [fm _ (by omega) (by omega)]
  exact h
theorem rdK_free {k : Nat} {sh : Nat} (h1 : Rd_isFull a (nI k) hc = some 0) (h2 : Rd_shapeOf (nI k) = sh) (hs : sh < 30) (h6 : (am_str sh).length ≤ 6) : rdK l r a (nI k) hc = (Rd_next l r a hc).bind (tkC l r a (nI k) (am_str sh) 0) := by
  unfold rdK
  rw [h1, Option.bind_some, if_pos rfl, Option.bind_some, h2]
  have := l41_eq (l := l) (r := r) (a := a) (x2 := nI k) hs h6 (am_str sh).length 0 g_fu hc (by omega) (by unfold g_fu; omega)
  rw [List.drop_zero] at this
  exact this
theorem pk_done {hc' hm' hm'' : am_F} {B : Nat} (frm : ∀ x, x ≠ m + 10 → x ≠ m + 11 → hm'' x = hm' x) (ht : ∃ hc'', Rd_tell l r a x2 hc' = some hc'' ∧ pkJ l hc'' (a + 1) (hm'' (m + 10)) ∧ pkW (hm'' (m + 10)) B ∧ ∀ x, x < a + 1 ∨ a + 14 ≤ x → hc'' x = hc' x) (b1 : B ≤ 6) (b2 : hc' a 13 = fbI B) (b3 : hm' m 21 = fbI B) : ∃ hc'', Rd_tell l r a x2 hc' = some hc'' ∧ (∀ x, x < a + 1 ∨ a + 20 ≤ x → hc'' x = hc' x) ∧ dr0 l a m hc'' hm'' ∧ (hdR l hc' a → hdR l hc'' a) := by
  obtain ⟨hc'', t1, t2, t3, t4⟩ := ht
  refine ⟨hc'', t1, fun x hx => t4 x (by omega), ⟨B, b1, ?_, ?_, t2, t3⟩, fun hd => pk_post t2 t4 hd⟩
  · rw [t4 a (by omega)]; exact b2
  · rw [frm m (by omega) (by omega)]; exact b3
theorem dr_fr {hc' hm' : am_F} (h : dr0 l a m hc hm) (e1 : ∀ x, x ≠ a → hc' x = hc x) (e2 : ∀ x, x ≠ m → hm' x = hm x) (e3 : hc' a 13 = hc a 13) (e4 : hm' m 21 = hm m 21) : dr0 l a m hc' hm' := by
  obtain ⟨B, b1, b2, b3, b4, b5⟩ := h
  refine ⟨B, b1, by rw [e3]; exact b2, by rw [e4]; exact b3, ?_, ?_⟩
  · rw [e2 _ (by omega)]
    exact pkJ_fr b4 (fun x h1 h2 => e1 x (by omega))
  · rw [e2 _ (by omega)]
    exact b5
theorem ok_h : okI (kI 104 0 false 47 false) := by unfold okI; decide
theorem ok_u : okI (kI 117 0 true 47 false) := by unfold okI; decide
theorem ok_d : okI (kI 100 0 false 9 false) := by unfold okI; decide
theorem ok_f : okI (kI 102 1 false 60 false) := by unfold okI; decide
theorem ok_s : okI (kI 115 0 false 60 false) := by unfold okI; decide
theorem ok_p : okI (kI 112 0 false 100 false) := by unfold okI; decide
theorem ok_n : okI (kI 110 1 false 9 false) := by unfold okI; decide
theorem ok_b : okI (kI 98 0 false 5 true) := by unfold okI; decide
theorem ok_c : okI (kI 98 0 false 5 false) := by unfold okI; decide
theorem ok_t : okI (kI 116 0 false 20 false) := by unfold okI; decide
theorem ok_o : okI (kI 111 1 true 20 false) := by unfold okI; decide
theorem ok_l : okI (kI 108 0 false 99 false) := by unfold okI; decide
end PLAIN
