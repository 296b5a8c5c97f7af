/-! the head of a line: class and reference -/
section FULL
variable {l : List (Nat × Nat)} {r : am_R} {hc hm : am_F} {a m tp L i d f e : Nat} {T vs : Nat → Nat} {j : am_J} {x2 : Int32}
theorem flt_id {c : Nat} (hf : f < 1000) (h : ftR hc hm a m f) (h4 : hc a 4 ≠ 0) : Rd_noteFault a (nI c) (nI f) hc = some hc ∧ Md_later m (nI c) (nI f) hm = some hm := by
  unfold Rd_noteFault Md_later
  rcases h with ⟨h1, h2, h3⟩ | ⟨F, P, h1, h2, h3, h4, h5, h6⟩
  · exact absurd h1 h4
  · have hF : nI F ≠ 0 := by rcases h1 with rfl | rfl <;> decide
    rw [h3, h4, h6, if_neg hF, if_neg hF, if_neg (nI_nlt (by omega) (by omega)), if_neg (fun h => by have := (nI_eq (show f < 2 ^ 31 by omega) (show P < 2 ^ 31 by omega)).1 h; omega)]
    exact ⟨rfl, rfl⟩
/-- one row too many? both note it -/
theorem full_eq {q4 : Int32} {kx lim c : Nat} (hk : kx < 195) (hl : lim < 100) (e1 : hm (m + 10) kx = nI c) (hcl : c ≤ lim) (hf : f < 1000) (hq : hc a 4 = 0 → q4 = if c = lim then 1 else 0) (F : ftR hc hm a m f) : ∃ q8 hmN, (if q4 = 0 then some hc else (Rd_noteFault a (3 : Int32) (nI f) hc).bind fun q7 => some q7 : Option am_F) = some q8 ∧ Md_full m (nI kx) (nI lim) (nI f) hm = some hmN ∧ ftR q8 hmN a m (f + 1) ∧ (q8 a 4 = 0 → hc a 4 = 0 ∧ c < lim) ∧ (∀ y, y ≠ 4 → y ≠ 5 → q8 a y = hc a y) ∧ (∀ x, x ≠ a → q8 x = hc x) ∧ (∀ y, y ≠ 17 → y ≠ 18 → hmN m y = hm m y) ∧ ∀ x, x ≠ m → hmN x = hm x := by
  unfold Md_full
  rw [z_ix hk (by decide), Option.bind_some, e1]
  by_cases h4 : hc a 4 = 0
  · have hq' := hq h4
    by_cases cl : c = lim
    · rw [if_pos cl] at hq'
      obtain ⟨hc', hm', f1, f2, f3, f4, f5, f6, f7, f8⟩ := flt_eq (c := 3) (.inr rfl) hf F
      have f1' : Rd_noteFault a 3 (nI f) hc = some hc' := f1
      have f2' : Md_later m 3 (nI f) hm = some hm' := f2
      rw [hq', if_neg (by decide), f1', if_pos (by rw [cl]), f2']
      exact ⟨hc', hm', rfl, rfl, f3, fun h => absurd h f4, f5, f6, f7, f8⟩
    · rw [if_neg cl] at hq'
      rw [hq', if_pos rfl, if_neg (fun h => cl ((nI_eq (by omega) (by omega)).1 h))]
      exact ⟨hc, hm, rfl, rfl, ft_le F (by omega), fun h => ⟨h, by omega⟩, fun _ _ _ => rfl, fun _ _ => rfl, fun _ _ _ => rfl, fun _ _ => rfl⟩
  · obtain ⟨f1, f2⟩ := flt_id (c := 3) hf F h4
    have f1' : Rd_noteFault a 3 (nI f) hc = some hc := f1
    have f2' : Md_later m 3 (nI f) hm = some hm := f2
    refine ⟨hc, hm, ?_, ?_, ft_le F (by omega), fun h => absurd h h4, fun _ _ _ => rfl, fun _ _ => rfl, fun _ _ _ => rfl, fun _ _ => rfl⟩
    · rw [f1']
      split <;> rfl
    · rw [f2']
      split <;> rfl
/-- what the head of a line leaves: both at the token after the word -/
def hdS (l : List (Nat × Nat)) (r : am_R) (hc hc' hm hm' : am_F) (j' : am_J) (a m tp L : Nat) (T : Nat → Nat) (f f' e' : Nat) : Prop := f < f' ∧ tpR l r hc' hm' a m tp L T ∧ tkR hc' hm' j' a m L T f' e' ∧ ftR hc' hm' a m f' ∧ (∀ x, x ≠ a → hc' x = hc x) ∧ (∀ x, x ≠ m → hm' x = hm x) ∧ hc' a 13 = hc a 13 ∧ hm' m 21 = hm m 21 ∧ hm' m 22 = hm m 22
theorem tk_lt (K : tkR hc hm j a m L T f e) (h : hm m 13 ≠ 0) : f < e := by
  rcases K.2.2.2.2.2.2 with ⟨q1, q2, q3⟩ | ⟨q1, q2, q3, _⟩ | ⟨q1, q2, q3, _⟩ | ⟨q1, q2, q3⟩ | ⟨q1, q2, q3⟩
  · exact absurd q2 h
  · exact q3
  · exact q3
  · exact q3
  · exact q3
/-- reference: the token first, then whether it is full -/
theorem head_park {q4 : Int32} {kx lim c : Nat} (hk : kx < 195) (hl : lim < 100) (e1 : hm (m + 10) kx = nI c) (hcl : c ≤ lim) (hq : hc a 4 = 0 → q4 = if c = lim then 1 else 0) (H : tpR l r hc hm a m tp L T) (K : tkR hc hm j a m L T f e) (h13 : hm m 13 ≠ 0) (F : ftR hc hm a m f) : ∃ q8 hc' hm1 hm' j' f' e', (if q4 = 0 then some hc else (Rd_noteFault a (3 : Int32) (nI f) hc).bind fun q7 => some q7 : Option am_F) = some q8 ∧ Rd_next l r a q8 = some hc' ∧ Md_token m hm j = some (hm1, j') ∧ Md_full m (nI kx) (nI lim) (nI f) hm1 = some hm' ∧ hdS l r hc hc' hm hm' j' a m tp L T f f' e' ∧ (hc' a 4 = 0 → hc a 4 = 0 ∧ c < lim) := by
  have hL := H.2.2.1
  have fe := tk_lt K h13
  obtain ⟨k1, k2, k3, k4, k5, k6, k7⟩ := K
  obtain ⟨f1, e1', hcx, hm1, j1, n1, n2, n3, n4, n5, n6, n7, n8, n9⟩ := next_eq (j := j) H k6 k1 k2
  have F1 : ftR hc hm1 a m f := ft_fr F rfl rfl (n8 17 (by decide) (by decide) (by decide) (by decide)) (n8 18 (by decide) (by decide) (by decide) (by decide))
  obtain ⟨q8, hmN, p1, p2, p3, p4, p5, p6, p7, p8⟩ := full_eq (m := m) (q4 := q4) hk hl (show hm1 (m + 10) kx = nI c by rw [n9 _ (by omega)]; exact e1) hcl (by omega) hq F1
  have H2 : tpR l r q8 hm a m tp L T := tp_fr H (p6 _ H.2.2.2.1) (p5 8 (by decide) (by decide)) rfl rfl
  obtain ⟨f', e', hc', hm1', j', t1, t2, t3, t4, t5, t6, t7, t8, t9⟩ := next_eq (j := j) H2 k6 (by rw [p5 9 (by decide) (by decide)]; exact k1) k2
  rw [n2] at t2
  cases t2
  refine ⟨q8, hc', hm1, hmN, j1, f', e', p1, t1, n2, p2, ⟨by omega, ?_, ?_, ?_, ?_, ?_, ?_, ?_, ?_⟩, ?_⟩
  · exact tp_fr t4 rfl rfl (p8 _ (by omega)) (p7 11 (by decide) (by decide))
  · unfold tkR at t5 ⊢
    rw [p7 10 (by decide) (by decide), p7 12 (by decide) (by decide), p7 13 (by decide) (by decide), p7 14 (by decide) (by decide)]
    exact t5
  · exact ft_le (ft_fr p3 (t6 4 (by decide) (by decide) (by decide) (by decide)) (t6 5 (by decide) (by decide) (by decide) (by decide)) rfl rfl) (by omega)
  · intro x hx
    rw [t7 x hx, p6 x hx]
  · intro x hx
    rw [p8 x hx, n9 x hx]
  · rw [t6 13 (by decide) (by decide) (by decide) (by decide), p5 13 (by decide) (by decide)]
  · rw [p7 21 (by decide) (by decide), n8 21 (by decide) (by decide) (by decide) (by decide)]
  · rw [p7 22 (by decide) (by decide), n8 22 (by decide) (by decide) (by decide) (by decide)]
  · intro h
    exact p4 (by rw [← h, t6 4 (by decide) (by decide) (by decide) (by decide)])
/-- reference: whether it is full, then the token -/
theorem head_rows {q4 : Int32} {kx lim c : Nat} (hk : kx < 195) (hl : lim < 100) (e1 : hm (m + 10) kx = nI c) (hcl : c ≤ lim) (hq : hc a 4 = 0 → q4 = if c = lim then 1 else 0) (H : tpR l r hc hm a m tp L T) (K : tkR hc hm j a m L T f e) (h13 : hm m 13 ≠ 0) (F : ftR hc hm a m f) : ∃ q8 hc' hm1 hm' j' f' e', (if q4 = 0 then some hc else (Rd_noteFault a (3 : Int32) (nI f) hc).bind fun q7 => some q7 : Option am_F) = some q8 ∧ Rd_next l r a q8 = some hc' ∧ Md_full m (nI kx) (nI lim) (nI f) hm = some hm1 ∧ Md_token m hm1 j = some (hm', j') ∧ hdS l r hc hc' hm hm' j' a m tp L T f f' e' ∧ (hc' a 4 = 0 → hc a 4 = 0 ∧ c < lim) := by
  have hL := H.2.2.1
  have fe := tk_lt K h13
  obtain ⟨k1, k2, k3, k4, k5, k6, k7⟩ := K
  obtain ⟨q8, hmN, p1, p2, p3, p4, p5, p6, p7, p8⟩ := full_eq (m := m) (q4 := q4) hk hl e1 hcl (by omega) hq F
  have H2 : tpR l r q8 hmN a m tp L T := tp_fr H (p6 _ H.2.2.2.1) (p5 8 (by decide) (by decide)) (p8 _ (by omega)) (p7 11 (by decide) (by decide))
  obtain ⟨f', e', hc', hm', j', t1, t2, t3, t4, t5, t6, t7, t8, t9⟩ := next_eq (j := j) H2 k6 (by rw [p5 9 (by decide) (by decide)]; exact k1) (by rw [p7 10 (by decide) (by decide)]; exact k2)
  refine ⟨q8, hc', hmN, hm', j', f', e', p1, t1, p2, t2, ⟨by omega, t4, t5, ?_, ?_, ?_, ?_, ?_, ?_⟩, ?_⟩
  · exact ft_le (ft_fr p3 (t6 4 (by decide) (by decide) (by decide) (by decide)) (t6 5 (by decide) (by decide) (by decide) (by decide)) (t8 17 (by decide) (by decide) (by decide) (by decide)) (t8 18 (by decide) (by decide) (by decide) (by decide))) (by omega)
  · intro x hx
    rw [t7 x hx, p6 x hx]
  · intro x hx
    rw [t9 x hx, p8 x hx]
  · rw [t6 13 (by decide) (by decide) (by decide) (by decide), p5 13 (by decide) (by decide)]
  · rw [t8 21 (by decide) (by decide) (by decide) (by decide), p7 21 (by decide) (by decide)]
  · rw [t8 22 (by decide) (by decide) (by decide) (by decide), p7 22 (by decide) (by decide)]
  · intro h
    exact p4 (by rw [← h, t6 4 (by decide) (by decide) (by decide) (by decide)])
/-- lines that never are too many -/
theorem head_free (H : tpR l r hc hm a m tp L T) (K : tkR hc hm j a m L T f e) (h13 : hm m 13 ≠ 0) (F : ftR hc hm a m f) : ∃ hc' hm' j' f' e', Rd_next l r a hc = some hc' ∧ Md_token m hm j = some (hm', j') ∧ hdS l r hc hc' hm hm' j' a m tp L T f f' e' ∧ (hc' a 4 = 0 → hc a 4 = 0) := by
  have hL := H.2.2.1
  have fe := tk_lt K h13
  obtain ⟨k1, k2, k3, k4, k5, k6, k7⟩ := K
  obtain ⟨f', e', hc', hm', j', t1, t2, t3, t4, t5, t6, t7, t8, t9⟩ := next_eq (j := j) H k6 k1 k2
  refine ⟨hc', hm', j', f', e', t1, t2, ⟨by omega, t4, t5, ?_, t7, t9, ?_, ?_, ?_⟩, ?_⟩
  · exact ft_le (ft_fr F (t6 4 (by decide) (by decide) (by decide) (by decide)) (t6 5 (by decide) (by decide) (by decide) (by decide)) (t8 17 (by decide) (by decide) (by decide) (by decide)) (t8 18 (by decide) (by decide) (by decide) (by decide))) (by omega)
  · rw [t6 13 (by decide) (by decide) (by decide) (by decide)]
  · rw [t8 21 (by decide) (by decide) (by decide) (by decide)]
  · rw [t8 22 (by decide) (by decide) (by decide) (by decide)]
  · intro h
    rw [← h, t6 4 (by decide) (by decide) (by decide) (by decide)]
end FULL
