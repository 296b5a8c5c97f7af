/-! a text begun: drafts cleared; the sums of a draft -/
def rdL (l : List (Nat × Nat)) (a : Nat) : Prop := g_ln l (a + 1 + 1) = 48 ∧ g_ln l (a + 1 + 3) = 6 ∧ g_ln l (a + 1 + 4) = 6 ∧ g_ln l (a + 1 + 5) = 6 ∧ g_ln l (a + 1 + 6) = 6 ∧ g_ln l (a + 20) = 6
section BEGIN
variable {l : List (Nat × Nat)} {r : am_R} {h h' hc hm : am_F} {a m p w lim s : Nat} {f g : Nat → Int32} {j : am_J}
theorem rw_zero (H : rwH l h a w lim) (e0 : h' a 0 = h a 0) (e1 : h' a 1 = h a 1) (e3 : h' a 3 = 0) : rwI l h' a w lim 0 f := by
  obtain ⟨n, h0, h1, h2, h3, h4, h5, h6, h7⟩ := H
  exact ⟨by rw [e0]; exact h0, by rw [e1]; exact h1, e3, Nat.zero_le _, h4, h5, h6, fun i hi => by omega⟩
theorem fill_o {b n x : Nat} {v : Int32} (hx : x ≠ b) : fillA h b n v x = h x := by
  funext y
  unfold fillA
  rw [if_neg (fun z => hx z.1)]
theorem fill_i {b n y : Nat} {v : Int32} (hy : y < n) : fillA h b n v b y = v := if_pos ⟨rfl, hy⟩
theorem pclear_at (L : rdL l a) : ∃ q, Pk_clear l r (a + 1) h = some q ∧ q (a + 1) 0 = 20 ∧ q (a + 1) 1 = 8 ∧ q (a + 1) 2 = 0 ∧ q (a + 1) 3 = 0 ∧ (∀ i, i < 48 → q (a + 1 + 1) i = 2) ∧ (∀ b, b < 6 → q (a + 1 + 4) b = -1 ∧ q (a + 1 + 5) b = -1 ∧ q (a + 1 + 6) b = -1) ∧ (q (a + 8) 3 = 0 ∧ q (a + 10) 3 = 0 ∧ q (a + 12) 3 = 0) ∧ (∀ y, y ≠ 3 → q (a + 8) y = h (a + 8) y ∧ q (a + 10) y = h (a + 10) y ∧ q (a + 12) y = h (a + 12) y) ∧ ∀ x, x ≤ a ∨ a + 13 ≤ x → q x = h x := by
  obtain ⟨L1, L3, L4, L5, L6, _⟩ := L
  unfold Pk_clear
  rw [Ar_fill_at L1 (by decide), Option.bind_some, Ar_fill_at L3 (by decide), Option.bind_some, Ar_fill_at L4 (by decide), Option.bind_some, Ar_fill_at L5 (by decide), Option.bind_some, Ar_fill_at L6 (by decide), Option.bind_some]
  generalize eH : am_up (am_up (am_up (am_up h (a + 1) 0 20) (a + 1) 1 8) (a + 1) 2 0) (a + 1) 3 0 = h1
  have p0 : ∀ x, x ≠ a + 1 → h1 x = h x := fun x hx => by rw [← eH, z_upr hx, z_upr hx, z_upr hx, z_upr hx]
  have s0 : h1 (a + 1) 0 = 20 := by rw [← eH, z_ups, upz_n (by decide), z_ups, upz_n (by decide), z_ups, upz_n (by decide), z_ups, upz_s]
  have s1 : h1 (a + 1) 1 = 8 := by rw [← eH, z_ups, upz_n (by decide), z_ups, upz_n (by decide), z_ups, upz_s]
  have s2 : h1 (a + 1) 2 = 0 := by rw [← eH, z_ups, upz_n (by decide), z_ups, upz_s]
  have s3 : h1 (a + 1) 3 = 0 := by rw [← eH, z_ups, upz_s]
  refine ⟨_, rfl, ?_, ?_, ?_, ?_, ?_, ?_, ⟨?_, ?_, ?_⟩, ?_, ?_⟩
  · rw [z_upr (by omega), z_upr (by omega), z_upr (by omega), fill_o (by omega), fill_o (by omega), fill_o (by omega), fill_o (by omega), fill_o (by omega), s0]
  · rw [z_upr (by omega), z_upr (by omega), z_upr (by omega), fill_o (by omega), fill_o (by omega), fill_o (by omega), fill_o (by omega), fill_o (by omega), s1]
  · rw [z_upr (by omega), z_upr (by omega), z_upr (by omega), fill_o (by omega), fill_o (by omega), fill_o (by omega), fill_o (by omega), fill_o (by omega), s2]
  · rw [z_upr (by omega), z_upr (by omega), z_upr (by omega), fill_o (by omega), fill_o (by omega), fill_o (by omega), fill_o (by omega), fill_o (by omega), s3]
  · intro i hi
    rw [z_upr (by omega), z_upr (by omega), z_upr (by omega), fill_o (by omega), fill_o (by omega), fill_o (by omega), fill_o (by omega), fill_i hi]
  · intro b hb
    refine ⟨?_, ?_, ?_⟩
    · rw [z_upr (by omega), z_upr (by omega), z_upr (by omega), fill_o (by omega), fill_o (by omega), fill_i hb]
    · rw [z_upr (by omega), z_upr (by omega), z_upr (by omega), fill_o (by omega), fill_i hb]
    · rw [z_upr (by omega), z_upr (by omega), z_upr (by omega), fill_i hb]
  · rw [z_upr (by omega), z_upr (by omega)]
    show (am_up _ (a + 8) 3 0) (a + 8) 3 = 0
    rw [z_ups, upz_s]
  · rw [z_upr (by omega)]
    show (am_up _ (a + 10) 3 0) (a + 10) 3 = 0
    rw [z_ups, upz_s]
  · show (am_up _ (a + 12) 3 0) (a + 12) 3 = 0
    rw [z_ups, upz_s]
  · intro y hy
    refine ⟨?_, ?_, ?_⟩
    · rw [z_upr (by omega), z_upr (by omega)]
      show (am_up _ (a + 8) 3 0) (a + 8) y = _
      rw [z_ups, upz_n hy, fill_o (by omega), fill_o (by omega), fill_o (by omega), fill_o (by omega), fill_o (by omega), p0 _ (by omega)]
    · rw [z_upr (by omega)]
      show (am_up _ (a + 10) 3 0) (a + 10) y = _
      rw [z_ups, upz_n hy, z_upr (by omega), fill_o (by omega), fill_o (by omega), fill_o (by omega), fill_o (by omega), fill_o (by omega), p0 _ (by omega)]
    · show (am_up _ (a + 12) 3 0) (a + 12) y = _
      rw [z_ups, upz_n hy, z_upr (by omega), z_upr (by omega), fill_o (by omega), fill_o (by omega), fill_o (by omega), fill_o (by omega), fill_o (by omega), p0 _ (by omega)]
  · intro x hx
    rw [z_upr (by omega), z_upr (by omega), z_upr (by omega), fill_o (by omega), fill_o (by omega), fill_o (by omega), fill_o (by omega), fill_o (by omega), p0 _ (by omega)]
/-- the reference's blank -/
def blkV (s y : Nat) : Int32 := if s = 0 then (if 7 ≤ y ∧ y ≤ 54 then 2 else if 55 ≤ y ∧ y ≤ 78 then -1 else 0) else 0
theorem blk_v (y : Nat) (hy : y < 195) (hs : s < 4) : (if nI s = 0 then (if (Md_in (nI y) (7 : Int32) (54 : Int32)) = 0 then (if nI s = 0 then (if (Md_in (nI y) (55 : Int32) (78 : Int32)) = 0 then some (0 : Int32) else some (-1 : Int32)) else some (0 : Int32)) else some (2 : Int32)) else (if nI s = 0 then (if (Md_in (nI y) (55 : Int32) (78 : Int32)) = 0 then some (0 : Int32) else some (-1 : Int32)) else some (0 : Int32)) : Option Int32) = some (blkV s y) := by
  unfold blkV
  by_cases c : s = 0
  · rw [if_pos c, c, if_pos (show nI 0 = 0 from rfl), if_pos (show nI 0 = 0 from rfl)]
    by_cases c1 : 7 ≤ y ∧ y ≤ 54
    · rw [if_pos c1, show Md_in (nI y) 7 54 = 1 from Md_in_yes c1.1 c1.2 (by decide), if_neg (show ¬ (1 : Int32) = 0 by decide)]
    · rw [if_neg c1, show Md_in (nI y) 7 54 = 0 from rng_no (by decide) (by decide) (by omega) c1, if_pos rfl]
      by_cases c2 : 55 ≤ y ∧ y ≤ 78
      · rw [if_pos c2, show Md_in (nI y) 55 78 = 1 from Md_in_yes c2.1 c2.2 (by decide), if_neg (show ¬ (1 : Int32) = 0 by decide)]
      · rw [if_neg c2, show Md_in (nI y) 55 78 = 0 from rng_no (by decide) (by decide) (by omega) c2, if_pos rfl]
  · have : ¬ nI s = 0 := fun e => c ((z_eq0 (by omega)).1 e)
    rw [if_neg this, if_neg this, if_neg c]
theorem blank_l (hs : s < 4) : ∀ (c i fu : Nat) (h : am_F), i + c = 195 → c < fu → Md_blank_l2 m (nI s) fu (nI i) h = some (fun x y => if x = m + 10 ∧ i ≤ y ∧ y < 195 then blkV s y else h x y) := by
  intro c
  induction c with
  | zero =>
    intro i fu h hi hfu
    obtain ⟨fu, rfl⟩ : ∃ q, fu = q + 1 := ⟨fu - 1, by omega⟩
    unfold Md_blank_l2
    rw [show (195 : Int32) = nI 195 from rfl, if_pos (nI_le (by omega) (by omega))]
    congr 1
    funext x y
    rw [if_neg (by omega)]
  | succ c ih =>
    intro i fu h hi hfu
    obtain ⟨fu, rfl⟩ : ∃ q, fu = q + 1 := ⟨fu - 1, by omega⟩
    unfold Md_blank_l2
    rw [show (195 : Int32) = nI 195 from rfl, if_neg (nI_ge (by omega) (by omega)), blk_v i (by omega) hs, Option.bind_some, z_ix (by omega) (by decide), Option.bind_some, nI_1, ih (i + 1) fu _ (by omega) (by omega)]
    congr 1
    funext x y
    simp only [z_up]
    by_cases c1 : x = m + 10 ∧ i + 1 ≤ y ∧ y < 195
    · rw [if_pos c1, if_pos (show x = m + 10 ∧ i ≤ y ∧ y < 195 by omega)]
    · rw [if_neg c1]
      by_cases c2 : x = m + 10 ∧ y = i
      · rw [if_pos c2, if_pos (by omega), c2.2]
      · rw [if_neg c2, if_neg (by omega)]
def blkW (s y : Nat) : Int32 := if s = 0 ∧ y = 0 then 20 else if s = 0 ∧ y = 1 then 8 else blkV s y
theorem blank_at (hs : s < 4) : ∃ q, Md_blank m (nI s) hm = some q ∧ (∀ y, y < 195 → q (m + 10) y = blkW s y) ∧ ∀ x, x ≠ m + 10 → q x = hm x := by
  unfold Md_blank
  have e := blank_l (m := m) hs 195 0 g_fu hm (by omega) (by unfold g_fu; omega)
  have e' : Md_blank_l2 m (nI s) g_fu 0 hm = _ := e
  rw [e', Option.bind_some]
  by_cases c : s = 0
  · rw [if_pos (show nI s = 0 by rw [c]; rfl)]
    refine ⟨_, rfl, ?_, ?_⟩
    · intro y hy
      unfold blkW
      rw [z_ups]
      by_cases y1 : y = 1
      · rw [y1, upz_s, if_neg (by omega), if_pos ⟨c, rfl⟩]
      · rw [upz_n y1, z_ups]
        by_cases y0 : y = 0
        · rw [y0, upz_s, if_pos ⟨c, rfl⟩]
        · rw [upz_n y0, if_neg (show ¬ (s = 0 ∧ y = 0) from fun z => y0 z.2), if_neg (show ¬ (s = 0 ∧ y = 1) from fun z => y1 z.2)]
          exact if_pos ⟨rfl, Nat.zero_le _, hy⟩
    · intro x hx
      rw [z_upr hx, z_upr hx]
      funext y
      exact if_neg (fun z => hx z.1)
  · rw [if_neg (fun e => c ((z_eq0 (by omega)).1 e))]
    refine ⟨_, rfl, ?_, ?_⟩
    · intro y hy
      unfold blkW
      rw [if_neg (show ¬ (s = 0 ∧ y = 0) from fun z => c z.1), if_neg (show ¬ (s = 0 ∧ y = 1) from fun z => c z.1)]
      exact if_pos ⟨rfl, Nat.zero_le _, hy⟩
    · intro x hx
      funext y
      exact if_neg (fun z => hx z.1)
theorem sum_l (hr : ∀ i, i < 48 → h (p + 1) i = g (7 + i) ∧ zN (g (7 + i)) 10) : ∀ (c i fu : Nat) (h' : am_F), i + c = 48 → c < fu → h' (p + 1) = h (p + 1) → Pk_sumRates_l4 p fu (nI (sumR g 0 i)) (nI i) h' = some (fun b y => if b = p + 2 ∧ i ≤ y ∧ y < 48 then nI (sumR g 0 y) else h' b y) := by
  intro c
  induction c with
  | zero =>
    intro i fu h' hi hfu e
    obtain ⟨fu, rfl⟩ : ∃ q, fu = q + 1 := ⟨fu - 1, by omega⟩
    unfold Pk_sumRates_l4
    rw [show (48 : Int32) = nI 48 from rfl, if_pos (nI_le (by omega) (by omega))]
    congr 1
    funext x y
    rw [if_neg (by omega)]
  | succ c ih =>
    intro i fu h' hi hfu e
    obtain ⟨fu, rfl⟩ : ∃ q, fu = q + 1 := ⟨fu - 1, by omega⟩
    have e1 : h' (p + 1) i = nI (rateN g i) := by
      rw [e, (hr i (by omega)).1]
      unfold rateN
      rw [Nat.min_eq_left (by omega)]
      exact (zN_V (hr i (by omega)).2 (by decide)).1
    have e2 : sumR g 0 (i + 1) = sumR g 0 i + rateN g i := by
      show sumR g 0 i + rateN g (0 + i) = _
      rw [Nat.zero_add]
    unfold Pk_sumRates_l4
    rw [show (48 : Int32) = nI 48 from rfl, if_neg (nI_ge (by omega) (by omega)), z_ix (by omega) (by decide), Option.bind_some, Option.bind_some, z_upr (show p + 1 ≠ p + 2 by omega), e1, nI_add, ← e2, nI_1, ih (i + 1) fu _ (by omega) (by omega) (by rw [z_upr (by omega)]; exact e)]
    congr 1
    funext x y
    simp only [z_up]
    by_cases c1 : x = p + 2 ∧ i + 1 ≤ y ∧ y < 48
    · rw [if_pos c1, if_pos (show x = p + 2 ∧ i ≤ y ∧ y < 48 by omega)]
    · rw [if_neg c1]
      by_cases c2 : x = p + 2 ∧ y = i
      · rw [if_pos c2, if_pos (by omega), c2.2]
      · rw [if_neg c2, if_neg (by omega)]
theorem sums_at (hr : ∀ i, i < 48 → h (p + 1) i = g (7 + i) ∧ zN (g (7 + i)) 10) : ∃ q, Pk_sumRates p h = some q ∧ (∀ i, i < 48 → q (p + 2) i = nI (sumR g 0 i)) ∧ ∀ x, x ≠ p + 2 → q x = h x := by
  have e := sum_l hr 48 0 g_fu h (by omega) (by unfold g_fu; omega) rfl
  have e' : Pk_sumRates_l4 p g_fu 0 0 h = _ := e
  unfold Pk_sumRates
  rw [e', Option.bind_some]
  exact ⟨_, rfl, fun i hi => if_pos ⟨rfl, Nat.zero_le _, hi⟩, fun x hx => by funext y; exact if_neg (fun z => hx z.1)⟩
end BEGIN
