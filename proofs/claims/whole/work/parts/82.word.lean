/-! words of a text: class and reference -/
section WORD
variable {l : List (Nat × Nat)} {r : am_R} {hc hm : am_F} {a m tp L i f e w : Nat} {T : Nat → Nat} {j : am_J} {x : Int64}
theorem cmpE (x y : Int64) : (lg_cmp x y = 0) = (x = y) := by
  apply propext
  unfold lg_cmp
  constructor
  · intro h
    by_cases c1 : x > y
    · rw [if_pos c1] at h
      exact absurd h (by decide)
    · rw [if_neg c1] at h
      by_cases c2 : x = y
      · exact c2
      · rw [if_neg c2] at h
        exact absurd h (by decide)
  · rintro rfl
    rw [if_neg (Int64.lt_irrefl), if_pos rfl]
theorem lN_iq {p q : Nat} (hp : p < 2 ^ 64) (hq : q < 2 ^ 64) (h : lN p = lN q) : p = q := by
  have h1 : (lN p).toBitVec.toNat = (lN q).toBitVec.toNat := by rw [h]
  rw [ll_tb, ll_tb, BitVec.toNat_ofNat, BitVec.toNat_ofNat, Nat.mod_eq_of_lt hp, Nat.mod_eq_of_lt hq] at h1
  exact h1
theorem gD_at : ∀ (s : List Nat) (k : Nat) (h : k < s.length), s.getD k 0 = s[k] := by
  intro s k h
  rw [List.getD_eq_getElem?_getD, List.getElem?_eq_getElem h]
  rfl
/-- the word as the reference knows it -/
def cwT (w : Nat) : Int64 := lN (prL (am_str w).reverse)
def wdP (T : Nat → Nat) (f n : Nat) (s : List Nat) : Prop := n = s.length ∧ ∀ k, k < n → T (f + k) = s.getD k 0
theorem rlT_len (T : Nat → Nat) (f : Nat) : ∀ n, (rlT T f n).length = n := by
  intro n
  induction n with
  | zero => rfl
  | succ n ih => show (rlT T f n).length + 1 = n + 1; rw [ih]
theorem rlT_rev (T : Nat → Nat) (f : Nat) : ∀ n, (rlT T f n).reverse = (List.range n).map (fun k => T (f + k)) := by
  intro n
  induction n with
  | zero => rfl
  | succ n ih =>
    show (T (f + n) :: rlT T f n).reverse = _
    rw [List.reverse_cons, ih, List.range_succ, List.map_append]
    rfl
theorem wdP_iff {n : Nat} {s : List Nat} : wdP T f n s ↔ rlT T f n = s.reverse := by
  constructor
  · rintro ⟨h1, h2⟩
    rw [← List.reverse_inj, List.reverse_reverse, rlT_rev]
    apply List.ext_getElem
    · rw [List.length_map, List.length_range, h1]
    · intro k k1 k2
      rw [List.getElem_map, List.getElem_range, h2 k (by rw [h1]; exact k2), gD_at s k k2]
  · intro h
    have h1 : s = (List.range n).map (fun k => T (f + k)) := by
      rw [← rlT_rev, h, List.reverse_reverse]
    refine ⟨by rw [h1, List.length_map, List.length_range], ?_⟩
    intro k hk
    rw [h1, gD_at _ k (by rw [List.length_map, List.length_range]; exact hk), List.getElem_map, List.getElem_range]
theorem str_ok : ∀ w, w < 30 → (am_str w).length ≤ 8 ∧ 1 ≤ (am_str w).length ∧ (∀ x, x ∈ am_str w → 97 ≤ x ∧ x ≤ 122) ∧ prL (am_str w).reverse < 2 ^ 63 ∧ 0 < prL (am_str w).reverse := by
  have h : (List.range 30).all (fun w => decide ((am_str w).length ≤ 8 ∧ 1 ≤ (am_str w).length ∧ (∀ x, x ∈ am_str w → 97 ≤ x ∧ x ≤ 122) ∧ prL (am_str w).reverse < 2 ^ 63 ∧ 0 < prL (am_str w).reverse)) = true := by decide +kernel
  intro w hw
  exact of_decide_eq_true (List.all_eq_true.1 h w (List.mem_range.2 hw))
theorem rlT_mem : ∀ n, ∀ x, x ∈ rlT T f n → ∃ k, k < n ∧ x = T (f + k) := by
  intro n
  induction n with
  | zero => intro x hx; cases hx
  | succ n ih =>
    intro x hx
    have hx' : x ∈ T (f + n) :: rlT T f n := hx
    rcases List.mem_cons.1 hx' with h | h
    · exact ⟨n, by omega, h⟩
    · obtain ⟨k, h1, h2⟩ := ih x h
      exact ⟨k, by omega, h2⟩
theorem word_iff {n : Nat} (hw : w < 30) (hl : ∀ k, k < n → ltB (T (f + k))) : ((if n ≤ 8 then wlT T f n else 0) = cwT w) ↔ wdP T f n (am_str w) := by
  obtain ⟨s1, s2, s3, s4, s5⟩ := str_ok w hw
  rw [wdP_iff]
  unfold cwT
  by_cases c : n ≤ 8
  · have hl2 : ∀ k, k < n → T (f + k) < 128 := fun k hk => by
      have := hl k hk
      unfold ltB at this
      omega
    rw [if_pos c, wlT_eq n c hl2]
    constructor
    · intro h
      have h2 : prL (rlT T f n) < 2 ^ 64 := by
        rcases prL_lt n hl2 with h2 | h2
        · have h3 : 256 ^ (n - 1) ≤ 256 ^ 7 := Nat.pow_le_pow_right (by decide) (by omega)
          omega
        · subst h2
          show 0 < _
          decide
      apply prL_inj
      · intro x hx
        obtain ⟨k, hk, rfl⟩ := rlT_mem n x hx
        have := hl k hk
        unfold ltB at this
        omega
      · intro x hx
        have := s3 x (List.mem_reverse.1 hx)
        omega
      · exact lN_iq h2 (by omega) h
    · intro h
      rw [h]
  · rw [if_neg c]
    constructor
    · intro h
      have := lN_iq (p := 0) (by decide) (show prL (am_str w).reverse < 2 ^ 64 by omega) h
      omega
    · intro h
      have h1 := rlT_len T f n
      rw [h, List.length_reverse] at h1
      omega
/-- the word at hand, for the reference: 0 when it is none -/
def wdX (hm : am_F) (j : am_J) (m : Nat) : Int64 := if hm m 13 = 2 then j m 15 else 0
theorem isw_l {s : List Nat} (hs : am_str w = s) (hw : w < 30) (H : tpR l r hc hm a m tp L T) (e1 : hc a 11 = nI f) (hL : f + s.length ≤ L) : ∀ (c k fu : Nat), k + c = s.length → c < fu → (∀ i, i < k → T (f + i) = s.getD i 0) → (wdP T f s.length s ∧ Rd_isWord_l28 l r a w hc fu (nI k) = some 1) ∨ (¬ wdP T f s.length s ∧ Rd_isWord_l28 l r a w hc fu (nI k) = some 0) := by
  have h3 := H.2.2.1
  intro c
  induction c with
  | zero =>
    intro k fu hk hf hi
    obtain ⟨fu, rfl⟩ : ∃ q, fu = q + 1 := ⟨fu - 1, by omega⟩
    refine .inl ⟨⟨rfl, fun i h => hi i (by omega)⟩, ?_⟩
    unfold Rd_isWord_l28
    unfold g_sx
    rw [if_pos hw, Option.bind_some, hs, if_pos (nI_le (by omega) (by omega))]
  | succ c ih =>
    intro k fu hk hf hi
    obtain ⟨fu, rfl⟩ : ∃ q, fu = q + 1 := ⟨fu - 1, by omega⟩
    have hb := byte_at H (show f + k < L by omega)
    have ht := (H.2.2.2.2.2.2 (f + k) (by omega)).2.2
    have hw' := str_ok w hw
    rw [hs] at hw'
    have hsk := hw'.2.2.1 (s.getD k 0) (by rw [gD_at s k (show k < s.length by omega)]; exact List.getElem_mem _)
    unfold Rd_isWord_l28
    unfold g_sx
    rw [if_pos hw, Option.bind_some, hs, if_neg (nI_ge (by omega) (by omega)), e1, nI_add, hb]
    simp only [Option.bind_some]
    rw [z_ix (by omega) (by omega), Option.bind_some]
    by_cases ce : T (f + k) = s.getD k 0
    · rw [ce, if_pos rfl, nI_1]
      exact ih (k + 1) fu (by omega) (by omega) (fun i h => by
        by_cases q : i = k
        · rw [q]; exact ce
        · exact hi i (by omega))
    · rw [if_neg (fun h => ce ((nI_eq (by omega) (by omega)).1 h))]
      exact .inr ⟨fun h => ce (h.2 k (by omega)), rfl⟩
theorem isWord_at (hw : w < 30) (H : tpR l r hc hm a m tp L T) (K : tkR hc hm j a m L T f e) : Rd_isWord l r a w hc = some (if wdX hm j m = cwT w then 1 else 0) := by
  have h3 := H.2.2.1
  obtain ⟨s1, s2, s3, s4, s5⟩ := str_ok w hw
  have hz : ¬ (0 : Int64) = cwT w := fun h => by
    have := lN_iq (p := 0) (by decide) (show prL (am_str w).reverse < 2 ^ 64 by omega) h
    omega
  obtain ⟨k1, k2, k3, k4, k5, k6, k7⟩ := K
  have no : ∀ u v : Int32, hc a 10 = u → hm m 13 = v → u ≠ 1 → v ≠ 2 → Rd_isWord l r a w hc = some (if wdX hm j m = cwT w then 1 else 0) := by
    intro u v h1 h2 h4 h5
    unfold Rd_isWord wdX
    rw [h1, h2, if_neg h4, if_neg h5, if_neg hz]
  rcases k7 with ⟨q1, q2, _⟩ | ⟨q1, q2, q3, q4, q5⟩ | ⟨q1, q2, _⟩ | ⟨q1, q2, _⟩ | ⟨q1, q2, _⟩
  · exact no _ _ q1 q2 (by decide) (by decide)
  · unfold Rd_isWord wdX g_sx
    rw [q1, q2, if_pos rfl, if_pos rfl, if_pos hw, Option.bind_some, k1, k3, pk_sub (by omega), q5]
    have hwi := word_iff (T := T) (f := f) (n := e - f) hw (fun k hk => q4 (f + k) (by omega) (by omega))
    by_cases c : e - f = (am_str w).length
    · rw [if_pos (by rw [c])]
      rcases isw_l (l := l) (r := r) (s := am_str w) rfl hw H k3 (by omega) (am_str w).length 0 g_fu (by omega) (by unfold g_fu; omega) (fun i h => by omega) with ⟨p1, p2⟩ | ⟨p1, p2⟩
      · have p2' : Rd_isWord_l28 l r a w hc g_fu 0 = some 1 := p2
        rw [if_pos (hwi.2 (by rw [c]; exact p1)), p2']
      · have p2' : Rd_isWord_l28 l r a w hc g_fu 0 = some 0 := p2
        rw [if_neg (fun h => p1 (by have := hwi.1 h; rw [c] at this; exact this)), p2']
    · rw [if_neg (fun h => c ((nI_eq (by omega) (by omega)).1 h)), if_neg (fun h => c (hwi.1 h).1)]
  · exact no _ _ q1 q2 (by decide) (by decide)
  · exact no _ _ q1 q2 (by decide) (by decide)
  · exact no _ _ q1 q2 (by decide) (by decide)
theorem wordOf_at : ∀ k, k < 15 → Rd_wordOf (nI k) = k := by decide
theorem lh_l (H : tpR l r hc hm a m tp L T) (K : tkR hc hm j a m L T f e) {k1 : Nat} (hk1 : k1 ≤ 15) : ∀ (c k fu : Nat), k + c = k1 → c < fu → (∃ i, k ≤ i ∧ i < k1 ∧ wdX hm j m = cwT i ∧ Rd_lineHere_l15 l r a (nI k1) hc fu (nI k) = some (nI i)) ∨ ((∀ i, k ≤ i → i < k1 → wdX hm j m ≠ cwT i) ∧ Rd_lineHere_l15 l r a (nI k1) hc fu (nI k) = some (-1)) := by
  intro c
  induction c with
  | zero =>
    intro k fu hk hf
    obtain ⟨fu, rfl⟩ : ∃ q, fu = q + 1 := ⟨fu - 1, by omega⟩
    refine .inr ⟨fun i h1 h2 => by omega, ?_⟩
    unfold Rd_lineHere_l15
    rw [if_pos (nI_le (by omega) (by omega))]
  | succ c ih =>
    intro k fu hk hf
    obtain ⟨fu, rfl⟩ : ∃ q, fu = q + 1 := ⟨fu - 1, by omega⟩
    unfold Rd_lineHere_l15
    rw [if_neg (nI_ge (by omega) (by omega)), wordOf_at k (by omega), isWord_at (by omega) H K, Option.bind_some]
    by_cases ce : wdX hm j m = cwT k
    · rw [if_pos ce, if_neg (by decide)]
      exact .inl ⟨k, Nat.le_refl _, by omega, ce, rfl⟩
    · rw [if_neg ce, if_pos rfl, nI_1]
      rcases ih (k + 1) fu (by omega) (by omega) with ⟨i, h1, h2, h3, h4⟩ | ⟨h1, h2⟩
      · exact .inl ⟨i, by omega, h2, h3, h4⟩
      · refine .inr ⟨fun i h3 h4 => ?_, h2⟩
        by_cases q : i = k
        · rw [q]; exact ce
        · exact h1 i (by omega) h4
def frL (s : Nat) : Nat := [0, 10, 13, 14, 15].getD s 0
theorem firstLine_at : ∀ s, s < 4 → Rd_firstLine (nI s) = nI (frL s) ∧ Rd_firstLine (nI s + 1) = nI (frL (s + 1)) ∧ frL (s + 1) ≤ 15 ∧ frL s ≤ frL (s + 1) := by decide
theorem line_at {s : Nat} (hs : s < 4) (H : tpR l r hc hm a m tp L T) (K : tkR hc hm j a m L T f e) : (∃ i, frL s ≤ i ∧ i < frL (s + 1) ∧ wdX hm j m = cwT i ∧ Rd_lineHere l r a (nI s) hc = some (nI i)) ∨ ((∀ i, frL s ≤ i → i < frL (s + 1) → wdX hm j m ≠ cwT i) ∧ Rd_lineHere l r a (nI s) hc = some (-1)) := by
  obtain ⟨h1, h2, h3, h4⟩ := firstLine_at s hs
  unfold Rd_lineHere
  rw [h1, h2]
  exact lh_l H K h3 (frL (s + 1) - frL s) (frL s) g_fu (by omega) (by unfold g_fu; omega)
def hbW (k : Nat) : Nat := [6, 26, 27, 28, 29].getD k 0
theorem habitWord_at : ∀ k, k < 5 → Rd_habitWord (nI k) = hbW k ∧ hbW k < 30 := by decide
theorem hb_l (H : tpR l r hc hm a m tp L T) (K : tkR hc hm j a m L T f e) : ∀ (c k fu : Nat), k + c = 5 → c < fu → (∃ i, k ≤ i ∧ i < 5 ∧ wdX hm j m = cwT (hbW i) ∧ Rd_habitHere_l2 l r a hc fu (nI k) = some (nI i)) ∨ ((∀ i, k ≤ i → i < 5 → wdX hm j m ≠ cwT (hbW i)) ∧ Rd_habitHere_l2 l r a hc fu (nI k) = some (-1)) := by
  intro c
  induction c with
  | zero =>
    intro k fu hk hf
    obtain ⟨fu, rfl⟩ : ∃ q, fu = q + 1 := ⟨fu - 1, by omega⟩
    refine .inr ⟨fun i h1 h2 => by omega, ?_⟩
    unfold Rd_habitHere_l2
    rw [if_pos (show (5 : Int32) ≤ nI k from nI_le (show 5 ≤ k by omega) (by omega))]
  | succ c ih =>
    intro k fu hk hf
    obtain ⟨fu, rfl⟩ : ∃ q, fu = q + 1 := ⟨fu - 1, by omega⟩
    obtain ⟨w1, w2⟩ := habitWord_at k (by omega)
    unfold Rd_habitHere_l2
    rw [if_neg (show ¬ (5 : Int32) ≤ nI k from nI_ge (show k < 5 by omega) (by decide)), w1, isWord_at w2 H K, Option.bind_some]
    by_cases ce : wdX hm j m = cwT (hbW k)
    · rw [if_pos ce, if_neg (by decide)]
      exact .inl ⟨k, Nat.le_refl _, by omega, ce, rfl⟩
    · rw [if_neg ce, if_pos rfl, nI_1]
      rcases ih (k + 1) fu (by omega) (by omega) with ⟨i, h1, h2, h3, h4⟩ | ⟨h1, h2⟩
      · exact .inl ⟨i, by omega, h2, h3, h4⟩
      · refine .inr ⟨fun i h3 h4 => ?_, h2⟩
        by_cases q : i = k
        · rw [q]; exact ce
        · exact h1 i (by omega) h4
theorem hbC : cwT 6 = 1667330660 ∧ cwT 26 = 500086170472 ∧ cwT 27 = 482955849332 ∧ cwT 28 = 495672714608 ∧ cwT 29 = 1650815860 := by decide +kernel
theorem habit_at (H : tpR l r hc hm a m tp L T) (K : tkR hc hm j a m L T f e) : (∃ i, i < 5 ∧ Rd_habitHere l r a hc = some (nI i) ∧ hm m 13 = 2 ∧ Md_habitBy (j m 15) = nI i) ∨ (Rd_habitHere l r a hc = some (-1) ∧ (if hm m 13 = 2 then some (Md_habitBy (j m 15)) else some (-1) : Option Int32) = some (-1)) := by
  obtain ⟨c0, c1, c2, c3, c4⟩ := hbC
  rcases hb_l H K 5 0 g_fu (by omega) (by unfold g_fu; omega) with ⟨i, h1, h2, h3, h4⟩ | ⟨h1, h2⟩
  · refine .inl ⟨i, h2, h4, ?_⟩
    have h13 : hm m 13 = 2 := by
      by_cases c : hm m 13 = 2
      · exact c
      · unfold wdX at h3
        rw [if_neg c] at h3
        have hw := (habitWord_at i h2).2
        have := lN_iq (p := 0) (by decide) (show prL (am_str (hbW i)).reverse < 2 ^ 64 by have := (str_ok _ hw).2.2.2.1; omega) h3
        have := (str_ok _ hw).2.2.2.2
        omega
    refine ⟨h13, ?_⟩
    unfold wdX at h3
    rw [if_pos h13] at h3
    rw [h3]
    have : i = 0 ∨ i = 1 ∨ i = 2 ∨ i = 3 ∨ i = 4 := by omega
    rcases this with rfl | rfl | rfl | rfl | rfl <;> decide +kernel
  · refine .inr ⟨h2, ?_⟩
    have d0 := h1 0 (by decide) (by decide)
    have d1 := h1 1 (by decide) (by decide)
    have d2 := h1 2 (by decide) (by decide)
    have d3 := h1 3 (by decide) (by decide)
    have d4 := h1 4 (by decide) (by decide)
    rw [show hbW 0 = 6 from rfl, c0] at d0
    rw [show hbW 1 = 26 from rfl, c1] at d1
    rw [show hbW 2 = 27 from rfl, c2] at d2
    rw [show hbW 3 = 28 from rfl, c3] at d3
    rw [show hbW 4 = 29 from rfl, c4] at d4
    by_cases c : hm m 13 = 2
    · unfold wdX at d0 d1 d2 d3 d4
      rw [if_pos c] at d0 d1 d2 d3 d4
      rw [if_pos c]
      unfold Md_habitBy
      simp only [cmpE]
      rw [if_neg d0, if_neg d1, if_neg d2, if_neg d3, if_neg d4]
    · rw [if_neg c]
end WORD
