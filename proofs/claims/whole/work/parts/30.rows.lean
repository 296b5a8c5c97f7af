/-! numbers -/
theorem z_lits : (0 : Int32) = nI 0 ∧ (1 : Int32) = nI 1 ∧ (2 : Int32) = nI 2 ∧ (3 : Int32) = nI 3 ∧ (4 : Int32) = nI 4 ∧ (5 : Int32) = nI 5 ∧ (6 : Int32) = nI 6 ∧ (7 : Int32) = nI 7 ∧ (8 : Int32) = nI 8 ∧ (9 : Int32) = nI 9 ∧ (10 : Int32) = nI 10 ∧ (11 : Int32) = nI 11 ∧ (12 : Int32) = nI 12 ∧ (13 : Int32) = nI 13 ∧ (14 : Int32) = nI 14 ∧ (15 : Int32) = nI 15 ∧ (16 : Int32) = nI 16 ∧ (17 : Int32) = nI 17 ∧ (18 : Int32) = nI 18 ∧ (19 : Int32) = nI 19 ∧ (20 : Int32) = nI 20 ∧ (21 : Int32) = nI 21 ∧ (22 : Int32) = nI 22 ∧ (23 : Int32) = nI 23 ∧ (24 : Int32) = nI 24 ∧ (25 : Int32) = nI 25 ∧ (26 : Int32) = nI 26 ∧ (27 : Int32) = nI 27 ∧ (28 : Int32) = nI 28 ∧ (29 : Int32) = nI 29 ∧ (30 : Int32) = nI 30 ∧ (31 : Int32) = nI 31 ∧ (32 : Int32) = nI 32 ∧ (33 : Int32) = nI 33 ∧ (34 : Int32) = nI 34 ∧ (35 : Int32) = nI 35 ∧ (36 : Int32) = nI 36 ∧ (37 : Int32) = nI 37 ∧ (38 : Int32) = nI 38 ∧ (39 : Int32) = nI 39 ∧ (40 : Int32) = nI 40 ∧ (41 : Int32) = nI 41 ∧ (42 : Int32) = nI 42 ∧ (43 : Int32) = nI 43 ∧ (44 : Int32) = nI 44 ∧ (45 : Int32) = nI 45 ∧ (46 : Int32) = nI 46 ∧ (47 : Int32) = nI 47 ∧ (48 : Int32) = nI 48 ∧ (49 : Int32) = nI 49 ∧ (50 : Int32) = nI 50 ∧ (51 : Int32) = nI 51 ∧ (52 : Int32) = nI 52 ∧ (53 : Int32) = nI 53 ∧ (54 : Int32) = nI 54 ∧ (55 : Int32) = nI 55 ∧ (56 : Int32) = nI 56 ∧ (57 : Int32) = nI 57 ∧ (58 : Int32) = nI 58 ∧ (59 : Int32) = nI 59 ∧ (60 : Int32) = nI 60 ∧ (61 : Int32) = nI 61 ∧ (62 : Int32) = nI 62 ∧ (63 : Int32) = nI 63 ∧ (64 : Int32) = nI 64 ∧ (65 : Int32) = nI 65 ∧ (66 : Int32) = nI 66 ∧ (67 : Int32) = nI 67 ∧ (68 : Int32) = nI 68 ∧ (69 : Int32) = nI 69 ∧ (70 : Int32) = nI 70 ∧ (71 : Int32) = nI 71 ∧ (72 : Int32) = nI 72 ∧ (73 : Int32) = nI 73 ∧ (74 : Int32) = nI 74 ∧ (75 : Int32) = nI 75 ∧ (76 : Int32) = nI 76 ∧ (77 : Int32) = nI 77 ∧ (78 : Int32) = nI 78 ∧ (79 : Int32) = nI 79 ∧ (80 : Int32) = nI 80 ∧ (81 : Int32) = nI 81 ∧ (82 : Int32) = nI 82 ∧ (83 : Int32) = nI 83 ∧ (84 : Int32) = nI 84 ∧ (85 : Int32) = nI 85 ∧ (86 : Int32) = nI 86 ∧ (87 : Int32) = nI 87 ∧ (88 : Int32) = nI 88 ∧ (89 : Int32) = nI 89 ∧ (90 : Int32) = nI 90 ∧ (91 : Int32) = nI 91 ∧ (92 : Int32) = nI 92 ∧ (93 : Int32) = nI 93 ∧ (94 : Int32) = nI 94 ∧ (95 : Int32) = nI 95 ∧ (96 : Int32) = nI 96 ∧ (97 : Int32) = nI 97 ∧ (98 : Int32) = nI 98 ∧ (99 : Int32) = nI 99 ∧ (100 : Int32) = nI 100 ∧ (101 : Int32) = nI 101 ∧ (102 : Int32) = nI 102 ∧ (103 : Int32) = nI 103 ∧ (104 : Int32) = nI 104 ∧ (105 : Int32) = nI 105 ∧ (106 : Int32) = nI 106 ∧ (107 : Int32) = nI 107 ∧ (108 : Int32) = nI 108 ∧ (109 : Int32) = nI 109 ∧ (110 : Int32) = nI 110 ∧ (111 : Int32) = nI 111 ∧ (112 : Int32) = nI 112 ∧ (113 : Int32) = nI 113 ∧ (114 : Int32) = nI 114 ∧ (115 : Int32) = nI 115 ∧ (116 : Int32) = nI 116 ∧ (117 : Int32) = nI 117 ∧ (118 : Int32) = nI 118 ∧ (119 : Int32) = nI 119 ∧ (120 : Int32) = nI 120 ∧ (121 : Int32) = nI 121 ∧ (122 : Int32) = nI 122 ∧ (123 : Int32) = nI 123 ∧ (124 : Int32) = nI 124 ∧ (125 : Int32) = nI 125 ∧ (126 : Int32) = nI 126 ∧ (127 : Int32) = nI 127 ∧ (128 : Int32) = nI 128 ∧ (129 : Int32) = nI 129 ∧ (130 : Int32) = nI 130 ∧ (195 : Int32) = nI 195 ∧ (255 : Int32) = nI 255 ∧ (400 : Int32) = nI 400 ∧ (401 : Int32) = nI 401 ∧ (600 : Int32) = nI 600 := by refine ⟨rfl, rfl, rfl, rfl, rfl, rfl, rfl, rfl, rfl, rfl, rfl, rfl, rfl, rfl, rfl, rfl, rfl, rfl, rfl, rfl, rfl, rfl, rfl, rfl, rfl, rfl, rfl, rfl, rfl, rfl, rfl, rfl, rfl, rfl, rfl, rfl, rfl, rfl, rfl, rfl, rfl, rfl, rfl, rfl, rfl, rfl, rfl, rfl, rfl, rfl, rfl, rfl, rfl, rfl, rfl, rfl, rfl, rfl, rfl, rfl, rfl, rfl, rfl, rfl, rfl, rfl, rfl, rfl, rfl, rfl, rfl, rfl, rfl, rfl, rfl, rfl, rfl, rfl, rfl, rfl, rfl, rfl, rfl, rfl, rfl, rfl, rfl, rfl, rfl, rfl, rfl, rfl, rfl, rfl, rfl, rfl, rfl, rfl, rfl, rfl, rfl, rfl, rfl, rfl, rfl, rfl, rfl, rfl, rfl, rfl, rfl, rfl, rfl, rfl, rfl, rfl, rfl, rfl, rfl, rfl, rfl, rfl, rfl, rfl, rfl, rfl, rfl, rfl, rfl, rfl, rfl, rfl, rfl, rfl, rfl, rfl⟩
theorem z_ix {k n : Nat} (h : k < n) (hn : n < 2 ^ 31) : g_ix (nI k) n = some k := by
  unfold g_ix
  rw [if_neg (nI_in h hn), nI_clamp (by omega)]
theorem z_m1 : (-1 : Int32).toInt = -1 := rfl
theorem z_neI {n : Nat} (h : n < 2 ^ 31) : (nI n = -1) = False := by
  apply eq_false
  intro e
  have := congrArg Int32.toInt e
  rw [nI_toInt h, z_m1] at this
  omega
theorem z_neJ {n : Nat} (h : n < 2 ^ 31) : (-1 = nI n) = False := by
  apply eq_false
  intro e
  have e2 := e.symm
  rw [z_neI h] at e2
  exact e2
theorem z_m1lt {n : Nat} (h : n < 2 ^ 31) : ((-1 : Int32) < nI n) = True := by
  apply eq_true
  rw [Int32.lt_iff_toInt_lt, nI_toInt h, z_m1]
  omega
theorem z_ltm1 {n : Nat} (h : n < 2 ^ 31) : (nI n < (-1 : Int32)) = False := by
  apply eq_false
  rw [Int32.lt_iff_toInt_lt, nI_toInt h, z_m1]
  omega
theorem z_m1le {n : Nat} (h : n < 2 ^ 31) : ((-1 : Int32) ≤ nI n) = True := by
  apply eq_true
  rw [Int32.le_iff_toInt_le, nI_toInt h, z_m1]
  omega
theorem z_lem1 {n : Nat} (h : n < 2 ^ 31) : (nI n ≤ (-1 : Int32)) = False := by
  apply eq_false
  rw [Int32.le_iff_toInt_le, nI_toInt h, z_m1]
  omega
theorem z_lt0 {n : Nat} (h : n < 2 ^ 31) : (nI n < 0) = False := eq_false (nI_pos h)
theorem z_0le {n : Nat} (h : n < 2 ^ 31) : (0 ≤ nI n) = True := eq_true (nI_pos' h)
theorem z_le0 {n : Nat} (h : n < 2 ^ 31) : (nI n ≤ 0) ↔ n = 0 := by
  rw [show (0 : Int32) = nI 0 from rfl, nI_leI h (by decide)]
  omega
theorem z_0lt {n : Nat} (h : n < 2 ^ 31) : (0 < nI n) ↔ 0 < n := by
  rw [show (0 : Int32) = nI 0 from rfl, nI_ltI (by decide) h]
theorem z_eq0 {n : Nat} (h : n < 2 ^ 31) : (nI n = 0) ↔ n = 0 := by
  rw [show (0 : Int32) = nI 0 from rfl, nI_eq h (by decide)]
theorem z_cases (x : Int32) : x < 0 ∨ ∃ k, k < 2 ^ 31 ∧ x = nI k := by
  by_cases h : x < 0
  · exact .inl h
  · exact .inr (nI_of h)
theorem z_neglt {x : Int32} {n : Nat} (hx : x < 0) (h : n < 2 ^ 31) : x < nI n := by
  rw [Int32.lt_iff_toInt_lt] at hx ⊢
  rw [nI_toInt h]
  have : (0 : Int32).toInt = 0 := rfl
  omega
theorem z_negle {x : Int32} {n : Nat} (hx : x < 0) (h : n < 2 ^ 31) : ¬ nI n ≤ x := by
  rw [Int32.le_iff_toInt_le]
  rw [Int32.lt_iff_toInt_lt] at hx
  rw [nI_toInt h]
  have : (0 : Int32).toInt = 0 := rfl
  omega
theorem z_negne {x : Int32} {n : Nat} (hx : x < 0) (h : n < 2 ^ 31) : ¬ x = nI n := by
  rintro rfl
  exact nI_pos h hx
theorem z_fu {n : Nat} (h : n < 100000) : ∃ m, g_fu = m + (n + 1) := ⟨100000 - (n + 1), by unfold g_fu; omega⟩
theorem z_up {α : Type} (f : Nat → Nat → α) (i k : Nat) (v : α) (a b : Nat) : am_up f i k v a b = if a = i ∧ b = k then v else f a b := rfl

/-! rows of numbers -/
def rwI (l : List (Nat × Nat)) (h : am_F) (a w lim n : Nat) (f : Nat → Int32) : Prop := h a 0 = nI w ∧ h a 1 = nI lim ∧ h a 3 = nI n ∧ n ≤ lim ∧ g_ln l (a + 1) = w * lim ∧ w ≤ 6 ∧ lim ≤ 14 ∧ ∀ i, i < w * n → h (a + 1) i = f i
theorem z_mulle {w lim n k c : Nat} (hk : k < n) (hc : c < w) (hn : n ≤ lim) : w * k + c < w * lim ∧ w * k + c < w * n := by
  have h1 : w * (k + 1) ≤ w * n := Nat.mul_le_mul_left w hk
  have h2 : w * n ≤ w * lim := Nat.mul_le_mul_left w hn
  rw [Nat.mul_add] at h1
  omega
theorem z_mulb {w lim : Nat} (h1 : w ≤ 6) (h2 : lim ≤ 14) : w * lim ≤ 84 := Nat.mul_le_mul h1 h2
theorem z_idx {x y z : Int32} {k w c : Nat} (hx : x = nI k) (hy : y = nI w) (hz : z = nI c) : x * y + z = nI (w * k + c) := by
  subst hx; subst hy; subst hz
  rw [pk_mul, nI_add, Nat.mul_comm]
section RW
variable {l : List (Nat × Nat)} {r : am_R} {h : am_F} {a w lim n k c : Nat} {f : Nat → Int32} {x1 x2 v : Int32}
theorem Rw_get_at (H : rwI l h a w lim n f) (hk : k < n) (hc : c < w) : Rw_get l r a (nI k) (nI c) h = some (f (w * k + c)) := by
  obtain ⟨h0, h1, h3, hn, hl, hw, hm, hf⟩ := H
  have hb := z_mulle hk hc hn
  have hb2 := z_mulb hw hm
  unfold Rw_get
  rw [if_neg (nI_pos (by omega)), h3, if_neg (nI_ge hk (by omega)), if_neg (nI_pos (by omega)), h0, if_pos (nI_lt hc (by omega)), z_idx rfl rfl rfl, hl, z_ix hb.1 (by omega)]
  simp only [Option.bind_some]
  rw [hf _ hb.2]
theorem Rw_get_no (H : rwI l h a w lim n f) (hx : x1 < 0 ∨ nI n ≤ x1 ∨ x2 < 0 ∨ nI w ≤ x2) : Rw_get l r a x1 x2 h = some (-1) := by
  obtain ⟨h0, h1, h3, hn, hl, hw, hm, hf⟩ := H
  unfold Rw_get
  rw [h3, h0]
  by_cases c1 : x1 < 0
  · rw [if_pos c1]
  rw [if_neg c1]
  by_cases c2 : nI n ≤ x1
  · rw [if_pos c2]
  rw [if_neg c2]
  by_cases c3 : x2 < 0
  · rw [if_pos c3]
  rw [if_neg c3]
  have c4 : nI w ≤ x2 := by
    rcases hx with hx | hx | hx | hx
    · exact absurd hx c1
    · exact absurd hx c2
    · exact absurd hx c3
    · exact hx
  rw [if_neg (Int32.not_lt.2 c4)]
theorem Rw_cases (n w : Nat) (hn : n ≤ 14) (hw : w ≤ 6) (x1 x2 : Int32) : (∃ k c, k < n ∧ c < w ∧ x1 = nI k ∧ x2 = nI c) ∨ (x1 < 0 ∨ nI n ≤ x1 ∨ x2 < 0 ∨ nI w ≤ x2) := by
  rcases pk_ix x1 (n := n) (by omega) with c1 | c1 | ⟨k, hk, rfl⟩
  · exact .inr (.inl c1)
  · exact .inr (.inr (.inl c1))
  rcases pk_ix x2 (n := w) (by omega) with c1 | c1 | ⟨c, hc, rfl⟩
  · exact .inr (.inr (.inr (.inl c1)))
  · exact .inr (.inr (.inr (.inr c1)))
  exact .inl ⟨k, c, hk, hc, rfl, rfl⟩
theorem Rw_has_at (H : rwI l h a w lim n f) (hk : k < n) (hc : c < w) : Rw_has a (nI k) (nI c) h = 1 := by
  obtain ⟨h0, h1, h3, hn, hl, hw, hm, hf⟩ := H
  unfold Rw_has
  rw [if_neg (nI_pos (by omega)), h3, if_neg (nI_ge hk (by omega)), if_neg (nI_pos (by omega)), h0, if_neg (nI_ge hc (by omega))]
theorem Rw_has_no (H : rwI l h a w lim n f) (hx : x1 < 0 ∨ nI n ≤ x1 ∨ x2 < 0 ∨ nI w ≤ x2) : Rw_has a x1 x2 h = 0 := by
  obtain ⟨h0, h1, h3, hn, hl, hw, hm, hf⟩ := H
  unfold Rw_has
  rw [h3, h0]
  by_cases c1 : x1 < 0
  · rw [if_pos c1]
  rw [if_neg c1]
  by_cases c2 : nI n ≤ x1
  · rw [if_pos c2]
  rw [if_neg c2]
  by_cases c3 : x2 < 0
  · rw [if_pos c3]
  rw [if_neg c3]
  have c4 : nI w ≤ x2 := by
    rcases hx with hx | hx | hx | hx
    · exact absurd hx c1
    · exact absurd hx c2
    · exact absurd hx c3
    · exact hx
  rw [if_pos c4]
theorem Rw_set_at (H : rwI l h a w lim n f) (hk : k < n) (hc : c < w) : Rw_set l r a (nI k) (nI c) v h = some (am_up h (a + 1) (w * k + c) v) := by
  have h1 := Rw_has_at H hk hc
  obtain ⟨h0, _, h3, hn, hl, hw, hm, hf⟩ := H
  have hb := z_mulle hk hc hn
  have hb2 := z_mulb hw hm
  unfold Rw_set
  rw [h1, if_neg (by decide), h0, z_idx rfl rfl rfl, hl, z_ix hb.1 (by omega)]
  rfl
theorem Rw_set_no (H : rwI l h a w lim n f) (hx : x1 < 0 ∨ nI n ≤ x1 ∨ x2 < 0 ∨ nI w ≤ x2) : Rw_set l r a x1 x2 v h = some h := by
  unfold Rw_set
  rw [Rw_has_no H hx, if_pos rfl]
theorem Rw_full_no (H : rwI l h a w lim n f) (hn : n < lim) : Rw_isFull a h = 0 := by
  obtain ⟨h0, h1, h3, _, hl, hw, hm, hf⟩ := H
  unfold Rw_isFull
  rw [h3, h1, if_pos (nI_lt hn (by omega))]
theorem Rw_full_yes (H : rwI l h a w lim lim f) : Rw_isFull a h = 1 := by
  obtain ⟨h0, h1, h3, _, hl, hw, hm, hf⟩ := H
  unfold Rw_isFull
  rw [h3, h1, if_neg (nI_nlt (Nat.le_refl _) (by omega))]
/-- a further row: its cells hold g -/
def rwN (h : am_F) (a w n : Nat) (g : Nat → Int32) : am_F := fun b k => if b = a + 1 ∧ w * n ≤ k ∧ k < w * n + w then g (k - w * n) else if b = a ∧ k = 3 then nI (n + 1) else h b k
theorem Rw_open_l : ∀ (m c fu : Nat) (h : am_F), c + m = w → m < fu → h a 0 = nI w → g_ln l (a + 1) = w * lim → w ≤ 6 → lim ≤ 14 → n < lim → Rw_open_l26 l r a (nI n) fu (nI c) h = some (fun b k => if b = a + 1 ∧ w * n + c ≤ k ∧ k < w * n + w then 0 else h b k) := by
  intro m
  induction m with
  | zero =>
    intro c fu h hc hfu h0 hl hw hm hn
    obtain ⟨fu, rfl⟩ : ∃ q, fu = q + 1 := ⟨fu - 1, by omega⟩
    unfold Rw_open_l26
    rw [h0, if_pos (nI_le (by omega) (by omega))]
    congr 1
    funext b k
    rw [if_neg (by omega)]
  | succ m ih =>
    intro c fu h hc hfu h0 hl hw hm hn
    obtain ⟨fu, rfl⟩ : ∃ q, fu = q + 1 := ⟨fu - 1, by omega⟩
    have hb := z_mulle (w := w) (lim := lim) (n := lim) (k := n) (c := c) hn (by omega) (Nat.le_refl _)
    have hb2 := z_mulb hw hm
    unfold Rw_open_l26
    rw [h0, if_neg (nI_ge (by omega) (by omega)), z_idx rfl rfl rfl, hl, z_ix hb.1 (by omega), Option.bind_some, nI_1, ih (c + 1) fu _ (by omega) (by omega) (by rw [z_up, if_neg (by omega)]; exact h0) hl hw hm hn]
    congr 1
    funext b k
    simp only [z_up]
    repeat' split
    all_goals first | rfl | (exfalso; omega)
theorem Rw_open_at (H : rwI l h a w lim n f) (hn : n < lim) : Rw_open l r a h = some (nI n, rwN h a w n (fun _ => 0)) := by
  have hf := Rw_full_no H hn
  obtain ⟨h0, h1, h3, _, hl, hw, hm, _⟩ := H
  unfold Rw_open
  rw [hf, if_pos rfl, h3, nI_1, show (0 : Int32) = nI 0 from rfl, Rw_open_l w 0 g_fu _ (by omega) (by unfold g_fu; omega) (by rw [z_up, if_neg (by omega)]; exact h0) hl hw hm hn]
  rfl
theorem Rw_add_l {x1 : Nat} : ∀ (m c fu : Nat) (h : am_F) , c + m = w → m < fu → h a 0 = nI w → h a 3 = nI (n + 1) → g_ln l (a + 1) = w * lim → g_ln l x1 = 6 → w ≤ 6 → lim ≤ 14 → n < lim → x1 ≠ a + 1 → Rw_add_l7 l r a x1 (nI n) fu (nI c) h = some (fun b k => if b = a + 1 ∧ w * n + c ≤ k ∧ k < w * n + w then h x1 (k - w * n) else h b k) := by
  intro m
  induction m with
  | zero =>
    intro c fu h hc hfu h0 h3 hl hl1 hw hm hn hx
    obtain ⟨fu, rfl⟩ : ∃ q, fu = q + 1 := ⟨fu - 1, by omega⟩
    unfold Rw_add_l7
    rw [h0, if_pos (nI_le (by omega) (by omega))]
    congr 1
    funext b k
    rw [if_neg (by omega)]
  | succ m ih =>
    intro c fu h hc hfu h0 h3 hl hl1 hw hm hn hx
    obtain ⟨fu, rfl⟩ : ∃ q, fu = q + 1 := ⟨fu - 1, by omega⟩
    have hb := z_mulle (w := w) (lim := lim) (n := lim) (k := n) (c := c) hn (by omega) (Nat.le_refl _)
    have hb2 := z_mulb hw hm
    have hset : Rw_set l r a (nI n) (nI c) (h x1 c) h = some (am_up h (a + 1) (w * n + c) (h x1 c)) := by
      unfold Rw_set Rw_has
      rw [if_neg (nI_pos (by omega)), h3, if_neg (nI_ge (by omega) (by omega)), if_neg (nI_pos (by omega)), h0, if_neg (nI_ge (by omega) (by omega)), if_neg (by decide), z_idx rfl rfl rfl, hl, z_ix hb.1 (by omega)]
      rfl
    unfold Rw_add_l7
    rw [h0, if_neg (nI_ge (by omega) (by omega)), hl1, show Int32.ofNat 6 = nI 6 from rfl, if_neg (nI_ge (by omega) (by omega)), z_ix (by omega) (by omega), Option.bind_some, hset, Option.bind_some, nI_1, ih (c + 1) fu _ (by omega) (by omega) (by rw [z_up, if_neg (by omega)]; exact h0) (by rw [z_up, if_neg (by omega)]; exact h3) hl hl1 hw hm hn hx]
    congr 1
    funext b k
    simp only [z_up]
    by_cases e1 : b = a + 1 ∧ w * n + (c + 1) ≤ k ∧ k < w * n + w
    · rw [if_pos e1, if_neg (by omega), if_pos (by omega)]
    · rw [if_neg e1]
      by_cases e2 : b = a + 1 ∧ k = w * n + c
      · rw [if_pos e2, if_pos (by omega), e2.2]
        congr 1
        omega
      · rw [if_neg e2, if_neg (by omega)]
theorem Rw_add_at {x1 : Nat} (H : rwI l h a w lim n f) (hn : n < lim) (hl1 : g_ln l x1 = 6) (hx : x1 ≠ a + 1) (hx2 : x1 ≠ a) : Rw_add l r a x1 h = some (rwN h a w n (h x1)) := by
  have ho := Rw_open_at (r := r) H hn
  obtain ⟨h0, h1, h3, _, hl, hw, hm, _⟩ := H
  unfold Rw_add
  rw [ho, Option.bind_some]
  simp only
  rw [show (0 : Int32) = nI 0 from rfl, Rw_add_l w 0 g_fu _ (by omega) (by unfold g_fu; omega) (by unfold rwN; rw [if_neg (by omega), if_neg (by omega)]; exact h0) (by unfold rwN; rw [if_neg (by omega), if_pos (by omega)]) hl hl1 hw hm hn hx]
  simp only [Option.bind_some]
  congr 1
  funext b k
  simp only [rwN]
  repeat' split
  all_goals first | rfl | (exfalso; omega)
/-- the rows of another -/
def rwC (h : am_F) (a x w n : Nat) : am_F := fun b k => if b = a + 1 ∧ k < w * n then h (x + 1) k else if b = a ∧ k = 3 then nI n else h b k
theorem z_cx {k n1 n2 : Nat} (h1 : k ≤ n1) (h2 : k ≤ n2) (hk : k < 2 ^ 31) : g_cx (nI k) n1 n2 = some k := by
  unfold g_cx
  rw [nI_clamp hk, if_neg]
  rintro (h | h | h)
  · exact nI_pos hk h
  · omega
  · omega
theorem Rw_copyFrom_at {x lim2 n2 : Nat} {f2 : Nat → Int32} (H : rwI l h a w lim n f) (H2 : rwI l h x w lim2 n2 f2) (hn : n2 ≤ lim) (hx : x ≠ a) (hx2 : x + 1 ≠ a) : Rw_copyFrom l r a x h = some (rwC h a x w n2) := by
  obtain ⟨h0, h1, h3, _, hl, hw, hm, _⟩ := H
  obtain ⟨g0, g1, g3, gn, gl, _, gm, _⟩ := H2
  have hb : w * n2 ≤ w * lim := Nat.mul_le_mul_left w hn
  have hb3 : w * n2 ≤ w * lim2 := Nat.mul_le_mul_left w gn
  have hb2 := z_mulb hw hm
  unfold Rw_copyFrom
  rw [g0, h0, if_pos rfl, h1, g3, if_neg (nI_nlt hn (by omega)), z_up, z_up, if_pos (by omega), if_neg (by omega), h0, pk_mul, Nat.mul_comm n2 w, hl, gl, z_cx hb3 hb (by omega)]
  simp only [Option.bind_some]
  congr 1
  funext b k
  simp only [g_cp, am_row, va_cpy, z_up, rwC]
  by_cases e : b = a + 1
  · subst e
    simp only [if_true, true_and]
    by_cases e2 : k < w * n2
    · rw [if_pos (by omega), if_pos e2, if_neg (by omega)]
      congr 1
      omega
    · rw [if_neg (by omega), if_neg e2]
  · rw [if_neg e, if_neg (fun z : b = a + 1 ∧ k < w * n2 => e z.1)]
/-- without row k -/
def rwD (h : am_F) (a w n k : Nat) : am_F := fun b i => if b = a + 1 ∧ w * k ≤ i ∧ i < w * (n - 1) then h (a + 1) (i + w) else if b = a ∧ i = 3 then nI (n - 1) else h b i
theorem Rw_remove_l {n0 : Nat} : ∀ (m i fu : Nat) (h : am_F), i + m = w * n0 → m < fu → h a 0 = nI w → h a 3 = nI n0 → g_ln l (a + 1) = w * lim → w ≤ 6 → lim ≤ 14 → n0 < lim → Rw_remove_l30 l r a fu (nI i) h = some (fun b k => if b = a + 1 ∧ i ≤ k ∧ k < w * n0 then h (a + 1) (k + w) else h b k) := by
  intro m
  induction m with
  | zero =>
    intro i fu h hc hfu h0 h3 hl hw hm hn
    obtain ⟨fu, rfl⟩ : ∃ q, fu = q + 1 := ⟨fu - 1, by omega⟩
    have hb2 := z_mulb hw hm
    have hb3 : w * n0 ≤ w * lim := Nat.mul_le_mul_left w (by omega)
    unfold Rw_remove_l30
    rw [h0, h3, pk_mul, Nat.mul_comm n0 w, if_pos (nI_le (by omega) (by omega))]
    congr 1
    funext b k
    rw [if_neg (by omega)]
  | succ m ih =>
    intro i fu h hc hfu h0 h3 hl hw hm hn
    obtain ⟨fu, rfl⟩ : ∃ q, fu = q + 1 := ⟨fu - 1, by omega⟩
    have hb2 := z_mulb hw hm
    have hb3 : w * (n0 + 1) ≤ w * lim := Nat.mul_le_mul_left w (by omega)
    rw [Nat.mul_add] at hb3
    unfold Rw_remove_l30
    rw [h0, h3, pk_mul, Nat.mul_comm n0 w, if_neg (nI_ge (by omega) (by omega)), nI_add, hl, z_ix (by omega) (by omega), Option.bind_some, z_ix (by omega) (by omega), Option.bind_some, nI_1, ih (i + 1) fu _ (by omega) (by omega) (by rw [z_up, if_neg (by omega)]; exact h0) (by rw [z_up, if_neg (by omega)]; exact h3) hl hw hm hn]
    congr 1
    funext b k
    simp only [z_up]
    by_cases e1 : b = a + 1 ∧ i + 1 ≤ k ∧ k < w * n0
    · rw [if_pos e1, if_neg (by omega), if_pos (by omega)]
    · rw [if_neg e1]
      by_cases e2 : b = a + 1 ∧ k = i
      · rw [if_pos e2, if_pos (by omega), e2.2]
      · rw [if_neg e2, if_neg (by omega)]
theorem Rw_remove_at (H : rwI l h a w lim n f) (hk : k < n) : Rw_remove l r a (nI k) h = some (rwD h a w n k) := by
  obtain ⟨h0, h1, h3, hn, hl, hw, hm, _⟩ := H
  have hb : w * k ≤ w * (n - 1) := Nat.mul_le_mul_left w (by omega)
  have hb2 := z_mulb hw hm
  unfold Rw_remove
  rw [if_neg (nI_pos (by omega)), h3, if_pos (nI_lt hk (by omega)), z_up, if_neg (by omega), h0, pk_mul, show nI n - 1 = nI (n - 1) by rw [show (1 : Int32) = nI 1 from rfl, pk_sub (by omega)], Nat.mul_comm k w, Rw_remove_l (n0 := n - 1) (w * (n - 1) - w * k) (w * k) g_fu _ (by omega) (by unfold g_fu; have : w * (n - 1) ≤ w * lim := Nat.mul_le_mul_left w (by omega); omega) (by rw [z_up, if_neg (by omega)]; exact h0) (by rw [z_up, if_pos (by omega)]) hl hw hm (by omega)]
  simp only [Option.bind_some]
  congr 1
  funext b i
  simp only [z_up, rwD]
  repeat' split
  all_goals first | rfl | (exfalso; omega)
end RW
theorem fill_l {l : List (Nat × Nat)} {r : am_R} {b N : Nat} {v : Int32} : ∀ (m i fu : Nat) (h : am_F), i + m = N → m < fu → N < 100000 → g_ln l b = N → Ar_fill_l5 l r b v (nI N) fu (nI i) h = some (fun c k => if c = b ∧ i ≤ k ∧ k < N then v else h c k) := by
  intro m
  induction m with
  | zero =>
    intro i fu h hc hfu hN hl
    obtain ⟨fu, rfl⟩ : ∃ q, fu = q + 1 := ⟨fu - 1, by omega⟩
    unfold Ar_fill_l5
    rw [if_pos (nI_le (by omega) (by omega))]
    congr 1
    funext b k
    rw [if_neg (by omega)]
  | succ m ih =>
    intro i fu h hc hfu hN hl
    obtain ⟨fu, rfl⟩ : ∃ q, fu = q + 1 := ⟨fu - 1, by omega⟩
    unfold Ar_fill_l5
    rw [if_neg (nI_ge (by omega) (by omega)), hl, z_ix (by omega) (by omega), Option.bind_some, nI_1, ih (i + 1) fu _ (by omega) (by omega) hN hl]
    congr 1
    funext c k
    simp only [z_up]
    repeat' split
    all_goals first | rfl | (exfalso; omega)
/-- an array full of one number -/
def fillA (h : am_F) (b n : Nat) (v : Int32) : am_F := fun c k => if c = b ∧ k < n then v else h c k
theorem Ar_fill_at {l : List (Nat × Nat)} {r : am_R} {h : am_F} {b N : Nat} {v : Int32} (hl : g_ln l b = N) (hN : N < 100000) : Ar_fill l r b v h = some (fillA h b N v) := by
  unfold Ar_fill
  rw [hl, show Int32.ofNat N = nI N from rfl, show (0 : Int32) = nI 0 from rfl, fill_l N 0 g_fu h (by omega) (by unfold g_fu; omega) hN hl]
  simp only [Option.bind_some]
  congr 1
  funext c k
  simp only [fillA]
  repeat' split
  all_goals first | rfl | (exfalso; omega)
