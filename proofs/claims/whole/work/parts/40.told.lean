/-! what is told: class and reference -/
theorem pkV_congr {g g' : Nat → Int32} (e : ∀ i, i < 195 → g' i = g i) (V : pkV g) : pkV g' := by
  have hb := zN_V (pv_nb V) (by decide)
  have hm := zN_V (pv_nm V) (by decide)
  have hp := zN_V (pv_np V) (by decide)
  have hc := zN_V (pv_nc V) (by decide)
  unfold pkV
  rw [e 0 (by decide), e 1 (by decide), e 2 (by decide), e 3 (by decide), e 4 (by decide), e 5 (by decide), e 6 (by decide)]
  refine ⟨pv_fresh V, pv_sticky V, pv_belief V, pv_nb V, pv_nm V, pv_np V, pv_nc V, ?_, ?_, ?_, ?_, ?_, ?_⟩
  · intro i hi
    rw [e _ (by omega)]
    exact pv_rate V i hi
  · intro b hb
    rw [e _ (by omega), e _ (by omega), e _ (by omega)]
    exact pv_bench V b hb
  · intro b hb
    rw [e _ (by omega)]
    exact pv_slats V b hb
  · intro k hk
    rw [e _ (by omega), e _ (by omega), e _ (by omega)]
    exact pv_maybe V k hk
  · intro k hk
    rw [e _ (by omega), e _ (by omega)]
    exact pv_pigeon V k hk
  · intro k hk
    rw [e _ (by omega), e _ (by omega), e _ (by omega), e _ (by omega), e _ (by omega), e _ (by omega)]
    exact pv_comer V k hk
theorem sumR_congr {g g' : Nat → Int32} (e : ∀ i, i < 195 → g' i = g i) (p : Nat) : ∀ n, sumR g' p n = sumR g p n := by
  intro n
  induction n with
  | zero => rfl
  | succ n ih =>
    show sumR g' p n + rateN g' (p + n) = sumR g p n + rateN g (p + n)
    unfold rateN
    rw [ih, e _ (by omega)]
theorem rwI_congr {l : List (Nat × Nat)} {h : am_F} {a w lim n : Nat} {f f' : Nat → Int32} (e : ∀ i, i < w * n → f' i = f i) (H : rwI l h a w lim n f) : rwI l h a w lim n f' := ⟨H.1, H.2.1, H.2.2.1, H.2.2.2.1, H.2.2.2.2.1, H.2.2.2.2.2.1, H.2.2.2.2.2.2.1, fun i hi => (H.2.2.2.2.2.2.2 i hi).trans (e i hi).symm⟩
theorem pkI_congr {l : List (Nat × Nat)} {h : am_F} {p : Nat} {g g' : Nat → Int32} (e : ∀ i, i < 195 → g' i = g i) (V : pkV g) (H : pkI l h p g) : pkI l h p g' := by
  have hb := zN_V (pv_nb V) (by decide)
  have hm := zN_V (pv_nm V) (by decide)
  have hp := zN_V (pv_np V) (by decide)
  have hc := zN_V (pv_nc V) (by decide)
  obtain ⟨h0, h1, h2, h3, h4, h5, h6, h7⟩ := H
  unfold pkI
  rw [e 0 (by decide), e 1 (by decide), e 2 (by decide), e 3 (by decide), e 4 (by decide), e 5 (by decide), e 6 (by decide)]
  refine ⟨h0, ?_, ?_, ?_, ?_, rwI_congr (fun i hi => e _ (by omega)) h5, rwI_congr (fun i hi => e _ (by omega)) h6, rwI_congr (fun i hi => e _ (by omega)) h7⟩
  · intro i hi
    rw [e _ (by omega)]
    exact h1 i hi
  · intro i hi
    rw [sumR_congr e]
    exact h2 i hi
  · intro b hb
    rw [e _ (by omega)]
    exact h3 b hb
  · intro b hb
    rw [e _ (by omega), e _ (by omega), e _ (by omega)]
    exact h4 b hb
def slG (hm : am_F) (m k q : Nat) : Nat → Int32 := fun i => hm (m + 6) (195 * (2 * k + q) + i)
def siG (hm : am_F) (m k q : Nat) : Nat → Int32 := fun i => hm (m + 7) (31 * (2 * k + q) + 1 + i)
def alG (hm : am_F) (m k q : Nat) : Nat → Int32 := fun i => hm (m + 8) (33 * (2 * k + q) + 1 + i)
def plG (hm : am_F) (m k q : Nat) : Nat → Int32 := fun i => hm (m + 9) (19 * (2 * k + q) + 1 + i)
def prV (f : Nat → Int32) (s : Nat) : Prop := ∀ k, k < s → zN (f (3 * k)) 3 ∧ zN (f (3 * k + 1)) 6 ∧ zN (f (3 * k + 2)) 48
def alV (f : Nat → Int32) (s : Nat) : Prop := ∀ k, k < s → ∃ t o u v, f (4 * k) = nI t ∧ f (4 * k + 1) = nI o ∧ f (4 * k + 2) = nI u ∧ f (4 * k + 3) = nI v ∧ t ≤ o ∧ 1 ≤ o ∧ o ≤ 20 ∧ u ≤ 99 ∧ v ≤ 99
def plV (f : Nat → Int32) (s : Nat) : Prop := ∀ k, k < s → zN (f (3 * k)) 6 ∧ zN (f (3 * k + 1)) 48 ∧ zN (f (3 * k + 2)) 48
/-- what is told of sorts, class's Told at b against the reference's place k -/
def tdB (l : List (Nat × Nat)) (hc : am_F) (b : Nat) (hm : am_F) (m k : Nat) (n : Nat → Nat) : Prop :=
  (∀ s, s < 4 → n s ≤ 2 ∧ hc (b + 2) s = nI (n s) ∧ hm (m + 5) (4 * k + s) = nI (n s)) ∧
  (∀ q, q < n 0 → pkI l hc (b + 5 + 19 * q) (slG hm m k q) ∧ pkV (slG hm m k q) ∧ ∀ y, y < 6 → hc (b + 5 + 19 * q + 6) y = slG hm m k q (58 + 4 * y)) ∧
  (∀ q, q < n 1 → ∃ s, s ≤ 10 ∧ hm (m + 7) (31 * (2 * k + q)) = nI s ∧ rwI l hc (b + 18 + 19 * q) 3 10 s (siG hm m k q) ∧ prV (siG hm m k q) s) ∧
  (∀ q, q < n 2 → ∃ s, s ≤ 8 ∧ hm (m + 8) (33 * (2 * k + q)) = nI s ∧ rwI l hc (b + 20 + 19 * q) 4 8 s (alG hm m k q) ∧ alV (alG hm m k q) s) ∧
  (∀ q, q < n 3 → ∃ s, s ≤ 6 ∧ hm (m + 9) (19 * (2 * k + q)) = nI s ∧ rwI l hc (b + 22 + 19 * q) 3 6 s (plG hm m k q) ∧ plV (plG hm m k q) s)
/-- where parks and rows of a Told lie -/
def tdW (r : am_R) (b : Nat) : Prop := (∀ q, q < 2 → r (b + 3) q = some (b + 5 + 19 * q)) ∧ ∀ q, q < 2 → r (b + 4) (2 + q) = some (b + 18 + 19 * q) ∧ r (b + 4) (4 + q) = some (b + 20 + 19 * q) ∧ r (b + 4) (6 + q) = some (b + 22 + 19 * q)
section TOLD
variable {l : List (Nat × Nat)} {r : am_R} {hc hm : am_F} {b m k : Nat} {n : Nat → Nat} {x y : Int32}
theorem parkAt_yes {q : Nat} (W : tdW r b) (B : tdB l hc b hm m k n) (hq : q < n 0) : Tl_parkAt l r b (nI q) hc = some (some (b + 5 + 19 * q)) := by
  obtain ⟨h2, e1, _⟩ := B.1 0 (by decide)
  unfold Tl_parkAt
  rw [if_neg (nI_pos (by omega)), show (2 : Int32) = nI 2 from rfl, if_neg (nI_ge (by omega) (by decide)), e1, if_pos (nI_lt hq (by omega)), z_ix (by omega) (by decide), Option.bind_some, W.1 q (by omega)]
theorem parkAt_no (B : tdB l hc b hm m k n) (hx : x < 0 ∨ nI (n 0) ≤ x) : Tl_parkAt l r b x hc = some none := by
  obtain ⟨h2, e1, _⟩ := B.1 0 (by decide)
  unfold Tl_parkAt
  rw [e1]
  by_cases c1 : x < 0
  · rw [if_pos c1]
  · rw [if_neg c1]
    rcases hx with hx | hx
    · exact absurd hx c1
    · by_cases c2 : (2 : Int32) ≤ x
      · rw [if_pos c2]
      · rw [if_neg c2, if_neg (Int32.not_lt.2 hx)]
theorem Md_in_yes {a b c : Nat} (h1 : a ≤ b) (h2 : b ≤ c) (hc : c < 2 ^ 31) : Md_in (nI b) (nI a) (nI c) = 1 := by
  unfold Md_in
  rw [if_neg (nI_nlt h1 (by omega)), if_neg (nI_nlt h2 hc)]
theorem Md_in_no {x lo hi : Int32} (h : x < lo ∨ hi < x) : Md_in x lo hi = 0 := by
  unfold Md_in
  by_cases c : x < lo
  · rw [if_pos c]
  · rw [if_neg c, if_pos (h.elim (fun e => absurd e c) id)]
theorem z_lt_sub1 {n : Nat} (hn : n < 2 ^ 30) (h : nI n ≤ x) : nI n - 1 < x := by
  rw [Int32.lt_iff_toInt_lt, show (1 : Int32) = nI 1 from rfl, pk_sub_toInt hn (by decide)]
  rw [Int32.le_iff_toInt_le, nI_toInt (by omega)] at h
  omega
theorem Md_in_below {n q : Nat} (hn : n < 2 ^ 30) (h : q < n) : Md_in (nI q) 0 (nI n - 1) = 1 := by
  rw [show (1 : Int32) = nI 1 from rfl, pk_sub (by omega), show (0 : Int32) = nI 0 from rfl, Md_in_yes (Nat.zero_le _) (by omega) (by omega)]
  rfl
theorem Md_in_above {n : Nat} (hn : n < 2 ^ 30) (h : x < 0 ∨ nI n ≤ x) : Md_in x 0 (nI n - 1) = 0 := by
  apply Md_in_no
  rcases h with h | h
  · exact .inl h
  · exact .inr (z_lt_sub1 hn h)
theorem Md_is_yes {s q N : Nat} (hs : s < 16) (e : hm (m + 5) s = nI N) (hN : N < 100) (hq : q < N) : Md_is m (nI s) (nI q) hm = some 1 := by
  unfold Md_is
  rw [z_ix hs (by decide), Option.bind_some, e, Md_in_below (by omega) hq]
  rfl
theorem Md_is_no {s N : Nat} (hs : s < 16) (e : hm (m + 5) s = nI N) (hN : N < 100) (hq : x < 0 ∨ nI N ≤ x) : Md_is m (nI s) x hm = some 0 := by
  unfold Md_is
  rw [z_ix hs (by decide), Option.bind_some, e, Md_in_above (by omega) hq]
  rfl
theorem hand_l {q : Nat} (hq : q < 8) : ∀ (c i fu : Nat) (h : am_F), i + c = 195 → c < fu → Md_hand_l13 m (nI q) fu (nI i) h = some (fun x y => if x = m + 12 ∧ i ≤ y ∧ y < 195 then h (m + 6) (195 * q + y) else h x y) := by
  intro c
  induction c with
  | zero =>
    intro i fu h hi hfu
    obtain ⟨fu, rfl⟩ : ∃ q, fu = q + 1 := ⟨fu - 1, by omega⟩
    unfold Md_hand_l13
    rw [show (195 : Int32) = nI 195 from rfl, if_pos (nI_le (by omega) (by omega))]
    congr 1
    funext x y
    rw [if_neg (by omega)]
  | succ c ih =>
    intro i fu h hi hfu
    obtain ⟨fu, rfl⟩ : ∃ q, fu = q + 1 := ⟨fu - 1, by omega⟩
    unfold Md_hand_l13
    rw [show (195 : Int32) = nI 195 from rfl, if_neg (nI_ge (by omega) (by omega)), pk_mul, nI_add, z_ix (by omega) (by decide), Option.bind_some, z_ix (by omega) (by decide), Option.bind_some, nI_1, ih (i + 1) fu _ (by omega) (by omega)]
    congr 1
    funext x y
    simp only [z_up]
    by_cases c1 : x = m + 12 ∧ i + 1 ≤ y ∧ y < 195
    · rw [if_pos c1, if_pos (show x = m + 12 ∧ i ≤ y ∧ y < 195 by omega), if_neg (by omega)]
    · rw [if_neg c1]
      by_cases c2 : x = m + 12 ∧ y = i
      · rw [if_pos c2, if_pos (by omega), c2.2]
      · rw [if_neg c2, if_neg (by omega)]
theorem hand_yes {q N : Nat} (e : hm (m + 5) 0 = nI N) (hN : N ≤ 2) (hq : q < N) : ∃ h', Md_hand m (nI q) hm = some (1, h') ∧ (∀ i, i < 195 → h' (m + 12) i = hm (m + 6) (195 * q + i)) ∧ ∀ x, x ≠ m + 12 → h' x = hm x := by
  unfold Md_hand
  rw [show (0 : Int32) = nI 0 from rfl, Md_is_yes (by decide) e (by omega) hq, Option.bind_some, if_neg (by decide), hand_l (by omega) 195 0 g_fu hm (by omega) (by unfold g_fu; omega), Option.bind_some]
  refine ⟨_, rfl, ?_, ?_⟩
  · intro i hi
    simp only [true_and]
    rw [if_pos (by omega)]
  · intro x hx
    funext y
    rw [if_neg (fun z => hx z.1)]
theorem hand_no {N : Nat} (e : hm (m + 5) 0 = nI N) (hN : N ≤ 2) (hq : x < 0 ∨ nI N ≤ x) : Md_hand m x hm = some (0, hm) := by
  unfold Md_hand
  rw [show (0 : Int32) = nI 0 from rfl, Md_is_no (by decide) e (by omega) hq, Option.bind_some, if_pos (show (0 : Int32) = nI 0 from rfl)]
/-- what the reference's answers to questions leave as it is -/
def scM (hm hm' : am_F) (m : Nat) : Prop := ∀ x, x < m ∨ (m < x ∧ x < m + 10) ∨ m + 27 ≤ x → hm' x = hm x
theorem scM_id : scM hm hm m := fun _ _ => rfl
theorem scM_tr {h1 h2 h3 : am_F} (a : scM h1 h2 m) (b : scM h2 h3 m) : scM h1 h3 m := fun x hx => (b x hx).trans (a x hx)
theorem scM_fr {h1 h2 : am_F} (a : frM h1 h2 m) : scM h1 h2 m := fun x hx => a.2 x (by omega)
theorem scM_up {h : am_F} {i k : Nat} {v : Int32} (h1 : i = m ∨ (m + 10 ≤ i ∧ i < m + 27)) : scM h (am_up h i k v) m := fun x hx => z_upr (by omega)
theorem pk_case (W : tdW r b) (B : tdB l hc b hm m 0 n) (x : Int32) : (∃ q g h', q < 2 ∧ Tl_parkAt l r b x hc = some (some (b + 5 + 19 * q)) ∧ x = nI q ∧ q < n 0 ∧ Md_hand m x (am_up hm m 0 0) = some (1, h') ∧ h' (m + 12) = g ∧ pkI l hc (b + 5 + 19 * q) g ∧ pkV g ∧ (∀ y, y < 6 → hc (b + 5 + 19 * q + 6) y = g (58 + 4 * y)) ∧ scM hm h' m) ∨ (Tl_parkAt l r b x hc = some none ∧ Md_hand m x (am_up hm m 0 0) = some (0, am_up hm m 0 0)) := by
  obtain ⟨h2, e1, e2⟩ := B.1 0 (by decide)
  have e3 : (am_up hm m 0 0) (m + 5) 0 = nI (n 0) := by rw [z_upr (by omega)]; exact e2
  rcases pk_ix x (n := n 0) (by omega) with c | c | ⟨q, hq, rfl⟩
  · exact .inr ⟨parkAt_no B (.inl c), hand_no e3 h2 (.inl c)⟩
  · exact .inr ⟨parkAt_no B (.inr c), hand_no e3 h2 (.inr c)⟩
  · obtain ⟨h', f1, f2, f3⟩ := hand_yes e3 h2 hq
    obtain ⟨P1, P2, P3⟩ := B.2.1 q hq
    have ee : ∀ i, i < 195 → h' (m + 12) i = slG hm m 0 q i := by
      intro i hi
      rw [f2 i hi, z_upr (by omega)]
      unfold slG
      congr 1
      omega
    refine .inl ⟨q, h' (m + 12), h', by omega, parkAt_yes W B hq, rfl, hq, f1, rfl, pkI_congr ee P2 P1, pkV_congr ee P2, ?_, ?_⟩
    · intro y hy
      rw [P3 y hy, ee _ (by omega)]
    · intro x hx
      rw [f3 x (by omega), z_upr (by omega)]
end TOLD
