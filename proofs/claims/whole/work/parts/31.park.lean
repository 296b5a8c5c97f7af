/-! a park as a row of numbers: what is true of it, and what the class and the reference make of it -/
theorem z_nem {n : Nat} (h : n < 2 ^ 31) : ¬ nI n = -1 := by
  rw [z_neI h]
  exact id
def nV (x : Int32) : Nat := x.toNatClampNeg
def zN (x : Int32) (N : Nat) : Prop := ∃ n, n < N ∧ x = nI n
def zP (x : Int32) : Prop := x = -1 ∨ zN x 48
theorem nV_nI {n : Nat} (h : n < 2 ^ 31) : nV (nI n) = n := nI_clamp h
theorem zN_V {x : Int32} {N : Nat} (h : zN x N) (hN : N ≤ 2 ^ 31) : x = nI (nV x) ∧ nV x < N := by
  obtain ⟨n, hn, rfl⟩ := h
  rw [nV_nI (by omega)]
  exact ⟨rfl, hn⟩
def pkV (g : Nat → Int32) : Prop := (zN (g 0) 61 ∧ 1 ≤ nV (g 0)) ∧ (zN (g 1) 61) ∧ (zN (g 2) 101) ∧ (zN (g 3) 7) ∧ (zN (g 4) 9) ∧ (zN (g 5) 5) ∧ (zN (g 6) 15) ∧ (∀ i, i < 48 → zN (g (7 + i)) 10) ∧ (∀ b, b < 6 → zP (g (56 + 4 * b)) ∧ zP (g (57 + 4 * b)) ∧ zP (g (58 + 4 * b))) ∧ (∀ b, b < nV (g 3) → zN (g (55 + 4 * b)) 10 ∧ 1 ≤ nV (g (55 + 4 * b))) ∧ (∀ k, k < nV (g 4) → zN (g (79 + 3 * k)) (nV (g 3)) ∧ zN (g (79 + (3 * k + 1))) 48 ∧ zN (g (79 + (3 * k + 2))) 10 ∧ 1 ≤ nV (g (79 + (3 * k + 2)))) ∧ (∀ k, k < nV (g 5) → zN (g (103 + 2 * k)) (nV (g 3)) ∧ zN (g (103 + (2 * k + 1))) 48) ∧ (∀ k, k < nV (g 6) → zN (g (111 + 6 * k)) 5 ∧ zN (g (111 + (6 * k + 1))) 48 ∧ zN (g (111 + (6 * k + 2))) (nV (g 3)) ∧ zN (g (111 + (6 * k + 3))) 10 ∧ zN (g (111 + (6 * k + 4))) 10 ∧ zN (g (111 + (6 * k + 5))) 10)
theorem pv_fresh {g : Nat → Int32} (V : pkV g) : zN (g 0) 61 ∧ 1 ≤ nV (g 0) := V.1
theorem pv_sticky {g : Nat → Int32} (V : pkV g) : zN (g 1) 61 := V.2.1
theorem pv_belief {g : Nat → Int32} (V : pkV g) : zN (g 2) 101 := V.2.2.1
theorem pv_nb {g : Nat → Int32} (V : pkV g) : zN (g 3) 7 := V.2.2.2.1
theorem pv_nm {g : Nat → Int32} (V : pkV g) : zN (g 4) 9 := V.2.2.2.2.1
theorem pv_np {g : Nat → Int32} (V : pkV g) : zN (g 5) 5 := V.2.2.2.2.2.1
theorem pv_nc {g : Nat → Int32} (V : pkV g) : zN (g 6) 15 := V.2.2.2.2.2.2.1
theorem pv_rate {g : Nat → Int32} (V : pkV g) : ∀ i, i < 48 → zN (g (7 + i)) 10 := V.2.2.2.2.2.2.2.1
theorem pv_bench {g : Nat → Int32} (V : pkV g) : ∀ b, b < 6 → zP (g (56 + 4 * b)) ∧ zP (g (57 + 4 * b)) ∧ zP (g (58 + 4 * b)) := V.2.2.2.2.2.2.2.2.1
theorem pv_slats {g : Nat → Int32} (V : pkV g) : ∀ b, b < nV (g 3) → zN (g (55 + 4 * b)) 10 ∧ 1 ≤ nV (g (55 + 4 * b)) := V.2.2.2.2.2.2.2.2.2.1
theorem pv_maybe {g : Nat → Int32} (V : pkV g) : ∀ k, k < nV (g 4) → zN (g (79 + 3 * k)) (nV (g 3)) ∧ zN (g (79 + (3 * k + 1))) 48 ∧ zN (g (79 + (3 * k + 2))) 10 ∧ 1 ≤ nV (g (79 + (3 * k + 2))) := V.2.2.2.2.2.2.2.2.2.2.1
theorem pv_pigeon {g : Nat → Int32} (V : pkV g) : ∀ k, k < nV (g 5) → zN (g (103 + 2 * k)) (nV (g 3)) ∧ zN (g (103 + (2 * k + 1))) 48 := V.2.2.2.2.2.2.2.2.2.2.2.1
theorem pv_comer {g : Nat → Int32} (V : pkV g) : ∀ k, k < nV (g 6) → zN (g (111 + 6 * k)) 5 ∧ zN (g (111 + (6 * k + 1))) 48 ∧ zN (g (111 + (6 * k + 2))) (nV (g 3)) ∧ zN (g (111 + (6 * k + 3))) 10 ∧ zN (g (111 + (6 * k + 4))) 10 ∧ zN (g (111 + (6 * k + 5))) 10 := V.2.2.2.2.2.2.2.2.2.2.2.2
def rateN (g : Nat → Int32) (t : Nat) : Nat := nV (g (7 + min t 47))
def sumR (g : Nat → Int32) (p : Nat) : Nat → Nat
  | 0 => 0
  | n + 1 => sumR g p n + rateN g (p + n)
theorem sumR_add (g : Nat → Int32) (p m : Nat) : ∀ n, sumR g p (m + n) = sumR g p m + sumR g (p + m) n := by
  intro n
  induction n with
  | zero => rfl
  | succ n ih =>
    show sumR g p (m + n) + rateN g (p + (m + n)) = sumR g p m + (sumR g (p + m) n + rateN g (p + m + n))
    rw [ih, Nat.add_assoc p m n]
    omega
theorem rateN_le {g : Nat → Int32} (V : pkV g) (t : Nat) : rateN g t ≤ 9 := by
  have := (zN_V (pv_rate V (min t 47) (by omega)) (by decide)).2
  unfold rateN
  omega
theorem rateN_eq {g : Nat → Int32} (V : pkV g) (t : Nat) : g (7 + min t 47) = nI (rateN g t) := (zN_V (pv_rate V (min t 47) (by omega)) (by decide)).1
theorem sumR_le {g : Nat → Int32} (V : pkV g) (p : Nat) : ∀ n, sumR g p n ≤ 9 * n := by
  intro n
  induction n with
  | zero => exact Nat.le_refl _
  | succ n ih =>
    have := rateN_le V (p + n)
    show sumR g p n + rateN g (p + n) ≤ _
    omega
def wetX (g : Nat → Int32) (x : Int32) (t : Nat) : Nat := if x = -1 then 0 else if t < nV x then 0 else nV (g 0) - sumR g (nV x) (t - nV x)
def stN (g : Nat → Int32) (w : Nat) : Nat := if w ≤ nV (g 1) then (if w = 0 then 0 else 1) else 2
def stX (g : Nat → Int32) (x : Int32) (t : Nat) : Nat := stN g (wetX g x t)
theorem stN_lt (g : Nat → Int32) (w : Nat) : stN g w < 3 := by
  unfold stN
  repeat' split
  all_goals omega
theorem wetX_p {g : Nat → Int32} {p t : Nat} (hp : p < 2 ^ 31) : wetX g (nI p) t = if t < p then 0 else nV (g 0) - sumR g p (t - p) := by
  unfold wetX
  rw [if_neg (z_nem hp), nV_nI hp]
theorem wetX_le {g : Nat → Int32} (V : pkV g) (x : Int32) (t : Nat) : wetX g x t ≤ 60 := by
  have := (zN_V (pv_fresh V).1 (by decide)).2
  unfold wetX
  repeat' split
  all_goals omega
def dryF (g : Nat → Int32) (p : Nat) : Nat → Nat → Nat
  | 0, s => s
  | m + 1, s => if nV (g 0) ≤ sumR g p (s - p) then s else dryF g p m (s + 1)
def driX (g : Nat → Int32) (x : Int32) : Nat := if x = -1 then 0 else dryF g (nV x) (48 - nV x) (nV x)
theorem dryF_le (g : Nat → Int32) (p : Nat) : ∀ m s, dryF g p m s ≤ s + m := by
  intro m
  induction m with
  | zero => intro s; exact Nat.le_refl _
  | succ m ih =>
    intro s
    unfold dryF
    split
    · omega
    · have := ih (s + 1); omega
def pkI (l : List (Nat × Nat)) (h : am_F) (a : Nat) (g : Nat → Int32) : Prop := (h a 0 = g 0 ∧ h a 1 = g 1 ∧ h a 2 = g 2 ∧ h a 3 = g 3) ∧ (∀ i, i < 48 → h (a + 1) i = g (7 + i)) ∧ (∀ i, i < 48 → h (a + 2) i = nI (sumR g 0 i)) ∧ (∀ b, b < nV (g 3) → h (a + 3) b = g (55 + 4 * b)) ∧ (∀ b, b < 6 → h (a + 4) b = g (56 + 4 * b) ∧ h (a + 5) b = g (57 + 4 * b) ∧ (g (57 + 4 * b) ≠ -1 → h (a + 6) b = g (58 + 4 * b))) ∧ rwI l h (a + 7) 3 8 (nV (g 4)) (fun i => g (79 + i)) ∧ rwI l h (a + 9) 2 4 (nV (g 5)) (fun i => g (103 + i)) ∧ rwI l h (a + 11) 6 14 (nV (g 6)) (fun i => g (111 + i))
theorem z_subT {a b : Nat} (ha : a < 2 ^ 30) (hb : b < 2 ^ 30) : (nI a - nI b ≤ 0) ↔ a ≤ b := by
  rw [Int32.le_iff_toInt_le, pk_sub_toInt ha hb, show (0 : Int32).toInt = 0 from rfl]
  omega
theorem z_subG {a b : Nat} (ha : a < 2 ^ 30) (hb : b < 2 ^ 30) : Md_greater 0 (nI a - nI b) = nI (a - b) := by
  unfold Md_greater
  by_cases h : a ≤ b
  · by_cases h2 : a = b
    · subst h2
      rw [show nI a - nI a = nI (a - a) from pk_sub (Nat.le_refl _), Nat.sub_self]
      rfl
    · rw [if_neg, show a - b = 0 by omega]
      · rfl
      · rw [Int32.le_iff_toInt_le, pk_sub_toInt ha hb, show (0 : Int32).toInt = 0 from rfl]
        omega
  · rw [pk_sub (by omega), if_pos (nI_pos' (by omega))]
theorem z_sub3 (x y z : Int32) : x - y - z = x - (y + z) := by grind
section PK
variable {l : List (Nat × Nat)} {r : am_R} {h : am_F} {a b t p k : Nat} {g : Nat → Int32} {x y : Int32}
theorem Pk_hasBench_at (H : pkI l h a g) (V : pkV g) (hb : b < nV (g 3)) : Pk_hasBench a (nI b) h = 1 := by
  have h3 := zN_V (pv_nb V) (by decide)
  unfold Pk_hasBench
  rw [H.1.2.2.2, h3.1, if_neg (nI_pos (by omega)), if_neg (nI_ge hb (by omega)), show (6 : Int32) = nI 6 from rfl, if_neg (nI_ge (by omega) (by omega))]
theorem Pk_hasBench_no (H : pkI l h a g) (hx : x < 0 ∨ g 3 ≤ x) : Pk_hasBench a x h = 0 := by
  unfold Pk_hasBench
  rw [H.1.2.2.2]
  rcases hx with hx | hx
  · rw [if_pos hx]
  · by_cases c : x < 0
    · rw [if_pos c]
    · rw [if_neg c, if_pos hx]
theorem bench_cases (V : pkV g) (x : Int32) : (∃ b, b < nV (g 3) ∧ x = nI b) ∨ (x < 0 ∨ g 3 ≤ x) := by
  have h3 := zN_V (pv_nb V) (by decide)
  rcases pk_ix x (n := nV (g 3)) (by omega) with c | c | c
  · exact .inr (.inl c)
  · exact .inr (.inr (by rw [h3.1]; exact c))
  · exact .inl c
theorem Pk_wetness_at (H : pkI l h a g) (V : pkV g) (hx : zP x) (ht : t < 48) : Pk_wetness a x (nI t) h = some (nI (wetX g x t)) := by
  unfold Pk_wetness
  rcases hx with rfl | ⟨p, hp, rfl⟩
  · rw [if_pos (by decide)]
    rfl
  · rw [if_neg (nI_pos (by omega)), wetX_p (by omega)]
    by_cases c : t < p
    · rw [if_pos (nI_lt c (by omega)), if_pos c]
      rfl
    · have F := zN_V (pv_fresh V).1 (by decide)
      have hs := sumR_add g 0 p (t - p)
      rw [Nat.zero_add, show p + (t - p) = t by omega] at hs
      have b1 := sumR_le V 0 t
      rw [if_neg (nI_nlt (by omega) (by omega)), if_neg c, show (48 : Int32) = nI 48 from rfl, if_pos (nI_lt ht (by omega)), z_ix ht (by decide), Option.bind_some, z_ix hp (by decide), Option.bind_some, H.1.1, H.2.2.1 t ht, H.2.2.1 p hp, F.1, pk_sub (by omega)]
      by_cases c2 : nV (g 0) ≤ sumR g 0 t - sumR g 0 p
      · rw [if_pos ((z_subT (by omega) (by omega)).2 c2), nV_nI (by omega), show nV (g 0) - sumR g p (t - p) = 0 by omega]
        rfl
      · rw [if_neg (fun e => c2 ((z_subT (by omega) (by omega)).1 e)), pk_sub (by omega), nV_nI (by omega), show nV (g 0) - sumR g p (t - p) = nV (g 0) - (sumR g 0 t - sumR g 0 p) by omega]
theorem Pk_stageBy_at (H : pkI l h a g) (V : pkV g) {w : Nat} (hw : w < 1000) : Pk_stageBy a (nI w) h = nI (stN g w) := by
  have S := zN_V (pv_sticky V) (by decide)
  unfold Pk_stageBy stN
  rw [H.1.2.1, S.1, nV_nI (by omega)]
  by_cases c : w ≤ nV (g 1)
  · rw [if_pos (nI_le c (by omega)), if_pos c]
    by_cases c2 : w = 0
    · rw [if_pos c2, if_pos ((z_le0 (by omega)).2 c2)]
      rfl
    · rw [if_neg c2, if_neg (fun e => c2 ((z_le0 (by omega)).1 e))]
      rfl
  · rw [if_neg (nI_ge (by omega) (by omega)), if_neg c]
    rfl
theorem Pk_stage_at (H : pkI l h a g) (V : pkV g) (hx : zP x) (ht : t < 48) : Pk_stage a x (nI t) h = some (nI (stX g x t)) := by
  unfold Pk_stage
  have := wetX_le V x t
  rw [Pk_wetness_at H V hx ht, Option.bind_some, Pk_stageBy_at H V (by omega)]
  rfl
theorem Pk_stageOf_at (H : pkI l h a g) (V : pkV g) (hb : b < nV (g 3)) (ht : t < 48) : Pk_stageOf a (nI b) (nI t) h = some (nI (stX g (g (56 + 4 * b)) t)) := by
  have h3 := zN_V (pv_nb V) (by decide)
  unfold Pk_stageOf
  have hb6 : b < 6 := by omega
  have := wetX_le V (g (56 + 4 * b)) t
  rw [Pk_hasBench_at H V hb, if_neg (by decide), z_ix hb6 (by decide), Option.bind_some, (H.2.2.2.2.1 b hb6).1, Pk_wetness_at H V (pv_bench V b hb6).1 ht, Option.bind_some, Pk_stageBy_at H V (by omega)]
  rfl
theorem Md_painted_at (hb : b < 6) : Md_painted a (nI b) h = some (h (a + 12) (56 + 4 * b)) := by
  unfold Md_painted
  simp only [z_lits, pk_mul, nI_add]
  rw [z_ix (by omega) (by omega), Option.bind_some, show 55 + 4 * b + 1 = 56 + 4 * b by omega]
theorem Md_comer_at (hk : k < 14) (hp : p < 6) : Md_comer a (nI k) (nI p) h = some (h (a + 12) (111 + (6 * k + p))) := by
  unfold Md_comer
  simp only [z_lits, pk_mul, nI_add]
  rw [z_ix (by omega) (by omega), Option.bind_some, show 111 + 6 * k + p = 111 + (6 * k + p) by omega]
theorem z_lesser {m n : Nat} (hm : m < 2 ^ 31) (hn : n < 2 ^ 31) : Md_lesser (nI m) (nI n) = nI (min m n) := by
  unfold Md_lesser
  by_cases c : n ≤ m
  · rw [if_pos (nI_le c hm), Nat.min_eq_right c]
  · rw [if_neg (nI_ge (by omega) hn), Nat.min_eq_left (by omega)]
theorem z_greater {m n : Nat} (hm : m < 2 ^ 31) (hn : n < 2 ^ 31) : Md_greater (nI m) (nI n) = nI (max m n) := by
  unfold Md_greater
  by_cases c : m ≤ n
  · rw [if_pos (nI_le c hn), Nat.max_eq_right c]
  · rw [if_neg (nI_ge (by omega) hm), Nat.max_eq_left (by omega)]
theorem Md_rateOf_at (V : pkV (h (a + 12))) (ht : t < 100000) : Md_rateOf a (nI t) h = some (nI (rateN (h (a + 12)) t)) := by
  unfold Md_rateOf
  rw [show (47 : Int32) = nI 47 from rfl, z_lesser (by omega) (by omega), show (7 : Int32) = nI 7 from rfl, nI_add, z_ix (by omega) (by omega), Option.bind_some, rateN_eq V]
theorem Md_wetness_l (V : pkV (h (a + 12))) (ht : t < 10000) : ∀ m s fu, s + m = t → p ≤ s → m < fu → ∃ R, Md_wetness_l22 a (nI t) h fu (nI (nV (h (a + 12) 0)) - nI (sumR (h (a + 12)) p (s - p))) (nI s) = some R ∧ Md_greater 0 R = nI (nV (h (a + 12) 0) - sumR (h (a + 12)) p (t - p)) := by
  have F := zN_V (pv_fresh V).1 (by decide)
  intro m
  induction m with
  | zero =>
    intro s fu hs hp hfu
    obtain ⟨fu, rfl⟩ : ∃ q, fu = q + 1 := ⟨fu - 1, by omega⟩
    have b1 := sumR_le V p (s - p)
    unfold Md_wetness_l22
    rw [if_pos (nI_le (by omega) (by omega))]
    exact ⟨_, rfl, by rw [z_subG (by omega) (by omega), show s = t by omega]⟩
  | succ m ih =>
    intro s fu hs hp hfu
    obtain ⟨fu, rfl⟩ : ∃ q, fu = q + 1 := ⟨fu - 1, by omega⟩
    have b1 := sumR_le V p (s - p)
    have hS : sumR (h (a + 12)) p (s + 1 - p) = sumR (h (a + 12)) p (s - p) + rateN (h (a + 12)) s := by
      rw [show s + 1 - p = (s - p) + 1 by omega]
      show _ + rateN _ (p + (s - p)) = _
      rw [show p + (s - p) = s by omega]
    unfold Md_wetness_l22
    rw [if_neg (nI_ge (by omega) (by omega))]
    by_cases c : nV (h (a + 12) 0) ≤ sumR (h (a + 12)) p (s - p)
    · rw [if_pos ((z_subT (by omega) (by omega)).2 c)]
      refine ⟨_, rfl, ?_⟩
      have hA := sumR_add (h (a + 12)) p (s - p) (t - s)
      rw [show s - p + (t - s) = t - p by omega] at hA
      rw [z_subG (by omega) (by omega)]
      congr 1
      omega
    · rw [if_neg (fun e => c ((z_subT (by omega) (by omega)).1 e)), Md_rateOf_at V (by omega), Option.bind_some, z_sub3, nI_add, ← hS, nI_1]
      exact ih (s + 1) fu (by omega) (by omega) (by omega)
theorem Md_wetness_at (V : pkV (h (a + 12))) (ht : t < 10000) (hx : x = -1 ∨ zN x 10000) : Md_wetness a x (nI t) h = some (nI (wetX (h (a + 12)) x t)) := by
  unfold Md_wetness
  rcases hx with rfl | ⟨p, hp, rfl⟩
  · rw [if_pos rfl]
    rfl
  · rw [if_neg (z_nem (by omega)), wetX_p (by omega)]
    by_cases c : t < p
    · rw [if_neg (nI_ge c (by omega)), if_pos c]
      rfl
    · have F := zN_V (pv_fresh V).1 (by decide)
      rw [if_pos (nI_le (by omega) (by omega)), if_neg c]
      obtain ⟨R, h1, h2⟩ := Md_wetness_l (p := p) V ht (t - p) p g_fu (by omega) (Nat.le_refl _) (by unfold g_fu; omega)
      rw [Nat.sub_self, show nI (nV (h (a + 12) 0)) - nI (sumR (h (a + 12)) p 0) = h (a + 12) 0 by
        rw [show sumR (h (a + 12)) p 0 = 0 from rfl, pk_sub (Nat.zero_le _), Nat.sub_zero]; exact F.1.symm] at h1
      rw [h1, Option.bind_some, h2]
theorem Md_stage_at (V : pkV (h (a + 12))) (ht : t < 10000) (hx : x = -1 ∨ zN x 10000) : Md_stage a x (nI t) h = some (nI (stX (h (a + 12)) x t)) := by
  have S := zN_V (pv_sticky V) (by decide)
  have hw := wetX_le V x t
  unfold Md_stage stX stN
  rw [Md_wetness_at V ht hx, Option.bind_some]
  by_cases c : wetX (h (a + 12)) x t ≤ nV (h (a + 12) 1)
  · rw [S.1, nV_nI (by omega), if_pos (nI_le c (by omega)), if_pos c]
    by_cases c2 : wetX (h (a + 12)) x t = 0
    · rw [if_pos c2, if_pos ((z_le0 (by omega)).2 c2)]
      rfl
    · rw [if_neg c2, if_neg (fun e => c2 ((z_le0 (by omega)).1 e))]
      rfl
  · rw [S.1, nV_nI (by omega), if_neg (nI_ge (by omega) (by omega)), if_neg c]
    rfl
theorem zP_big (hx : zP x) : x = -1 ∨ zN x 10000 := by
  rcases hx with h | ⟨n, hn, rfl⟩
  · exact .inl h
  · exact .inr ⟨n, by omega, rfl⟩
theorem Pk_dries_l (H : pkI l h a g) (V : pkV g) (hp : p < 48) : ∀ m s fu, s + m = 48 → p ≤ s → m < fu → Pk_dries_l6 a (nI p) h fu (nI s) = some (nI (dryF g p m s)) := by
  intro m
  induction m with
  | zero =>
    intro s fu hs hps hfu
    obtain ⟨fu, rfl⟩ : ∃ q, fu = q + 1 := ⟨fu - 1, by omega⟩
    unfold Pk_dries_l6 dryF
    rw [show (48 : Int32) = nI 48 from rfl, if_pos (nI_le (by omega) (by omega)), show s = 48 by omega]
  | succ m ih =>
    intro s fu hs hps hfu
    obtain ⟨fu, rfl⟩ : ∃ q, fu = q + 1 := ⟨fu - 1, by omega⟩
    have hw := wetX_le V (nI p) s
    have hw2 := wetX_p (g := g) (p := p) (t := s) (by omega)
    rw [if_neg (by omega)] at hw2
    unfold Pk_dries_l6 dryF
    rw [show (48 : Int32) = nI 48 from rfl, if_neg (nI_ge (by omega) (by omega)), Pk_wetness_at H V (.inr ⟨p, hp, rfl⟩) (by omega), Option.bind_some]
    by_cases c : nV (g 0) ≤ sumR g p (s - p)
    · rw [if_pos c, if_pos ((z_eq0 (by omega)).2 (by omega))]
    · rw [if_neg c, if_neg (fun e => c (by have := (z_eq0 (by omega)).1 e; omega)), nI_1]
      exact ih (s + 1) fu (by omega) (by omega) (by omega)
theorem Pk_dries_at (H : pkI l h a g) (V : pkV g) (hx : zP x) : Pk_dries a x h = some (nI (driX g x)) := by
  unfold Pk_dries driX
  rcases hx with rfl | ⟨p, hp, rfl⟩
  · rw [if_neg (by decide), if_pos rfl]
    unfold g_fu Pk_dries_l6
    rw [if_neg (by decide), show (0 : Int32) = nI 0 from rfl, Pk_wetness_at H V (.inl rfl) (by decide), Option.bind_some, if_pos (by unfold wetX; rw [if_pos rfl])]
  · rw [if_neg (z_nem (by omega)), nV_nI (by omega)]
    by_cases c : p = 0
    · subst c
      rw [if_neg (by decide)]
      exact Pk_dries_l H V hp 48 0 g_fu (by omega) (by omega) (by unfold g_fu; omega)
    · rw [if_pos ((z_0lt (by omega)).2 (by omega))]
      exact Pk_dries_l H V hp (48 - p) p g_fu (by omega) (by omega) (by unfold g_fu; omega)
theorem Md_dries_l {last : Nat} (V : pkV (h (a + 12))) (hL : last < 10000) : ∀ m s fu, s + m = last + 1 → p ≤ s → m < fu → Md_dries_l17 a (nI last) h fu (nI (nV (h (a + 12) 0)) - nI (sumR (h (a + 12)) p (s - p))) (nI s) = some (nI (dryF (h (a + 12)) p m s)) := by
  have F := zN_V (pv_fresh V).1 (by decide)
  intro m
  induction m with
  | zero =>
    intro s fu hs hps hfu
    obtain ⟨fu, rfl⟩ : ∃ q, fu = q + 1 := ⟨fu - 1, by omega⟩
    unfold Md_dries_l17 dryF
    by_cases c : nI (nV (h (a + 12) 0)) - nI (sumR (h (a + 12)) p (s - p)) ≤ 0
    · rw [if_pos c]
    · rw [if_neg c, if_pos (nI_lt (by omega) (by omega))]
  | succ m ih =>
    intro s fu hs hps hfu
    obtain ⟨fu, rfl⟩ : ∃ q, fu = q + 1 := ⟨fu - 1, by omega⟩
    have b1 := sumR_le V p (s - p)
    have hS : sumR (h (a + 12)) p (s + 1 - p) = sumR (h (a + 12)) p (s - p) + rateN (h (a + 12)) s := by
      rw [show s + 1 - p = (s - p) + 1 by omega]
      show _ + rateN _ (p + (s - p)) = _
      rw [show p + (s - p) = s by omega]
    unfold Md_dries_l17 dryF
    by_cases c : nV (h (a + 12) 0) ≤ sumR (h (a + 12)) p (s - p)
    · rw [if_pos ((z_subT (by omega) (by omega)).2 c), if_pos c]
    · rw [if_neg (fun e => c ((z_subT (by omega) (by omega)).1 e)), if_neg c, if_neg (nI_nlt (by omega) (by omega)), Md_rateOf_at V (by omega), Option.bind_some, z_sub3, nI_add, ← hS, nI_1]
      exact ih (s + 1) fu (by omega) (by omega) (by omega)
theorem Md_dries_go {last : Nat} (V : pkV (h (a + 12))) (hL : last < 10000) (hp : p ≤ last + 1) : Md_dries a (nI p) (nI last) h = some (nI (dryF (h (a + 12)) p (last + 1 - p) p)) := by
  have F := zN_V (pv_fresh V).1 (by decide)
  have h1 := Md_dries_l (p := p) V hL (last + 1 - p) p g_fu (by omega) (Nat.le_refl _) (by unfold g_fu; omega)
  rw [Nat.sub_self, show nI (nV (h (a + 12) 0)) - nI (sumR (h (a + 12)) p 0) = h (a + 12) 0 by
    rw [show sumR (h (a + 12)) p 0 = 0 from rfl, pk_sub (Nat.zero_le _), Nat.sub_zero]; exact F.1.symm] at h1
  have h2 := dryF_le (h (a + 12)) p (last + 1 - p) p
  unfold Md_dries
  rw [if_neg (z_nem (by omega)), h1, Option.bind_some, nI_1, z_lesser (by omega) (by omega), Nat.min_eq_left (by omega)]
theorem Md_dries_at (V : pkV (h (a + 12))) (hx : zP x) : Md_dries a x 47 h = some (nI (driX (h (a + 12)) x)) := by
  unfold driX
  rcases hx with rfl | ⟨p, hp, rfl⟩
  · rw [if_pos rfl]
    unfold Md_dries
    rw [if_pos rfl]
    rfl
  · rw [if_neg (z_nem (by omega)), nV_nI (by omega)]
    exact Md_dries_go (last := 47) V (by decide) (by omega)
end PK
