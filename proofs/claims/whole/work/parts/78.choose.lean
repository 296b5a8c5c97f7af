/-! both searches -/
section CHOOSE
variable {l : List (Nat × Nat)} {r : am_R} {m nb s x i p : Nat} {hm hc : am_F} {g : Nat → Int32}
theorem ord_l (V : pkV g) (hn : g 3 = nI nb) (h1 : 1 ≤ nb) (h6 : nb ≤ 6) (hs : s < 48) {N : Nat} (hN : N = 6 ^ nb) (hN2 : N ≤ 46656) {x3 : Int32} : ∀ (c X fu : Nat) (x5 x6 : Int32) (h : am_F), X + c = N → c < fu → h (m + 12) = g → bstI g s nb X x5 x6 → ∃ v5 v6 h', Md_order_l89 m (nI s) x3 (nI N) fu x5 x6 (nI X) h = some (v5, v6, h') ∧ bstI g s nb N v5 v6 ∧ ∀ y, y ≠ m + 24 → y ≠ m + 25 → h' y = h y := by
  intro c
  induction c with
  | zero =>
    intro X fu x5 x6 h hX hf eg I
    obtain ⟨fu, rfl⟩ : ∃ q, fu = q + 1 := ⟨fu - 1, by omega⟩
    have : X = N := by omega
    subst this
    unfold Md_order_l89
    rw [if_pos (nI_le (Nat.le_refl _) (by omega))]
    exact ⟨x5, x6, h, rfl, I, fun _ _ _ => rfl⟩
  | succ c ih =>
    intro X fu x5 x6 h hX hf eg I
    obtain ⟨fu, rfl⟩ : ∃ q, fu = q + 1 := ⟨fu - 1, by omega⟩
    obtain ⟨h2, a1, a2, a3⟩ := lay_at (hm := h) (m := m) (nb := nb) (x := X) (by rw [eg]; exact hn) h6 (by omega)
    have eg2 : h2 (m + 12) = g := by rw [a3 _ (by omega), eg]
    conv => enter [1, v5, 1, v6, 1, h', 1, 1]; unfold Md_order_l89
    rw [if_neg (nI_ge (show X < N by omega) (by omega)), a1, Option.bind_some, nI_1]
    by_cases cv : vdB nb X = true
    · rw [if_pos cv]
      have G := ln_good h1 h6 (show X < 6 ^ nb by omega) cv
      obtain ⟨h3, b1, b2⟩ := finish_at V eg2 hn h1 h6 G hs a2
      simp only [if_neg (show ¬ (1 : Int32) = 0 by decide)]
      rw [b1]
      have eg3 : h3 (m + 12) = g := by rw [b2 _ (by omega), eg2]
      by_cases cF : finN g s nb (dgN nb X 0) (dgN nb X (nb - 1)) ≤ 400
      · simp only [if_pos cF, Option.bind_some, if_neg (z_nem (show finN g s nb (dgN nb X 0) (dgN nb X (nb - 1)) < 2 ^ 31 by omega))]
        by_cases c6 : x6 ≤ nI (finN g s nb (dgN nb X 0) (dgN nb X (nb - 1)))
        · simp only [if_pos c6, Option.bind_some, if_pos (show (0 : Int32) = 0 from rfl)]
          have I2 : bstI g s nb (X + 1) x5 x6 := bst_keep I (.inr (by
            rcases I with ⟨e1, e2, e3⟩ | ⟨w, w1, w2, w3, w4, w5, w6⟩
            · rw [e2] at c6
              exact absurd (show nI 1000000 ≤ nI (finN g s nb (dgN nb X 0) (dgN nb X (nb - 1))) from c6) (nI_ge (by omega) (by decide))
            · refine ⟨_, w3, w4.2, ?_⟩
              have := w4.2
              rw [w3] at c6
              exact (nI_leI (b := finN g s nb (dgN nb X 0) (dgN nb X (nb - 1))) (by omega) (by omega)).1 c6))
          obtain ⟨v5, v6, h', k1, k2, k3⟩ := ih (X + 1) fu x5 x6 h3 (by omega) (by omega) eg3 I2
          exact ⟨v5, v6, h', k1, k2, fun y y1 y2 => by rw [k3 y y1 y2, b2 y y2, a3 y y1]⟩
        · simp only [if_neg c6, Option.bind_some, if_neg (show ¬ (1 : Int32) = 0 by decide)]
          have I2 := bst_take I ⟨cv, cF⟩ (Int32.not_le.1 c6)
          obtain ⟨v5, v6, h', k1, k2, k3⟩ := ih (X + 1) fu _ _ h3 (by omega) (by omega) eg3 I2
          exact ⟨v5, v6, h', k1, k2, fun y y1 y2 => by rw [k3 y y1 y2, b2 y y2, a3 y y1]⟩
      · simp only [if_neg cF, Option.bind_some, if_pos (show (-1 : Int32) = -1 from rfl), if_pos (show (0 : Int32) = 0 from rfl)]
        obtain ⟨v5, v6, h', k1, k2, k3⟩ := ih (X + 1) fu x5 x6 h3 (by omega) (by omega) eg3 (bst_keep I (.inl (fun q => cF q.2)))
        exact ⟨v5, v6, h', k1, k2, fun y y1 y2 => by rw [k3 y y1 y2, b2 y y2, a3 y y1]⟩
    · simp only [if_neg cv, Option.bind_some, if_pos (show (-1 : Int32) = -1 from rfl), if_pos (show (0 : Int32) = 0 from rfl)]
      obtain ⟨v5, v6, h', k1, k2, k3⟩ := ih (X + 1) fu x5 x6 h2 (by omega) (by omega) eg2 (bst_keep I (.inl (fun q => cv q.1)))
      exact ⟨v5, v6, h', k1, k2, fun y y1 y2 => by rw [k3 y y1 y2, a3 y y1]⟩
theorem pow_l {x2 x3 : Int32} (hn : hm (m + 12) 3 = nI nb) (h6 : nb ≤ 6) : ∀ (c i v fu : Nat), i + c = nb → c < fu → Md_order_l54 m x2 x3 hm fu (nI v) (nI i) = some (nI (v * 6 ^ c)) := by
  intro c
  induction c with
  | zero =>
    intro i v fu hi hf
    obtain ⟨fu, rfl⟩ : ∃ q, fu = q + 1 := ⟨fu - 1, by omega⟩
    unfold Md_order_l54
    rw [hn, if_pos (nI_le (by omega) (by omega)), Nat.pow_zero, Nat.mul_one]
  | succ c ih =>
    intro i v fu hi hf
    obtain ⟨fu, rfl⟩ : ∃ q, fu = q + 1 := ⟨fu - 1, by omega⟩
    unfold Md_order_l54
    rw [hn, if_neg (nI_ge (by omega) (by omega)), show (6 : Int32) = nI 6 from rfl, pk_mul, nI_1, ih (i + 1) (v * 6) fu (by omega) (by omega), Nat.pow_succ, Nat.mul_assoc, Nat.mul_comm 6]
/-- the pairs gone through, and the best of them -/
def visP (A Z a z : Nat) : Prop := a < A ∨ (a = A ∧ Z ≤ z)
def chI (h : am_F) (g : Nat → Int32) (s n A Z : Nat) : Prop := (h 104 0 = 401 ∧ ∀ a z, a < n → z < n → a ≠ z → visP A Z a z → 400 < finN g s n a z) ∨ ∃ a0 z0, a0 < n ∧ z0 < n ∧ a0 ≠ z0 ∧ h 104 0 = nI (finN g s n a0 z0) ∧ h 104 1 = nI a0 ∧ h 104 2 = nI z0 ∧ finN g s n a0 z0 ≤ 400 ∧ (∀ a z, a < n → z < n → a ≠ z → visP A Z a z → finN g s n a0 z0 ≤ finN g s n a z) ∧ ∀ a z, a < n → z < n → a ≠ z → visP a0 (z0 + 1) a z → finN g s n a0 z0 < finN g s n a z
theorem ch_keep {h : am_F} {A Z A' Z' : Nat} (C : chI h g s nb A Z) (hk : ∀ a z, a < nb → z < nb → a ≠ z → visP A' Z' a z → ¬ visP A Z a z → ∃ v, h 104 0 = nI v ∧ v ≤ 401 ∧ v ≤ finN g s nb a z) : chI h g s nb A' Z' := by
  rcases C with ⟨c1, c2⟩ | ⟨a0, z0, d1, d2, d3, d4, d5, d6, d7, d8, d9⟩
  · left
    refine ⟨c1, fun a z h1 h2 h3 h4 => ?_⟩
    by_cases q : visP A Z a z
    · exact c2 a z h1 h2 h3 q
    · obtain ⟨v, v1, v2, v3⟩ := hk a z h1 h2 h3 h4 q
      rw [c1] at v1
      have := (nI_eq (show 401 < 2 ^ 31 by decide) (by omega)).1 (show nI 401 = nI v from v1)
      omega
  · right
    refine ⟨a0, z0, d1, d2, d3, d4, d5, d6, d7, fun a z h1 h2 h3 h4 => ?_, d9⟩
    by_cases q : visP A Z a z
    · exact d8 a z h1 h2 h3 q
    · obtain ⟨v, v1, v2, v3⟩ := hk a z h1 h2 h3 h4 q
      rw [d4] at v1
      have := (nI_eq (by omega) (by omega)).1 v1
      omega
theorem ch_le {h : am_F} {A Z : Nat} (C : chI h g s nb A Z) : ∃ v, h 104 0 = nI v ∧ v ≤ 401 ∧ (v = 401 ∨ ∃ a z, v = finN g s nb a z) := by
  rcases C with ⟨c1, c2⟩ | ⟨a0, z0, d1, d2, d3, d4, d5, d6, d7, d8, d9⟩
  · exact ⟨401, c1, by omega, .inl rfl⟩
  · exact ⟨_, d4, by omega, .inr ⟨_, _, rfl⟩⟩
theorem ch_take {h h' : am_F} {A Z : Nat} (C : chI h g s nb A (Z + 1)) (hA : A < nb) (hZ : Z < nb) (hne : A ≠ Z) (hlt : nI (finN g s nb A Z) < h 104 0) (e0 : h' 104 0 = nI (finN g s nb A Z)) (e1 : h' 104 1 = nI A) (e2 : h' 104 2 = nI Z) (hF : finN g s nb A Z ≤ 401) : chI h' g s nb A Z := by
  have key : finN g s nb A Z ≤ 400 ∧ ∀ a z, a < nb → z < nb → a ≠ z → visP A (Z + 1) a z → finN g s nb A Z < finN g s nb a z := by
    rcases C with ⟨c1, c2⟩ | ⟨a0, z0, d1, d2, d3, d4, d5, d6, d7, d8, d9⟩
    · rw [c1] at hlt
      have h2 := (nI_ltI (by omega) (by decide)).1 (show nI (finN g s nb A Z) < nI 401 from hlt)
      exact ⟨by omega, fun a z k1 k2 k3 k4 => by have := c2 a z k1 k2 k3 k4; omega⟩
    · rw [d4] at hlt
      have h2 := (nI_ltI (by omega) (by omega)).1 hlt
      exact ⟨by omega, fun a z k1 k2 k3 k4 => by have := d8 a z k1 k2 k3 k4; omega⟩
  right
  refine ⟨A, Z, hA, hZ, hne, e0, e1, e2, key.1, fun a z k1 k2 k3 k4 => ?_, key.2⟩
  by_cases q : visP A (Z + 1) a z
  · exact Nat.le_of_lt (key.2 a z k1 k2 k3 q)
  · have : a = A ∧ z = Z := by unfold visP at k4 q; omega
    rw [this.1, this.2]
    exact Nat.le_refl _
end CHOOSE
