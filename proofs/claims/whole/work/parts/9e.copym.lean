/-! a place copied: the reference -/
def cpR (h : am_F) (x0 W k1 k2 : Nat) : am_F := fun b y => if b = x0 ∧ W * k2 ≤ y ∧ y < W * k2 + W then h x0 (W * k1 + (y - W * k2)) else h b y
def cpT (h : am_F) (x0 k1 k2 : Nat) : am_F := fun b y => if b = x0 ∧ 600 * k2 ≤ y ∧ y < 600 * k2 + 600 then (h x0 (600 * k1 + (y - 600 * k2))).toInt8.toInt32 else h b y
section COPYM
variable {l : List (Nat × Nat)} {r : am_R} {h hc hc' hm hm' : am_F} {x0 W b d m k k' k1 k2 : Nat} {n : Nat → Nat}
theorem cpR_l (h1 : W * k1 + W ≤ g_ln l x0) (h2 : W * k2 + W ≤ g_ln l x0) (hl : g_ln l x0 < 10000) (dis : W * k1 + W ≤ W * k2 ∨ W * k2 + W ≤ W * k1) : ∀ (c i fu : Nat) (h : am_F), i + c = W → c < fu → Md_copyRow_l3 l r x0 (nI W) (nI k1) (nI k2) fu (nI i) h = some (fun b y => if b = x0 ∧ W * k2 + i ≤ y ∧ y < W * k2 + W then h x0 (W * k1 + (y - W * k2)) else h b y) := by
  intro c
  induction c with
  | zero =>
    intro i fu h hi hfu
    obtain ⟨fu, rfl⟩ : ∃ q, fu = q + 1 := ⟨fu - 1, by omega⟩
    unfold Md_copyRow_l3
    rw [if_pos (nI_le (by omega) (by omega))]
    congr 1
    funext b y
    rw [if_neg (by omega)]
  | succ c ih =>
    intro i fu h hi hfu
    obtain ⟨fu, rfl⟩ : ∃ q, fu = q + 1 := ⟨fu - 1, by omega⟩
    unfold Md_copyRow_l3
    rw [if_neg (nI_ge (by omega) (by omega)), pk_mul, pk_mul, nI_add, nI_add, z_ix (by omega) (by omega), Option.bind_some, z_ix (by omega) (by omega), Option.bind_some, nI_1, ih (i + 1) fu _ (by omega) (by omega)]
    congr 1
    funext b y
    simp only [z_up]
    by_cases c1 : b = x0 ∧ W * k2 + (i + 1) ≤ y ∧ y < W * k2 + W
    · rw [if_pos c1, if_pos (show b = x0 ∧ W * k2 + i ≤ y ∧ y < W * k2 + W by omega), if_neg (by omega)]
    · rw [if_neg c1]
      by_cases c2 : b = x0 ∧ y = W * k2 + i
      · rw [if_pos c2, if_pos (by omega), c2.2]
        congr 1
        omega
      · rw [if_neg c2, if_neg (by omega)]
theorem mul_dis (hk : k1 ≠ k2) : W * k1 + W ≤ W * k2 ∨ W * k2 + W ≤ W * k1 := by
  rcases Nat.lt_or_gt_of_ne hk with h | h
  · left
    have := Nat.mul_le_mul_left W (show k1 + 1 ≤ k2 by omega)
    rw [Nat.mul_add, Nat.mul_one] at this
    exact this
  · right
    have := Nat.mul_le_mul_left W (show k2 + 1 ≤ k1 by omega)
    rw [Nat.mul_add, Nat.mul_one] at this
    exact this
theorem mul_in (hk : k < 4) : W * k + W ≤ W * 4 := by
  have := Nat.mul_le_mul_left W (show k + 1 ≤ 4 by omega)
  rw [Nat.mul_add, Nat.mul_one] at this
  exact this
theorem cpR_at (hk : k1 ≠ k2) (h1 : k1 < 4) (h2 : k2 < 4) (hl4 : W * 4 = g_ln l x0) (hl : g_ln l x0 < 10000) : Md_copyRow l r x0 (nI W) (nI k1) (nI k2) h = some (cpR h x0 W k1 k2) := by
  have m1 := mul_in (W := W) h1
  have m2 := mul_in (W := W) h2
  have e := cpR_l (l := l) (r := r) (x0 := x0) (W := W) (k1 := k1) (k2 := k2) (by omega) (by omega) hl (mul_dis hk) W 0 g_fu h (by omega) (by unfold g_fu; omega)
  have e' : Md_copyRow_l3 l r x0 (nI W) (nI k1) (nI k2) g_fu 0 h = _ := e
  unfold Md_copyRow
  rw [e']
  rfl
theorem cpT_l (hk : k1 ≠ k2) (h1 : k1 < 4) (h2 : k2 < 4) : ∀ (c i fu : Nat) (h : am_F), i + c = 600 → c < fu → Md_copyAll_l2 l r x0 (nI k1) (nI k2) fu (nI i) h = some (fun b y => if b = x0 + 1 ∧ 600 * k2 + i ≤ y ∧ y < 600 * k2 + 600 then (h (x0 + 1) (600 * k1 + (y - 600 * k2))).toInt8.toInt32 else h b y) := by
  intro c
  induction c with
  | zero =>
    intro i fu h hi hfu
    obtain ⟨fu, rfl⟩ : ∃ q, fu = q + 1 := ⟨fu - 1, by omega⟩
    unfold Md_copyAll_l2
    rw [show (600 : Int32) = nI 600 from rfl, if_pos (nI_le (by omega) (by omega))]
    congr 1
    funext b y
    rw [if_neg (by omega)]
  | succ c ih =>
    intro i fu h hi hfu
    obtain ⟨fu, rfl⟩ : ∃ q, fu = q + 1 := ⟨fu - 1, by omega⟩
    unfold Md_copyAll_l2
    rw [show (600 : Int32) = nI 600 from rfl, if_neg (nI_ge (by omega) (by omega)), pk_mul, pk_mul, nI_add, nI_add, z_ix (by omega) (by decide), Option.bind_some, z_ix (by omega) (by decide), Option.bind_some, nI_1, ih (i + 1) fu _ (by omega) (by omega)]
    congr 1
    funext b y
    simp only [z_up]
    by_cases c1 : b = x0 + 1 ∧ 600 * k2 + (i + 1) ≤ y ∧ y < 600 * k2 + 600
    · rw [if_pos c1, if_pos (show b = x0 + 1 ∧ 600 * k2 + i ≤ y ∧ y < 600 * k2 + 600 by omega), if_neg (by omega)]
    · rw [if_neg c1]
      by_cases c2 : b = x0 + 1 ∧ y = 600 * k2 + i
      · rw [if_pos c2, if_pos (by omega), c2.2]
        congr 3
        omega
      · rw [if_neg c2, if_neg (by omega)]
theorem cpT_at (hk : k1 ≠ k2) (h1 : k1 < 4) (h2 : k2 < 4) : Md_copyAll_l2 l r x0 (nI k1) (nI k2) g_fu 0 h = some (cpT h (x0 + 1) k1 k2) := cpT_l hk h1 h2 600 0 g_fu h (by omega) (by unfold g_fu; omega)
theorem cpR_o {x : Nat} (hx : x ≠ x0) : cpR h x0 W k1 k2 x = h x := by
  funext y
  unfold cpR
  rw [if_neg (fun z => hx z.1)]
theorem cpT_o {x : Nat} (hx : x ≠ x0) : cpT h x0 k1 k2 x = h x := by
  funext y
  unfold cpT
  rw [if_neg (fun z => hx z.1)]
theorem cpR_in {i : Nat} (hi : i < W) : cpR h x0 W k1 k2 x0 (W * k2 + i) = h x0 (W * k1 + i) := by
  unfold cpR
  rw [if_pos ⟨rfl, by omega, by omega⟩, Nat.add_sub_cancel_left]
theorem cpT_in {i : Nat} (hi : i < 600) : cpT h x0 k1 k2 x0 (600 * k2 + i) = (h x0 (600 * k1 + i)).toInt8.toInt32 := by
  unfold cpT
  rw [if_pos ⟨rfl, by omega, by omega⟩, Nat.add_sub_cancel_left]
theorem cpR_out {i : Nat} (hk : k ≠ k2) (hi : i < W) : cpR h x0 W k1 k2 x0 (W * k + i) = h x0 (W * k + i) := by
  have := mul_dis (W := W) hk
  unfold cpR
  rw [if_neg (by omega)]
theorem cpT_out {i : Nat} (hk : k ≠ k2) (hi : i < 600) : cpT h x0 k1 k2 x0 (600 * k + i) = h x0 (600 * k + i) := by
  unfold cpT
  rw [if_neg (by omega)]
/-- place k of one heap is place k' of another -/
def plE (hm hm' : am_F) (m k k' : Nat) : Prop := hm' (m + 2) k' = hm (m + 2) k ∧ hm' (m + 3) k' = hm (m + 3) k ∧ hm' (m + 4) k' = hm (m + 4) k ∧ (∀ i, i < 4 → hm' (m + 5) (4 * k' + i) = hm (m + 5) (4 * k + i)) ∧ (∀ i, i < 390 → hm' (m + 6) (390 * k' + i) = hm (m + 6) (390 * k + i)) ∧ (∀ i, i < 62 → hm' (m + 7) (62 * k' + i) = hm (m + 7) (62 * k + i)) ∧ (∀ i, i < 66 → hm' (m + 8) (66 * k' + i) = hm (m + 8) (66 * k + i)) ∧ (∀ i, i < 38 → hm' (m + 9) (38 * k' + i) = hm (m + 9) (38 * k + i)) ∧ (∀ i, i < 600 → (hm (m + 1) (600 * k + i)).toInt8.toInt32 = hm (m + 1) (600 * k + i) → hm' (m + 1) (600 * k' + i) = hm (m + 1) (600 * k + i))
def mdL2 (l : List (Nat × Nat)) (m : Nat) : Prop := g_ln l (m + 2) = 4 ∧ g_ln l (m + 3) = 4 ∧ g_ln l (m + 4) = 4 ∧ g_ln l (m + 5) = 16
theorem copyAll_at (ML : mdL l m) (ML2 : mdL2 l m) (hk : k1 ≠ k2) (h1 : k1 < 4) (h2 : k2 < 4) : ∃ hm', Md_copyAll l r m (nI k1) (nI k2) hm = some hm' ∧ plE hm hm' m k1 k2 ∧ (∀ k, k ≠ k2 → plE hm hm' m k k) ∧ ∀ x, x < m + 1 ∨ m + 10 ≤ x → hm' x = hm x := by
  obtain ⟨a6, a7, a8, a9⟩ := ML
  obtain ⟨a2, a3, a4, a5⟩ := ML2
  have c1 : ∀ x y : am_F, ∀ x0, g_ln l x0 = 4 → Md_copyRow l r x0 (1 : Int32) (nI k1) (nI k2) x = some (cpR x x0 1 k1 k2) := fun x y x0 e => cpR_at (W := 1) hk h1 h2 (by omega) (by omega)
  have c5 : ∀ x, Md_copyRow l r (m + 5) (4 : Int32) (nI k1) (nI k2) x = some (cpR x (m + 5) 4 k1 k2) := fun x => cpR_at (W := 4) hk h1 h2 (by omega) (by omega)
  have c6 : ∀ x, Md_copyRow l r (m + 6) (390 : Int32) (nI k1) (nI k2) x = some (cpR x (m + 6) 390 k1 k2) := fun x => cpR_at (W := 390) hk h1 h2 (by omega) (by omega)
  have c7 : ∀ x, Md_copyRow l r (m + 7) (62 : Int32) (nI k1) (nI k2) x = some (cpR x (m + 7) 62 k1 k2) := fun x => cpR_at (W := 62) hk h1 h2 (by omega) (by omega)
  have c8 : ∀ x, Md_copyRow l r (m + 8) (66 : Int32) (nI k1) (nI k2) x = some (cpR x (m + 8) 66 k1 k2) := fun x => cpR_at (W := 66) hk h1 h2 (by omega) (by omega)
  have c9 : ∀ x, Md_copyRow l r (m + 9) (38 : Int32) (nI k1) (nI k2) x = some (cpR x (m + 9) 38 k1 k2) := fun x => cpR_at (W := 38) hk h1 h2 (by omega) (by omega)
  unfold Md_copyAll
  rw [cpT_at hk h1 h2, Option.bind_some, c1 _ hm _ a2, Option.bind_some, c1 _ hm _ a3, Option.bind_some, c1 _ hm _ a4, Option.bind_some, c5, Option.bind_some, c6, Option.bind_some, c7, Option.bind_some, c8, Option.bind_some, c9, Option.bind_some]
  generalize e1 : cpT hm (m + 1) k1 k2 = g1
  generalize e2 : cpR g1 (m + 2) 1 k1 k2 = g2
  generalize e3 : cpR g2 (m + 3) 1 k1 k2 = g3
  generalize e4 : cpR g3 (m + 4) 1 k1 k2 = g4
  generalize e5 : cpR g4 (m + 5) 4 k1 k2 = g5
  generalize e6 : cpR g5 (m + 6) 390 k1 k2 = g6
  generalize e7 : cpR g6 (m + 7) 62 k1 k2 = g7
  generalize e8 : cpR g7 (m + 8) 66 k1 k2 = g8
  generalize e9 : cpR g8 (m + 9) 38 k1 k2 = g9
  have o1 : ∀ x, x ≠ m + 1 → g1 x = hm x := fun x hx => by rw [← e1]; exact cpT_o hx
  have o2 : ∀ x, x ≠ m + 2 → g2 x = g1 x := fun x hx => by rw [← e2]; exact cpR_o hx
  have o3 : ∀ x, x ≠ m + 3 → g3 x = g2 x := fun x hx => by rw [← e3]; exact cpR_o hx
  have o4 : ∀ x, x ≠ m + 4 → g4 x = g3 x := fun x hx => by rw [← e4]; exact cpR_o hx
  have o5 : ∀ x, x ≠ m + 5 → g5 x = g4 x := fun x hx => by rw [← e5]; exact cpR_o hx
  have o6 : ∀ x, x ≠ m + 6 → g6 x = g5 x := fun x hx => by rw [← e6]; exact cpR_o hx
  have o7 : ∀ x, x ≠ m + 7 → g7 x = g6 x := fun x hx => by rw [← e7]; exact cpR_o hx
  have o8 : ∀ x, x ≠ m + 8 → g8 x = g7 x := fun x hx => by rw [← e8]; exact cpR_o hx
  have o9 : ∀ x, x ≠ m + 9 → g9 x = g8 x := fun x hx => by rw [← e9]; exact cpR_o hx
  have r1 : g9 (m + 1) = cpT hm (m + 1) k1 k2 (m + 1) := by rw [o9 _ (by omega), o8 _ (by omega), o7 _ (by omega), o6 _ (by omega), o5 _ (by omega), o4 _ (by omega), o3 _ (by omega), o2 _ (by omega), ← e1]
  have r2 : g9 (m + 2) = cpR hm (m + 2) 1 k1 k2 (m + 2) := by
    rw [o9 _ (by omega), o8 _ (by omega), o7 _ (by omega), o6 _ (by omega), o5 _ (by omega), o4 _ (by omega), o3 _ (by omega), ← e2]
    unfold cpR
    rw [o1 _ (by omega)]
  have r3 : g9 (m + 3) = cpR hm (m + 3) 1 k1 k2 (m + 3) := by
    rw [o9 _ (by omega), o8 _ (by omega), o7 _ (by omega), o6 _ (by omega), o5 _ (by omega), o4 _ (by omega), ← e3]
    unfold cpR
    rw [o2 _ (by omega), o1 _ (by omega)]
  have r4 : g9 (m + 4) = cpR hm (m + 4) 1 k1 k2 (m + 4) := by
    rw [o9 _ (by omega), o8 _ (by omega), o7 _ (by omega), o6 _ (by omega), o5 _ (by omega), ← e4]
    unfold cpR
    rw [o3 _ (by omega), o2 _ (by omega), o1 _ (by omega)]
  have r5 : g9 (m + 5) = cpR hm (m + 5) 4 k1 k2 (m + 5) := by
    rw [o9 _ (by omega), o8 _ (by omega), o7 _ (by omega), o6 _ (by omega), ← e5]
    unfold cpR
    rw [o4 _ (by omega), o3 _ (by omega), o2 _ (by omega), o1 _ (by omega)]
  have r6 : g9 (m + 6) = cpR hm (m + 6) 390 k1 k2 (m + 6) := by
    rw [o9 _ (by omega), o8 _ (by omega), o7 _ (by omega), ← e6]
    unfold cpR
    rw [o5 _ (by omega), o4 _ (by omega), o3 _ (by omega), o2 _ (by omega), o1 _ (by omega)]
  have r7 : g9 (m + 7) = cpR hm (m + 7) 62 k1 k2 (m + 7) := by
    rw [o9 _ (by omega), o8 _ (by omega), ← e7]
    unfold cpR
    rw [o6 _ (by omega), o5 _ (by omega), o4 _ (by omega), o3 _ (by omega), o2 _ (by omega), o1 _ (by omega)]
  have r8 : g9 (m + 8) = cpR hm (m + 8) 66 k1 k2 (m + 8) := by
    rw [o9 _ (by omega), ← e8]
    unfold cpR
    rw [o7 _ (by omega), o6 _ (by omega), o5 _ (by omega), o4 _ (by omega), o3 _ (by omega), o2 _ (by omega), o1 _ (by omega)]
  have r9 : g9 (m + 9) = cpR hm (m + 9) 38 k1 k2 (m + 9) := by
    rw [← e9]
    unfold cpR
    rw [o8 _ (by omega), o7 _ (by omega), o6 _ (by omega), o5 _ (by omega), o4 _ (by omega), o3 _ (by omega), o2 _ (by omega), o1 _ (by omega)]
  have one : ∀ x, cpR hm x 1 k1 k2 x k2 = hm x k1 := fun x => by
    have := cpR_in (h := hm) (x0 := x) (W := 1) (k1 := k1) (k2 := k2) (i := 0) (by decide)
    rw [show 1 * k2 + 0 = k2 by omega, show 1 * k1 + 0 = k1 by omega] at this
    exact this
  have two : ∀ x k, k ≠ k2 → cpR hm x 1 k1 k2 x k = hm x k := fun x k hk => by
    have := cpR_out (h := hm) (x0 := x) (W := 1) (k1 := k1) (k2 := k2) (i := 0) hk (by decide)
    rw [show 1 * k + 0 = k by omega] at this
    exact this
  refine ⟨g9, rfl, ?_, fun k hk => ?_, fun x hx => ?_⟩
  · unfold plE
    rw [r1, r2, r3, r4, r5, r6, r7, r8, r9]
    exact ⟨one _, one _, one _, fun i hi => cpR_in hi, fun i hi => cpR_in hi, fun i hi => cpR_in hi, fun i hi => cpR_in hi, fun i hi => cpR_in hi, fun i hi e => by rw [cpT_in hi, e]⟩
  · unfold plE
    rw [r1, r2, r3, r4, r5, r6, r7, r8, r9]
    exact ⟨two _ _ hk, two _ _ hk, two _ _ hk, fun i hi => cpR_out hk hi, fun i hi => cpR_out hk hi, fun i hi => cpR_out hk hi, fun i hi => cpR_out hk hi, fun i hi => cpR_out hk hi, fun i hi e => cpT_out hk hi⟩
  · rw [o9 _ (by omega), o8 _ (by omega), o7 _ (by omega), o6 _ (by omega), o5 _ (by omega), o4 _ (by omega), o3 _ (by omega), o2 _ (by omega), o1 _ (by omega)]
theorem tdB_pl (B : tdB l hc b hm m k n) (E : plE hm hm' m k k') (e1 : ∀ x, b + 2 ≤ x → x < b + 43 → hc' x = hc x) : tdB l hc' b hm' m k' n := by
  obtain ⟨B0, B1, B2, B3, B4⟩ := B
  obtain ⟨_, _, _, E5, E6, E7, E8, E9, _⟩ := E
  refine ⟨fun s hs => ?_, fun q hq => ?_, fun q hq => ?_, fun q hq => ?_, fun q hq => ?_⟩
  · rw [e1 _ (by omega) (by omega), E5 s hs]
    exact B0 s hs
  · have := (B0 0 (by decide)).1
    obtain ⟨J, V, C⟩ := B1 q hq
    exact sl0_mk (pkI_fr J (fun x h1 h2 => e1 x (by omega) (by omega))) V (fun y hy => by rw [e1 _ (by omega) (by omega)]; exact C y hy) (fun i hi => by
      have := E6 (195 * q + i) (by omega)
      rw [show 390 * k' + (195 * q + i) = 195 * (2 * k' + q) + i by omega, show 390 * k + (195 * q + i) = 195 * (2 * k + q) + i by omega] at this
      exact this)
  · have := (B0 1 (by decide)).1
    obtain ⟨c, c1, c2, J, V⟩ := B2 q hq
    have eg : siG hm m k q = fun i => (fun i => hm (m + 7) (31 * (2 * k + q) + i)) (1 + i) := by
      funext i
      unfold siG
      show _ = hm (m + 7) (31 * (2 * k + q) + (1 + i))
      rw [show 31 * (2 * k + q) + 1 + i = 31 * (2 * k + q) + (1 + i) by omega]
    rw [eg] at J V
    exact sl1_mk (G := fun i => hm (m + 7) (31 * (2 * k + q) + i)) c1 c2 (rw_fr J (e1 _ (by omega) (by omega)) (e1 _ (by omega) (by omega))) V (fun i hi => by
      have := E7 (31 * q + i) (by omega)
      rw [show 62 * k' + (31 * q + i) = 31 * (2 * k' + q) + i by omega, show 62 * k + (31 * q + i) = 31 * (2 * k + q) + i by omega] at this
      exact this)
  · have := (B0 2 (by decide)).1
    obtain ⟨c, c1, c2, J, V⟩ := B3 q hq
    have eg : alG hm m k q = fun i => (fun i => hm (m + 8) (33 * (2 * k + q) + i)) (1 + i) := by
      funext i
      unfold alG
      show _ = hm (m + 8) (33 * (2 * k + q) + (1 + i))
      rw [show 33 * (2 * k + q) + 1 + i = 33 * (2 * k + q) + (1 + i) by omega]
    rw [eg] at J V
    exact sl2_mk (G := fun i => hm (m + 8) (33 * (2 * k + q) + i)) c1 c2 (rw_fr J (e1 _ (by omega) (by omega)) (e1 _ (by omega) (by omega))) V (fun i hi => by
      have := E8 (33 * q + i) (by omega)
      rw [show 66 * k' + (33 * q + i) = 33 * (2 * k' + q) + i by omega, show 66 * k + (33 * q + i) = 33 * (2 * k + q) + i by omega] at this
      exact this)
  · have := (B0 3 (by decide)).1
    obtain ⟨c, c1, c2, J, V⟩ := B4 q hq
    have eg : plG hm m k q = fun i => (fun i => hm (m + 9) (19 * (2 * k + q) + i)) (1 + i) := by
      funext i
      unfold plG
      show _ = hm (m + 9) (19 * (2 * k + q) + (1 + i))
      rw [show 19 * (2 * k + q) + 1 + i = 19 * (2 * k + q) + (1 + i) by omega]
    rw [eg] at J V
    exact sl3_mk (G := fun i => hm (m + 9) (19 * (2 * k + q) + i)) c1 c2 (rw_fr J (e1 _ (by omega) (by omega)) (e1 _ (by omega) (by omega))) V (fun i hi => by
      have := E9 (19 * q + i) (by omega)
      rw [show 38 * k' + (19 * q + i) = 19 * (2 * k' + q) + i by omega, show 38 * k + (19 * q + i) = 19 * (2 * k + q) + i by omega] at this
      exact this)
theorem tdF_pl (F : tdF hc b hm m k) (E : plE hm hm' m k k') (e1 : hc' b = hc b) (e2 : hc' (b + 1) = hc (b + 1)) : tdF hc' b hm' m k' := by
  obtain ⟨N, N1, N2, N3, N4, N5, N6⟩ := F
  obtain ⟨E2, E3, E4, _, _, _, _, _, E1⟩ := E
  refine ⟨N, N1, by rw [e1]; exact N2, by rw [E2]; exact N3, fun i hi => ?_, by rw [e1, E3]; exact N5, by rw [e1, E4]; exact N6⟩
  have := N4 i hi
  rw [e2, E1 i (by omega) this.2]
  exact this
theorem plE_id (e : ∀ x, m + 1 ≤ x → x < m + 10 → hm' x = hm x) : plE hm hm' m k k := by
  unfold plE
  rw [e (m + 1) (by omega) (by omega), e (m + 2) (by omega) (by omega), e (m + 3) (by omega) (by omega), e (m + 4) (by omega) (by omega), e (m + 5) (by omega) (by omega), e (m + 6) (by omega) (by omega), e (m + 7) (by omega) (by omega), e (m + 8) (by omega) (by omega), e (m + 9) (by omega) (by omega)]
  exact ⟨rfl, rfl, rfl, fun _ _ => rfl, fun _ _ => rfl, fun _ _ => rfl, fun _ _ => rfl, fun _ _ => rfl, fun _ _ _ => rfl⟩
theorem plE_im (I : imF hm hm' m) (hk : 1 ≤ k) : plE hm hm' m k k := by
  obtain ⟨i1, i2, i3, i4, i5, i6, i7, i8⟩ := I
  exact ⟨(i3 k hk).1, (i3 k hk).2.1, (i3 k hk).2.2, fun i hi => i4 _ (by omega), fun i hi => i5 _ (by omega), fun i hi => i6 _ (by omega), fun i hi => i7 _ (by omega), fun i hi => i8 _ (by omega), fun i hi _ => i2 _ (by omega)⟩
theorem plE_fd (L : fdL hc hc' hm hm' m) (hk : 1 ≤ k) : plE hm hm' m k k := by
  obtain ⟨_, i1, i2, i3⟩ := L
  unfold plE
  rw [i1 (m + 3) (by omega) (by omega) (by omega), i1 (m + 4) (by omega) (by omega) (by omega), i1 (m + 5) (by omega) (by omega) (by omega), i1 (m + 6) (by omega) (by omega) (by omega), i1 (m + 7) (by omega) (by omega) (by omega), i1 (m + 8) (by omega) (by omega) (by omega), i1 (m + 9) (by omega) (by omega) (by omega)]
  exact ⟨i3 k hk, rfl, rfl, fun _ _ => rfl, fun _ _ => rfl, fun _ _ => rfl, fun _ _ => rfl, fun _ _ => rfl, fun i hi _ => i2 _ (by omega)⟩
end COPYM
