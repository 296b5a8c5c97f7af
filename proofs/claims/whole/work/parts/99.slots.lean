/-! what is told, slot by slot -/
def mdL (l : List (Nat × Nat)) (m : Nat) : Prop := g_ln l (m + 6) = 1560 ∧ g_ln l (m + 7) = 248 ∧ g_ln l (m + 8) = 264 ∧ g_ln l (m + 9) = 152
def sl0 (l : List (Nat × Nat)) (hc : am_F) (b : Nat) (hm : am_F) (m k q : Nat) : Prop := pkI l hc (b + 5 + 19 * q) (slG hm m k q) ∧ pkV (slG hm m k q) ∧ ∀ y, y < 6 → hc (b + 5 + 19 * q + 6) y = slG hm m k q (58 + 4 * y)
def sl1 (l : List (Nat × Nat)) (hc : am_F) (b : Nat) (hm : am_F) (m k q : Nat) : Prop := ∃ s, s ≤ 10 ∧ hm (m + 7) (31 * (2 * k + q)) = nI s ∧ rwI l hc (b + 18 + 19 * q) 3 10 s (siG hm m k q) ∧ prV (siG hm m k q) s
def sl2 (l : List (Nat × Nat)) (hc : am_F) (b : Nat) (hm : am_F) (m k q : Nat) : Prop := ∃ s, s ≤ 8 ∧ hm (m + 8) (33 * (2 * k + q)) = nI s ∧ rwI l hc (b + 20 + 19 * q) 4 8 s (alG hm m k q) ∧ alV (alG hm m k q) s
def sl3 (l : List (Nat × Nat)) (hc : am_F) (b : Nat) (hm : am_F) (m k q : Nat) : Prop := ∃ s, s ≤ 6 ∧ hm (m + 9) (19 * (2 * k + q)) = nI s ∧ rwI l hc (b + 22 + 19 * q) 3 6 s (plG hm m k q) ∧ plV (plG hm m k q) s
def tdH (l : List (Nat × Nat)) (h : am_F) (b : Nat) : Prop := ∀ q, q < 2 → pkH l h (b + 5 + 19 * q) ∧ rwH l h (b + 18 + 19 * q) 3 10 ∧ rwH l h (b + 20 + 19 * q) 4 8 ∧ rwH l h (b + 22 + 19 * q) 3 6
section SLOTS
variable {l : List (Nat × Nat)} {r : am_R} {h hc hc' hm hm' : am_F} {a b m k q : Nat}
theorem prV_c {f f' : Nat → Int32} {s : Nat} (e : ∀ i, i < 3 * s → f' i = f i) (V : prV f s) : prV f' s := by
  intro k hk
  rw [e _ (by omega), e _ (by omega), e _ (by omega)]
  exact V k hk
theorem plV_c {f f' : Nat → Int32} {s : Nat} (e : ∀ i, i < 3 * s → f' i = f i) (V : plV f s) : plV f' s := by
  intro k hk
  rw [e _ (by omega), e _ (by omega), e _ (by omega)]
  exact V k hk
theorem alV_c {f f' : Nat → Int32} {s : Nat} (e : ∀ i, i < 4 * s → f' i = f i) (V : alV f s) : alV f' s := by
  intro k hk
  rw [e _ (by omega), e _ (by omega), e _ (by omega), e _ (by omega)]
  exact V k hk
/-- a slot of a park, made of a park at hand -/
theorem sl0_mk {G : Nat → Int32} (J : pkI l hc (b + 5 + 19 * q) G) (V : pkV G) (C : ∀ y, y < 6 → hc (b + 5 + 19 * q + 6) y = G (58 + 4 * y)) (e : ∀ i, i < 195 → hm (m + 6) (195 * (2 * k + q) + i) = G i) : sl0 l hc b hm m k q := ⟨pkI_congr e V J, pkV_congr e V, fun y hy => by rw [C y hy]; exact (e _ (by omega)).symm⟩
theorem sl0_fr (S : sl0 l hc b hm m k q) (e1 : ∀ x, b + 5 + 19 * q ≤ x → x ≤ b + 17 + 19 * q → hc' x = hc x) (e2 : ∀ i, i < 195 → hm' (m + 6) (195 * (2 * k + q) + i) = hm (m + 6) (195 * (2 * k + q) + i)) : sl0 l hc' b hm' m k q := by
  obtain ⟨J, V, C⟩ := S
  exact sl0_mk (pkI_fr J (fun x h1 h2 => e1 x (by omega) (by omega))) V (fun y hy => by rw [e1 _ (by omega) (by omega)]; exact C y hy) e2
theorem sl1_mk {G : Nat → Int32} {c : Nat} (hc10 : c ≤ 10) (g0 : G 0 = nI c) (J : rwI l hc (b + 18 + 19 * q) 3 10 c (fun i => G (1 + i))) (V : prV (fun i => G (1 + i)) c) (e : ∀ i, i < 31 → hm (m + 7) (31 * (2 * k + q) + i) = G i) : sl1 l hc b hm m k q := by
  have e' : ∀ i, i < 3 * c → siG hm m k q i = G (1 + i) := fun i hi => by
    have := e (1 + i) (by omega)
    unfold siG
    rw [← this]
    congr 1
    omega
  exact ⟨c, hc10, by rw [← g0]; exact e 0 (by decide), rwI_congr e' J, prV_c e' V⟩
theorem sl1_fr (S : sl1 l hc b hm m k q) (e1 : hc' (b + 18 + 19 * q) = hc (b + 18 + 19 * q)) (e3 : hc' (b + 18 + 19 * q + 1) = hc (b + 18 + 19 * q + 1)) (e2 : ∀ i, i < 31 → hm' (m + 7) (31 * (2 * k + q) + i) = hm (m + 7) (31 * (2 * k + q) + i)) : sl1 l hc' b hm' m k q := by
  obtain ⟨s, s1, s2, J, V⟩ := S
  have e' : ∀ i, i < 3 * s → siG hm' m k q i = siG hm m k q i := fun i hi => by
    have := e2 (1 + i) (by omega)
    unfold siG
    rw [show 31 * (2 * k + q) + 1 + i = 31 * (2 * k + q) + (1 + i) by omega]
    exact this
  exact ⟨s, s1, (e2 0 (by decide)).trans s2, rwI_congr e' (rw_fr J e1 e3), prV_c e' V⟩
theorem sl2_mk {G : Nat → Int32} {c : Nat} (hc10 : c ≤ 8) (g0 : G 0 = nI c) (J : rwI l hc (b + 20 + 19 * q) 4 8 c (fun i => G (1 + i))) (V : alV (fun i => G (1 + i)) c) (e : ∀ i, i < 33 → hm (m + 8) (33 * (2 * k + q) + i) = G i) : sl2 l hc b hm m k q := by
  have e' : ∀ i, i < 4 * c → alG hm m k q i = G (1 + i) := fun i hi => by
    have := e (1 + i) (by omega)
    unfold alG
    rw [← this]
    congr 1
    omega
  exact ⟨c, hc10, by rw [← g0]; exact e 0 (by decide), rwI_congr e' J, alV_c e' V⟩
theorem sl2_fr (S : sl2 l hc b hm m k q) (e1 : hc' (b + 20 + 19 * q) = hc (b + 20 + 19 * q)) (e3 : hc' (b + 20 + 19 * q + 1) = hc (b + 20 + 19 * q + 1)) (e2 : ∀ i, i < 33 → hm' (m + 8) (33 * (2 * k + q) + i) = hm (m + 8) (33 * (2 * k + q) + i)) : sl2 l hc' b hm' m k q := by
  obtain ⟨s, s1, s2, J, V⟩ := S
  have e' : ∀ i, i < 4 * s → alG hm' m k q i = alG hm m k q i := fun i hi => by
    have := e2 (1 + i) (by omega)
    unfold alG
    rw [show 33 * (2 * k + q) + 1 + i = 33 * (2 * k + q) + (1 + i) by omega]
    exact this
  exact ⟨s, s1, (e2 0 (by decide)).trans s2, rwI_congr e' (rw_fr J e1 e3), alV_c e' V⟩
theorem sl3_mk {G : Nat → Int32} {c : Nat} (hc10 : c ≤ 6) (g0 : G 0 = nI c) (J : rwI l hc (b + 22 + 19 * q) 3 6 c (fun i => G (1 + i))) (V : plV (fun i => G (1 + i)) c) (e : ∀ i, i < 19 → hm (m + 9) (19 * (2 * k + q) + i) = G i) : sl3 l hc b hm m k q := by
  have e' : ∀ i, i < 3 * c → plG hm m k q i = G (1 + i) := fun i hi => by
    have := e (1 + i) (by omega)
    unfold plG
    rw [← this]
    congr 1
    omega
  exact ⟨c, hc10, by rw [← g0]; exact e 0 (by decide), rwI_congr e' J, plV_c e' V⟩
theorem sl3_fr (S : sl3 l hc b hm m k q) (e1 : hc' (b + 22 + 19 * q) = hc (b + 22 + 19 * q)) (e3 : hc' (b + 22 + 19 * q + 1) = hc (b + 22 + 19 * q + 1)) (e2 : ∀ i, i < 19 → hm' (m + 9) (19 * (2 * k + q) + i) = hm (m + 9) (19 * (2 * k + q) + i)) : sl3 l hc' b hm' m k q := by
  obtain ⟨s, s1, s2, J, V⟩ := S
  have e' : ∀ i, i < 3 * s → plG hm' m k q i = plG hm m k q i := fun i hi => by
    have := e2 (1 + i) (by omega)
    unfold plG
    rw [show 19 * (2 * k + q) + 1 + i = 19 * (2 * k + q) + (1 + i) by omega]
    exact this
  exact ⟨s, s1, (e2 0 (by decide)).trans s2, rwI_congr e' (rw_fr J e1 e3), plV_c e' V⟩
theorem row_copy {x w lim lim2 n : Nat} {f : Nat → Int32} (S : rwI l h x w lim2 n f) (H : rwH l h a w lim) (hn : n ≤ lim) (ap : a + 1 < x ∨ x + 1 < a) : ∃ h', Rw_copyFrom l r a x h = some h' ∧ rwI l h' a w lim n f ∧ ∀ z, z ≠ a → z ≠ a + 1 → h' z = h z := by
  obtain ⟨n0, H⟩ := H
  refine ⟨_, Rw_copyFrom_at H S hn (by omega) (by omega), ?_, fun z h1 h2 => rwC_n h1 h2⟩
  obtain ⟨h0, h1, h2, h3, h4, h5, h6, h7⟩ := H
  refine ⟨by rw [rwC_a, upz_n (by decide)]; exact h0, by rw [rwC_a, upz_n (by decide)]; exact h1, by rw [rwC_a, upz_s], hn, h4, h5, h6, ?_⟩
  intro i hi
  rw [rwC_c hi]
  exact S.2.2.2.2.2.2.2 i hi
theorem store_l {x1 W : Nat} (hx : x1 ≠ m + 10) (hW : W ≤ 195) (hq : q < 8) (hl : W * 8 ≤ g_ln l x1) (hl2 : g_ln l x1 < 10000) : ∀ (c i fu : Nat) (h : am_F), i + c = W → c < fu → Md_store_l3 l r m x1 (nI W) (nI q) fu (nI i) h = some (fun b y => if b = x1 ∧ W * q + i ≤ y ∧ y < W * q + W then h (m + 10) (y - W * q) else h b y) := by
  have hWq : W * q + W ≤ W * 8 := by
    have := Nat.mul_le_mul_left W (show q + 1 ≤ 8 by omega)
    rw [Nat.mul_add, Nat.mul_one] at this
    exact this
  intro c
  induction c with
  | zero =>
    intro i fu h hi hfu
    obtain ⟨fu, rfl⟩ : ∃ q, fu = q + 1 := ⟨fu - 1, by omega⟩
    unfold Md_store_l3
    rw [if_pos (nI_le (by omega) (by omega))]
    congr 1
    funext b y
    rw [if_neg (by omega)]
  | succ c ih =>
    intro i fu h hi hfu
    obtain ⟨fu, rfl⟩ : ∃ q, fu = q + 1 := ⟨fu - 1, by omega⟩
    unfold Md_store_l3
    rw [if_neg (nI_ge (by omega) (by omega)), z_ix (by omega) (by decide), Option.bind_some, pk_mul, nI_add, z_ix (by omega) (by omega), Option.bind_some, nI_1, ih (i + 1) fu _ (by omega) (by omega)]
    congr 1
    funext b y
    simp only [z_up]
    by_cases c1 : b = x1 ∧ W * q + (i + 1) ≤ y ∧ y < W * q + W
    · rw [if_pos c1, if_pos (show b = x1 ∧ W * q + i ≤ y ∧ y < W * q + W by omega), if_neg (fun z => hx z.1.symm)]
    · rw [if_neg c1]
      by_cases c2 : b = x1 ∧ y = W * q + i
      · rw [if_pos c2, if_pos (by omega), c2.2]
        congr 1
        omega
      · rw [if_neg c2, if_neg (by omega)]
/-- stored by the reference -/
def stN' (h : am_F) (m x1 W q : Nat) : am_F := fun b y => if b = x1 ∧ W * q ≤ y ∧ y < W * q + W then h (m + 10) (y - W * q) else h b y
theorem store_at {x1 W : Nat} (hx : x1 ≠ m + 10) (hW : W ≤ 195) (hq : q < 8) (hl : W * 8 ≤ g_ln l x1) (hl2 : g_ln l x1 < 10000) : Md_store l r m x1 (nI W) (nI q) h = some (stN' h m x1 W q) := by
  have e := store_l (l := l) (r := r) (m := m) hx hW hq hl hl2 W 0 g_fu h (by omega) (by unfold g_fu; omega)
  have e' : Md_store_l3 l r m x1 (nI W) (nI q) g_fu 0 h = _ := e
  unfold Md_store
  rw [e']
  rfl
theorem st_in {x1 W i : Nat} (hi : i < W) : stN' h m x1 W q x1 (W * q + i) = h (m + 10) i := by
  unfold stN'
  rw [if_pos ⟨rfl, by omega, by omega⟩]
  congr 1
  omega
theorem st_out {x1 W y : Nat} (hy : y < W * q ∨ W * q + W ≤ y) : stN' h m x1 W q x1 y = h x1 y := by
  unfold stN'
  rw [if_neg (by omega)]
theorem st_o {x1 W x : Nat} (hx : x ≠ x1) : stN' h m x1 W q x = h x := by
  funext y
  unfold stN'
  rw [if_neg (fun z => hx z.1)]
end SLOTS
