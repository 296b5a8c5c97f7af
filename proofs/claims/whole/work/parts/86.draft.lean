/-! drafts: class and reference -/
def pkJ (l : List (Nat × Nat)) (h : am_F) (p : Nat) (g : Nat → Int32) : Prop := (h p 0 = g 0 ∧ h p 1 = g 1 ∧ h p 2 = g 2 ∧ h p 3 = g 3) ∧ (∀ i, i < 48 → h (p + 1) i = g (7 + i)) ∧ (∀ b, b < nV (g 3) → h (p + 3) b = g (55 + 4 * b)) ∧ (∀ b, b < 6 → h (p + 4) b = g (56 + 4 * b) ∧ h (p + 5) b = g (57 + 4 * b) ∧ h (p + 6) b = g (58 + 4 * b)) ∧ rwI l h (p + 7) 3 8 (nV (g 4)) (fun i => g (79 + i)) ∧ rwI l h (p + 9) 2 4 (nV (g 5)) (fun i => g (103 + i)) ∧ rwI l h (p + 11) 6 14 (nV (g 6)) (fun i => g (111 + i))
def pkW (g : Nat → Int32) (B : Nat) : Prop := (zN (g 0) 61 ∧ 1 ≤ nV (g 0)) ∧ (zN (g 1) 61) ∧ (zN (g 2) 101) ∧ (zN (g 3) 7) ∧ (zN (g 4) 9) ∧ (zN (g 5) 5) ∧ (zN (g 6) 15) ∧ (∀ i, i < 48 → zN (g (7 + i)) 10) ∧ (∀ b, b < 6 → zP (g (56 + 4 * b)) ∧ zP (g (57 + 4 * b)) ∧ zP (g (58 + 4 * b))) ∧ (∀ b, b < nV (g 3) → zN (g (55 + 4 * b)) 10 ∧ 1 ≤ nV (g (55 + 4 * b))) ∧ (∀ k, k < nV (g 4) → zN (g (79 + 3 * k)) B ∧ zN (g (79 + (3 * k + 1))) 48 ∧ zN (g (79 + (3 * k + 2))) 10 ∧ 1 ≤ nV (g (79 + (3 * k + 2)))) ∧ (∀ k, k < nV (g 5) → zN (g (103 + 2 * k)) B ∧ zN (g (103 + (2 * k + 1))) 48) ∧ (∀ k, k < nV (g 6) → zN (g (111 + 6 * k)) 5 ∧ zN (g (111 + (6 * k + 1))) 48 ∧ zN (g (111 + (6 * k + 2))) B ∧ zN (g (111 + (6 * k + 3))) 10 ∧ zN (g (111 + (6 * k + 4))) 10 ∧ zN (g (111 + (6 * k + 5))) 10)
theorem zN_le {x : Int32} {N M : Nat} (h : zN x N) (hm : N ≤ M) : zN x M := by
  obtain ⟨n, h1, h2⟩ := h
  exact ⟨n, by omega, h2⟩
theorem zN_nI {n N : Nat} (h : n < N) : zN (nI n) N := ⟨n, h, rfl⟩
theorem pkW_le {g : Nat → Int32} {B B' : Nat} (W : pkW g B) (h : B ≤ B') : pkW g B' := by
  obtain ⟨h0, h1, h2, h3, h4, h5, h6, h7, h8, h9, h10, h11, h12⟩ := W
  exact ⟨h0, h1, h2, h3, h4, h5, h6, h7, h8, h9, fun k hk => ⟨zN_le (h10 k hk).1 h, (h10 k hk).2⟩, fun k hk => ⟨zN_le (h11 k hk).1 h, (h11 k hk).2⟩, fun k hk => ⟨(h12 k hk).1, (h12 k hk).2.1, zN_le (h12 k hk).2.2.1 h, (h12 k hk).2.2.2⟩⟩
theorem pkW_V {g : Nat → Int32} {B : Nat} (W : pkW g B) (h : B ≤ nV (g 3)) : pkV g := pkW_le W h
section DRAFT
variable {l : List (Nat × Nat)} {r : am_R} {h hc hm : am_F} {a m p w lim c : Nat} {f f' g : Nat → Int32} {j : am_J}
theorem rw_fr {h' : am_F} (H : rwI l h a w lim c f) (e1 : h' a = h a) (e2 : h' (a + 1) = h (a + 1)) : rwI l h' a w lim c f := by
  unfold rwI
  rw [e1, e2]
  exact H
theorem rw_add (H : rwI l h a w lim c f) (hc : c < lim) (e1 : ∀ k, k < w → g k = f' (w * c + k)) (e2 : ∀ i, i < w * c → f' i = f i) : rwI l (rwN h a w c g) a w lim (c + 1) f' := by
  obtain ⟨h0, h1, h2, h3, h4, h5, h6, h7⟩ := H
  have A : ∀ y, y ≠ 3 → rwN h a w c g a y = h a y := by
    intro y hy
    unfold rwN
    rw [if_neg (by omega), if_neg (by omega)]
  refine ⟨by rw [A 0 (by decide)]; exact h0, by rw [A 1 (by decide)]; exact h1, ?_, by omega, h4, h5, h6, ?_⟩
  · unfold rwN
    rw [if_neg (by omega), if_pos ⟨rfl, rfl⟩]
  · intro i hi
    rw [Nat.mul_add, Nat.mul_one] at hi
    unfold rwN
    by_cases c1 : w * c ≤ i
    · rw [if_pos ⟨rfl, c1, hi⟩, e1 _ (by omega)]
      congr 1
      omega
    · rw [if_neg (by omega), if_neg (by omega), h7 i (by omega), e2 i (by omega)]
theorem rwN_o {x n : Nat} (h1 : x ≠ a) (h2 : x ≠ a + 1) : rwN h a w n g x = h x := by
  funext y
  unfold rwN
  rw [if_neg (by omega), if_neg (by omega)]
theorem setR_l {v1 : Nat} {v : Int32} (hv : v1 < 48) : ∀ (c x fu : Nat) (h : am_F), x + c = v1 + 1 → c < fu → Pk_setRates_l7 p (nI v1) v fu (nI x) h = some (fun b y => if b = p + 1 ∧ x ≤ y ∧ y ≤ v1 then v else h b y) := by
  intro c
  induction c with
  | zero =>
    intro x fu h hx hf
    obtain ⟨fu, rfl⟩ : ∃ q, fu = q + 1 := ⟨fu - 1, by omega⟩
    unfold Pk_setRates_l7
    rw [if_pos (nI_lt (by omega) (by omega))]
    congr 1
    funext b y
    rw [if_neg (by omega)]
  | succ c ih =>
    intro x fu h hx hf
    obtain ⟨fu, rfl⟩ : ∃ q, fu = q + 1 := ⟨fu - 1, by omega⟩
    unfold Pk_setRates_l7
    rw [if_neg (nI_nlt (by omega) (by omega)), if_neg (show ¬ (48 : Int32) ≤ nI x from nI_ge (show x < 48 by omega) (by decide)), z_ix (by omega) (by decide), Option.bind_some, nI_1, ih (x + 1) fu _ (by omega) (by omega)]
    congr 1
    funext b y
    simp only [z_up]
    repeat' split
    all_goals first | rfl | (exfalso; omega)
theorem rate_l {v1 : Nat} (hv : v1 < 48) : ∀ (c x fu : Nat) (h : am_F), x + c = v1 + 1 → c < fu → h m 22 ≠ 0 → h (m + 11) 1 = nI v1 → Md_rateLine_l47 m j fu (nI x) h = some (fun b y => if b = m + 10 ∧ 7 + x ≤ y ∧ y ≤ 7 + v1 then h (m + 11) 2 else h b y) := by
  intro c
  induction c with
  | zero =>
    intro x fu h hx hf h22 h1
    obtain ⟨fu, rfl⟩ : ∃ q, fu = q + 1 := ⟨fu - 1, by omega⟩
    unfold Md_rateLine_l47
    rw [if_neg h22, h1, if_pos (nI_lt (by omega) (by omega))]
    congr 1
    funext b y
    rw [if_neg (by omega)]
  | succ c ih =>
    intro x fu h hx hf h22 h1
    obtain ⟨fu, rfl⟩ : ∃ q, fu = q + 1 := ⟨fu - 1, by omega⟩
    unfold Md_rateLine_l47
    rw [if_neg h22, h1, if_neg (nI_nlt (by omega) (by omega)), show (7 : Int32) = nI 7 from rfl, nI_add, z_ix (by omega) (by decide), Option.bind_some, nI_1, ih (x + 1) fu _ (by omega) (by omega) (by rw [z_upr (by omega)]; exact h22) (by rw [z_upr (by omega)]; exact h1), z_upr (by omega)]
    congr 1
    funext b y
    simp only [z_up]
    repeat' split
    all_goals first | rfl | (exfalso; omega)
theorem keep_l {x1 bs st n c : Nat} (hw : n ≤ 6) (hb : bs + st * c + n ≤ 195) : ∀ (q k fu : Nat) (h : am_F), k + q = n → q < fu → Md_keep_l19 m (nI x1) (nI bs) (nI n) (nI st) (nI c) fu (nI k) h = some (fun b y => if b = m + 10 ∧ bs + st * c + k ≤ y ∧ y < bs + st * c + n then h (m + 11) (y - (bs + st * c)) else h b y) := by
  intro q
  induction q with
  | zero =>
    intro k fu h hk hf
    obtain ⟨fu, rfl⟩ : ∃ q, fu = q + 1 := ⟨fu - 1, by omega⟩
    unfold Md_keep_l19
    rw [if_pos (nI_le (by omega) (by omega))]
    congr 1
    funext b y
    rw [if_neg (by omega)]
  | succ q ih =>
    intro k fu h hk hf
    obtain ⟨fu, rfl⟩ : ∃ q, fu = q + 1 := ⟨fu - 1, by omega⟩
    unfold Md_keep_l19
    rw [if_neg (nI_ge (by omega) (by omega)), z_ix (by omega) (by decide), Option.bind_some, pk_mul, nI_add, nI_add, z_ix (by omega) (by decide), Option.bind_some, nI_1, ih (k + 1) fu _ (by omega) (by omega)]
    congr 1
    funext b y
    simp only [z_up]
    by_cases c1 : b = m + 10 ∧ bs + st * c + (k + 1) ≤ y ∧ y < bs + st * c + n
    · rw [if_pos c1, if_pos (show b = m + 10 ∧ bs + st * c + k ≤ y ∧ y < bs + st * c + n by omega), if_neg (by omega)]
    · rw [if_neg c1]
      by_cases c2 : b = m + 10 ∧ y = bs + st * c + k
      · rw [if_pos c2, if_pos (by omega), c2.2]
        congr 1
        omega
      · rw [if_neg c2, if_neg (by omega)]
theorem keep_at {x1 bs w st lim c : Nat} (hw : w ≤ 6) (h1 : x1 < 195) (hl : lim < 100) (hb : bs + st * c + w ≤ 195) (hx : x1 < bs) (e : h (m + 10) x1 = nI c) (hc : c < lim) : Md_keep m (nI x1) (nI bs) (nI w) (nI st) (nI lim) h = some (fun b y => if b = m + 10 ∧ bs + st * c ≤ y ∧ y < bs + st * c + w then h (m + 11) (y - (bs + st * c)) else if b = m + 10 ∧ y = x1 then nI (c + 1) else h b y) := by
  unfold Md_keep
  rw [z_ix h1 (by decide)]
  simp only [Option.bind_some]
  rw [e, if_neg (fun z => by have := (nI_eq (show c < 2 ^ 31 by omega) (show lim < 2 ^ 31 by omega)).1 z; omega), show (0 : Int32) = nI 0 from rfl, keep_l hw hb w 0 g_fu h (by omega) (by unfold g_fu; omega)]
  simp only [Option.bind_some]
  congr 1
  funext b y
  simp only [z_up]
  by_cases c1 : b = m + 10 ∧ y = x1
  · rw [if_pos c1, if_neg (by omega), if_neg (by omega), if_pos c1]
    rw [e, nI_1]
  · rw [if_neg c1, if_neg c1]
    rfl
theorem keep_full {x1 lim : Nat} {x2 x3 x4 : Int32} (h1 : x1 < 195) (e : h (m + 10) x1 = nI lim) : Md_keep m (nI x1) x2 x3 x4 (nI lim) h = some h := by
  unfold Md_keep
  rw [z_ix h1 (by decide), Option.bind_some, e, if_pos rfl]
end DRAFT
