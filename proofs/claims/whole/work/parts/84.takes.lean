/-! a number taken: class and reference -/
section TAKES
variable {l : List (Nat × Nat)} {r : am_R} {hc hm : am_F} {a m tp L i d b0 f e : Nat} {T vs : Nat → Nat} {j : am_J} {t : tkI} {x2 : Int32}
theorem up_row {h : am_F} {x k : Nat} {v : Int32} : (am_up h x k v) x = fun y => if y = k then v else h x y := by
  funext y
  rw [z_up]
  by_cases c : y = k
  · rw [if_pos ⟨rfl, c⟩, if_pos c]
  · rw [if_neg (fun q => c q.2), if_neg c]
theorem rng_no {lo hi v : Nat} (h1 : lo < 1001) (h2 : hi < 1000) (hv : v < 1000) (hr : ¬ (lo ≤ v ∧ v ≤ hi)) : Md_in (nI v) (nI lo) (nI hi) = 0 := by
  apply Md_in_no
  by_cases c : lo ≤ v
  · exact .inr (nI_lt (by omega) (by omega))
  · exact .inl (nI_lt (by omega) (by omega))
theorem take_pre (ho : okI t) (hi6 : i + d < 6) (htp : tp ≠ a + 20) (H : tpR l r hc hm a m tp L T) (K : tkR hc hm j a m L T f e) (F : ftR hc hm a m f) (N : nmR hc hm a m d b0 i vs) (hpv : tPv t = true → b0 < i) {v : Nat} (hv : v < 1000) (h10 : hc a 10 = 2) (h12 : hc a 12 = nI v) (h14 : hm m 14 = nI v) : ∃ hc1 g3, Rd_takeNumber l r a (nI (tC t)) (nI i) hc = some (1, hc1) ∧ (if (Md_in ((am_up hm (m + 11) (i + d) (hm m 14)) m 14) (nI (loN t vs i)) (nI (tHi t))) = 0 then (Md_later m (2 : Int32) ((am_up hm (m + 11) (i + d) (hm m 14)) m 12) (am_up hm (m + 11) (i + d) (hm m 14))).bind fun q5 => some (am_up q5 m 22 (0 : Int32)) else some (am_up hm (m + 11) (i + d) (hm m 14)) : Option am_F) = some g3 ∧ hc1 a 9 = nI e ∧ g3 m 10 = nI e ∧ tpR l r hc1 g3 a m tp L T ∧ ftR hc1 g3 a m (f + 1) ∧ (hc1 (a + 20) = fun y => if y = i then nI v else hc (a + 20) y) ∧ (g3 (m + 11) = fun y => if y = i + d then nI v else hm (m + 11) y) ∧ (∀ x, x ≠ a → x ≠ a + 20 → hc1 x = hc x) ∧ (∀ x, x ≠ m → x ≠ m + 11 → g3 x = hm x) ∧ (hc1 a 4 = 0 → hc a 4 = 0 ∧ loN t vs i ≤ v ∧ v ≤ tHi t) ∧ (g3 m 22 = if loN t vs i ≤ v ∧ v ≤ tHi t then hm m 22 else 0) ∧ (loN t vs i ≤ v ∧ v ≤ tHi t → hc1 a 13 = if tC t = 98 then (if hc a 13 < nI v then nI v else hc a 13) else hc a 13) ∧ g3 m 21 = hm m 21 := by
  obtain ⟨⟨o0, o1, o2⟩, o3, o4, o5, o6, o7⟩ := ho
  obtain ⟨k1, k2, k3, k4, k5, k6, k7⟩ := K
  have hL := H.2.2.1
  have hlo : loN t vs i < 1001 := by
    unfold loN
    split
    · rename_i c
      have := (N (i - 1) (by have := hpv c; omega)).2.2
      omega
    · omega
  have a20 : a + 20 ≠ a := by omega
  have n20 : a ≠ a + 20 := by omega
  have m11 : m ≠ m + 11 := by omega
  generalize eh1 : am_up hc (a + 20) i (nI v) = h1
  generalize eg1 : am_up hm (m + 11) (i + d) (nI v) = g1
  have r1 : ∀ y, h1 a y = hc a y := fun y => by rw [← eh1, z_upr n20]
  have r2 : ∀ y, g1 m y = hm m y := fun y => by rw [← eg1, z_upr m11]
  have r3 : h1 (a + 20) = fun y => if y = i then nI v else hc (a + 20) y := by rw [← eh1, up_row]
  have r4 : g1 (m + 11) = fun y => if y = i + d then nI v else hm (m + 11) y := by rw [← eg1, up_row]
  have r5 : ∀ x, x ≠ a → x ≠ a + 20 → h1 x = hc x := fun x _ hx => by rw [← eh1, z_upr hx]
  have r6 : ∀ x, x ≠ m → x ≠ m + 11 → g1 x = hm x := fun x _ hx => by rw [← eg1, z_upr hx]
  have H1 : tpR l r h1 g1 a m tp L T := tp_fr H (r5 _ H.2.2.2.1 htp) (r1 8) (r6 _ (by omega) (by omega)) (r2 11)
  have F1 : ftR h1 g1 a m f := ft_fr F (r1 4) (r1 5) (r2 17) (r2 18)
  have q18 : (if (if tPv t = true then (1 : Int32) else 0) = 0 then some (Rd_leastOf (nI (tC t))) else if nI i ≤ 0 then some (Rd_leastOf (nI (tC t))) else (g_ix (nI i - 1) 6).bind fun k17 => some (if (Rd_leastOf (nI (tC t))) < (h1 (a + 20) k17) then (h1 (a + 20) k17) else (Rd_leastOf (nI (tC t)))) : Option Int32) = some (nI (loN t vs i)) := by
    rw [o4]
    unfold loN
    by_cases c : tPv t = true
    · have hi0 := hpv c
      have hN := N (i - 1) (by omega)
      rw [if_pos c, if_pos c, if_neg (by decide), if_neg (show ¬ nI i ≤ 0 from nI_ge (show 0 < i by omega) (by omega)), show (1 : Int32) = nI 1 from rfl, pk_sub (by omega), z_ix (by omega) (by decide), Option.bind_some, r3]
      simp only
      rw [if_neg (show ¬ i - 1 = i by omega), hN.1]
      by_cases c2 : tLo t < vs (i - 1)
      · rw [if_pos (nI_lt c2 (by omega)), Nat.max_eq_right (by omega)]
      · rw [if_neg (nI_nlt (by omega) (by omega)), Nat.max_eq_left (by omega)]
    · rw [if_neg c, if_neg c, if_pos rfl]
  unfold Rd_takeNumber
  rw [if_neg (nI_pos (show i < 2 ^ 31 by omega)), if_pos (show nI i < 6 from nI_lt (show i < 6 by omega) (by decide)), if_neg o3, if_pos h10, z_ix (show i < 6 by omega) (by decide)]
  rw [h12, h14]
  simp only [Option.bind_some]
  rw [eh1, eg1, o6, Option.bind_some, q18, Option.bind_some, o5, r1 12, r1 11, r2 14, r2 12, h12, h14, k3, k4]
  by_cases R : loN t vs i ≤ v ∧ v ≤ tHi t
  · rw [if_neg (nI_nlt R.1 (by omega)), if_pos (nI_le R.2 (by omega)), Md_in_yes R.1 R.2 (by omega), if_neg (show ¬ (1 : Int32) = 0 by decide)]
    by_cases c98 : tC t = 98
    · rw [if_pos (show nI (tC t) = 98 by rw [c98]; rfl), Option.bind_some]
      refine ⟨_, _, rfl, rfl, ?_, ?_, ?_, ?_, ?_, r4, ?_, r6, ?_, ?_, ?_, ?_⟩
      · rw [z_ups, upz_n (by decide), r1, k1]
      · rw [r2, k2]
      · exact tp_fr H1 (z_upr H.2.2.2.1) (by rw [z_ups, upz_n (by decide)]) rfl rfl
      · exact ft_le (ft_fr F1 (by rw [z_ups, upz_n (by decide)]) (by rw [z_ups, upz_n (by decide)]) rfl rfl) (by omega)
      · rw [z_upr a20, r3]
      · intro x hx hx2
        rw [z_upr hx, r5 x hx hx2]
      · rw [z_ups, upz_n (by decide), r1]
        exact fun h => ⟨h, R⟩
      · rw [r2, if_pos R]
      · intro _
        rw [if_pos c98, z_ups, upz_s, r1]
      · rw [r2]
    · rw [if_neg (show ¬ nI (tC t) = 98 from fun h => c98 ((nI_eq (by omega) (by decide)).1 (show nI (tC t) = nI 98 from h))), Option.bind_some]
      refine ⟨_, _, rfl, rfl, ?_, ?_, H1, ft_le F1 (by omega), r3, r4, r5, r6, ?_, ?_, ?_, ?_⟩
      · rw [r1, k1]
      · rw [r2, k2]
      · rw [r1]
        exact fun h => ⟨h, R⟩
      · rw [r2, if_pos R]
      · intro _
        rw [if_neg c98, r1]
      · rw [r2]
  · obtain ⟨hc', hm', f1, f2, f3, f4, f5, f6, f7, f8⟩ := flt_eq (c := 2) (.inl rfl) (show f < 1000 by omega) F1
    have f1' : Rd_noteFault a 2 (nI f) h1 = some hc' := f1
    have f2' : Md_later m 2 (nI f) g1 = some hm' := f2
    have hcl : ∀ (X : Option am_F), (if nI v < nI (loN t vs i) then (some hc' : Option am_F) else if nI v ≤ nI (tHi t) then X else some hc') = some hc' := by
      intro X
      by_cases c : v < loN t vs i
      · rw [if_pos (nI_lt c (by omega))]
      · rw [if_neg (nI_nlt (by omega) (by omega)), if_neg (nI_ge (by omega) (by omega))]
    rw [f1', Option.bind_some, hcl, Option.bind_some, rng_no hlo o2 hv R, if_pos rfl, f2', Option.bind_some]
    refine ⟨_, _, rfl, rfl, ?_, ?_, ?_, ?_, ?_, ?_, ?_, ?_, ?_, ?_, ?_, ?_⟩
    · rw [f5 9 (by decide) (by decide), r1, k1]
    · rw [z_ups, upz_n (by decide), f7 10 (by decide) (by decide), r2, k2]
    · exact tp_fr H1 (f6 _ H.2.2.2.1) (f5 8 (by decide) (by decide)) (by rw [z_upr (by omega), f8 _ (by omega)]) (by rw [z_ups, upz_n (by decide), f7 11 (by decide) (by decide)])
    · exact ft_fr f3 rfl rfl (by rw [z_ups, upz_n (by decide)]) (by rw [z_ups, upz_n (by decide)])
    · rw [f6 _ a20, r3]
    · rw [z_upr (by omega), f8 _ (by omega), r4]
    · intro x hx hx2
      rw [f6 x hx, r5 x hx hx2]
    · intro x hx hx2
      rw [z_upr hx, f8 x hx, r6 x hx hx2]
    · exact fun h => absurd h f4
    · rw [if_neg R, z_ups, upz_s]
    · exact fun h => absurd h R
    · rw [z_ups, upz_n (by decide), f7 21 (by decide) (by decide), r2]
theorem tk_21 {x : Int32} (K : tkR hc hm j a m L T f e) : tkR hc (am_up hm m 21 x) j a m L T f e := by
  unfold tkR
  rw [z_ups, upz_n (by decide), upz_n (by decide), upz_n (by decide), upz_n (by decide)]
  exact K
theorem take_yes (ho : okI t) (hi6 : i + d < 6) (htp : tp ≠ a + 20) (H : tpR l r hc hm a m tp L T) (K : tkR hc hm j a m L T f e) (F : ftR hc hm a m f) (N : nmR hc hm a m d b0 i vs) (hpv : tPv t = true → b0 < i) (h13 : hm m 13 = 3) : ∃ v f' e' hc1 hc' hm' j', v < 1000 ∧ Rd_takeNumber l r a (nI (tC t)) (nI i) hc = some (1, hc1) ∧ Rd_next l r a hc1 = some hc' ∧ (bif tBn t then Md_takeBench m (nI (i + d)) hm j else Md_take m (nI (i + d)) (tkLo m d i t hm) (nI (tHi t)) hm j) = some (1, hm', j') ∧ f < f' ∧ tpR l r hc' hm' a m tp L T ∧ tkR hc' hm' j' a m L T f' e' ∧ ftR hc' hm' a m f' ∧ (hc' (a + 20) = fun y => if y = i then nI v else hc (a + 20) y) ∧ (hm' (m + 11) = fun y => if y = i + d then nI v else hm (m + 11) y) ∧ (∀ x, x ≠ a → x ≠ a + 20 → hc' x = hc x) ∧ (∀ x, x ≠ m → x ≠ m + 11 → hm' x = hm x) ∧ (hc' a 4 = 0 → hc a 4 = 0 ∧ loN t vs i ≤ v ∧ v ≤ tHi t) ∧ (hm' m 22 = if loN t vs i ≤ v ∧ v ≤ tHi t then hm m 22 else 0) ∧ (∀ B, B ≤ 6 → (tC t = 98 → tBn t = true) → hc a 13 = fbI B → hm m 21 = fbI B → hc' a 4 = 0 → ∃ B', B ≤ B' ∧ B' ≤ 6 ∧ hc' a 13 = fbI B' ∧ hm' m 21 = fbI B' ∧ (tBn t = true → v < B')) := by
  obtain ⟨v, hv, fe, h10, h12, h14⟩ : ∃ v, v < 1000 ∧ f < e ∧ hc a 10 = 2 ∧ hc a 12 = nI v ∧ hm m 14 = nI v := by
    rcases K.2.2.2.2.2.2 with ⟨q1, q2, _⟩ | ⟨q1, q2, _⟩ | ⟨q1, q2, q3, v, q4, q5, q6⟩ | ⟨q1, q2, _⟩ | ⟨q1, q2, _⟩
    · rw [h13] at q2; exact absurd q2 (by decide)
    · rw [h13] at q2; exact absurd q2 (by decide)
    · exact ⟨v, q4, q3, q1, q5, q6⟩
    · rw [h13] at q2; exact absurd q2 (by decide)
    · rw [h13] at q2; exact absurd q2 (by decide)
  obtain ⟨hc1, g3, p1, p2, p3, p4, p5, p6, p7, p8, p9, p10, p11, p12, p13, p14⟩ := take_pre ho hi6 htp H K F N hpv hv h10 h12 h14
  have eL := K.2.2.2.2.2.1
  obtain ⟨f', e', hc', hm', j', n1, n2, n3, n4, n5, n6, n7, n8, n9⟩ := next_eq (j := j) p5 eL p3 p4
  have hlo : tkLo m d i t hm = nI (loN t vs i) := tkLo_at (fun c => by
    have := hpv c
    exact ⟨(N (i - 1) (by omega)).2.1 (by omega), (N (i - 1) (by omega)).2.2⟩) ho
  have hT : Md_take m (nI (i + d)) (nI (loN t vs i)) (nI (tHi t)) hm j = some (1, hm', j') := by
    unfold Md_take
    rw [if_pos h13, z_ix hi6 (by decide), Option.bind_some, p2, Option.bind_some, n2]
    rfl
  have G1 : hc' (a + 20) = fun y => if y = i then nI v else hc (a + 20) y := by rw [n7 _ (by omega), p7]
  have G2 : hm' (m + 11) = fun y => if y = i + d then nI v else hm (m + 11) y := by rw [n9 _ (by omega), p8]
  have G3 : ∀ x, x ≠ a → x ≠ a + 20 → hc' x = hc x := fun x h1 h2 => by rw [n7 x h1, p9 x h1 h2]
  have G4 : ∀ x, x ≠ m → x ≠ m + 11 → hm' x = hm x := fun x h1 h2 => by rw [n9 x h1, p10 x h1 h2]
  have G5 : ftR hc' hm' a m f' := ft_le (ft_fr p6 (n6 4 (by decide) (by decide) (by decide) (by decide)) (n6 5 (by decide) (by decide) (by decide) (by decide)) (n8 17 (by decide) (by decide) (by decide) (by decide)) (n8 18 (by decide) (by decide) (by decide) (by decide))) (by omega)
  have G6 : hc' a 4 = 0 → hc a 4 = 0 ∧ loN t vs i ≤ v ∧ v ≤ tHi t := fun h => p11 (by rw [← h, n6 4 (by decide) (by decide) (by decide) (by decide)])
  have G7 : hm' m 22 = if loN t vs i ≤ v ∧ v ≤ tHi t then hm m 22 else 0 := by rw [n8 22 (by decide) (by decide) (by decide) (by decide), p12]
  have e13 : hc' a 13 = hc1 a 13 := n6 13 (by decide) (by decide) (by decide) (by decide)
  have e21 : hm' m 21 = hm m 21 := by rw [n8 21 (by decide) (by decide) (by decide) (by decide), p14]
  by_cases cb : tBn t = true
  · obtain ⟨b1, b2, b3, b4⟩ := ho.2.2.2.2.2 cb
    have hl0 : loN t vs i = 0 := by
      unfold loN
      rw [if_neg (by rw [b3]; decide), b2]
    rw [hl0, b4] at hT
    have hT' : Md_take m (nI (i + d)) 0 5 hm j = some (1, hm', j') := hT
    refine ⟨v, f', e', hc1, hc', am_up hm' m 21 (Md_greater (hm' m 21) (hm' (m + 11) (i + d))), j', hv, p1, n1, ?_, by omega, ?_, tk_21 n5, ft_fr G5 rfl rfl (by rw [z_ups, upz_n (by decide)]) (by rw [z_ups, upz_n (by decide)]), G1, ?_, G3, ?_, G6, ?_, ?_⟩
    · rw [cb]
      simp only [cond_true]
      unfold Md_takeBench
      rw [hT', Option.bind_some, if_neg (show ¬ (1 : Int32) = 0 by decide), z_ix hi6 (by decide)]
      rfl
    · exact tp_fr n4 rfl rfl (z_upr (by omega)) (by rw [z_ups, upz_n (by decide)])
    · rw [z_upr (by omega), G2]
    · intro x h1 h2
      rw [z_upr h1, G4 x h1 h2]
    · rw [z_ups, upz_n (by decide), G7]
    · intro B hB _ s1 s2 s3
      obtain ⟨_, R⟩ := G6 s3
      obtain ⟨B', y1, y2, y3, y4, y5⟩ := fb_max hB (show v ≤ 5 by have := R.2; omega)
      refine ⟨B', y1, y2, ?_, ?_, fun _ => y3⟩
      · rw [e13, p13 R, if_pos b1, s1, y4]
      · rw [z_ups, upz_s, e21, s2, G2]
        simp only [if_true]
        rw [y5]
  · have cb' : tBn t = false := by rw [Bool.not_eq_true] at cb; exact cb
    refine ⟨v, f', e', hc1, hc', hm', j', hv, p1, n1, ?_, by omega, n4, n5, G5, G1, G2, G3, G4, G6, G7, ?_⟩
    · rw [cb', hlo]
      simp only [cond_false]
      exact hT
    · intro B hB s0 s1 s2 s3
      obtain ⟨_, R⟩ := G6 s3
      refine ⟨B, Nat.le_refl _, hB, ?_, ?_, fun h => absurd h cb⟩
      · rw [e13, p13 R, if_neg (fun h => cb (s0 h)), s1]
      · rw [e21, s2]
/-- all numbers of a line within their bounds -/
def rgA : List tkI → Nat → (Nat → Nat) → Prop
  | [], _, _ => True
  | t :: ts, i, vs => (loN t vs i ≤ vs i ∧ vs i ≤ tHi t) ∧ rgA ts (i + 1) vs
def bnA (B : Nat) : List tkI → Nat → (Nat → Nat) → Prop
  | [], _, _ => True
  | t :: ts, i, vs => (tBn t = true → vs i < B) ∧ bnA B ts (i + 1) vs
def okA (b0 : Nat) : List tkI → Nat → Prop
  | [], _ => True
  | t :: ts, i => okI t ∧ (tPv t = true → b0 < i) ∧ okA b0 ts (i + 1)
theorem bn_le {B B' : Nat} (h : B ≤ B') : ∀ (ts : List tkI) (i : Nat), bnA B ts i vs → bnA B' ts i vs := by
  intro ts
  induction ts with
  | nil => intro i _; trivial
  | cons t ts ih => intro i hb; exact ⟨fun c => Nat.lt_of_lt_of_le (hb.1 c) h, ih (i + 1) hb.2⟩
/-- broken off at f, for both -/
def brR (l : List (Nat × Nat)) (r : am_R) (hc hm : am_F) (a m tp L : Nat) (T : Nat → Nat) (f : Nat) : Prop := f ≤ L ∧ hc a 4 = 1 ∧ hc a 5 = nI f ∧ hm m 16 = nI f ∧ tpR l r hc hm a m tp L T ∧ ∃ e, e ≤ L ∧ hc a 9 = nI e ∧ hm m 10 = nI e
theorem brk_at (H : tpR l r hc hm a m tp L T) (K : tkR hc hm j a m L T f e) : brR l r (am_up (am_up hc a 4 1) a 5 (nI f)) (am_up hm m 16 (nI f)) a m tp L T f := by
  refine ⟨by have := K.2.2.2.2.1; have := K.2.2.2.2.2.1; omega, ?_, ?_, ?_, ?_, e, K.2.2.2.2.2.1, ?_, ?_⟩
  · rw [z_ups, upz_n (by decide), z_ups, upz_s]
  · rw [z_ups, upz_s]
  · rw [z_ups, upz_s]
  · exact tp_fr H (by rw [z_upr H.2.2.2.1, z_upr H.2.2.2.1]) (by rw [z_ups, upz_n (by decide), z_ups, upz_n (by decide)]) (z_upr (by omega)) (by rw [z_ups, upz_n (by decide)])
  · rw [z_ups, upz_n (by decide), z_ups, upz_n (by decide), K.1]
  · rw [z_ups, upz_n (by decide), K.2.1]
theorem chain_eq (htp : tp ≠ a + 20) : ∀ (ts : List tkI) (i f e : Nat) (vs : Nat → Nat) (hc hm : am_F) (j : am_J), okA b0 ts i → i + ts.length + d ≤ 6 → tpR l r hc hm a m tp L T → tkR hc hm j a m L T f e → ftR hc hm a m f → nmR hc hm a m d b0 i vs →
    (∃ f' hc' hm' j', (∀ x2, tkC l r a x2 (ts.map tC) i hc = some hc') ∧ (∀ K, mtC m d K ts i hm j = some (0, hm', j')) ∧ brR l r hc' hm' a m tp L T f' ∧ (∀ x, x ≠ a → x ≠ a + 20 → hc' x = hc x) ∧ (∀ x, x ≠ m → x ≠ m + 11 → hm' x = hm x)) ∨
    (∃ f' e' vs' hc' hm' j', f ≤ f' ∧ (∀ x2, tkC l r a x2 (ts.map tC) i hc = finC l r a x2 hc') ∧ (∀ K, mtC m d K ts i hm j = K hm' j') ∧ tpR l r hc' hm' a m tp L T ∧ tkR hc' hm' j' a m L T f' e' ∧ ftR hc' hm' a m f' ∧ nmR hc' hm' a m d b0 (i + ts.length) vs' ∧ (∀ k, k < i → vs' k = vs k) ∧ (∀ x, x ≠ a → x ≠ a + 20 → hc' x = hc x) ∧ (∀ x, x ≠ m → x ≠ m + 11 → hm' x = hm x) ∧ (hc' a 4 = 0 → hc a 4 = 0 ∧ rgA ts i vs') ∧ (rgA ts i vs' → hm' m 22 = hm m 22) ∧ (hm' m 22 ≠ 0 → rgA ts i vs') ∧ (∀ B, B ≤ 6 → (∀ t, t ∈ ts → tC t = 98 → tBn t = true) → hc a 13 = fbI B → hm m 21 = fbI B → hc' a 4 = 0 → ∃ B', B ≤ B' ∧ B' ≤ 6 ∧ hc' a 13 = fbI B' ∧ hm' m 21 = fbI B' ∧ bnA B' ts i vs')) := by
  intro ts
  induction ts with
  | nil =>
    intro i f e vs hc hm j ho hi H K F N
    refine .inr ⟨f, e, vs, hc, hm, j, Nat.le_refl _, fun _ => rfl, fun _ => rfl, H, K, F, N, fun _ _ => rfl, fun _ _ _ => rfl, fun _ _ _ => rfl, fun h => ⟨h, trivial⟩, fun _ => rfl, fun _ => trivial, ?_⟩
    intro B hB _ h1 h2 _
    exact ⟨B, Nat.le_refl _, hB, h1, h2, trivial⟩
  | cons t ts ih =>
    intro i f e vs hc hm j ho hi H K F N
    obtain ⟨o1, o2, o3⟩ := ho
    have hi' : i + (ts.length + 1) + d ≤ 6 := hi
    by_cases h13 : hm m 13 = 3
    · obtain ⟨v, f', e', hc1, hc', hm', j', s0, s1, s2, s3, s4, s5, s6, s7, s8, s9, s10, s11, s12, s13, s14⟩ := take_yes o1 (show i + d < 6 by omega) htp H K F N o2 h13
      have N' : nmR hc' hm' a m d b0 (i + 1) (fun k => if k = i then v else vs k) := by
        intro k hk
        rw [s8, s9]
        simp only
        by_cases c : k = i
        · rw [if_pos c, if_pos c, if_pos (by omega)]
          exact ⟨rfl, fun _ => rfl, s0⟩
        · rw [if_neg c, if_neg c, if_neg (by omega)]
          exact N k (by omega)
      have eC : ∀ x2, tkC l r a x2 ((t :: ts).map tC) i hc = tkC l r a x2 (ts.map tC) (i + 1) hc' := by
        intro x2
        show (Rd_takeNumber l r a (nI (tC t)) (nI i) hc).bind _ = _
        rw [s1, Option.bind_some, if_neg (show ¬ (1 : Int32) = 0 by decide), s2, Option.bind_some]
      have eM : ∀ K, mtC m d K (t :: ts) i hm j = mtC m d K ts (i + 1) hm' j' := by
        intro K
        show (bif tBn t then Md_takeBench m (nI (i + d)) hm j else Md_take m (nI (i + d)) (tkLo m d i t hm) (nI (tHi t)) hm j).bind _ = _
        rw [s3, Option.bind_some, if_neg (show ¬ (1 : Int32) = 0 by decide)]
      rcases ih (i + 1) f' e' (fun k => if k = i then v else vs k) hc' hm' j' o3 (by omega) s5 s6 s7 N' with ⟨f2, hc2, hm2, j2, w3, w4, w5, w8, w9⟩ | ⟨f2, e2, vs2, hc2, hm2, j2, w1, w2, w3, w4, w5, w6, w7, w8, w9, w10, w11, w12, w13, w14⟩
      · refine .inl ⟨f2, hc2, hm2, j2, fun x2 => by rw [eC, w3], fun K => by rw [eM, w4], w5, ?_, ?_⟩
        · intro x h1 h2
          rw [w8 x h1 h2, s10 x h1 h2]
        · intro x h1 h2
          rw [w9 x h1 h2, s11 x h1 h2]
      · have v1 : vs2 i = v := by rw [w8 i (by omega), if_pos rfl]
        have v2 : loN t vs2 i = loN t vs i := by
          unfold loN
          by_cases c : tPv t = true
          · have := o2 c
            rw [if_pos c, if_pos c, w8 (i - 1) (by omega), if_neg (by omega)]
          · rw [if_neg c, if_neg c]
        have v3 : rgA (t :: ts) i vs2 ↔ (loN t vs i ≤ v ∧ v ≤ tHi t) ∧ rgA ts (i + 1) vs2 := by
          show (loN t vs2 i ≤ vs2 i ∧ vs2 i ≤ tHi t) ∧ rgA ts (i + 1) vs2 ↔ _
          rw [v1, v2]
        refine .inr ⟨f2, e2, vs2, hc2, hm2, j2, by omega, fun x2 => by rw [eC, w2], fun K => by rw [eM, w3], w4, w5, w6, ?_, ?_, ?_, ?_, ?_, ?_, ?_, ?_⟩
        · intro k hk
          exact w7 k (by have hk' : k < i + (ts.length + 1) := hk; omega)
        · intro k hk
          rw [w8 k (by omega), if_neg (by omega)]
        · intro x h1 h2
          rw [w9 x h1 h2, s10 x h1 h2]
        · intro x h1 h2
          rw [w10 x h1 h2, s11 x h1 h2]
        · intro h
          obtain ⟨y1, y2⟩ := w11 h
          obtain ⟨y3, y4⟩ := s12 y1
          exact ⟨y3, v3.2 ⟨y4, y2⟩⟩
        · intro h
          obtain ⟨y1, y2⟩ := v3.1 h
          rw [w12 y2, s13, if_pos y1]
        · intro h
          have y2 := w13 h
          refine v3.2 ⟨?_, y2⟩
          rw [w12 y2, s13] at h
          by_cases c : loN t vs i ≤ v ∧ v ≤ tHi t
          · exact c
          · rw [if_neg c] at h
            exact absurd rfl h
        · intro B hB hb h1 h2 h3
          obtain ⟨y1, _⟩ := w11 h3
          obtain ⟨B1, z1, z2, z3, z4, z5⟩ := s14 B hB (hb t (List.mem_cons_self ..)) h1 h2 y1
          obtain ⟨B2, u1, u2, u3, u4, u5⟩ := w14 B1 z2 (fun t' ht' => hb t' (List.mem_cons_of_mem _ ht')) z3 z4 h3
          refine ⟨B2, by omega, u2, u3, u4, ?_, u5⟩
          intro c
          rw [v1]
          have := z5 c
          omega
    · obtain ⟨s1, s2, s3⟩ := take_no (l := l) (r := r) (i := i) (x := nI (i + d)) (y := tkLo m d i t hm) o1 (by omega) K h13
      refine .inl ⟨f, am_up (am_up hc a 4 1) a 5 (nI f), am_up hm m 16 (nI f), j, ?_, ?_, brk_at H K, ?_, ?_⟩
      · intro x2
        show (Rd_takeNumber l r a (nI (tC t)) (nI i) hc).bind _ = _
        rw [s1, Option.bind_some, if_pos rfl]
        unfold Rd_breakOff
        rw [Option.bind_some, z_ups, upz_n (by decide)]
        show some (am_up (am_up hc a 4 1) a 5 (hc a 11)) = _
        rw [K.2.2.1]
      · intro K'
        show (bif tBn t then Md_takeBench m (nI (i + d)) hm j else Md_take m (nI (i + d)) (tkLo m d i t hm) (nI (tHi t)) hm j).bind _ = _
        have : (bif tBn t then Md_takeBench m (nI (i + d)) hm j else Md_take m (nI (i + d)) (tkLo m d i t hm) (nI (tHi t)) hm j) = some (0, am_up hm m 16 (nI f), j) := by
          cases tBn t
          · exact s2
          · exact s3
        rw [this, Option.bind_some, if_pos rfl]
      · intro x h1 h2
        rw [z_upr h1, z_upr h1]
      · intro x h1 h2
        rw [z_upr h1]
end TAKES
