/-! reading a sight: the question -/
section READ
variable {l : List (Nat × Nat)} {r : am_R} {h h' hc hm hc0 hm0 : am_F} {d m k p b t s lim a q c i nb nc z j N T : Nat} {n : Nat → Nat} {H w W fit : Nat → Nat} {f g g' : Nat → Int32} {x x1 x2 x3 x4 x5 x6 y u v sd : Int32}
theorem z_mx (u v : Int32) : (if u < v then v else u) = Md_greater u v := by
  unfold Md_greater
  by_cases c2 : u < v
  · rw [if_pos c2, if_pos (Int32.le_of_lt c2)]
  · rw [if_neg c2]
    split
    · rename_i c3
      exact Int32.le_antisymm c3 (Int32.not_lt.1 c2)
    · rfl
theorem gr_le (h1 : u ≤ x) (h2 : v ≤ x) : Md_greater u v ≤ x := by
  unfold Md_greater
  split
  · exact h2
  · exact h1
theorem lastR_z : ∀ (c i : Nat) (v : Int32), i + c = s → prV f s → zN v 48 → zN (lastR f y c i v) 48 := by
  intro c
  induction c with
  | zero => intro i v _ _ h; exact h
  | succ c ih =>
    intro i v hi P hv
    show zN (lastR f y c (i + 1) (if f (3 * i + 1) = y then Md_greater v (f (3 * i + 2)) else v)) 48
    refine ih (i + 1) _ (by omega) P ?_
    split
    · unfold Md_greater
      split
      · exact (P i (by omega)).2.2
      · exact hv
    · exact hv
theorem lastM (e43 : h m 43 = nI q) (hq : q < 8) (hs : s ≤ 10) (e7 : h (m + 7) (31 * q) = nI s) (ef : f = fun i => h (m + 7) (31 * q + 1 + i)) : ∀ (c i fu : Nat) (v : Int32), i + c = s → c < fu → Md_tells_l4 m y h fu v (nI i) = some (lastR f y c i v) := by
  have ep := prn_at e43 hq e7
  intro c
  induction c with
  | zero =>
    intro i fu v hi hf
    obtain ⟨fu, rfl⟩ : ∃ q, fu = q + 1 := ⟨fu - 1, by omega⟩
    unfold Md_tells_l4
    rw [ep, Option.bind_some, if_pos (nI_le (by omega) (by omega))]
    rfl
  | succ c ih =>
    intro i fu v hi hf
    obtain ⟨fu, rfl⟩ : ∃ q, fu = q + 1 := ⟨fu - 1, by omega⟩
    have e1 : Md_printOf m (nI i) 1 h = some (f (3 * i + 1)) := by rw [ef]; exact prof_at (k := 1) e43 hq (by omega) (by decide)
    have e2 : Md_printOf m (nI i) 2 h = some (f (3 * i + 2)) := by rw [ef]; exact prof_at (k := 2) e43 hq (by omega) (by decide)
    unfold Md_tells_l4
    rw [ep, Option.bind_some, if_neg (nI_ge (by omega) (by omega)), e1, Option.bind_some, e2, Option.bind_some, nI_1]
    have : (if f (3 * i + 1) = y then some (Md_greater v (f (3 * i + 2))) else some v : Option Int32) = some (if f (3 * i + 1) = y then Md_greater v (f (3 * i + 2)) else v) := by split <;> rfl
    rw [this, Option.bind_some]
    exact ih (i + 1) fu _ (by omega) (by omega)
theorem tell_l (K : pkI l hc0 p g) (V : pkV g) (hp : p + 12 < 66) (er : r 100 6 = some p) (I : fI hc0 N H w) (hl : g_ln l 101 = 3) (eg : hm (m + 12) = g) (eW : ∀ j, j < 49 → hm (m + 26) j = nI (fW N H w j)) (hT : fS N w = T) (h72 : T ≤ 72) : ∀ (c t f1 f2 : Nat) (hc : am_F) (a b1 b2 : Int32), t + c = 48 → c < f1 → c < f2 → (∀ x, x ≠ 101 → hc x = hc0 x) → (b1 = b2 ∨ nI T < b1 ∧ nI T < b2) → ∃ hc' v, Fi_tellingHour_l23 l r 100 f1 a b1 (nI t) hc = some (v, hc') ∧ Md_tells_l53 m hm f2 a b2 (nI t) = some v ∧ ∀ x, x ≠ 101 → hc' x = hc0 x := by
  have hH : ∀ t, t < N → H t < 49 := fun t ht => (I.2.2.2 t ht).2.1
  intro c
  induction c with
  | zero =>
    intro t f1 f2 hc a b1 b2 hi hf1 hf2 ex hb
    obtain ⟨f1, rfl⟩ : ∃ q, f1 = q + 1 := ⟨f1 - 1, by omega⟩
    obtain ⟨f2, rfl⟩ : ∃ q, f2 = q + 1 := ⟨f2 - 1, by omega⟩
    unfold Fi_tellingHour_l23 Md_tells_l53
    rw [if_pos (show (48 : Int32) ≤ nI t from nI_le (show 48 ≤ t by omega) (by omega)), if_pos (show (48 : Int32) ≤ nI t from nI_le (show 48 ≤ t by omega) (by omega))]
    exact ⟨hc, a, rfl, rfl, ex⟩
  | succ c ih =>
    intro t f1 f2 hc a b1 b2 hi hf1 hf2 ex hb
    obtain ⟨f1, rfl⟩ : ∃ q, f1 = q + 1 := ⟨f1 - 1, by omega⟩
    obtain ⟨f2, rfl⟩ : ∃ q, f2 = q + 1 := ⟨f2 - 1, by omega⟩
    have K' : pkI l hc p g := pkI_fr K (fun x _ _ => ex x (by omega))
    have I' : fI hc N H w := by
      obtain ⟨i1, i2, i3, i4⟩ := I
      exact ⟨by rw [ex 100 (by decide)]; exact i1, i2, by rw [ex 100 (by decide)]; exact i3, fun t ht => by rw [ex 102 (by decide), ex 103 (by decide)]; exact i4 t ht⟩
    obtain ⟨hc2, a1, a2, a3⟩ := stag_eq (r := r) (t := t) K' V hp er I' (by omega) hl
    have hS := sW_sum (g := g) (H := H) (w := w) (t := t) N
    have m0 : Md_weightOf m (nI t) 0 hm = _ := wof_eq (k := 0) (t := t) V eg eW hH (by omega) (by decide)
    have m1 : Md_weightOf m (nI t) 1 hm = _ := wof_eq (k := 1) (t := t) V eg eW hH (by omega) (by decide)
    have m2 : Md_weightOf m (nI t) 2 hm = _ := wof_eq (k := 2) (t := t) V eg eW hH (by omega) (by decide)
    have hM : Md_greater (nI (sW g N H w t 0)) (Md_greater (nI (sW g N H w t 1)) (nI (sW g N H w t 2))) ≤ nI T := gr_le (nI_le (by omega) (by omega)) (gr_le (nI_le (by omega) (by omega)) (nI_le (by omega) (by omega)))
    unfold Fi_tellingHour_l23 Md_tells_l53
    simp only [Nat.reduceAdd]
    rw [if_neg (show ¬ (48 : Int32) ≤ nI t from nI_ge (show t < 48 by omega) (by decide)), if_neg (show ¬ (48 : Int32) ≤ nI t from nI_ge (show t < 48 by omega) (by decide)), a1, Option.bind_some, m0, Option.bind_some, m1, Option.bind_some, m2, Option.bind_some]
    simp only [z_mx, a2 0 (by decide), a2 1 (by decide), a2 2 (by decide), nI_1]
    generalize Md_greater (nI (sW g N H w t 0)) (Md_greater (nI (sW g N H w t 1)) (nI (sW g N H w t 2))) = M at *
    have ex2 : ∀ x, x ≠ 101 → hc2 x = hc0 x := fun x hx => by rw [a3 x hx, ex x hx]
    by_cases c1 : b2 ≤ M
    · have hb' : b1 = b2 := by
        rcases hb with h | h
        · exact h
        · exact (Int32.lt_irrefl (Int32.lt_of_lt_of_le h.2 (Int32.le_trans c1 hM))).elim
      subst hb'
      rw [if_pos c1, if_pos c1, Option.bind_some, Option.bind_some]
      have e : Md_lesser b1 M = b1 := by
        unfold Md_lesser
        split
        · rename_i c2
          exact Int32.le_antisymm c2 c1
        · rfl
      rw [e]
      exact ih (t + 1) f1 f2 hc2 a b1 b1 (by omega) (by omega) (by omega) ex2 (.inl rfl)
    · have c1' : ¬ b1 ≤ M := by
        rcases hb with h | h
        · rw [h]; exact c1
        · exact fun e => (Int32.lt_irrefl (Int32.lt_of_lt_of_le h.1 (Int32.le_trans e hM))).elim
      rw [if_neg c1, if_neg c1', Option.bind_some, Option.bind_some]
      have e : Md_lesser b2 M = M := by
        unfold Md_lesser
        rw [if_pos (Int32.le_of_lt (Int32.not_le.1 c1))]
      rw [e]
      exact ih (t + 1) f1 f2 hc2 (nI t) M M (by omega) (by omega) (by omega) ex2 (.inl rfl)
theorem q_read (W : tdW r 1) (B : tdB l hc 1 hm m 0 n) (L : wL l m) (SH : scH l hc) : ∃ v hc' hm' r', Wp_read l r 0 x1 x2 x3 x4 hc = some (v, hc', r') ∧ Md_read m x1 x2 x3 x4 hm = some (v, hm') ∧ frS hc hc' ∧ scH l hc' ∧ scM hm hm' m ∧ rP r r' := by
  have S0 : scM hm (am_up hm m 0 0) m := scM_up (.inl rfl)
  unfold Wp_read Md_read
  simp only [Nat.zero_add]
  rcases fits_case (x1 := x1) (x2 := x2) (x3 := x3) W B with ⟨hc', hm', p, g, N, H, w, s, f, q1, e0, e1, e2, ⟨q, hq, ep⟩, K, V, eg, I, eW, e45, e5, e43, hq1, hs, e7, ef, P, fx, S⟩ | ⟨e1, hm', e2, S⟩
  · rw [e1, Option.bind_some, e2]
    simp only [if_neg (show ¬ (1 : Int32) = 0 by decide), Option.bind_some]
    have Sf : frS hc hc' := fun x hx => fx x (by omega) (by omega) (by omega)
    have SH' : scH l hc' := scH_F SH (fun x hx => fx x (by omega) (by omega) (by omega))
    have rp : rP r (am_up r 100 6 (some p)) := .inr ⟨q, hq, by rw [ep]⟩
    have er : (am_up r 100 6 (some p)) 100 6 = some p := by rw [z_up, if_pos ⟨rfl, rfl⟩]
    have hN := I.2.1
    have hT : fS N w ≤ 72 := by
      have := fS_le (n := N) (f := w) (M := 9) (fun t ht => (I.2.2.2 t ht).2.2.2.2)
      omega
    have fin : ∀ v : Int32, ∃ (v' : Int32) (hc'' hm'' : am_F) (r'' : am_R), some (v, hc', am_up r 100 6 (some p)) = some (v', hc'', r'') ∧ some (v, hm') = some (v', hm'') ∧ frS hc hc'' ∧ scH l hc'' ∧ scM hm hm'' m ∧ rP r r'' := fun v => ⟨v, hc', hm', _, rfl, rfl, Sf, SH', S, rp⟩
    have bad : (∀ k, k < 5 → ¬ x4 = nI k) → Md_in x4 0 4 = 0 → ∃ (v' : Int32) (hc'' hm'' : am_F) (r'' : am_R), some (-2, hc', am_up r 100 6 (some p)) = some (v', hc'', r'') ∧ some (-2, am_up hm m 0 0) = some (v', hm'') ∧ frS hc hc'' ∧ scH l hc'' ∧ scM hm hm'' m ∧ rP r r'' := fun _ _ => ⟨-2, hc', _, _, rfl, rfl, Sf, SH', S0, rp⟩
    rcases pk_ix x4 (n := 5) (by decide) with c | c | ⟨k, hk, rfl⟩
    · have n5 : ∀ k, k < 5 → ¬ x4 = nI k := fun k hk => z_negne c (by omega)
      have i5 : Md_in x4 0 4 = 0 := Md_in_no (.inl c)
      rw [if_neg (show ¬ x4 = 0 from n5 0 (by decide)), if_neg (show ¬ x4 = 1 from n5 1 (by decide)), if_neg (show ¬ x4 = 2 from n5 2 (by decide)), if_neg (show ¬ x4 = 3 from n5 3 (by decide)), if_neg (show ¬ x4 = 4 from n5 4 (by decide)), i5, if_pos rfl]
      exact bad n5 i5
    · have n5 : ∀ k, k < 5 → ¬ x4 = nI k := fun k hk => z_bigne c hk (by decide)
      have i5 : Md_in x4 0 4 = 0 := Md_in_no (.inr (z_biggt c (show 4 < 5 by decide) (by decide)))
      rw [if_neg (show ¬ x4 = 0 from n5 0 (by decide)), if_neg (show ¬ x4 = 1 from n5 1 (by decide)), if_neg (show ¬ x4 = 2 from n5 2 (by decide)), if_neg (show ¬ x4 = 3 from n5 3 (by decide)), if_neg (show ¬ x4 = 4 from n5 4 (by decide)), i5, if_pos rfl]
      exact bad n5 i5
    · rw [show Md_in (nI k) 0 4 = 1 from Md_in_yes (show 0 ≤ k by omega) (show k ≤ 4 by omega) (by decide), if_neg (show ¬ (1 : Int32) = 0 by decide)]
      have rd : Md_read_l76 m (nI k) hm' g_fu 0 (-1) (-1) 0 = some (thC N H w 48, thF N H w 48, thL N H w 48) := read_l (x4 := nI k) I eW 48 0 g_fu (by omega) (by unfold g_fu; omega)
      have hk5 : k = 0 ∨ k = 1 ∨ k = 2 ∨ k = 3 ∨ k = 4 := by omega
      rcases hk5 with rfl | rfl | rfl | rfl | rfl
      · rw [if_pos (show nI 0 = 0 from rfl), if_pos (show nI 0 ≤ 2 by decide), rd, Option.bind_some, if_pos (show nI 0 = 0 from rfl)]
        have : Fi_unlikeHours 100 hc' = some (thC N H w 48) := by
          unfold Fi_unlikeHours
          rw [show Fi_unlikeHours_l4 100 hc' g_fu 0 0 = some (thC N H w 48) from cnt_l I 48 0 g_fu (by omega) (by unfold g_fu; omega)]
          rfl
        rw [this]
        exact fin _
      · rw [if_neg (show ¬ nI 1 = 0 by decide), if_pos (show nI 1 = 1 from rfl), if_pos (show nI 1 ≤ 2 by decide), rd, Option.bind_some, if_neg (show ¬ nI 1 = 0 by decide), if_pos (show nI 1 = 1 from rfl)]
        have : Fi_firstHour 100 hc' = some (thF N H w 48) := fst_l I 48 0 g_fu (by omega) (by unfold g_fu; omega) rfl
        rw [this]
        exact fin _
      · rw [if_neg (show ¬ nI 2 = 0 by decide), if_neg (show ¬ nI 2 = 1 by decide), if_pos (show nI 2 = 2 from rfl), if_pos (show nI 2 ≤ 2 by decide), rd, Option.bind_some, if_neg (show ¬ nI 2 = 0 by decide), if_neg (show ¬ nI 2 = 1 by decide)]
        have : Fi_lastHour 100 hc' = some (thL N H w 48) := by
          have := lst_l I 48 g_fu (by omega) (by unfold g_fu; omega)
          rw [show oI 48 = 47 by decide] at this
          exact this
        rw [this]
        exact fin _
      · rw [if_neg (show ¬ nI 3 = 0 by decide), if_neg (show ¬ nI 3 = 1 by decide), if_neg (show ¬ nI 3 = 2 by decide), if_pos (show nI 3 = 3 from rfl), if_neg (show ¬ nI 3 ≤ 2 by decide), if_pos (show nI 3 = 3 from rfl), I.2.2.1, e45]
        exact fin _
      · rw [if_neg (show ¬ nI 4 = 0 by decide), if_neg (show ¬ nI 4 = 1 by decide), if_neg (show ¬ nI 4 = 2 by decide), if_neg (show ¬ nI 4 = 3 by decide), if_pos (show nI 4 = 4 from rfl), if_neg (show ¬ nI 4 ≤ 2 by decide), if_neg (show ¬ nI 4 = 3 by decide), e45]
        unfold Fi_tellingHour
        rw [I.1]
        by_cases c0 : N = 0
        · subst c0
          rw [if_pos (show nI 0 = 0 from rfl), if_pos (show nI (fS 0 w) = 0 from rfl), Option.bind_some]
          exact fin _
        · have hw0 : 1 ≤ fS N w := Nat.le_trans (I.2.2.2 0 (by omega)).2.2.2.1 (fS_ge (by omega))
          rw [if_neg (show ¬ nI N = 0 from fun e => c0 ((z_eq0 (by omega)).1 e)), if_neg (show ¬ nI (fS N w) = 0 from fun e => by have := (z_eq0 (show fS N w < 2 ^ 31 by omega)).1 e; omega)]
          obtain ⟨t0, ht0, et0⟩ := lastR_z (y := x3) s 0 0 (by omega) P ⟨0, by decide, rfl⟩
          obtain ⟨hc2, v, a1, a2, a3⟩ := tell_l (r := am_up r 100 6 (some p)) K V (by omega) er I L.2.2.1 eg eW rfl hT (48 - t0) t0 g_fu g_fu hc' (-1) (nI (fS N w) + 1) 1000000 (by omega) (by unfold g_fu; omega) (by unfold g_fu; omega) (fun _ _ => rfl) (.inr ⟨by rw [nI_1]; exact nI_lt (by omega) (by omega), nI_lt (show fS N w < 1000000 by omega) (by decide)⟩)
          rw [e5, et0, I.2.2.1, a1]
          unfold Md_tells
          rw [show Md_tells_l4 m x3 hm' g_fu 0 0 = some (lastR f x3 s 0 0) from lastM e43 hq1 hs e7 ef s 0 g_fu 0 (by omega) (by unfold g_fu; omega), et0]
          simp only [Option.bind_some, a2]
          exact ⟨v, hc2, hm', _, rfl, rfl, fun x hx => by rw [a3 x (by omega)]; exact Sf x hx, scH_F SH' (fun x hx => a3 x (by omega)), S, rp⟩
  · rw [e1, e2]
    by_cases c : Md_in x4 0 4 = 0
    · rw [if_pos c]
      exact ⟨-2, hc, _, r, rfl, rfl, frS_id, SH, S0, .inl rfl⟩
    · rw [if_neg c]
      exact ⟨-2, hc, hm', r, rfl, rfl, frS_id, SH, S, .inl rfl⟩
end READ
