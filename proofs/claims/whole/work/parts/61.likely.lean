/-! how likely a stage is -/
section FITS
variable {l : List (Nat × Nat)} {r : am_R} {h h' hc hm hc0 hm0 : am_F} {d m k p b t s lim a q c i nb nc z j N : Nat} {n : Nat → Nat} {H w W fit : Nat → Nat} {f g g' : Nat → Int32} {x x1 x2 x3 x4 x5 x6 y u v sd : Int32}
def fitsR (l : List (Nat × Nat)) (r : am_R) (hc hm : am_F) (m : Nat) (x3 : Int32) (hc' hm' : am_F) (p : Nat) (g : Nat → Int32) (N : Nat) (H w : Nat → Nat) (s : Nat) (f : Nat → Int32) (q1 : Nat) : Prop := (∃ q, q < 2 ∧ p = 1 + 5 + 19 * q) ∧ pkI l hc' p g ∧ pkV g ∧ hm' (m + 12) = g ∧ fI hc' N H w ∧ (∀ j, j < 49 → hm' (m + 26) j = nI (fW N H w j)) ∧ hm' m 45 = nI (fS N w) ∧ hc' 100 5 = lastR f x3 s 0 0 ∧ hm' m 43 = nI q1 ∧ q1 < 8 ∧ s ≤ 10 ∧ hm' (m + 7) (31 * q1) = nI s ∧ (f = fun i => hm' (m + 7) (31 * q1 + 1 + i)) ∧ prV f s ∧ (∀ x, x ≠ 100 → x ≠ 102 → x ≠ 103 → hc' x = hc x) ∧ scM hm hm' m
theorem tdB_m {b k : Nat} {hm' : am_F} (B : tdB l hc b hm m k n) (e : ∀ x, m < x → x < m + 10 → hm' x = hm x) : tdB l hc b hm' m k n := by
  unfold tdB slG siG alG plG at *
  rw [e (m + 5) (by omega) (by omega), e (m + 6) (by omega) (by omega), e (m + 7) (by omega) (by omega), e (m + 8) (by omega) (by omega), e (m + 9) (by omega) (by omega)]
  exact B
theorem fits_case (W : tdW r 1) (B : tdB l hc 1 hm m 0 n) : (∃ hc' hm' p g N H w s f q1, Tl_parkAt l r 1 x1 hc = some (some p) ∧ Wp_findFits l r 0 x1 x2 x3 hc = some (1, hc', am_up r 100 6 (some p)) ∧ Md_layFits m x1 x2 x3 (am_up hm m 0 0) = some (1, hm') ∧ fitsR l r hc hm m x3 hc' hm' p g N H w s f q1) ∨ (Wp_findFits l r 0 x1 x2 x3 hc = some (0, hc, r) ∧ ∃ hm', Md_layFits m x1 x2 x3 (am_up hm m 0 0) = some (0, hm') ∧ scM hm hm' m) := by
  obtain ⟨h2, e1, e2⟩ := B.1 1 (by decide)
  unfold Wp_findFits Md_layFits Md_hasSight
  simp only [Nat.zero_add]
  have S : scM hm (am_up (am_up hm m 0 0) m 43 x2) m := scM_tr (scM_up (.inl rfl)) (scM_up (.inl rfl))
  rcases rows_case W B (show 1 ≤ 1 by decide) (by decide) x2 with ⟨q1, hq1, hq2, rfl, e3⟩ | ⟨hx, e3⟩
  · obtain ⟨s, hs, es, R, P⟩ := B.2.2.1 q1 hq1
    have e3' : Tl_rowsAt l r 1 1 (nI q1) hc = some (some (1 + 18 + 19 * q1)) := e3
    have e4 := hasS_yes (m := m) (s := 1) hq1 h2 e2 (by decide) 43
    have e4' : Md_is m 1 (nI q1) (am_up (am_up hm m 0 0) m 43 (nI q1)) = some 1 := e4
    rw [e3', e4']
    generalize hh : am_up (am_up hm m 0 0) m 43 (nI q1) = h1 at *
    have h1x : ∀ x, x ≠ m → h1 x = hm x := by intro x hx; rw [← hh]; simp (disch := omega) only [z_upr]
    have h43 : h1 m 43 = nI q1 := by rw [← hh, z_ups, upz_s]
    have h0 : am_up h1 m 0 0 = h1 := up_self (by rw [← hh, z_ups, upz_n (by decide), z_ups, upz_s])
    have B1 : tdB l hc 1 h1 m 0 n := tdB_m B (fun x a b => h1x x (by omega))
    simp only [Option.bind_some, show g_bz 1 = some 1 from rfl, if_neg (show ¬ (1 : Int32) = 0 by decide)]
    rcases pk_case W B1 x1 with ⟨q, g, h', hq, p1, rfl, hqn, p2, eg, K, V, C, S2⟩ | ⟨p1, p2⟩
    · rw [h0] at p2
      obtain ⟨h'', u1, _, u3⟩ := hand_yes (hm := h1) (m := m) (B1.1 0 (by decide)).2.2 (B1.1 0 (by decide)).1 hqn
      rw [p2] at u1
      have : h' = h'' := (Prod.mk.inj (Option.some.inj u1)).2
      subst this
      have hp : (1 + 5 + 19 * q) + 12 < 66 := by omega
      have hpe : ∃ q', q' < 2 ∧ 1 + 5 + 19 * q = 1 + 5 + 19 * q' := ⟨q, hq, rfl⟩
      generalize 1 + 5 + 19 * q = p at *
      rw [p1, p2]
      simp only [Option.bind_some, g_on, if_neg (show ¬ (1 : Int32) = 0 by decide)]
      have Vh : pkV (h' (m + 12)) := by rw [eg]; exact V
      rcases bench_cases V x3 with ⟨b, hb, rfl⟩ | hx
      · have e7 : h' (m + 7) = hm (m + 7) := by rw [u3 _ (by omega), h1x _ (by omega)]
        have es' : hm (m + 7) (31 * q1) = nI s := by rw [← es]; congr 1; omega
        have ef' : siG hm m 0 q1 = fun i => hm (m + 7) (31 * q1 + 1 + i) := by
          unfold siG
          funext i
          congr 1
          omega
        obtain ⟨hc', hm', N, H, w, a1, a2, a3, a4, a5, a6, a7, a8, a9⟩ := find_eq (r := r) (q := q1) (b := b) (hm := h') (m := m) K V hp eg R (by omega) P (by rw [u3 _ (by omega)]; exact h43) (by omega) (by rw [e7]; exact es') (by rw [e7]; exact ef') hb
        refine .inl ⟨hc', hm', p, g, N, H, w, s, siG hm m 0 q1, q1, rfl, ?_, ?_, hpe, pkI_fr K (fun x _ _ => a8 x (by omega) (by omega) (by omega)), V, by rw [a9 _ (by omega) (by omega)]; exact eg, a3, a4, a5, a6, a7, by omega, hs, by rw [a9 _ (by omega) (by omega), e7]; exact es', by rw [a9 _ (by omega) (by omega), e7]; exact ef', P, a8, ?_⟩
        · rw [Pk_hasBench_at K V hb, if_neg (show ¬ (1 : Int32) = 0 by decide), a1]
          rfl
        · rw [bench_yes Vh (by rw [eg]; exact hb), Option.bind_some, if_neg (show ¬ (1 : Int32) = 0 by decide), a2]
          rfl
        · refine scM_tr S (scM_tr S2 (fun x hx => a9 x (by omega) (by omega)))
      · refine .inr ⟨?_, h', ?_, scM_tr S S2⟩
        · rw [Pk_hasBench_no K hx, if_pos rfl]
        · rw [bench_no Vh (by rw [eg]; exact hx), Option.bind_some, if_pos rfl]
    · rw [h0] at p2
      rw [p1, p2]
      exact .inr ⟨rfl, h1, rfl, S⟩
  · have e3' : Tl_rowsAt l r 1 1 x2 hc = some none := e3
    have e4 := hasS_no (m := m) (s := 1) hx h2 e2 (by decide) 43 x2
    have e4' : Md_is m 1 x2 (am_up (am_up hm m 0 0) m 43 x2) = some 0 := e4
    rw [e3', e4']
    refine .inr ⟨?_, _, rfl, S⟩
    rcases pk_case W B x1 with ⟨q, g, h', hq, p1, _⟩ | ⟨p1, _⟩
    · rw [p1]; rfl
    · rw [p1]; rfl
def rP (r r' : am_R) : Prop := r' = r ∨ ∃ q, q < 2 ∧ r' = am_up r 100 6 (some (1 + 5 + 19 * q))
theorem scH_F {hc' : am_F} (S : scH l hc) (e : ∀ x, x < 100 → hc' x = hc x) : scH l hc' := ⟨rwH_fr S.1 (e _ (by decide)), rwH_fr S.2.1 (e _ (by decide)), pkH_fr S.2.2 (e _ (by decide)) (e _ (by decide)) (e _ (by decide))⟩
theorem q_likely (W : tdW r 1) (B : tdB l hc 1 hm m 0 n) (L : wL l m) (SH : scH l hc) : ∃ v hc' hm' r', Wp_likely l r 0 x1 x2 x3 x4 x5 x6 hc = some (v, hc', r') ∧ Md_likely m x1 x2 x3 x4 x5 x6 hm = some (v, hm') ∧ frS hc hc' ∧ scH l hc' ∧ scM hm hm' m ∧ rP r r' := by
  unfold Wp_likely Md_likely
  simp only [Nat.zero_add]
  rcases fits_case (x1 := x1) (x2 := x2) (x3 := x3) W B with ⟨hc', hm', p, g, N, H, w, s, f, q1, e0, e1, e2, ⟨q, hq, ep⟩, K, V, eg, I, eW, e45, e5, e43, hq1, hs, e7, ef, P, fx, S⟩ | ⟨e1, hm', e2, S⟩
  · rw [e1, e2, Option.bind_some, Option.bind_some]
    simp only [if_neg (show ¬ (1 : Int32) = 0 by decide)]
    have Sf : frS hc hc' := fun x hx => fx x (by omega) (by omega) (by omega)
    have SH' : scH l hc' := scH_F SH (fun x hx => fx x (by omega) (by omega) (by omega))
    have rp : rP r (am_up r 100 6 (some p)) := .inr ⟨q, hq, by rw [ep]⟩
    have er : (am_up r 100 6 (some p)) 100 6 = some p := by rw [z_up, if_pos ⟨rfl, rfl⟩]
    have hT : fS N w ≤ 72 := by
      have := fS_le (n := N) (f := w) (M := 9) (fun t ht => (I.2.2.2 t ht).2.2.2.2)
      have := I.2.1
      omega
    rw [I.2.2.1, e45]
    have fin : ∀ v : Int32, ∃ (v' : Int32) (hc'' hm'' : am_F) (r'' : am_R), some (v, hc', am_up r 100 6 (some p)) = some (v', hc'', r'') ∧ some (v, hm') = some (v', hm'') ∧ frS hc hc'' ∧ scH l hc'' ∧ scM hm hm'' m ∧ rP r r'' := fun v => ⟨v, hc', hm', _, rfl, rfl, Sf, SH', S, rp⟩
    by_cases c0 : fS N w = 0
    · rw [c0, if_pos (show nI 0 < 1 by decide), if_pos (show nI 0 = 0 from rfl)]
      exact fin _
    · rw [if_neg (show ¬ nI (fS N w) < 1 from nI_nlt (show 1 ≤ fS N w by omega) (by omega)), if_neg (fun e => c0 ((z_eq0 (by omega)).1 e))]
      rcases hour_cases x4 with ⟨t, ht, rfl, t1, t2⟩ | ⟨t1, t2⟩
      · rw [t1, t2, if_neg (show ¬ (1 : Int32) = 0 by decide), if_neg (show ¬ (1 : Int32) = 0 by decide)]
        rcases pk_ix x5 (n := 3) (by decide) with c | c | ⟨k, hk, rfl⟩
        · rw [if_pos c, show Md_in x5 0 2 = 0 from Md_in_no (.inl c), if_pos rfl]
          exact fin _
        · rw [if_neg (show ¬ x5 < 0 from z_biglt c (k := 0) (by decide) (by decide)), if_neg (show ¬ x5 ≤ 2 from Int32.not_le.2 (z_biggt c (show 2 < 3 by decide) (by decide))), show Md_in x5 0 2 = 0 from Md_in_no (.inr (z_biggt c (show 2 < 3 by decide) (by decide))), if_pos rfl]
          exact fin _
        · obtain ⟨hc2, a1, a2, a3⟩ := stag_eq (r := am_up r 100 6 (some p)) K V (by omega) er I ht L.2.2.1
          have hk' := fS_le (n := N) (f := fun i => if stX g (oI (H i)) t = k then w i else 0) (M := 9) (fun t ht => by
            show (if _ then _ else _) ≤ 9
            split
            · exact (I.2.2.2 t ht).2.2.2.2
            · omega)
          have hk2 : sW g N H w t k ≤ N * 9 := hk'
          have hN := I.2.1
          obtain ⟨v, l1, l2⟩ := least_eq (x2 := x6) (show sW g N H w t k < 2 ^ 16 by omega) (show fS N w < 2 ^ 16 by omega) (by omega)
          rw [if_neg (nI_pos (show k < 2 ^ 31 by omega)), if_pos (show nI k ≤ 2 from nI_le (show k ≤ 2 by omega) (by decide)), show Md_in (nI k) 0 2 = 1 from Md_in_yes (show 0 ≤ k by omega) (show k ≤ 2 by omega) (by decide), if_neg (show ¬ (1 : Int32) = 0 by decide), a1, Option.bind_some, z_ix hk (by decide), Option.bind_some, wof_eq V eg eW (fun t ht => (I.2.2.2 t ht).2.1) ht hk, Option.bind_some]
          simp only [Nat.reduceAdd]
          rw [a2 k hk, a3 100 (by decide), I.2.2.1, l1, l2]
          exact ⟨v, hc2, hm', _, rfl, rfl, fun x hx => by rw [a3 x (by omega)]; exact Sf x hx, scH_F SH' (fun x hx => a3 x (by omega)), S, rp⟩
      · rw [t1, t2, if_pos rfl, if_pos rfl]
        exact fin _
  · rw [e1, e2]
    exact ⟨-1, hc, hm', r, rfl, rfl, frS_id, SH, S, .inl rfl⟩
end FITS
