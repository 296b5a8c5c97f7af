/-! the start -/
abbrev wT : List (Nat × Nat) := [(6, 7), (11, 600), (10, 4), (13, 2), (14, 8), (3, 13), (10, 48), (10, 48), (10, 6), (10, 6), (10, 6), (10, 6), (5, 4), (10, 24), (5, 4), (10, 8), (5, 4), (10, 84), (5, 4), (10, 30), (5, 4), (10, 32), (5, 4), (10, 18), (3, 13), (10, 48), (10, 48), (10, 6), (10, 6), (10, 6), (10, 6), (5, 4), (10, 24), (5, 4), (10, 8), (5, 4), (10, 84), (5, 4), (10, 30), (5, 4), (10, 32), (5, 4), (10, 18), (15, 3), (4, 14), (3, 13), (10, 48), (10, 48), (10, 6), (10, 6), (10, 6), (10, 6), (5, 4), (10, 24), (5, 4), (10, 8), (5, 4), (10, 84), (5, 4), (10, 30), (5, 4), (10, 32), (5, 4), (10, 18), (10, 6), (0, 15), (5, 4), (10, 84), (10, 6), (10, 6), (10, 6), (10, 6), (10, 6), (10, 18), (10, 18), (7, 5), (0, 15), (5, 4), (10, 84), (10, 6), (10, 6), (10, 6), (10, 6), (10, 6), (10, 18), (10, 18), (3, 13), (10, 48), (10, 48), (10, 6), (10, 6), (10, 6), (10, 6), (5, 4), (10, 24), (5, 4), (10, 8), (5, 4), (10, 84), (1, 7), (10, 3), (10, 8), (10, 8), (2, 3)]
abbrev mT : List (Nat × Nat) := [(11, 2400), (10, 4), (10, 4), (10, 4), (10, 16), (10, 1560), (10, 248), (10, 264), (10, 152), (10, 195), (10, 6), (10, 195), (10, 14), (10, 14), (10, 14), (10, 14), (10, 14), (10, 14), (10, 6), (10, 6), (10, 6), (10, 6), (10, 6), (10, 6), (10, 6), (10, 49), (12, 3)]
set_option maxRecDepth 20000 in
theorem st_ln : ([(8, 7)] ++ wT ++ [(9, 52)] ++ mT).length = 133 := by decide +kernel
set_option maxRecDepth 20000 in
theorem st_sz : am_sz ([(8, 7)] ++ wT ++ [(9, 52)] ++ mT) ≤ 20000 := by decide +kernel
section START
variable {X : Nat × (Nat → Int32)}
set_option maxRecDepth 20000 in
/-- the relation holds of what the two constructors make -/
theorem st_wR {r1 r2 : am_R} {h1 h2 : am_F} (f2 : ∀ x, x < 105 ∨ 105 + 28 ≤ x → r2 x = am_nw r1 105 none x ∧ h2 x = am_nw h1 105 0 x) (k1 : Wp_K ([(8, 7)] ++ wT) r1 0) (tw : tdW r1 1) (th : tdH ([(8, 7)] ++ wT) h1 1) (hd : hdR ([(8, 7)] ++ wT) h1 45) (sh : scH ([(8, 7)] ++ wT) h1) (r44 : r1 44 = fun _ => none) (h3 : h1 3 = fun _ => 0) (h11 : h1 1 1 = 0) (h12 : h1 1 2 = 0) (h13 : h1 1 3 = -1) (k2 : Md_K ([(8, 7)] ++ wT ++ [(9, 52)] ++ mT) r2 105) (m2 : h2 107 = fun _ => 0) (m3 : h2 108 = fun _ => 0) (m4 : h2 109 0 = -1) (m5 : h2 110 = fun _ => 0) (m27 : h2 132 = fun _ => 0) : wR ([(8, 7)] ++ wT ++ [(9, 52)] ++ mT) r2 h2 h2 3 := by
  have ln : ([(8, 7)] ++ wT).length = 105 := rfl
  have er : ∀ x, x < 105 → r2 x = r1 x := fun x hx => by rw [(f2 x (.inl hx)).1, nw_o (by omega)]
  have eh : ∀ x, x < 105 → h2 x = h1 x := fun x hx => by rw [(f2 x (.inl hx)).2, nw_o (by omega)]
  have gl : ∀ i, i < 105 → g_ln ([(8, 7)] ++ wT ++ [(9, 52)] ++ mT) i = g_ln ([(8, 7)] ++ wT) i := fun i hi => by
    rw [List.append_assoc ([(8, 7)] ++ wT)]
    exact gln_a (by rw [ln]; exact hi)
  have km : kmE ([(8, 7)] ++ wT) ([(8, 7)] ++ wT ++ [(9, 52)] ++ mT) r1 r2 := ⟨fun x q e => lkL (lkL e), fun x q e _ => er x (by have := lt_of_some e; rw [ln] at this; exact this)⟩
  have e44 : r2 44 = fun _ => none := by rw [er 44 (by decide)]; exact r44
  have c3 : h2 3 = fun _ => 0 := by rw [eh 3 (by decide)]; exact h3
  refine ⟨km_Wp km ?_ k1, k2, ⟨fun q hq => ?_, fun q hq => ?_⟩, ⟨fun _ => 0, fun s hs => ?_, fun q hq => absurd hq (Nat.not_lt_zero q), fun q hq => absurd hq (Nat.not_lt_zero q), fun q hq => absurd hq (Nat.not_lt_zero q), fun q hq => absurd hq (Nat.not_lt_zero q)⟩, ⟨0, by decide, ?_, ?_, fun i hi => absurd hi (Nat.not_lt_zero i), ?_, ?_⟩, tdH_l (tdH_fr th (fun x g1 g2 => eh x (by omega))) (fun i g1 g2 => gl i (by omega)), hdR_l (hd_fr hd (fun x g1 g2 => eh x (by omega))) (fun i g1 g2 => gl i (by omega)), scH_l (scH_fr sh (fun x g1 g2 => eh x (by omega))) (fun i g1 g2 => gl i (by omega)), fun k hk _ => .inl ⟨by rw [e44], by rw [m27]⟩, fun k k' b b' _ _ _ e _ => ?_, Nat.le_of_eq st_ln.symm⟩
  · intro i p e
    have e' : r2 44 i = some p := e
    rw [e44] at e'
    cases e'
  · rw [er _ (by omega)]; exact tw.1 q hq
  · rw [er _ (by omega)]; exact tw.2 q hq
  · have a1 : h2 (1 + 2) s = nI 0 := by show h2 3 s = 0; rw [c3]
    have a2 : h2 (105 + 5) (4 * 0 + s) = nI 0 := by show h2 110 _ = 0; rw [m5]
    exact ⟨Nat.zero_le _, a1, a2⟩
  · rw [eh 1 (by decide)]; exact h11
  · show h2 107 0 = 0; rw [m2]
  · rw [eh 1 (by decide), h12]; show 0 = h2 108 0; rw [m3]
  · rw [eh 1 (by decide), h13]; exact m4.symm
  · rw [e44] at e
    cases e
set_option maxRecDepth 20000 in
theorem st_run (hX : X.1 ≤ 3584) : ∃ n t', am_ev X n 272 0 (am_L0 272 [.retAddr 1000]) [] am_s0 = some (some (.int 1), t') ∧ t'.1.length ≤ 600000 ∧ am_sz t'.1 ≤ 7302250 := by
  obtain ⟨r1, h1, j1, c1, f1, k1, tw, th, hd, sh, r44, h3, h11, h12, h13⟩ := Wp_init2 (X := X) (l := [(8, 7)]) (r := am_nw (fun _ _ => none) 0 none) (h := am_nw (fun _ _ => 0) 0 0) (j := am_nw (fun _ _ => 0) 0 0) (a := 0) rfl rfl nw_s nw_s
  obtain ⟨r2, h2, j2, c2, f2, k2, m2, m3, m4, m5, m27⟩ := Md_init2 (X := X) (l := [(8, 7)] ++ wT ++ [(9, 52)]) (r := am_nw r1 105 none) (h := am_nw h1 105 0) (j := am_nw j1 105 0) (a := 105) rfl rfl nw_s nw_s
  have w := st_wR f2 k1 tw th hd sh r44 h3 h11 h12 h13 k2 m2 m3 m4 m5 m27
  obtain ⟨s', e, e1, e2⟩ := lw_all hX 513 0 ([(8, 7)] ++ wT ++ [(9, 52)] ++ mT) r2 h2 j2 (by omega) (by omega) (by omega) w (by rw [st_ln]; omega) (Nat.le_trans st_sz (by omega))
  have ev : Ev X 272 0 [some (.retAddr 1000), none, none, none] [] am_s0 (some (.int 1), s') := by
    show Ev X 272 0 [some (.retAddr 1000), none, none, none] [] ([] ++ [], fun _ _ => none, fun _ _ => 0, fun _ _ => 0) (some (.int 1), s')
    refine g_new (N := 0) (T' := [(8, 7)]) 3 rfl rfl rfl rfl ?_
    refine g_run 1 4 [some (.retAddr 1000), none, none, none] [.ref 0, .ref 0] (fun _ => rfl) ?_
    refine g_cK (s2 := ([(8, 7)] ++ wT, r1, h1, j1)) 7 rfl rfl (.inl rfl) rfl rfl rfl c1 ?_
    refine g_run 1 8 [some (.retAddr 1000), some (.ref 0), none, none] [] (fun _ => rfl) ?_
    rw [show ([(8, 7)] ++ wT, r1, h1, j1) = ([(8, 7)] ++ wT ++ [], r1, h1, j1) by rw [List.append_nil]]
    refine g_new (N := 105) (T' := [(9, 52)]) 11 rfl rfl rfl rfl ?_
    refine g_run 1 12 [some (.retAddr 1000), some (.ref 0), none, none] [.ref 105, .ref 105] (fun _ => rfl) ?_
    refine g_cK (s2 := ([(8, 7)] ++ wT ++ [(9, 52)] ++ mT, r2, h2, j2)) 15 rfl rfl (.inl rfl) rfl rfl rfl c2 ?_
    refine g_run 3 18 [some (.retAddr 1000), some (.ref 0), some (.ref 105), some (.int (0 : Int32))] [] (fun _ => rfl) ?_
    exact e
  obtain ⟨n, hn⟩ := ev
  exact ⟨n, s', hn n (Nat.le_refl _), e1, e2⟩
end START
