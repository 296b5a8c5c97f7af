/-! one turn of the law, and all of them -/
section TURN
variable {X : Nat × (Nat → Int32)} {t : Nat} {l : List (Nat × Nat)} {r : am_R} {h : am_F} {j : am_J}
theorem and31 (x : Int32) : ∃ k, k < 32 ∧ x &&& 31 = nI k := by
  refine ⟨(x &&& 31).toBitVec.toNat, ?_, ?_⟩
  · have e : (x &&& 31).toBitVec.toNat = x.toBitVec.toNat &&& 31 := rfl
    have := Nat.and_le_right (n := x.toBitVec.toNat) (m := 31)
    omega
  · apply Int32.toBitVec_inj.mp
    show (x &&& 31).toBitVec = BitVec.ofNat 32 (x &&& 31).toBitVec.toNat
    rw [BitVec.ofNat_toNat, BitVec.setWidth_eq]
theorem lw_turn (ht : 7 * t + 7 ≤ X.1) (hX : X.1 ≤ 3584) (H : wR l r h h 3) : lwG X t 18 l r h j := by
  have K1 := H.1
  have hd : ∀ {l' : List (Nat × Nat)} {r' : am_R} {h' : am_F} {j' : am_J} {R : Option Value × am_S}, Ev X 272 33 [some (.retAddr 1000), some (.ref 0), some (.ref 105), some (.int (nI (7 * t)))] [.int (X.2 (7 * t) &&& 31)] (l', r', h', j') R → Ev X 272 18 [some (.retAddr 1000), some (.ref 0), some (.ref 105), some (.int (nI (7 * t)))] [] (l', r', h', j') R := by
    intro l' r' h' j' R k
    refine g_run 5 24 [some (.retAddr 1000), some (.ref 0), some (.ref 105), some (.int (nI (7 * t)))] [.int (Int32.ofNat X.1 - (7 : Int32)), .int (nI (7 * t))] (fun _ => rfl) ?_
    refine g_brF (p1 := 1449) (L1 := [some (.retAddr 1000), some (.ref 0), some (.ref 105), some (.int (nI (7 * t)))]) (S1 := []) (s1 := (l', r', h', j')) (p2 := 27) (L2 := [some (.retAddr 1000), some (.ref 0), some (.ref 105), some (.int (nI (7 * t)))]) (S2 := []) (s2 := (l', r', h', j')) rfl (fun _ _ => rfl) ?_ ?_
    · show ¬ nI X.1 - nI 7 < nI (7 * t)
      rw [pk_sub (by omega)]
      exact nI_nlt (by omega) (by omega)
    refine g_run 2 29 [some (.retAddr 1000), some (.ref 0), some (.ref 105), some (.int (nI (7 * t)))] [.int (nI (7 * t)), .retAddr 1000] (fun _ => rfl) ?_
    refine g_iaX 30 rfl rfl (z_ix (show 7 * t < X.1 by omega) (by omega)) ?_
    refine g_run 2 33 [some (.retAddr 1000), some (.ref 0), some (.ref 105), some (.int (nI (7 * t)))] [.int (X.2 (7 * t) &&& (31 : Int32))] (fun _ => rfl) ?_
    exact k
  obtain ⟨k, hk, ek⟩ := and31 (X.2 (7 * t))
  have sw : ∀ {p : Nat}, lwG X t p l r h j → (∀ R, Ev X 272 p [some (.retAddr 1000), some (.ref 0), some (.ref 105), some (.int (nI (7 * t)))] [] (l, r, h, j) R → Ev X 272 33 [some (.retAddr 1000), some (.ref 0), some (.ref 105), some (.int (nI (7 * t)))] [.int (X.2 (7 * t) &&& 31)] (l, r, h, j) R) → lwG X t 18 l r h j := by
    intro p g f
    obtain ⟨l', r', h2, j2, w, s1, s2, k⟩ := g
    exact ⟨l', r', h2, j2, w, s1, s2, fun R e => hd (f R (k R e))⟩
  have hk32 : k = 0 ∨ k = 1 ∨ k = 2 ∨ k = 3 ∨ k = 4 ∨ k = 5 ∨ k = 6 ∨ k = 7 ∨ k = 8 ∨ k = 9 ∨ k = 10 ∨ k = 11 ∨ k = 12 ∨ k = 13 ∨ k = 14 ∨ k = 15 ∨ k = 16 ∨ k = 17 ∨ k = 18 ∨ k = 19 ∨ k = 20 ∨ k = 21 ∨ k = 22 ∨ k = 23 ∨ k = 24 ∨ k = 25 ∨ k = 26 ∨ k = 27 ∨ k = 28 ∨ k = 29 ∨ k = 30 ∨ k = 31 := by omega
  rcases hk32 with rfl | rfl | rfl | rfl | rfl | rfl | rfl | rfl | rfl | rfl | rfl | rfl | rfl | rfl | rfl | rfl | rfl | rfl | rfl | rfl | rfl | rfl | rfl | rfl | rfl | rfl | rfl | rfl | rfl | rfl | rfl | rfl
  · exact sw (lw_feed ht hX K1 (s_feed H)) (fun R kk => g_sw rfl ek (c := nI 0) (fun _ _ => rfl) kk)
  · exact sw (lw_end ht hX K1 (s_end H)) (fun R kk => g_sw rfl ek (c := nI 1) (fun _ _ => rfl) kk)
  · exact sw (lw_text ht hX K1 (s_text H)) (fun R kk => g_sw rfl ek (c := nI 2) (fun _ _ => rfl) kk)
  · exact sw (lw_fault ht hX K1 (s_fault H)) (fun R kk => g_sw rfl ek (c := nI 3) (fun _ _ => rfl) kk)
  · exact sw (lw_park ht hX K1 (s_park H)) (fun R kk => g_sw rfl ek (c := nI 4) (fun _ _ => rfl) kk)
  · exact sw (lw_bench ht hX K1 (s_bench H)) (fun R kk => g_sw rfl ek (c := nI 5) (fun _ _ => rfl) kk)
  · exact sw (lw_told ht hX K1 (s_told H)) (fun R kk => g_sw rfl ek (c := nI 6) (fun _ _ => rfl) kk)
  · exact sw (lw_wet ht hX K1 (s_wet H)) (fun R kk => g_sw rfl ek (c := nI 7) (fun _ _ => rfl) kk)
  · exact sw (lw_did ht hX K1 (s_did H)) (fun R kk => g_sw rfl ek (c := nI 8) (fun _ _ => rfl) kk)
  · exact sw (lw_day ht hX K1 (s_day H)) (fun R kk => g_sw rfl ek (c := nI 9) (fun _ _ => rfl) kk)
  · exact sw (lw_hang ht hX K1 (s_hang H)) (fun R kk => g_sw rfl ek (c := nI 10) (fun _ _ => rfl) kk)
  · exact sw (lw_rule ht hX K1 (s_rule H)) (fun R kk => g_sw rfl ek (c := nI 11) (fun _ _ => rfl) kk)
  · exact sw (lw_card ht hX K1 (s_card H)) (fun R kk => g_sw rfl ek (c := nI 12) (fun _ _ => rfl) kk)
  · exact sw (lw_days ht hX K1 (s_days H)) (fun R kk => g_sw rfl ek (c := nI 13) (fun _ _ => rfl) kk)
  · exact sw (lw_order ht hX K1 (s_order H)) (fun R kk => g_sw rfl ek (c := nI 14) (fun _ _ => rfl) kk)
  · exact sw (lw_sight ht hX K1 (s_sight H)) (fun R kk => g_sw rfl ek (c := nI 15) (fun _ _ => rfl) kk)
  · exact sw (lw_likely ht hX K1 (s_likely H)) (fun R kk => g_sw rfl ek (c := nI 16) (fun _ _ => rfl) kk)
  · exact sw (lw_act ht hX K1 (s_act H)) (fun R kk => g_sw rfl ek (c := nI 17) (fun _ _ => rfl) kk)
  · exact sw (lw_read ht hX K1 (s_read H)) (fun R kk => g_sw rfl ek (c := nI 18) (fun _ _ => rfl) kk)
  · exact sw (lw_alarm ht hX K1 (s_alarm H)) (fun R kk => g_sw rfl ek (c := nI 19) (fun _ _ => rfl) kk)
  · exact sw (lw_plan ht hX K1 (s_plan H)) (fun R kk => g_sw rfl ek (c := nI 20) (fun _ _ => rfl) kk)
  · exact sw (lw_halves ht hX K1 (s_halves H)) (fun R kk => g_sw rfl ek (c := nI 21) (fun _ _ => rfl) kk)
  · exact sw (lw_drawn ht hX K1 (s_drawn H)) (fun R kk => g_sw rfl ek (c := nI 22) (fun _ _ => rfl) kk)
  · exact sw (lw_otherwise ht hX K1 (s_otherwise H)) (fun R kk => g_sw rfl ek (c := nI 23) (fun _ _ => rfl) kk)
  · exact sw (lw_spare ht hX K1 (s_spare H)) (fun R kk => g_sw rfl ek (c := nI 24) (fun _ _ => rfl) kk)
  · exact sw (lw_anew ht hX K1 (s_anew H)) (fun R kk => g_sw rfl ek (c := nI 25) (fun _ _ => rfl) kk)
  · exact sw (lw_count ht hX K1 (s_count H)) (fun R kk => g_sw rfl ek (c := nI 26) (fun _ _ => rfl) kk)
  · exact sw (lw_image ht hX K1 (s_image H)) (fun R kk => g_sw rfl ek (c := nI 27) (fun _ _ => rfl) kk)
  · exact sw (lw_again ht hX K1 (s_again H)) (fun R kk => g_sw rfl ek (c := nI 28) (fun _ _ => rfl) kk)
  · exact sw (p := 1443) ⟨l, r, h, j, H, by omega, by omega, fun R kk => kk⟩ (fun R kk => g_swd (lo := 0) (hi := 28) rfl (fun _ _ => rfl) (.inr (by rw [ek]; decide)) kk)
  · exact sw (p := 1443) ⟨l, r, h, j, H, by omega, by omega, fun R kk => kk⟩ (fun R kk => g_swd (lo := 0) (hi := 28) rfl (fun _ _ => rfl) (.inr (by rw [ek]; decide)) kk)
  · exact sw (p := 1443) ⟨l, r, h, j, H, by omega, by omega, fun R kk => kk⟩ (fun R kk => g_swd (lo := 0) (hi := 28) rfl (fun _ _ => rfl) (.inr (by rw [ek]; decide)) kk)
theorem lw_fin {s : am_S} (hX : X.1 ≤ 3584) (ht : X.1 < 7 * t + 7) (ht2 : t ≤ 513) : Ev X 272 18 [some (.retAddr 1000), some (.ref 0), some (.ref 105), some (.int (nI (7 * t)))] [] s (some (.int 1), s) := by
  refine g_run 5 24 [some (.retAddr 1000), some (.ref 0), some (.ref 105), some (.int (nI (7 * t)))] [.int (Int32.ofNat X.1 - (7 : Int32)), .int (nI (7 * t))] (fun _ => rfl) ?_
  refine g_brT (p1 := 1449) (L1 := [some (.retAddr 1000), some (.ref 0), some (.ref 105), some (.int (nI (7 * t)))]) (S1 := []) (s1 := s) (p2 := 27) (L2 := [some (.retAddr 1000), some (.ref 0), some (.ref 105), some (.int (nI (7 * t)))]) (S2 := []) (s2 := s) rfl (fun _ _ => rfl) ?_ ?_
  · show nI X.1 - nI 7 < nI (7 * t)
    rw [Int32.lt_iff_toInt_lt, pk_sub_toInt (by omega) (by decide), nI_toInt (by omega)]
    omega
  refine g_run 1 1450 [some (.retAddr 1000), some (.ref 0), some (.ref 105), some (.int (nI (7 * t)))] [.int (1 : Int32)] (fun _ => rfl) ?_
  exact g_retZ rfl (y := (1 : Int32)) rfl rfl
set_option maxRecDepth 20000 in
/-- all turns -/
theorem lw_all (hX : X.1 ≤ 3584) : ∀ (c t : Nat) (l : List (Nat × Nat)) (r : am_R) (h : am_F) (j : am_J), X.1 ≤ 7 * (t + c) → t ≤ 513 → t + c ≤ 513 → wR l r h h 3 → l.length ≤ 200 + 43 * t → am_sz l ≤ 20000 + 2000 * t → ∃ s', Ev X 272 18 [some (.retAddr 1000), some (.ref 0), some (.ref 105), some (.int (nI (7 * t)))] [] (l, r, h, j) (some (.int 1), s') ∧ s'.1.length ≤ 600000 ∧ am_sz s'.1 ≤ 7302250 := by
  intro c
  induction c with
  | zero =>
    intro t l r h j hc ht htc H s1 s2
    refine ⟨(l, r, h, j), ?_, by show l.length ≤ _; omega, by show am_sz l ≤ _; omega⟩
    exact lw_fin hX (by omega) (by omega)
  | succ c ih =>
    intro t l r h j hc ht htc H s1 s2
    by_cases g : 7 * t + 7 ≤ X.1
    · obtain ⟨l', r', h2, j2, w, g1, g2, k⟩ := lw_turn (j := j) g hX H
      have q1 : l'.length ≤ 200 + 43 * (t + 1) := by omega
      have q2 : am_sz l' ≤ 20000 + 2000 * (t + 1) := by omega
      obtain ⟨s', e, e1, e2⟩ := ih (t + 1) l' r' h2 j2 (by omega) (by omega) (by omega) w q1 q2
      refine ⟨s', k _ ?_, e1, e2⟩
      refine g_run 2 18 [some (.retAddr 1000), some (.ref 0), some (.ref 105), some (.int (nI (7 * t) + (7 : Int32)))] [] (fun _ => rfl) ?_
      rw [show nI (7 * t) + (7 : Int32) = nI (7 * (t + 1)) from nI_add (7 * t) 7]
      exact e
    · refine ⟨(l, r, h, j), ?_, by show l.length ≤ _; omega, by show am_sz l ≤ _; omega⟩
      exact lw_fin hX (by omega) (by omega)
end TURN
