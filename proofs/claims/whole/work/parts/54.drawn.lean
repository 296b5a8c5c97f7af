/-! summers by a seed -/
def lcg (x : Int32) : Int32 := x * 1103515245 + 12345
theorem z_of32 (x : Int32) : x = nI x.toBitVec.toNat := by
  apply Int32.toBitVec_inj.mp
  apply BitVec.eq_of_toNat_eq
  rw [pk_tn x.toBitVec.isLt]
theorem hi16 (x : Int32) : ∃ k, k < 65536 ∧ (x.toUInt32 >>> ((16 : Int32).toUInt32 &&& Int32.toUInt32 31)).toInt32 = nI k := by
  have hl : x.toBitVec.toNat < 2 ^ 32 := x.toBitVec.isLt
  refine ⟨x.toBitVec.toNat / 2 ^ 16, by omega, ?_⟩
  have h := pk_ushrN (n := x.toBitVec.toNat) hl (16 : Int32) 16 (by decide)
  rw [← z_of32 x] at h
  exact h
section DRAWN
variable {l : List (Nat × Nat)} {r : am_R} {h h' hc hm : am_F} {m k p b t s w lim a q c i nb nc : Nat} {n : Nat → Nat} {f g g' : Nat → Int32} {x x1 x2 x3 x4 y u v sd : Int32}
theorem draw_eq {N : Nat} (hN : 0 < N) (hN2 : N < 1000) : ∃ k s', k < N ∧ (∀ h : am_F, h 76 4 = sd → Tr_drawBelow 76 (nI N) h = some (nI k, am_up h 76 4 s')) ∧ ∀ hm : am_F, hm m 48 = sd → Md_draw m (nI N) hm = some (nI k, am_up hm m 48 s') := by
  obtain ⟨e, he, ee⟩ := hi16 (lcg sd)
  have hr : g_rm (nI e) (nI N) = some (nI (e % N)) := by
    unfold g_rm
    rw [if_neg (fun z => by have := (z_eq0 (show N < 2 ^ 31 by omega)).1 z; omega), pk_rem (by omega) hN (by omega)]
  refine ⟨e % N, lcg sd, Nat.mod_lt _ hN, ?_, ?_⟩
  · intro h hs
    unfold Tr_drawBelow
    rw [hs, show sd * 1103515245 + 12345 = lcg sd from rfl, z_ups, upz_s, ee, if_pos (show (1 : Int32) ≤ nI N from nI_le (a := 1) (by omega) (by omega)), hr]
    rfl
  · intro hm hs
    unfold Md_draw
    rw [hs, show sd * 1103515245 + 12345 = lcg sd from rfl, z_ups, upz_s, ee, hr]
    rfl
def comV (g : Nat → Int32) (nb i : Nat) : Prop := ∀ k, k < i → zN (g (111 + 6 * k)) 5 ∧ zN (g (111 + (6 * k + 1))) 48 ∧ zN (g (111 + (6 * k + 2))) nb ∧ zN (g (111 + (6 * k + 3))) 10 ∧ zN (g (111 + (6 * k + 4))) 10 ∧ zN (g (111 + (6 * k + 5))) 10
set_option maxHeartbeats 4000000 in
theorem drawn_l (hnb : 0 < nb) (hnb6 : nb ≤ 6) (hnc : nc ≤ 14) : ∀ (c i f1 f2 : Nat) (hc hm : am_F), i + c = nc → c < f1 → c < f2 → rwI l hc 98 6 14 i (fun j => hm (m + 12) (111 + j)) → hc 76 4 = hm m 48 → hc 87 3 = nI nb → hm (m + 12) 3 = nI nb → comV (hm (m + 12)) nb i → ∃ hc' hm', Tr_draw_l27 l r 76 (nI nc) f1 (nI i) hc = some hc' ∧ Md_drawn_l50 l r m (nI nc) x4 f2 (nI i) hm = some hm' ∧ rwI l hc' 98 6 14 nc (fun j => hm' (m + 12) (111 + j)) ∧ comV (hm' (m + 12)) nb nc ∧ (∀ j, j < 111 → hm' (m + 12) j = hm (m + 12) j) ∧ (∀ x, x ≠ 76 → x ≠ 98 → x ≠ 99 → hc' x = hc x) ∧ (∀ x, x ≠ m → x ≠ m + 12 → hm' x = hm x) := by
  intro c
  induction c with
  | zero =>
    intro i f1 f2 hc hm hi hf1 hf2 R es e3 em3 hv
    obtain ⟨f1, rfl⟩ : ∃ q, f1 = q + 1 := ⟨f1 - 1, by omega⟩
    obtain ⟨f2, rfl⟩ : ∃ q, f2 = q + 1 := ⟨f2 - 1, by omega⟩
    have : i = nc := by omega
    subst this
    unfold Tr_draw_l27 Md_drawn_l50
    rw [if_pos (nI_le (Nat.le_refl _) (by omega)), if_pos (nI_le (Nat.le_refl _) (by omega))]
    exact ⟨hc, hm, rfl, rfl, R, hv, fun _ _ => rfl, fun _ _ _ _ => rfl, fun _ _ _ => rfl⟩
  | succ c ih =>
    intro i f1 f2 hc hm hi hf1 hf2 R es e3 em3 hv
    obtain ⟨f1, rfl⟩ : ∃ q, f1 = q + 1 := ⟨f1 - 1, by omega⟩
    obtain ⟨f2, rfl⟩ : ∃ q, f2 = q + 1 := ⟨f2 - 1, by omega⟩
    have ho := Rw_open_at (r := r) R (by omega)
    obtain ⟨t0, t1, t3, t4, t5, t6, t7, t8⟩ := R
    generalize hq0 : rwN hc 98 6 i (fun _ => 0) = q0 at ho
    have q0h : q0 98 = upz (hc 98) 3 (nI (i + 1)) := by
      rw [← hq0]; funext y; unfold rwN upz
      rw [if_neg (by omega)]
      by_cases cy : y = 3
      · rw [if_pos ⟨rfl, cy⟩, if_pos cy]
      · rw [if_neg (fun e => cy e.2), if_neg cy]
    have q0c : ∀ y, y < 6 * i → q0 99 y = hc 99 y := by
      intro y hy; rw [← hq0]; unfold rwN; rw [if_neg (by omega), if_neg (by omega)]
    have q0x : ∀ x, x ≠ 98 → x ≠ 99 → q0 x = hc x := by
      intro x h1 h2; rw [← hq0]; funext y; unfold rwN; rw [if_neg (by omega), if_neg (by omega)]
    have hset : ∀ (z : am_F) (cc : Nat) (v : Int32), z 98 = q0 98 → cc < 6 → Rw_set l r 98 (nI i) (nI cc) v z = some (am_up z 99 (6 * i + cc) v) := by
      intro z cc v hz hcc
      have Rz : rwI l z 98 6 14 (i + 1) (z 99) := by
        refine ⟨?_, ?_, ?_, by omega, t5, t6, t7, fun _ _ => rfl⟩
        · rw [hz, q0h, upz_n (by omega)]; exact t0
        · rw [hz, q0h, upz_n (by omega)]; exact t1
        · rw [hz, q0h, upz_s]
      exact Rw_set_at Rz (by omega) hcc
    obtain ⟨k0, s0, b0, c0, m0⟩ := draw_eq (m := m) (sd := hm m 48) (N := 5) (by decide) (by decide)
    obtain ⟨k1, s1, b1, c1, m1⟩ := draw_eq (m := m) (sd := s0) (N := 48) (by decide) (by decide)
    obtain ⟨k2, s2, b2, c2, m2⟩ := draw_eq (m := m) (sd := s1) (N := nb) hnb (by omega)
    obtain ⟨k3, s3, b3, c3, m3⟩ := draw_eq (m := m) (sd := s2) (N := 10) (by decide) (by decide)
    obtain ⟨k4, s4, b4, c4, m4⟩ := draw_eq (m := m) (sd := s3) (N := 10) (by decide) (by decide)
    obtain ⟨k5, s5, b5, c5, m5⟩ := draw_eq (m := m) (sd := s4) (N := 10) (by decide) (by decide)
    generalize hz : am_up (am_up (am_up (am_up (am_up (am_up (am_up (am_up (am_up (am_up (am_up (am_up q0 76 4 s0) 99 (6 * i + 0) (nI k0)) 76 4 s1) 99 (6 * i + 1) (nI k1)) 76 4 s2) 99 (6 * i + 2) (nI k2)) 76 4 s3) 99 (6 * i + 3) (nI k3)) 76 4 s4) 99 (6 * i + 4) (nI k4)) 76 4 s5) 99 (6 * i + 5) (nI k5) = z
    have cl : Tr_draw_l27 l r 76 (nI nc) (f1 + 1) (nI i) hc = Tr_draw_l27 l r 76 (nI nc) f1 (nI (i + 1)) z := by
      conv => lhs; unfold Tr_draw_l27
      simp only [Nat.reduceAdd]
      rw [if_neg (nI_ge (by omega) (by omega)), ho, Option.bind_some]
      simp only [z_lits]
      rw [c0 q0 (by rw [q0x 76 (by decide) (by decide)]; exact es), Option.bind_some]
      simp only
      rw [hset _ 0 _ (z_upr (by decide)) (by decide), Option.bind_some, c1 _ (by simp (disch := omega) only [z_upr, z_ups, upz_s]), Option.bind_some]
      simp only
      rw [hset _ 1 _ (by simp (disch := omega) only [z_upr]) (by decide), Option.bind_some]
      rw [show (am_up (am_up (am_up (am_up q0 76 4 s0) 99 (6 * i + 0) (nI k0)) 76 4 s1) 99 (6 * i + 1) (nI k1)) 87 3 = nI nb by simp (disch := omega) only [z_upr]; rw [q0x 87 (by decide) (by decide)]; exact e3, c2 _ (by simp (disch := omega) only [z_upr, z_ups, upz_s]), Option.bind_some]
      simp only
      rw [hset _ 2 _ (by simp (disch := omega) only [z_upr]) (by decide), Option.bind_some, c3 _ (by simp (disch := omega) only [z_upr, z_ups, upz_s]), Option.bind_some]
      simp only
      rw [hset _ 3 _ (by simp (disch := omega) only [z_upr]) (by decide), Option.bind_some, c4 _ (by simp (disch := omega) only [z_upr, z_ups, upz_s]), Option.bind_some]
      simp only
      rw [hset _ 4 _ (by simp (disch := omega) only [z_upr]) (by decide), Option.bind_some, c5 _ (by simp (disch := omega) only [z_upr, z_ups, upz_s]), Option.bind_some]
      simp only
      rw [hset _ 5 _ (by simp (disch := omega) only [z_upr]) (by decide), Option.bind_some, hz, nI_add]
    generalize hy : am_up (am_up (am_up (am_up (am_up (am_up (am_up (am_up (am_up (am_up (am_up (am_up hm m 48 s0) (m + 12) (111 + 6 * i) (nI k0)) m 48 s1) (m + 12) (111 + 6 * i + 1) (nI k1)) m 48 s2) (m + 12) (111 + 6 * i + 2) (nI k2)) m 48 s3) (m + 12) (111 + 6 * i + 3) (nI k3)) m 48 s4) (m + 12) (111 + 6 * i + 4) (nI k4)) m 48 s5) (m + 12) (111 + 6 * i + 5) (nI k5) = y1
    have ml : Md_drawn_l50 l r m (nI nc) x4 (f2 + 1) (nI i) hm = Md_drawn_l50 l r m (nI nc) x4 f2 (nI (i + 1)) y1 := by
      conv => lhs; unfold Md_drawn_l50
      rw [if_neg (nI_ge (by omega) (by omega))]
      simp only [z_lits, pk_mul, nI_add]
      rw [m0 hm rfl, Option.bind_some, z_ix (show 111 + 6 * i < 195 by omega) (by decide), Option.bind_some]
      simp only
      rw [m1 _ (by simp (disch := omega) only [z_upr, z_ups, upz_s]), Option.bind_some, z_ix (show 111 + 6 * i + 1 < 195 by omega) (by decide), Option.bind_some]
      simp only
      rw [show (am_up (am_up (am_up (am_up hm m 48 s0) (m + 12) (111 + 6 * i) (nI k0)) m 48 s1) (m + 12) (111 + 6 * i + 1) (nI k1)) (m + 12) 3 = nI nb by simp (disch := omega) only [z_upr, z_ups, upz_n]; exact em3, m2 _ (by simp (disch := omega) only [z_upr, z_ups, upz_s]), Option.bind_some, z_ix (show 111 + 6 * i + 2 < 195 by omega) (by decide), Option.bind_some]
      simp only
      rw [m3 _ (by simp (disch := omega) only [z_upr, z_ups, upz_s]), Option.bind_some, z_ix (show 111 + 6 * i + 3 < 195 by omega) (by decide), Option.bind_some]
      simp only
      rw [m4 _ (by simp (disch := omega) only [z_upr, z_ups, upz_s]), Option.bind_some, z_ix (show 111 + 6 * i + 4 < 195 by omega) (by decide), Option.bind_some]
      simp only
      rw [m5 _ (by simp (disch := omega) only [z_upr, z_ups, upz_s]), Option.bind_some, z_ix (show 111 + 6 * i + 5 < 195 by omega) (by decide), Option.bind_some]
      simp only
      rw [hy]
    have zx : ∀ x, x ≠ 76 → x ≠ 99 → z x = q0 x := by
      intro x h1 h2; rw [← hz]; simp (disch := omega) only [z_upr]
    have yx : ∀ x, x ≠ m → x ≠ m + 12 → y1 x = hm x := by
      intro x h1 h2; rw [← hy]; simp (disch := omega) only [z_upr]
    have z99 : z 99 = upz (upz (upz (upz (upz (upz (q0 99) (6 * i + 0) (nI k0)) (6 * i + 1) (nI k1)) (6 * i + 2) (nI k2)) (6 * i + 3) (nI k3)) (6 * i + 4) (nI k4)) (6 * i + 5) (nI k5) := by
      rw [← hz]; simp (disch := omega) only [z_upr, z_ups]
    have y12 : y1 (m + 12) = upz (upz (upz (upz (upz (upz (hm (m + 12)) (111 + 6 * i) (nI k0)) (111 + 6 * i + 1) (nI k1)) (111 + 6 * i + 2) (nI k2)) (111 + 6 * i + 3) (nI k3)) (111 + 6 * i + 4) (nI k4)) (111 + 6 * i + 5) (nI k5) := by
      rw [← hy]; simp (disch := omega) only [z_upr, z_ups]
    have yo : ∀ j, j < 111 + 6 * i → y1 (m + 12) j = hm (m + 12) j := by
      intro j hj; rw [y12]; simp (disch := omega) only [upz_n]
    obtain ⟨hc', hm', r1, r2, r3, r4, r5, r6, r7⟩ := ih (i + 1) f1 f2 z y1 (by omega) (by omega) (by omega) (by
        refine ⟨?_, ?_, ?_, by omega, t5, t6, t7, ?_⟩
        · rw [zx 98 (by decide) (by decide), q0h, upz_n (by omega)]; exact t0
        · rw [zx 98 (by decide) (by decide), q0h, upz_n (by omega)]; exact t1
        · rw [zx 98 (by decide) (by decide), q0h, upz_s]
        · intro j hj
          show z 99 j = y1 (m + 12) (111 + j)
          by_cases cj : j < 6 * i
          · rw [yo _ (by omega), z99]
            simp (disch := omega) only [upz_n]
            rw [q0c j cj]
            exact t8 j cj
          · rw [z99, y12]
            have : j = 6 * i + 0 ∨ j = 6 * i + 1 ∨ j = 6 * i + 2 ∨ j = 6 * i + 3 ∨ j = 6 * i + 4 ∨ j = 6 * i + 5 := by omega
            rcases this with rfl | rfl | rfl | rfl | rfl | rfl
            · rw [show 111 + (6 * i + 0) = 111 + 6 * i by omega]; simp (disch := omega) only [upz_s, upz_n]
            · rw [show 111 + (6 * i + 1) = 111 + 6 * i + 1 by omega]; simp (disch := omega) only [upz_s, upz_n]
            · rw [show 111 + (6 * i + 2) = 111 + 6 * i + 2 by omega]; simp (disch := omega) only [upz_s, upz_n]
            · rw [show 111 + (6 * i + 3) = 111 + 6 * i + 3 by omega]; simp (disch := omega) only [upz_s, upz_n]
            · rw [show 111 + (6 * i + 4) = 111 + 6 * i + 4 by omega]; simp (disch := omega) only [upz_s, upz_n]
            · rw [show 111 + (6 * i + 5) = 111 + 6 * i + 5 by omega]; simp (disch := omega) only [upz_s, upz_n]) (by
        rw [← hz, ← hy]; simp (disch := omega) only [z_upr, z_ups, upz_s]) (by
        rw [zx 87 (by decide) (by decide), q0x 87 (by decide) (by decide)]; exact e3) (by
        rw [yo 3 (by omega)]; exact em3) (by
        intro k hk
        by_cases ck : k < i
        · rw [yo _ (by omega), yo _ (by omega), yo _ (by omega), yo _ (by omega), yo _ (by omega), yo _ (by omega)]
          exact hv k ck
        · have : k = i := by omega
          subst this
          rw [y12, show 111 + (6 * k + 1) = 111 + 6 * k + 1 by omega, show 111 + (6 * k + 2) = 111 + 6 * k + 2 by omega, show 111 + (6 * k + 3) = 111 + 6 * k + 3 by omega, show 111 + (6 * k + 4) = 111 + 6 * k + 4 by omega, show 111 + (6 * k + 5) = 111 + 6 * k + 5 by omega]
          simp (disch := omega) only [upz_s, upz_n]
          exact ⟨⟨k0, b0, rfl⟩, ⟨k1, b1, rfl⟩, ⟨k2, b2, rfl⟩, ⟨k3, b3, rfl⟩, ⟨k4, b4, rfl⟩, ⟨k5, b5, rfl⟩⟩)
    refine ⟨hc', hm', by rw [cl]; exact r1, by rw [ml]; exact r2, r3, r4, ?_, ?_, ?_⟩
    · intro j hj
      rw [r5 j hj, yo j (by omega)]
    · intro x h1 h2 h3
      rw [r6 x h1 h2 h3, zx x h1 h3, q0x x h2 h3]
    · intro x h1 h2
      rw [r7 x h1 h2, yx x h1 h2]
end DRAWN
