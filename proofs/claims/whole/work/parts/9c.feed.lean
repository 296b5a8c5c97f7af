/-! feed and end: class and reference -/
section FEED
variable {l : List (Nat × Nat)} {r : am_R} {hc hm : am_F} {b m : Nat} {n : Nat → Nat} {j : am_J} {x x1 x2 x3 x4 x5 : Int32}
theorem bv_shr (x : BitVec 32) (k : Nat) (hk : k ≤ 24) : BitVec.setWidth 8 (x >>> k) = BitVec.setWidth 8 (x.sshiftRight k) := by
  apply BitVec.eq_of_getLsbD_eq
  intro i hi
  rw [BitVec.getLsbD_setWidth, BitVec.getLsbD_setWidth, BitVec.getLsbD_ushiftRight, BitVec.getLsbD_sshiftRight, if_pos (show k + i < 32 by omega)]
  have : decide (32 ≤ i) = false := decide_eq_false (by omega)
  rw [this]
  simp
theorem shr_eq (x : Int32) (k : Nat) (hk : k = 24 ∨ k = 16 ∨ k = 8 ∨ k = 0) : (x.toUInt32 >>> ((nI k).toUInt32 &&& Int32.toUInt32 31)).toInt32.toInt8 = (x >>> (nI k &&& 31)).toInt8 := by
  apply Int8.toBitVec_inj.mp
  have h1 : ((nI k).toUInt32 &&& Int32.toUInt32 31).toBitVec % 32 = BitVec.ofNat 32 k := by
    rcases hk with rfl | rfl | rfl | rfl <;> decide
  have h2 : (nI k &&& 31).toBitVec.smod 32 = BitVec.ofNat 32 k := by
    rcases hk with rfl | rfl | rfl | rfl <;> decide
  have e1 : (x.toUInt32 >>> ((nI k).toUInt32 &&& Int32.toUInt32 31)).toInt32.toInt8.toBitVec = BitVec.signExtend 8 (x.toBitVec >>> (((nI k).toUInt32 &&& Int32.toUInt32 31).toBitVec % 32)) := rfl
  have e2 : (x >>> (nI k &&& 31)).toInt8.toBitVec = BitVec.signExtend 8 (x.toBitVec.sshiftRight' ((nI k &&& 31).toBitVec.smod 32)) := rfl
  rw [e1, e2, h1, h2, BitVec.signExtend_eq_setWidth_of_le _ (by decide), BitVec.signExtend_eq_setWidth_of_le _ (by decide)]
  have h3 : (BitVec.ofNat 32 k).toNat = k := by
    rcases hk with rfl | rfl | rfl | rfl <;> rfl
  show BitVec.setWidth 8 (x.toBitVec >>> (BitVec.ofNat 32 k).toNat) = BitVec.setWidth 8 (x.toBitVec.sshiftRight (BitVec.ofNat 32 k).toNat)
  rw [h3]
  exact bv_shr _ _ (by omega)
theorem i8_id (z : Int8) : z.toInt32.toInt8 = z := Int8.toInt8_toInt32 z
/-- the tape under way -/
def fdR (b m N : Nat) (hc0 hm0 hc hm : am_F) : Prop := hc b 1 = nI N ∧ hm (m + 2) 0 = nI N ∧ (∀ i, i < N → hc (b + 1) i = hm (m + 1) i ∧ (hm (m + 1) i).toInt8.toInt32 = hm (m + 1) i) ∧ (∀ y, y ≠ 1 → hc b y = hc0 b y) ∧ (∀ x, x ≠ b → x ≠ b + 1 → hc x = hc0 x) ∧ (∀ x, x ≠ m + 1 → x ≠ m + 2 → hm x = hm0 x) ∧ (∀ y, 600 ≤ y → hm (m + 1) y = hm0 (m + 1) y) ∧ (∀ y, 1 ≤ y → hm (m + 2) y = hm0 (m + 2) y)
theorem put_1 {hc0 hm0 : am_F} {N : Nat} {v w : Int32} (hN : N < 600) (F : fdR b m N hc0 hm0 hc hm) (e1 : v = w) (e2 : w.toInt8.toInt32 = w) : fdR b m (N + 1) hc0 hm0 (am_up (am_up hc (b + 1) N v) b 1 (nI (N + 1))) (am_up (am_up hm (m + 1) N w) (m + 2) 0 (nI (N + 1))) := by
  obtain ⟨f1, f2, f3, f4, f5, f6, f7, f8⟩ := F
  refine ⟨by rw [z_ups, upz_s], by rw [z_ups, upz_s], fun i hi => ?_, fun y hy => ?_, fun x h1 h2 => ?_, fun x h1 h2 => ?_, fun y hy => ?_, fun y hy => ?_⟩
  · rw [z_upr (show b + 1 ≠ b by omega), z_upr (show m + 1 ≠ m + 2 by omega), z_ups, z_ups]
    by_cases c : i = N
    · subst c
      rw [upz_s, upz_s]
      exact ⟨e1, e2⟩
    · rw [upz_n c, upz_n c]
      exact f3 i (by omega)
  · rw [z_ups, upz_n hy, z_upr (by omega)]
    exact f4 y hy
  · rw [z_upr h1, z_upr h2]
    exact f5 x h1 h2
  · rw [z_upr h2, z_upr h1]
    exact f6 x h1 h2
  · rw [z_upr (by omega), z_ups, upz_n (by omega)]
    exact f7 y hy
  · rw [z_ups, upz_n (by omega), z_upr (by omega)]
    exact f8 y hy
theorem put_l {hc0 hm0 : am_F} : ∀ (s N fu : Nat) (hc hm : am_F), s ≤ 4 → N + s ≤ 600 → s < fu → fdR b m N hc0 hm0 hc hm → ∃ hc' hm', Tl_put_l3 b x fu (nI (8 * s) + Int32.ofInt (-8)) hc = some hc' ∧ Md_four_l3 m x fu (nI (8 * s) + Int32.ofInt (-8)) hm = some hm' ∧ fdR b m (N + s) hc0 hm0 hc' hm' := by
  intro s
  induction s with
  | zero =>
    intro N fu hc hm hs hN hfu F
    obtain ⟨fu, rfl⟩ : ∃ q, fu = q + 1 := ⟨fu - 1, by omega⟩
    refine ⟨hc, hm, ?_, ?_, F⟩
    · unfold Tl_put_l3
      rw [if_pos (show nI (8 * 0) + Int32.ofInt (-8) < 0 by decide)]
    · unfold Md_four_l3
      rw [if_pos (show nI (8 * 0) + Int32.ofInt (-8) < 0 by decide)]
  | succ s ih =>
    intro N fu hc hm hs hN hfu F
    obtain ⟨fu, rfl⟩ : ∃ q, fu = q + 1 := ⟨fu - 1, by omega⟩
    have hs4 : s = 0 ∨ s = 1 ∨ s = 2 ∨ s = 3 := by omega
    have e : nI (8 * (s + 1)) + Int32.ofInt (-8) = nI (8 * s) := by
      rcases hs4 with rfl | rfl | rfl | rfl <;> decide
    have hv : (x.toUInt32 >>> ((nI (8 * s)).toUInt32 &&& Int32.toUInt32 31)).toInt32.toInt8.toInt32.toInt8.toInt32 = (x >>> (nI (8 * s) &&& 31)).toInt8.toInt32.toInt8.toInt32 := by
      rw [shr_eq x (8 * s) (by omega)]
    obtain ⟨hc', hm', g1, g2, g3⟩ := ih (N + 1) fu _ _ (by omega) (by omega) (by omega) (put_1 (by omega) F hv (by rw [i8_id, i8_id]))
    refine ⟨hc', hm', ?_, ?_, ?_⟩
    · rw [e]
      unfold Tl_put_l3
      rw [if_neg (nI_pos (by omega)), F.1, show (600 : Int32) = nI 600 from rfl, if_neg (nI_ge (by omega) (by decide)), z_ix (by omega) (by decide), Option.bind_some, z_upr (show b ≠ b + 1 by omega), F.1, nI_1]
      exact g1
    · rw [e]
      unfold Md_four_l3
      rw [if_neg (nI_pos (by omega)), F.2.1, z_ix (by omega) (by decide), Option.bind_some, z_upr (show m + 2 ≠ m + 1 by omega), F.2.1, nI_1]
      exact g2
    · rw [show N + (s + 1) = N + 1 + s by omega]
      exact g3
theorem put_at {hc0 hm0 : am_F} {N : Nat} (hN : N + 4 ≤ 600) (F : fdR b m N hc0 hm0 hc hm) : ∃ hc' hm', Tl_put b x hc = some hc' ∧ Md_four m x hm = some hm' ∧ fdR b m (N + 4) hc0 hm0 hc' hm' := by
  obtain ⟨hc', hm', g1, g2, g3⟩ := put_l (x := x) 4 N g_fu hc hm (by decide) hN (by unfold g_fu; omega) F
  refine ⟨hc', hm', ?_, ?_, g3⟩
  · unfold Tl_put
    have g1' : Tl_put_l3 b x g_fu 24 hc = some hc' := g1
    rw [g1', Option.bind_some]
  · unfold Md_four
    have g2' : Md_four_l3 m x g_fu 24 hm = some hm' := g2
    rw [g2', Option.bind_some]
/-- what feed and end leave -/
def fdL (hc hc' hm hm' : am_F) (m : Nat) : Prop := (∀ x, x ≠ 1 → x ≠ 2 → hc' x = hc x) ∧ (∀ x, x ≠ m → x ≠ m + 1 → x ≠ m + 2 → hm' x = hm x) ∧ (∀ y, 600 ≤ y → hm' (m + 1) y = hm (m + 1) y) ∧ (∀ y, 1 ≤ y → hm' (m + 2) y = hm (m + 2) y)
theorem q_feed (TF : tdF hc 1 hm m 0) : ∃ v hc' hm', Wp_feed 0 x1 x2 x3 x4 x5 hc = some (v, hc') ∧ Md_feed m x1 x2 x3 x4 x5 hm = some (v, hm') ∧ tdF hc' 1 hm' m 0 ∧ fdL hc hc' hm hm' m := by
  obtain ⟨N, N1, N2, N3, N4, N5, N6⟩ := TF
  have N2' : hc (0 + 1) 1 = nI N := N2
  have N3' : am_up hm m 0 0 (m + 2) 0 = nI N := by rw [z_upr (by omega)]; exact N3
  unfold Wp_feed Md_feed
  rw [N2', N3', show (20 : Int32) = nI 20 from rfl, nI_add, show (600 : Int32) = nI 600 from rfl]
  by_cases c : N + 20 ≤ 600
  · rw [if_pos (nI_le c (by omega)), if_pos (nI_le c (by omega))]
    have F0 : fdR 1 m N hc (am_up hm m 0 0) hc (am_up hm m 0 0) := by
      refine ⟨N2, N3', fun i hi => ?_, fun _ _ => rfl, fun _ _ _ => rfl, fun _ _ _ => rfl, fun _ _ => rfl, fun _ _ => rfl⟩
      rw [z_upr (show m + 1 ≠ m by omega)]
      have := N4 i hi
      rw [show 600 * 0 + i = i by omega] at this
      exact this
    obtain ⟨c1, d1, a1, b1, F1⟩ := put_at (x := x1) (by omega) F0
    obtain ⟨c2, d2, a2, b2, F2⟩ := put_at (x := x2) (by omega) F1
    obtain ⟨c3, d3, a3, b3, F3⟩ := put_at (x := x3) (by omega) F2
    obtain ⟨c4, d4, a4, b4, F4⟩ := put_at (x := x4) (by omega) F3
    obtain ⟨c5, d5, a5, b5, F5⟩ := put_at (x := x5) (by omega) F4
    have a1' : Tl_put (0 + 1) x1 hc = some c1 := a1
    have a2' : Tl_put (0 + 1) x2 c1 = some c2 := a2
    have a3' : Tl_put (0 + 1) x3 c2 = some c3 := a3
    have a4' : Tl_put (0 + 1) x4 c3 = some c4 := a4
    have a5' : Tl_put (0 + 1) x5 c4 = some c5 := a5
    rw [a1', b1, Option.bind_some, Option.bind_some, a2', b2, Option.bind_some, Option.bind_some, a3', b3, Option.bind_some, Option.bind_some, a4', b4, Option.bind_some, Option.bind_some, a5', b5, Option.bind_some, Option.bind_some]
    obtain ⟨f1, f2, f3, f4, f5, f6, f7, f8⟩ := F5
    refine ⟨_, c5, d5, rfl, ?_, ⟨_, show N + 4 + 4 + 4 + 4 + 4 ≤ 600 by omega, f1, f2, fun i hi => ?_, ?_, ?_⟩, fun x h1 h2 => f5 x h1 h2, fun x h1 h2 h3 => ?_, fun y hy => ?_, fun y hy => ?_⟩
    · have f1' : c5 (0 + 1) 1 = _ := f1
      rw [f2, f1']
    · rw [show 600 * 0 + i = i by omega]
      exact f3 i hi
    · rw [f4 2 (by decide), f6 _ (by omega) (by omega), z_upr (by omega)]
      exact N5
    · rw [f4 3 (by decide), f6 _ (by omega) (by omega), z_upr (by omega)]
      exact N6
    · rw [f6 x h2 h3, z_upr h1]
    · rw [f7 y hy, z_upr (by omega)]
    · rw [f8 y hy, z_upr (by omega)]
  · rw [if_neg (nI_ge (by omega) (by omega)), if_neg (nI_ge (by omega) (by omega))]
    refine ⟨-1, hc, am_up hm m 0 0, rfl, rfl, ⟨N, N1, N2, N3', fun i hi => ?_, ?_, ?_⟩, fun x _ _ => rfl, fun x h1 _ _ => z_upr h1, fun y _ => ?_, fun y _ => ?_⟩
    · rw [z_upr (show m + 1 ≠ m by omega)]
      exact N4 i hi
    · rw [z_upr (by omega)]; exact N5
    · rw [z_upr (by omega)]; exact N6
    · rw [z_upr (by omega)]
    · rw [z_upr (by omega)]
theorem q_end (TF : tdF hc 1 hm m 0) : ∃ v hc' hm', Wp_end 0 x1 hc = some (v, hc') ∧ Md_end m x1 hm = some (v, hm') ∧ tdF hc' 1 hm' m 0 ∧ fdL hc hc' hm hm' m := by
  obtain ⟨N, N1, N2, N3, N4, N5, N6⟩ := TF
  have N2' : hc (0 + 1) 1 = nI N := N2
  have N3' : am_up hm m 0 0 (m + 2) 0 = nI N := by rw [z_upr (by omega)]; exact N3
  have R0 : tdF hc 1 (am_up hm m 0 0) m 0 ∧ fdL hc hc hm (am_up hm m 0 0) m := by
    refine ⟨⟨N, N1, N2, N3', fun i hi => ?_, ?_, ?_⟩, fun x _ _ => rfl, fun x h1 _ _ => z_upr h1, fun y _ => ?_, fun y _ => ?_⟩
    · rw [z_upr (show m + 1 ≠ m by omega)]
      exact N4 i hi
    · rw [z_upr (by omega)]; exact N5
    · rw [z_upr (by omega)]; exact N6
    · rw [z_upr (by omega)]
    · rw [z_upr (by omega)]
  unfold Wp_end Md_end
  rw [N2', N3']
  rcases pk_ix x1 (n := N + 1) (by omega) with c | c | ⟨k, hk, rfl⟩
  · rw [if_pos c, Md_in_no (.inl c), if_pos rfl]
    exact ⟨_, _, _, rfl, rfl, R0⟩
  · have c3 : nI N < x1 := Int32.lt_of_lt_of_le (nI_lt (show N < N + 1 by omega) (by omega)) c
    have c1 : ¬ x1 < 0 := fun h => z_negle h (show N + 1 < 2 ^ 31 by omega) c
    rw [if_neg c1, if_neg (Int32.not_le.2 c3), Md_in_no (.inr c3), if_pos rfl]
    exact ⟨_, _, _, rfl, rfl, R0⟩
  · rw [if_neg (nI_pos (by omega)), if_pos (nI_le (by omega) (by omega)), show Md_in (nI k) 0 (nI N) = 1 from Md_in_yes (show 0 ≤ k from Nat.zero_le _) (by omega) (by omega), if_neg (show ¬ (1 : Int32) = 0 by decide)]
    refine ⟨_, _, _, rfl, rfl, ⟨k, by omega, by rw [z_ups, upz_s], by rw [z_ups, upz_s], fun i hi => ?_, ?_, ?_⟩, fun x h1 _ => z_upr h1, fun x h1 _ h3 => by rw [z_upr h3, z_upr h1], fun y _ => ?_, fun y _ => ?_⟩
    · rw [z_upr (show m + 1 ≠ m + 2 by omega), z_upr (show m + 1 ≠ m by omega), z_upr (show 1 + 1 ≠ 0 + 1 by decide)]
      exact N4 i (by omega)
    · rw [z_ups, upz_n (by decide), z_upr (by omega), z_upr (by omega)]; exact N5
    · rw [z_ups, upz_n (by decide), z_upr (by omega), z_upr (by omega)]; exact N6
    · rw [z_upr (by omega), z_upr (by omega)]
    · rw [z_ups, upz_n (by omega), z_upr (by omega)]
end FEED
