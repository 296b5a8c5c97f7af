/-! a text read from its first token to its end -/
section READT
variable {l : List (Nat × Nat)} {r : am_R} {hc hm : am_F} {a m tp L s : Nat} {j : am_J}
def b255 (x : Int32) : Nat := (x &&& 255).toBitVec.toNat
theorem b255_at (x : Int32) : x &&& 255 = nI (b255 x) ∧ b255 x < 256 := by
  have h : b255 x < 256 := by
    unfold b255
    rw [Int32.toBitVec_and, BitVec.toNat_and]
    exact Nat.lt_of_le_of_lt Nat.and_le_right (by decide)
  refine ⟨?_, h⟩
  apply Int32.toBitVec_inj.mp
  apply BitVec.eq_of_toNat_eq
  show b255 x = (BitVec.ofNat 32 (b255 x)).toNat
  rw [BitVec.toNat_ofNat, Nat.mod_eq_of_lt (by omega)]
theorem LE_gz {T : Nat → Nat} {hc0 hm0 : am_F} {Cx : Option am_F} {Mx : Option (Int32 × am_F × am_J)} (h : LE l r a m tp L s T hc0 hm0 Cx Mx) : LE l r a m tp L s T hc0 hm0 Cx (gz Mx) := by
  have : gz Mx = Mx := by
    rcases h with ⟨f', hc', hm', j', e1, e2, _⟩ | ⟨hc', hm', j', e1, e2, _⟩ <;> rw [e2] <;> rfl
  rw [this]
  exact h
theorem readText_eq (hs : s < 4) (htp : tp < a) (RL : rdL l a) (hl : g_ln l tp = 600) (hL : L ≤ 600) (h11 : hm m 11 = nI L) (hb : ∀ i, i < L → hc tp i = hm (m + 1) i) (Hd : hdR l hc a) : RE l a m s hc hm (am_up r a 7 (some tp)) (Rd_readText l r a tp (nI L) (nI s) hc) (Md_readText m (nI s) hm j) := by
  have eL : (if (Int32.ofNat (g_ln l tp)) < nI L then (Int32.ofNat (g_ln l tp)) else nI L) = nI L := by
    rw [hl, if_neg (show ¬ Int32.ofNat 600 < nI L from nI_nlt (show L ≤ 600 from hL) (by decide))]
  have eM : Md_readText m (nI s) hm j = (Md_blank m (nI s) hm).bind fun q1 => (Md_token m (am_up (am_up (am_up q1 m 21 (-1 : Int32)) m 10 (0 : Int32)) m 17 (0 : Int32)) j).bind fun q2 => (gz (Md_lines_l2 m (nI s) g_fu 1 q2.1 q2.2)).bind (mdE m (nI s)) := rfl
  have eC : Rd_readText l r a tp (nI L) (nI s) hc = (Pk_clear l (am_up r a 7 (some tp)) (a + 1) (am_up (am_up (am_up (am_up (am_up hc a 8 (if (Int32.ofNat (g_ln l tp)) < nI L then (Int32.ofNat (g_ln l tp)) else nI L)) a 9 (0 : Int32)) a 4 (0 : Int32)) a 5 (-1 : Int32)) a 13 (-1 : Int32))).bind fun q2 => (Rd_next l (am_up r a 7 (some tp)) a (am_up (am_up (am_up q2 (a + 14) 3 (0 : Int32)) (a + 16) 3 (0 : Int32)) (a + 18) 3 (0 : Int32))).bind fun q3 => (Rd_readText_l73 l (am_up r a 7 (some tp)) a (nI s) g_fu (0 : Int32) q3).bind (rdE a (nI s) (am_up r a 7 (some tp))) := rfl
  rw [eM, eC, eL]
  generalize eA : am_up (am_up (am_up (am_up (am_up hc a 8 (nI L)) a 9 (0 : Int32)) a 4 (0 : Int32)) a 5 (-1 : Int32)) a 13 (-1 : Int32) = hA
  have A8 : hA a 8 = nI L := by rw [← eA, z_ups, upz_n (by decide), z_ups, upz_n (by decide), z_ups, upz_n (by decide), z_ups, upz_n (by decide), z_ups, upz_s]
  have A9 : hA a 9 = 0 := by rw [← eA, z_ups, upz_n (by decide), z_ups, upz_n (by decide), z_ups, upz_n (by decide), z_ups, upz_s]
  have A4 : hA a 4 = 0 := by rw [← eA, z_ups, upz_n (by decide), z_ups, upz_n (by decide), z_ups, upz_s]
  have A5 : hA a 5 = -1 := by rw [← eA, z_ups, upz_n (by decide), z_ups, upz_s]
  have A13 : hA a 13 = -1 := by rw [← eA, z_ups, upz_s]
  have Ao : ∀ x, x ≠ a → hA x = hc x := fun x hx => by rw [← eA, z_upr hx, z_upr hx, z_upr hx, z_upr hx, z_upr hx]
  obtain ⟨q, c0, c1, c2, c3, c4, c5, c6, c7, c8, c9⟩ := pclear_at (l := l) (r := am_up r a 7 (some tp)) (h := hA) RL
  obtain ⟨qm, m0, m1, m2⟩ := blank_at (m := m) (hm := hm) hs
  rw [c0, Option.bind_some, m0, Option.bind_some]
  generalize eI : am_up (am_up (am_up q (a + 14) 3 (0 : Int32)) (a + 16) 3 (0 : Int32)) (a + 18) 3 (0 : Int32) = hI
  generalize eJ : am_up (am_up (am_up qm m 21 (-1 : Int32)) m 10 (0 : Int32)) m 17 (0 : Int32) = hJ
  have Io : ∀ x, x ≠ a + 14 → x ≠ a + 16 → x ≠ a + 18 → hI x = q x := fun x h1 h2 h3 => by rw [← eI, z_upr h3, z_upr h2, z_upr h1]
  have I14 : hI (a + 14) 3 = 0 := by rw [← eI, z_upr (by omega), z_upr (by omega), z_ups, upz_s]
  have I16 : hI (a + 16) 3 = 0 := by rw [← eI, z_upr (by omega), z_ups, upz_s]
  have I18 : hI (a + 18) 3 = 0 := by rw [← eI, z_ups, upz_s]
  have Ia : hI a = hA a := by rw [Io a (by omega) (by omega) (by omega), c9 a (by omega)]
  have Iy : ∀ x, x = a + 14 ∨ x = a + 16 ∨ x = a + 18 → ∀ y, y ≠ 3 → hI x y = hc x y := by
    intro x hx y hy
    rw [← Ao x (by omega), ← c9 x (by omega), ← eI]
    simp only [z_up]
    rw [if_neg (fun z => hy z.2), if_neg (fun z => hy z.2), if_neg (fun z => hy z.2)]
  have Ic : ∀ x, x = a + 15 ∨ x = a + 17 ∨ x = a + 19 → hI x = hc x := fun x hx => by rw [Io x (by omega) (by omega) (by omega), c9 x (by omega), Ao x (by omega)]
  have HdI : hdR l hI a := by
    obtain ⟨h1, h2, h3, h4, h5, h6⟩ := Hd
    have k8 : ∀ y, y ≠ 3 → hI (a + 8) y = hc (a + 8) y := fun y hy => by rw [Io _ (by omega) (by omega) (by omega), (c8 y hy).1, Ao _ (by omega)]
    have k10 : ∀ y, y ≠ 3 → hI (a + 10) y = hc (a + 10) y := fun y hy => by rw [Io _ (by omega) (by omega) (by omega), (c8 y hy).2.1, Ao _ (by omega)]
    have k12 : ∀ y, y ≠ 3 → hI (a + 12) y = hc (a + 12) y := fun y hy => by rw [Io _ (by omega) (by omega) (by omega), (c8 y hy).2.2, Ao _ (by omega)]
    refine ⟨⟨0, rw_zero h1 (k8 0 (by decide)) (k8 1 (by decide)) ?_⟩, ⟨0, rw_zero h2 (k10 0 (by decide)) (k10 1 (by decide)) ?_⟩, ⟨0, rw_zero h3 (k12 0 (by decide)) (k12 1 (by decide)) ?_⟩, ⟨0, rw_zero h4 (Iy _ (by omega) 0 (by decide)) (Iy _ (by omega) 1 (by decide)) I14⟩, ⟨0, rw_zero h5 (Iy _ (by omega) 0 (by decide)) (Iy _ (by omega) 1 (by decide)) I16⟩, ⟨0, rw_zero h6 (Iy _ (by omega) 0 (by decide)) (Iy _ (by omega) 1 (by decide)) I18⟩⟩
    · rw [Io _ (by omega) (by omega) (by omega), c7.1]
    · rw [Io _ (by omega) (by omega) (by omega), c7.2.1]
    · rw [Io _ (by omega) (by omega) (by omega), c7.2.2]
  have Jo : ∀ x, x ≠ m → hJ x = qm x := fun x hx => by rw [← eJ, z_upr hx, z_upr hx, z_upr hx]
  have J21 : hJ m 21 = -1 := by rw [← eJ, z_ups, upz_n (by decide), z_ups, upz_n (by decide), z_ups, upz_s]
  have J10 : hJ m 10 = 0 := by rw [← eJ, z_ups, upz_n (by decide), z_ups, upz_s]
  have J17 : hJ m 17 = 0 := by rw [← eJ, z_ups, upz_s]
  have J11 : hJ m 11 = nI L := by rw [← eJ, z_ups, upz_n (by decide), z_ups, upz_n (by decide), z_ups, upz_n (by decide), m2 m (by omega), h11]
  have H : tpR l (am_up r a 7 (some tp)) hI hJ a m tp L (fun i => b255 (hc tp i)) := by
    refine ⟨by rw [z_up, if_pos ⟨rfl, rfl⟩], hl, hL, by omega, by rw [Ia, A8], J11, ?_⟩
    intro i hi
    have e1 : hI tp i = hc tp i := by rw [Io tp (by omega) (by omega) (by omega), c9 tp (by omega), Ao tp (by omega)]
    have e2 : hJ (m + 1) i = hc tp i := by rw [Jo _ (by omega), m2 _ (by omega), hb i hi]
    rw [e1, e2]
    exact ⟨(b255_at _).1, (b255_at _).1, (b255_at _).2⟩
  obtain ⟨f, e, hc1, hm1, j1, n1, n2, n3, n4, n5, n6, n7, n8, n9⟩ := next_eq (j := j) (i := 0) H (Nat.zero_le _) (by rw [Ia, A9]; rfl) (by rw [J10]; rfl)
  rw [n1, Option.bind_some, n2, Option.bind_some]
  obtain ⟨iD, iC⟩ := init_s (l := l) (a := a) (m := m) (hc := hI) (hm := hJ) hs HdI (by rw [Io _ (by omega) (by omega) (by omega), c1]) (by rw [Io _ (by omega) (by omega) (by omega), c2]) (by rw [Io _ (by omega) (by omega) (by omega), c3]) (by rw [Io _ (by omega) (by omega) (by omega), c4]) (fun i hi => by rw [Io _ (by omega) (by omega) (by omega), c5 i hi]) (fun b hb => by rw [Io (a + 1 + 4) (by omega) (by omega) (by omega), Io (a + 1 + 5) (by omega) (by omega) (by omega), Io (a + 1 + 6) (by omega) (by omega) (by omega)]; exact c6 b hb) (by rw [Io (a + 8) (by omega) (by omega) (by omega), Io (a + 10) (by omega) (by omega) (by omega), Io (a + 12) (by omega) (by omega) (by omega)]; exact c7) (by rw [Ia, A13]) ⟨I14, I16, I18⟩ (fun y hy => by rw [Jo _ (by omega), m1 y hy]) J21
  have E := lines_l (l := l) (r := am_up r a 7 (some tp)) (T := fun i => b255 (hc tp i)) (tp := tp) (hc0 := hc) (hm0 := hm) hs htp RL.2.2.2.2.2 (L + 1) f e 0 g_fu g_fu hc1 hm1 j1 (by omega) (by unfold g_fu; omega) (by unfold g_fu; omega) (Nat.zero_le _) n4 n5 (.inl ⟨by rw [n6 4 (by decide) (by decide) (by decide) (by decide), Ia, A4], by rw [n8 17 (by decide) (by decide) (by decide) (by decide), J17], by rw [n6 5 (by decide) (by decide) (by decide) (by decide), Ia, A5]⟩) (ctS_fr hs iC (n9 _ (by omega))) (fun _ => drS_fr hs iD n7 n9 (n6 13 (by decide) (by decide) (by decide) (by decide)) (n8 21 (by decide) (by decide) (by decide) (by decide))) (hd_fr HdI (fun x h1 h2 => n7 x (by omega))) (fun x hx => by rw [n7 x (by omega), Io x (by omega) (by omega) (by omega), c9 x (by omega), Ao x (by omega)]) (fun x h1 h2 h3 => by rw [n9 x h1, Jo x h1, m2 x h2])
  exact end_eq hs (LE_gz E) hL
end READT
