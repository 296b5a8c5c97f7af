/-! all lines of a text -/
/-- what reading the lines comes to, for both -/
def LE (l : List (Nat × Nat)) (r : am_R) (a m tp L s : Nat) (T : Nat → Nat) (hc0 hm0 : am_F) (Cx : Option am_F) (Mx : Option (Int32 × am_F × am_J)) : Prop :=
  (∃ f' hc' hm' j', Cx = some hc' ∧ Mx = some (0, hm', j') ∧ f' ≤ L ∧ hc' a 4 = 1 ∧ hc' a 5 = nI f' ∧ hm' m 16 = nI f' ∧ rdF hc0 hc' a ∧ mdF hm0 hm' m ∧ hdR l hc' a) ∨
  (∃ hc' hm' j', Cx = some hc' ∧ Mx = some (1, hm', j') ∧ hc' a 8 = nI L ∧ hm' m 12 = nI L ∧ ftR hc' hm' a m (L + 1) ∧ ctS m s hm' ∧ (hc' a 4 = 0 → drS l a m s hc' hm') ∧ rdF hc0 hc' a ∧ mdF hm0 hm' m ∧ hdR l hc' a)
section LINES
variable {l : List (Nat × Nat)} {r : am_R} {hc hm hc0 hm0 : am_F} {a m tp L f e s : Nat} {T : Nat → Nat} {j : am_J}
theorem l73_out {fu q : Nat} (h : hc a 4 = 1) : Rd_readText_l73 l r a (nI s) (fu + 1) (nI q) hc = some hc := by
  unfold Rd_readText_l73
  rw [if_pos h]
  split
  · rfl
  · split <;> rfl
theorem lines_l (hs : s < 4) (htp : tp < a) (hl6 : g_ln l (a + 20) = 6) : ∀ (c f e q fu fu' : Nat) (hc hm : am_F) (j : am_J), L - f < c → c < fu → c < fu' → q ≤ f → tpR l r hc hm a m tp L T → tkR hc hm j a m L T f e → ftR hc hm a m f → ctS m s hm → (hc a 4 = 0 → drS l a m s hc hm) → hdR l hc a → rdF hc0 hc a → mdF hm0 hm m → LE l r a m tp L s T hc0 hm0 (Rd_readText_l73 l r a (nI s) fu (nI q) hc) (Md_lines_l2 m (nI s) fu' 1 hm j) := by
  intro c
  induction c with
  | zero => intro f e q fu fu' hc hm j h; omega
  | succ c ih =>
    intro f e q fu fu' hc hm j hf hfu hfu' hq H Kt F hC hD Hd R M
    obtain ⟨fu, rfl⟩ : ∃ q, fu = q + 1 := ⟨fu - 1, by omega⟩
    obtain ⟨fu', rfl⟩ : ∃ q, fu' = q + 1 := ⟨fu' - 1, by omega⟩
    have hL := H.2.2.1
    by_cases c13 : hm m 13 = 0
    · have ⟨c10, fL⟩ : hc a 10 = 0 ∧ f = L := by
        rcases Kt.2.2.2.2.2.2 with ⟨q1, q2, q3⟩ | ⟨q1, q2, _⟩ | ⟨q1, q2, _⟩ | ⟨q1, q2, _⟩ | ⟨q1, q2, _⟩
        · exact ⟨q1, q3⟩
        · rw [c13] at q2; exact absurd q2 (by decide)
        · rw [c13] at q2; exact absurd q2 (by decide)
        · rw [c13] at q2; exact absurd q2 (by decide)
        · rw [c13] at q2; exact absurd q2 (by decide)
      have e1 : Rd_readText_l73 l r a (nI s) (fu + 1) (nI q) hc = some hc := by
        unfold Rd_readText_l73
        rw [if_pos c10]
        split <;> rfl
      have e2 : Md_lines_l2 m (nI s) (fu' + 1) 1 hm j = some (1, hm, j) := by
        unfold Md_lines_l2
        rw [if_neg (by decide), if_pos c13]
      rw [e1, e2]
      exact .inr ⟨hc, hm, j, rfl, rfl, H.2.2.2.2.1, by rw [Kt.2.2.2.1, fL], ft_le F (by omega), hC, hD, R, M, Hd⟩
    · have fe := tk_lt Kt c13
      have eL := Kt.2.2.2.2.2.1
      have c10 : ¬ hc a 10 = 0 := by
        rcases Kt.2.2.2.2.2.2 with ⟨q1, q2, q3⟩ | ⟨q1, q2, _⟩ | ⟨q1, q2, _⟩ | ⟨q1, q2, _⟩ | ⟨q1, q2, _⟩
        · exact absurd q2 c13
        · rw [q1]; decide
        · rw [q1]; decide
        · rw [q1]; decide
        · rw [q1]; decide
      have c4 : ¬ hc a 4 = 1 := by
        rcases F with ⟨q1, _⟩ | ⟨F', P, q1, _, q2, _⟩
        · rw [q1]; decide
        · rw [q2]
          rcases q1 with rfl | rfl <;> decide
      have em : ∀ x, x ≠ m → (am_up hm m 22 1) x = hm x := fun x hx => z_upr hx
      have ey : ∀ y, y ≠ 22 → (am_up hm m 22 1) m y = hm m y := fun y hy => by rw [z_ups, upz_n hy]
      have H1 : tpR l r hc (am_up hm m 22 1) a m tp L T := tp_fr H rfl rfl (em _ (by omega)) (ey 11 (by decide))
      have K1 : tkR hc (am_up hm m 22 1) j a m L T f e := by
        unfold tkR
        rw [ey 10 (by decide), ey 12 (by decide), ey 13 (by decide), ey 14 (by decide)]
        exact Kt
      have F1 : ftR hc (am_up hm m 22 1) a m f := ft_fr F rfl rfl (ey 17 (by decide)) (ey 18 (by decide))
      have LL := line_s (s := s) hs htp hl6 H1 K1 (by rw [ey 13 (by decide)]; exact c13) F1 (by rw [z_ups, upz_s]) (ctS_fr hs hC (em _ (by omega))) (fun h => drS_fr hs (hD h) (fun _ _ => rfl) em rfl (ey 21 (by decide))) Hd
      have ew : (if (am_up hm m 22 1) m 13 = 2 then some (j m 15) else some 0 : Option Int64) = some (wdX (am_up hm m 22 1) j m) := by
        unfold wdX
        split <;> rfl
      have eC : Rd_readText_l73 l r a (nI s) (fu + 1) (nI q) hc = (Rd_readLine l r a (nI s) hc).bind fun q7 => (Rd_next l r a q7).bind fun q8 => Rd_readText_l73 l r a (nI s) fu (nI (q + 1)) q8 := by
        rw [Rd_readText_l73]
        rw [H.2.2.2.2.1, if_neg (nI_ge (by omega) (by omega)), if_neg c10, if_neg c4, nI_1]
      have eM : Md_lines_l2 m (nI s) (fu' + 1) 1 hm j = (chk m (Md_lineOf m (nI s) (wdX (am_up hm m 22 1) j m) (nI f) (am_up hm m 22 1) j)).bind fun q => (if q.1.1 = 0 then some (q.1.2, q.2) else (Md_token m q.1.2 q.2).bind fun q14 => some (q14.1, q14.2) : Option (am_F × am_J)).bind fun q15 => Md_lines_l2 m (nI s) fu' q.1.1 q15.1 q15.2 := by
        rw [Md_lines_l2]
        rw [if_neg (by decide), if_neg c13, ew, Option.bind_some, Kt.2.2.2.1]
        exact chk_bind (m := m) (M := Md_lineOf m (nI s) (wdX (am_up hm m 22 1) j m) (nI f) (am_up hm m 22 1) j) (G := fun q11 j2 => (if q11.1 = 0 then some (q11.2, j2) else (Md_token m q11.2 j2).bind fun q14 => some (q14.1, q14.2) : Option (am_F × am_J)).bind fun q15 => Md_lines_l2 m (nI s) fu' q11.1 q15.1 q15.2)
      rcases LL.2 with ⟨f', hc', hm', j', x1, x2, ⟨b1, b2, b3, b4, b5, e', b6, b7, b8⟩, x4, x5, x6⟩ | ⟨f', e', hc', hm', j', x1, x2, x3, x4, x5, x6, x7, x8, x9, x10, x11, x12⟩
      · obtain ⟨f2, e2, hc2, hm2, j2, n1, n2, n3, n4, n5, n6, n7, n8, n9⟩ := next_eq (j := j') b5 b6 b7 b8
        obtain ⟨fu, rfl⟩ : ∃ q, fu = q + 1 := ⟨fu - 1, by omega⟩
        obtain ⟨fu', rfl⟩ : ∃ q, fu' = q + 1 := ⟨fu' - 1, by omega⟩
        have h4 : hc2 a 4 = 1 := by rw [n6 4 (by decide) (by decide) (by decide) (by decide), b2]
        rw [eC, eM, x1, x2, Option.bind_some, n1, Option.bind_some, l73_out h4, Option.bind_some, if_pos rfl, Option.bind_some]
        have e2 : Md_lines_l2 m (nI s) (fu' + 1) 0 hm' j' = some (0, hm', j') := by
          unfold Md_lines_l2
          rw [if_pos rfl]
        refine .inl ⟨f', hc2, hm', j', rfl, e2, b1, h4, ?_, b4, ?_, ?_, ?_⟩
        · rw [n6 5 (by decide) (by decide) (by decide) (by decide), b3]
        · intro x hx
          rw [n7 x (by omega), x4 x hx, R x hx]
        · intro x h1 h2 h3
          rw [x5 x h1 h2 h3, em x h1, M x h1 h2 h3]
        · exact hd_fr x6 (fun x h1 h2 => n7 x (by omega))
      · obtain ⟨f2, e2, hc2, hm2, j2, n1, n2, n3, n4, n5, n6, n7, n8, n9⟩ := next_eq (j := j') x4 x5.2.2.2.2.2.1 x5.1 x5.2.1
        have fe' := tk_lt x5 (by rw [x6]; decide)
        rw [eC, eM, x1, x2, Option.bind_some, n1, Option.bind_some, Option.bind_some, if_neg (show ¬ (1 : Int32) = 0 by decide), n2, Option.bind_some, Option.bind_some]
        refine ih f2 e2 (q + 1) fu fu' hc2 hm2 j2 (by omega) (by omega) (by omega) (by omega) n4 n5 ?_ (ctS_fr hs x8 (n9 _ (by omega))) ?_ (hd_fr x12 (fun x h1 h2 => n7 x (by omega))) ?_ ?_
        · exact ft_le (ft_fr x7 (n6 4 (by decide) (by decide) (by decide) (by decide)) (n6 5 (by decide) (by decide) (by decide) (by decide)) (n8 17 (by decide) (by decide) (by decide) (by decide)) (n8 18 (by decide) (by decide) (by decide) (by decide))) (by omega)
        · intro h
          rw [n6 4 (by decide) (by decide) (by decide) (by decide)] at h
          exact drS_fr hs (x9 h) n7 n9 (n6 13 (by decide) (by decide) (by decide) (by decide)) (n8 21 (by decide) (by decide) (by decide) (by decide))
        · intro x hx
          rw [n7 x (by omega), x10 x hx, R x hx]
        · intro x h1 h2 h3
          rw [n9 x h1, x11 x h1 h2 h3, em x h1, M x h1 h2 h3]
end LINES
