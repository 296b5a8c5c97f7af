/-! which comer could be spared, which one fares worst -/
section TRIAL
variable {l : List (Nat × Nat)} {r : am_R} {h h' hc hm : am_F} {d m k p b t s w lim a : Nat} {n : Nat → Nat} {f g g' : Nat → Int32} {x x1 x2 x3 x4 y u v : Int32}
def rowE (g g' : Nat → Int32) : Prop := ∀ i, i < 195 → g' i = g i
theorem shiftM : ∀ (c i fu : Nat) (h : am_F), i + c = 189 → c < fu → Md_without_l8 m x1 fu (nI i) h = some (fun x y => if x = m + 12 ∧ i ≤ y ∧ y < 189 then h (m + 12) (y + 6) else h x y) := by
  intro c
  induction c with
  | zero =>
    intro i fu h hi hfu
    obtain ⟨fu, rfl⟩ : ∃ q, fu = q + 1 := ⟨fu - 1, by omega⟩
    unfold Md_without_l8
    rw [show (189 : Int32) = nI 189 from rfl, if_pos (nI_le (by omega) (by omega))]
    congr 1
    funext x y
    rw [if_neg (by omega)]
  | succ c ih =>
    intro i fu h hi hfu
    obtain ⟨fu, rfl⟩ : ∃ q, fu = q + 1 := ⟨fu - 1, by omega⟩
    unfold Md_without_l8
    rw [show (189 : Int32) = nI 189 from rfl, show (6 : Int32) = nI 6 from rfl, if_neg (nI_ge (by omega) (by omega)), nI_add, z_ix (by omega) (by decide), Option.bind_some, z_ix (by omega) (by decide), Option.bind_some, nI_1, ih (i + 1) fu _ (by omega) (by omega)]
    congr 1
    funext x y
    simp only [z_up]
    by_cases c1 : x = m + 12 ∧ i + 1 ≤ y ∧ y < 189
    · rw [if_pos c1, if_pos (show x = m + 12 ∧ i ≤ y ∧ y < 189 by omega), if_neg (by omega)]
    · rw [if_neg c1]
      by_cases c2 : x = m + 12 ∧ y = i
      · rw [if_pos c2, if_pos (by omega), c2.2]
      · rw [if_neg c2, if_neg (by omega)]
theorem wo_eq (L : wL l m) (SH : scH l hc) (H : pkI l hc p g) (V : pkV g) (hp : p + 12 < 66) (eg : rowE g (hm (m + 12))) (hk : k < nV (g 6)) (HD : ∀ h2 : am_F, h2 (m + 5) = hm (m + 5) → h2 (m + 6) = hm (m + 6) → ∃ h3, Md_hand m x1 h2 = some (1, h3) ∧ rowE g (h3 (m + 12)) ∧ ∀ x, x ≠ m + 12 → h3 x = h2 x) : ∃ q1 q2 hc' hm' N, Pk_copyFrom l r 87 p hc = some q1 ∧ Rw_remove l r 98 (nI k) q1 = some q2 ∧ Tr_harmNow l r 76 q2 = some (nI N, hc') ∧ N ≤ 324 ∧ Md_without m x1 (nI k) hm = some (nI N, hm') ∧ rowE g (hm' (m + 12)) ∧ (∀ x, x < 77 ∨ 100 ≤ x → hc' x = hc x) ∧ scH l hc' ∧ scM hm hm' m := by
  have h6 := zN_V (pv_nc V) (by decide)
  obtain ⟨q1, c1, K1, S1, f1⟩ := cp87 (r := r) (q := 0) L SH H V hp
  have R1 := K1.2.2.2.2.2.2.2
  have er := Rw_remove_at (r := r) (a := 98) R1 hk
  have es := shiftM (m := m) (x1 := x1) (189 - (111 + 6 * k)) (111 + 6 * k) g_fu hm (by omega) (by unfold g_fu; omega)
  generalize hz : (fun x y => if x = m + 12 ∧ 111 + 6 * k ≤ y ∧ y < 189 then hm (m + 12) (y + 6) else hm x y) = z1 at es
  have z16 : z1 (m + 12) 6 = nI (nV (g 6)) := by
    rw [← hz]
    simp only [true_and]
    rw [if_neg (by omega), eg 6 (by decide)]
    exact h6.1
  have zs : z1 (m + 12) 6 - 1 = nI (nV (g 6) - 1) := by rw [z16, show (1 : Int32) = nI 1 from rfl, pk_sub (by omega)]
  have zx : ∀ x, x ≠ m + 12 → z1 x = hm x := by
    intro x hx
    rw [← hz]
    funext y
    exact if_neg (fun e => hx e.1)
  generalize hG : (am_up z1 (m + 12) 6 (nI (nV (g 6) - 1))) = z2
  have z2x : ∀ x, x ≠ m + 12 → z2 x = hm x := fun x hx => by rw [← hG, z_upr hx, zx x hx]
  have z26 : z2 (m + 12) 6 = nI (nV (g 6) - 1) := by rw [← hG, z_ups, upz_s]
  have z2r : ∀ y, y ≠ 6 → y < 189 → z2 (m + 12) y = if 111 + 6 * k ≤ y then g (y + 6) else g y := by
    intro y hy hy2
    rw [← hG, z_ups, upz_n hy, ← hz]
    simp only [true_and]
    by_cases c : 111 + 6 * k ≤ y
    · rw [if_pos ⟨c, hy2⟩, if_pos c, eg _ (by omega)]
    · rw [if_neg (fun e => c e.1), if_neg c, eg _ (by omega)]
  have n6 : nV (z2 (m + 12) 6) = nV (g 6) - 1 := by rw [z26, nV_nI (by omega)]
  have qx : ∀ x, x ≠ 98 → x ≠ 99 → (rwD q1 98 6 (nV (g 6)) k) x = q1 x := by
    intro x h1 h2
    funext y
    unfold rwD
    rw [if_neg (by omega), if_neg (by omega)]
  have R2 : rwI l (rwD q1 98 6 (nV (g 6)) k) (87 + 11) 6 14 (nV (z2 (m + 12) 6)) (fun i => z2 (m + 12) (111 + i)) := by
    rw [n6]
    obtain ⟨t0, t1, t3, t4, t5, t6, t7, t8⟩ := R1
    refine ⟨?_, ?_, ?_, by omega, t5, t6, t7, fun i hi => ?_⟩
    · show rwD q1 98 6 (nV (g 6)) k 98 0 = _
      unfold rwD; rw [if_neg (by omega), if_neg (by omega)]; exact t0
    · show rwD q1 98 6 (nV (g 6)) k 98 1 = _
      unfold rwD; rw [if_neg (by omega), if_neg (by omega)]; exact t1
    · show rwD q1 98 6 (nV (g 6)) k 98 3 = _
      unfold rwD; rw [if_neg (by omega), if_pos ⟨rfl, rfl⟩]
    · show rwD q1 98 6 (nV (g 6)) k 99 i = z2 (m + 12) (111 + i)
      rw [z2r _ (by omega) (by omega)]
      unfold rwD
      by_cases c : 6 * k ≤ i
      · rw [if_pos ⟨rfl, c, hi⟩, if_pos (by omega)]
        have := t8 (i + 6) (by omega)
        rw [show 111 + i + 6 = 111 + (i + 6) by omega]
        exact this
      · rw [if_neg (fun e => c e.2.1), if_neg (by omega), if_neg (by omega)]
        exact t8 i (by omega)
  have eo : ∀ i, i < 111 → i ≠ 6 → z2 (m + 12) i = g i := fun i hi h6 => by rw [z2r i h6 (by omega), if_neg (by omega)]
  have K2 : pkI l (rwD q1 98 6 (nV (g 6)) k) 87 (z2 (m + 12)) := pkI_com K1 V eo (fun x _ _ => qx x (by omega) (by omega)) R2
  have V2 : pkV (z2 (m + 12)) := by
    refine pkV_com V eo ⟨nV (g 6) - 1, by omega, z26⟩ ?_
    rw [n6]
    intro j hj
    rw [z2r _ (by omega) (by omega), z2r _ (by omega) (by omega), z2r _ (by omega) (by omega), z2r _ (by omega) (by omega), z2r _ (by omega) (by omega), z2r _ (by omega) (by omega)]
    by_cases c : k ≤ j
    · have := pv_comer V (j + 1) (by omega)
      rw [if_pos (by omega), if_pos (by omega), if_pos (by omega), if_pos (by omega), if_pos (by omega), if_pos (by omega), show 111 + 6 * j + 6 = 111 + 6 * (j + 1) by omega, show 111 + (6 * j + 1) + 6 = 111 + (6 * (j + 1) + 1) by omega, show 111 + (6 * j + 2) + 6 = 111 + (6 * (j + 1) + 2) by omega, show 111 + (6 * j + 3) + 6 = 111 + (6 * (j + 1) + 3) by omega, show 111 + (6 * j + 4) + 6 = 111 + (6 * (j + 1) + 4) by omega, show 111 + (6 * j + 5) + 6 = 111 + (6 * (j + 1) + 5) by omega]
      exact this
    · rw [if_neg (by omega), if_neg (by omega), if_neg (by omega), if_neg (by omega), if_neg (by omega), if_neg (by omega)]
      exact pv_comer V j (by omega)
  have S2 : scH l (rwD q1 98 6 (nV (g 6)) k) := ⟨rwH_fr S1.1 (qx _ (by decide) (by decide)), rwH_fr S1.2.1 (qx _ (by decide) (by decide)), pkH_of K2⟩
  obtain ⟨hc1, hm1, N, a1, a2, a3, R, a4, a5, a6⟩ := harm_eq (r := r) L S2 K2 V2 (hm := z2) rfl
  obtain ⟨h3, d1, d2, d3⟩ := HD hm1 (by rw [a5.2 _ (by omega), z2x _ (by omega)]) (by rw [a5.2 _ (by omega), z2x _ (by omega)])
  refine ⟨q1, _, hc1, h3, N, c1, er, a1, a2, ?_, d2, ?_, a6, ?_⟩
  · unfold Md_without
    have ei : (111 : Int32) + 6 * nI k = nI (111 + 6 * k) := by rw [show (111 : Int32) = nI 111 from rfl, show (6 : Int32) = nI 6 from rfl, pk_mul, nI_add]
    rw [ei, es, Option.bind_some, zs, hG, a3, Option.bind_some]
    simp only
    rw [d1]
    rfl
  · intro x hx
    rw [a4 x (by omega), qx x (by omega) (by omega), f1 x (by omega)]
  · intro x hx
    rw [d3 x (by omega), a5.2 x (by omega), z2x x (by omega)]
theorem spare_l (L : wL l m) (V : pkV g) (hp : p + 12 < 66) : ∀ (c k f1 f2 : Nat) (hc hm : am_F), k + c = nV (g 6) → 0 < k → c < f1 → c < f2 → pkI l hc p g → scH l hc → rowE g (hm (m + 12)) → (∀ h2 : am_F, h2 (m + 5) = hm (m + 5) → h2 (m + 6) = hm (m + 6) → ∃ h3, Md_hand m x1 h2 = some (1, h3) ∧ rowE g (h3 (m + 12)) ∧ ∀ x, x ≠ m + 12 → h3 x = h2 x) → ∃ hc' hm', Tr_leaveOneOut_l2 l r 76 p f1 (nI k) hc = some hc' ∧ Md_spare_l55 m x1 x2 f2 (hc 76 0) (hc 76 1) (nI k) hm = some (hc' 76 0, hc' 76 1, hm') ∧ frT hc hc' ∧ scH l hc' ∧ scM hm hm' m := by
  have h6 := zN_V (pv_nc V) (by decide)
  intro c
  induction c with
  | zero =>
    intro k f1 f2 hc hm hk hk0 hf1 hf2 H SH eg HD
    obtain ⟨f1, rfl⟩ : ∃ q, f1 = q + 1 := ⟨f1 - 1, by omega⟩
    obtain ⟨f2, rfl⟩ : ∃ q, f2 = q + 1 := ⟨f2 - 1, by omega⟩
    have em6 : hm (m + 12) 6 = nI (nV (g 6)) := by rw [eg 6 (by decide)]; exact h6.1
    unfold Tr_leaveOneOut_l2 Md_spare_l55
    rw [H.2.2.2.2.2.2.2.2.2.1, em6, if_pos (nI_le (by omega) (by omega)), if_pos (nI_le (by omega) (by omega))]
    exact ⟨hc, hm, rfl, rfl, fun _ _ => rfl, SH, scM_id⟩
  | succ c ih =>
    intro k f1 f2 hc hm hk hk0 hf1 hf2 H SH eg HD
    obtain ⟨f1, rfl⟩ : ∃ q, f1 = q + 1 := ⟨f1 - 1, by omega⟩
    obtain ⟨f2, rfl⟩ : ∃ q, f2 = q + 1 := ⟨f2 - 1, by omega⟩
    have em6 : hm (m + 12) 6 = nI (nV (g 6)) := by rw [eg 6 (by decide)]; exact h6.1
    obtain ⟨q1, q2, hc1, hm1, N, d1, d2, a1, a2, a3, a4, a5, a6, a7⟩ := wo_eq (r := r) (k := k) L SH H V hp eg (by omega) HD
    obtain ⟨h2, b1, b2, b3, b4⟩ := less_up hc1 (nI k) (nI N)
    have e76 : hc1 76 = hc 76 := a5 76 (by omega)
    obtain ⟨hc', hm', k1, k2, k4, k5, k6⟩ := ih (k + 1) f1 f2 h2 hm1 (by omega) (by omega) (by omega) (by omega) (pkI_fr H (fun x _ _ => by rw [b4 x (by omega), a5 x (by omega)])) (scH_76 a6 b4) a4 (fun h2 e1 e2 => HD h2 (by rw [e1, a7 _ (by omega)]) (by rw [e2, a7 _ (by omega)]))
    refine ⟨hc', hm', ?_, ?_, ?_, k5, scM_tr a7 k6⟩
    · unfold Tr_leaveOneOut_l2
      rw [H.2.2.2.2.2.2.2.2.2.1, if_neg (nI_ge (by omega) (by omega))]
      simp only [Nat.reduceAdd]
      rw [d1, Option.bind_some, d2, Option.bind_some, a1, Option.bind_some, if_neg (fun e => by have := (z_eq0 (show k < 2 ^ 31 by omega)).1 e; omega)]
      simp only
      rw [b1, Option.bind_some, Option.bind_some, nI_1]
      exact k1
    · unfold Md_spare_l55
      rw [em6, if_neg (nI_ge (by omega) (by omega)), a3, Option.bind_some]
      simp only
      rw [b2, b3, e76] at k2
      rw [nI_1]
      by_cases cc : hc 76 1 ≤ nI N
      · rw [if_pos cc] at k2 ⊢
        exact k2
      · rw [if_neg cc] at k2 ⊢
        exact k2
    · intro x hx
      rw [k4 x hx, b4 x (by omega), a5 x (by omega)]
theorem worst_l {hm' : am_F} (V : pkV g) (R : dyR l hc 77 hm' m g 47 18 18 (fun k => k < nV (g 6))) (eg6 : hm' (m + 12) 6 = nI (nV (g 6))) : ∀ (c k f1 f2 j : Nat) (h : am_F), k + c = nV (g 6) → j < nV (g 6) → c < f1 → c < f2 → (∀ x, x ≠ 76 → h x = hc x) → h (p + 11) 3 = nI (nV (g 6)) → p + 12 < 66 → h 76 0 = nI j → h 76 1 = hm' (m + 15) j + hm' (m + 16) j → ∃ h' j', Tr_findWorst_l47 l r 76 p f1 (nI k) h = some h' ∧ Md_spare_l124 m x2 hm' f2 (nI j) (nI k) = some (nI j') ∧ j' < nV (g 6) ∧ h' 76 0 = nI j' ∧ h' 76 1 = hm' (m + 15) j' + hm' (m + 16) j' ∧ ∀ x, x ≠ 76 → h' x = hc x := by
  have h6 := zN_V (pv_nc V) (by decide)
  intro c
  induction c with
  | zero =>
    intro k f1 f2 j h hk hj hf1 hf2 hx hs hp e0 e1
    obtain ⟨f1, rfl⟩ : ∃ q, f1 = q + 1 := ⟨f1 - 1, by omega⟩
    obtain ⟨f2, rfl⟩ : ∃ q, f2 = q + 1 := ⟨f2 - 1, by omega⟩
    unfold Tr_findWorst_l47 Md_spare_l124
    rw [hs, eg6, if_pos (nI_le (by omega) (by omega)), if_pos (nI_le (by omega) (by omega))]
    exact ⟨h, j, rfl, rfl, hj, e0, e1, hx⟩
  | succ c ih =>
    intro k f1 f2 j h hk hj hf1 hf2 hx hs hp e0 e1
    obtain ⟨f1, rfl⟩ : ∃ q, f1 = q + 1 := ⟨f1 - 1, by omega⟩
    obtain ⟨f2, rfl⟩ : ∃ q, f2 = q + 1 := ⟨f2 - 1, by omega⟩
    have hk6 : k < nV (g 6) := by omega
    have Rr := rwI_fr (h' := h) R.2.2.2.1 (hx 78 (by decide)) (hx 79 (by decide))
    have cc := (R.2.2.2.2 k (by omega) hk6).1
    have a2 := Rw_get_at (r := r) (c := 2) Rr hk6 (by decide)
    have a3 := Rw_get_at (r := r) (c := 3) Rr hk6 (by decide)
    rw [show (77 + 2 : Nat) = 79 from rfl] at cc
    rw [show hc (77 + 2) (6 * k + 2) = hm' (m + 15) k from cc 2 (by decide)] at a2
    rw [show hc (77 + 2) (6 * k + 3) = hm' (m + 16) k from cc 3 (by decide)] at a3
    obtain ⟨h2, b1, b2, b3, b4⟩ := more_up h (nI k) (hm' (m + 15) k + hm' (m + 16) k)
    rw [e1] at b2 b3
    rw [e0] at b2
    have zk : g_ix (nI k) 14 = some k := z_ix (by omega) (by decide)
    have zj : g_ix (nI j) 14 = some j := z_ix (by omega) (by decide)
    have hx2 : ∀ x, x ≠ 76 → h2 x = hc x := fun x e => by rw [b4 x e, hx x e]
    have cl : Tr_findWorst_l47 l r 76 p (f1 + 1) (nI k) h = Tr_findWorst_l47 l r 76 p f1 (nI (k + 1)) h2 := by
      conv => lhs; unfold Tr_findWorst_l47
      rw [hs, if_neg (nI_ge hk6 (by omega))]
      simp only [Nat.reduceAdd]
      rw [show Rw_get l r 78 (nI k) 2 h = some (hm' (m + 15) k) from a2, Option.bind_some, show Rw_get l r 78 (nI k) 3 h = some (hm' (m + 16) k) from a3, Option.bind_some, b1, Option.bind_some, nI_1]
    unfold Md_spare_l124
    rw [cl, eg6, if_neg (nI_ge hk6 (by omega))]
    simp only [zk, zj, Option.bind_some, nI_1]
    by_cases cd : hm' (m + 15) k + hm' (m + 16) k ≤ hm' (m + 15) j + hm' (m + 16) j
    · rw [if_pos cd] at b2
      simp only [if_pos cd, Option.bind_some]
      refine ih (k + 1) f1 f2 j h2 (by omega) hj (by omega) (by omega) hx2 (by rw [b4 _ (by omega)]; exact hs) hp b2 ?_
      rw [b3]
      unfold Md_greater
      by_cases ce : hm' (m + 15) j + hm' (m + 16) j ≤ hm' (m + 15) k + hm' (m + 16) k
      · rw [if_pos ce]; exact Int32.le_antisymm cd ce
      · rw [if_neg ce]
    · rw [if_neg cd] at b2
      simp only [if_neg cd, Option.bind_some]
      refine ih (k + 1) f1 f2 k h2 (by omega) hk6 (by omega) (by omega) hx2 (by rw [b4 _ (by omega)]; exact hs) hp b2 ?_
      rw [b3]
      unfold Md_greater
      rw [if_pos (Int32.le_of_lt (Int32.not_le.1 cd))]
end TRIAL
