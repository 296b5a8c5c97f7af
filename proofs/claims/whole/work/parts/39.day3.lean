/-! a whole day: the reference's hours, and both together -/
theorem catR_sorted (E : List (Nat × Nat)) : ∀ n a, (catR E a n).Pairwise (fun x y => x.2 ≤ y.2) := by
  intro n
  induction n with
  | zero => intro a; exact List.Pairwise.nil
  | succ n ih =>
    intro a
    show (E.filter _ ++ catR E (a + 1) n).Pairwise _
    rw [List.pairwise_append]
    refine ⟨?_, ih _, ?_⟩
    · apply List.Pairwise.imp_of_mem (R := fun _ _ => True)
      · intro x y hx hy _
        have h1 := (List.mem_filter.1 hx).2
        have h2 := (List.mem_filter.1 hy).2
        simp only [beq_iff_eq] at h1 h2
        omega
      · exact List.pairwise_of_forall (fun _ _ => trivial)
    · intro x hx y hy
      have h1 := (List.mem_filter.1 hx).2
      have h2 := (catR_mem _ _).1 hy
      simp only [beq_iff_eq] at h1
      omega
section DAY
variable {l : List (Nat × Nat)} {r : am_R} {hc hm : am_F} {a d m p k b t c st hg bl A cur cF cH : Nat} {g f : Nat → Int32} {x y : Int32} {P : Nat → Prop}
theorem modP (V : pkV g) (ht : t < 48) : ∀ (n k fu : Nat) (h h' : am_F), k + n = nV (g 5) → n < fu → h (m + 12) = g → chM g m (((List.range' k n).map fun k => (k, hoP g k)).filter (fun e => e.2 == t)) h h' → Md_goDay_l72 m (nI t) fu (nI k) h = some h' := by
  have hn := zN_V (pv_np V) (by decide)
  have h3 := zN_V (pv_nb V) (by decide)
  intro n
  induction n with
  | zero =>
    intro k fu h h' hk hfu eg hch
    obtain ⟨fu, rfl⟩ : ∃ q, fu = q + 1 := ⟨fu - 1, by omega⟩
    unfold Md_goDay_l72
    rw [eg, hn.1, if_pos (nI_le (by omega) (by omega)), show h' = h from hch]
  | succ n ih =>
    intro k fu h h' hk hfu eg hch
    obtain ⟨fu, rfl⟩ : ∃ q, fu = q + 1 := ⟨fu - 1, by omega⟩
    have hkk : k < nV (g 5) := by omega
    obtain ⟨bb, hbb, ebb⟩ := (pv_pigeon V k hkk).1
    have htt := zN_V (pv_pigeon V k hkk).2 (by decide)
    unfold Md_goDay_l72
    simp only [z_lits, pk_mul, nI_add]
    rw [eg, hn.1, if_neg (nI_ge (by omega) (by omega)), z_ix (show 103 + 2 * k < 195 by omega) (by decide), Option.bind_some, z_ix (show 103 + 2 * k + 1 < 195 by omega) (by decide), Option.bind_some, show 103 + 2 * k + 1 = 103 + (2 * k + 1) by omega, htt.1]
    rw [List.range'_succ, List.map_cons, List.filter_cons] at hch
    by_cases c : hoP g k = t
    · rw [if_pos (by simpa using c)] at hch
      obtain ⟨h1, e1, e2, e3⟩ := hch
      unfold stM at e1
      rw [if_pos (show k < 4 by omega)] at e1
      have ep := Md_painted_at (a := m) (h := h) (b := bb) (by omega)
      rw [eg] at ep
      have es := Md_stage_at (a := m) (h := h) (x := g (56 + 4 * bb)) (t := t) (by rw [eg]; exact V) (by omega) (zP_big (pv_bench V _ (by omega)).1)
      rw [eg] at es
      simp only at e1
      rw [c] at e1
      rw [show nV (g (103 + (2 * k + 1))) = t from c, if_pos rfl, ebb, ep, Option.bind_some, es, Option.bind_some]
      rw [ebb, nV_nI (by omega)] at e1
      rw [e1, Option.bind_some, Option.bind_some]
      exact ih (k + 1) fu h1 h' (by omega) (by omega) e2 e3
    · rw [if_neg (by simpa using c)] at hch
      have c' : ¬ nV (g (103 + (2 * k + 1))) = t := c
      rw [if_neg (fun e => c' ((nI_eq (by omega) (by omega)).1 e)), Option.bind_some]
      exact ih (k + 1) fu h h' (by omega) (by omega) eg hch
theorem modC (V : pkV g) (ht : t < 48) : ∀ (n k fu : Nat) (h h' : am_F), k + n = nV (g 6) → n < fu → h (m + 12) = g → chM g m (((List.range' k n).map fun k => (4 + k, hoC g k)).filter (fun e => e.2 == t)) h h' → Md_goDay_l135 m (nI t) fu (nI k) h = some h' := by
  have hn := zN_V (pv_nc V) (by decide)
  intro n
  induction n with
  | zero =>
    intro k fu h h' hk hfu eg hch
    obtain ⟨fu, rfl⟩ : ∃ q, fu = q + 1 := ⟨fu - 1, by omega⟩
    unfold Md_goDay_l135
    rw [eg, hn.1, if_pos (nI_le (by omega) (by omega)), show h' = h from hch]
  | succ n ih =>
    intro k fu h h' hk hfu eg hch
    obtain ⟨fu, rfl⟩ : ∃ q, fu = q + 1 := ⟨fu - 1, by omega⟩
    have hkk : k < nV (g 6) := by omega
    have htt := zN_V (pv_comer V k hkk).2.1 (by decide)
    have ec := Md_comer_at (a := m) (h := h) (p := 1) (show k < 14 by omega) (by decide)
    rw [eg, htt.1] at ec
    unfold Md_goDay_l135
    rw [eg, hn.1, if_neg (nI_ge (by omega) (by omega)), show (1 : Int32) = nI 1 from rfl, ec, Option.bind_some, nI_add]
    rw [List.range'_succ, List.map_cons, List.filter_cons] at hch
    by_cases c : hoC g k = t
    · rw [if_pos (by simpa using c)] at hch
      obtain ⟨h1, e1, e2, e3⟩ := hch
      unfold stM at e1
      rw [if_neg (by simp only; omega), show (4 + k, hoC g k).1 - 4 = k by simp only; omega] at e1
      rw [show nV (g (111 + (6 * k + 1))) = t from c, if_pos rfl, e1, Option.bind_some, Option.bind_some]
      exact ih (k + 1) fu h1 h' (by omega) (by omega) e2 e3
    · rw [if_neg (by simpa using c)] at hch
      have c' : ¬ nV (g (111 + (6 * k + 1))) = t := c
      rw [if_neg (fun e => c' ((nI_eq (by omega) (by omega)).1 e)), Option.bind_some]
      exact ih (k + 1) fu h h' (by omega) (by omega) eg hch
theorem modH (V : pkV g) : ∀ (n t fu : Nat) (h h' : am_F), t + n = 48 → n < fu → h (m + 12) = g → chM g m (catR (EP g (nV (g 5)) ++ EC g (nV (g 6))) t n) h h' → Md_goDay_l64 m fu (nI t) h = some h' := by
  have hn := zN_V (pv_nc V) (by decide)
  have hn5 := zN_V (pv_np V) (by decide)
  intro n
  induction n with
  | zero =>
    intro t fu h h' ht hfu eg hch
    obtain ⟨fu, rfl⟩ : ∃ q, fu = q + 1 := ⟨fu - 1, by omega⟩
    unfold Md_goDay_l64
    rw [show (48 : Int32) = nI 48 from rfl, if_pos (nI_le (by omega) (by omega)), show h' = h from hch]
  | succ n ih =>
    intro t fu h h' ht hfu eg hch
    obtain ⟨fu, rfl⟩ : ∃ q, fu = q + 1 := ⟨fu - 1, by omega⟩
    obtain ⟨h2, c1, c2⟩ := chM_app _ _ _ _ hch
    rw [List.filter_append] at c1
    obtain ⟨h1, c3, c4⟩ := chM_app _ _ _ _ c1
    have g1 := chM_g _ _ _ eg c3
    have g2 := chM_g _ _ _ g1 c4
    unfold EP at c3
    unfold EC at c4
    rw [List.range_eq_range'] at c3 c4
    unfold Md_goDay_l64
    rw [show (48 : Int32) = nI 48 from rfl, if_neg (nI_ge (by omega) (by omega)), show (0 : Int32) = nI 0 from rfl, modP V (by omega) (nV (g 5)) 0 g_fu h h1 (by omega) (by unfold g_fu; omega) eg c3, Option.bind_some, modC V (by omega) (nV (g 6)) 0 g_fu h1 h2 (by omega) (by unfold g_fu; omega) g1 c4, Option.bind_some, nI_1]
    exact ih (t + 1) fu h2 h' (by omega) (by omega) g2 c2
def rstM (h : am_F) (m : Nat) : am_F := fun x y => if (x = m + 19 ∨ x = m + 21) ∧ y < 6 then -1 else if (x = m + 22 ∨ x = m + 23) ∧ y < 6 then 0 else h x y
theorem rst_l : ∀ (n i fu : Nat) (h : am_F), i + n = 6 → n < fu → Md_goDay_l22 m fu (nI i) h = some (fun x y => if (x = m + 19 ∨ x = m + 21) ∧ i ≤ y ∧ y < 6 then -1 else if (x = m + 22 ∨ x = m + 23) ∧ i ≤ y ∧ y < 6 then 0 else h x y) := by
  intro n
  induction n with
  | zero =>
    intro i fu h hi hfu
    obtain ⟨fu, rfl⟩ : ∃ q, fu = q + 1 := ⟨fu - 1, by omega⟩
    unfold Md_goDay_l22
    rw [show (6 : Int32) = nI 6 from rfl, if_pos (nI_le (by omega) (by omega))]
    congr 1
    funext x y
    rw [if_neg (by omega), if_neg (by omega)]
  | succ n ih =>
    intro i fu h hi hfu
    obtain ⟨fu, rfl⟩ : ∃ q, fu = q + 1 := ⟨fu - 1, by omega⟩
    unfold Md_goDay_l22
    rw [show (6 : Int32) = nI 6 from rfl, if_neg (nI_ge (by omega) (by omega))]
    simp only [z_ix (show i < 6 by omega) (show 6 < 2 ^ 31 by decide), Option.bind_some]
    rw [nI_1, ih (i + 1) fu _ (by omega) (by omega)]
    congr 1
    funext x y
    simp only [z_up]
    repeat' split
    all_goals first | rfl | (exfalso; omega)
theorem day_eq {n0 : Nat} (D : dyL l d) (Dn : rwI l hc (d + 1) 6 14 n0 f) (H : pkI l hc p g) (V : pkV g) (eg : hm (m + 12) = g) (ap : p + 12 < d ∨ d + 10 ≤ p) (e1 : hc d 1 = hm m 39) (e2 : hc d 2 = hm m 40) (hTF : ∃ T F, hm m 39 = nI T ∧ hm m 40 = nI F ∧ T ≤ F ∧ F ≤ cF) (hcF : cF < 8000) : ∃ hc' hm', Dy_goThrough l r d p hc = some hc' ∧ Md_goDay m hm = some hm' ∧ dyR l hc' d hm' m g 47 (cF + 18) 18 (fun k => k < nV (g 6)) ∧ (∀ x, x < d ∨ d + 10 ≤ x → hc' x = hc x) ∧ frM hm hm' m := by
  have hn := zN_V (pv_nc V) (by decide)
  have hn5 := zN_V (pv_np V) (by decide)
  obtain ⟨h1, c1, ⟨k0, k4, k5, k6, k1, k2⟩, c3, c4, c5⟩ := clear_at (r := r) (n := nV (g 6)) D Dn (by omega)
  have H1 : pkI l h1 p g := pkI_fr H (fun x _ _ => c5 x (by omega))
  obtain ⟨h2, b1, b2, b3, b4⟩ := lineUp_at (r := r) H1 V ap
  have H2 : pkI l h2 p g := pkI_Q H1 b4 ap
  -- the reference's start
  generalize hq : am_up (am_up (am_up (am_up hm m 35 0) m 36 0) m 37 0) m 38 0 = q
  have q12 : q (m + 12) = g := by
    rw [← hq]
    simp (disch := omega) only [z_upr]
    exact eg
  have hr := rst_l (m := m) 6 0 g_fu q (by omega) (by unfold g_fu; omega)
  generalize hz : (fun x y => if (x = m + 19 ∨ x = m + 21) ∧ 0 ≤ y ∧ y < 6 then (-1 : Int32) else if (x = m + 22 ∨ x = m + 23) ∧ 0 ≤ y ∧ y < 6 then 0 else q x y) = z at hr
  have zx : ∀ x, x ≠ m + 19 → x ≠ m + 21 → x ≠ m + 22 → x ≠ m + 23 → z x = q x := by
    intro x h1 h2 h3 h4
    rw [← hz]
    funext y
    simp only
    rw [if_neg (by omega), if_neg (by omega)]
  have z12 : z (m + 12) = g := by rw [zx _ (by omega) (by omega) (by omega) (by omega), q12]
  have qm : ∀ y, q m y = if y = 38 then 0 else if y = 37 then 0 else if y = 36 then 0 else if y = 35 then 0 else hm m y := by
    intro y
    rw [← hq]
    simp only [z_up, true_and]
  have zm : z m = q m := zx _ (by omega) (by omega) (by omega) (by omega)
  obtain ⟨T, F, eT, eF, hTF1, hTF2⟩ := hTF
  have R0 : dyR l h2 d z m g 0 cF 0 (fun _ => False) := by
    refine ⟨⟨?_, ?_, ?_, ?_, ?_, ?_⟩, ⟨T, F, 0, ?_, ?_, hTF1, hTF2, ?_, by omega⟩, ?_, rwI_hd (rwI_self c4) (b4.2 _ (by omega) (by omega) (by omega)), fun k _ hk => hk.elim⟩
    · rw [b4.1 _ (by omega), k0, zm, qm]; rfl
    · rw [b4.1 _ (by omega), k4, zm, qm]; rfl
    · rw [b4.1 _ (by omega), k5, zm, qm]; rfl
    · rw [b4.1 _ (by omega), k6, zm, qm]; rfl
    · rw [b4.1 _ (by omega), k1, zm, qm, e1]; rfl
    · rw [b4.1 _ (by omega), k2, zm, qm, e2]; rfl
    · rw [zm, qm]; exact eT
    · rw [zm, qm]; exact eF
    · rw [zm, qm]; rfl
    · intro y hy
      obtain ⟨y3, y4, y5, y6, y7⟩ := c3 y hy
      have e19 : z (m + 19) y = -1 := by rw [← hz]; exact if_pos (by omega)
      have e21 : z (m + 21) y = -1 := by rw [← hz]; exact if_pos (by omega)
      have e22 : z (m + 22) y = 0 := by rw [← hz]; exact (if_neg (by omega)).trans (if_pos (by omega))
      have e23 : z (m + 23) y = 0 := by rw [← hz]; exact (if_neg (by omega)).trans (if_pos (by omega))
      rw [b4.2 (d + 3) (by omega) (by omega) (by omega), b4.2 (d + 4) (by omega) (by omega) (by omega), b4.2 (d + 5) (by omega) (by omega) (by omega), b4.2 (d + 6) (by omega) (by omega) (by omega), b4.2 (d + 7) (by omega) (by omega) (by omega)]
      exact ⟨by rw [y3, e22], by rw [y4, e23], by rw [y5, e19], fun h => absurd e19 h, .inl ⟨e21, y7⟩⟩
  have hmem : ∀ e ∈ catR (EP g (nV (g 5)) ++ EC g (nV (g 6))) 0 48, evV g e ∧ 0 ≤ e.2 := by
    intro e he
    refine ⟨?_, Nat.zero_le _⟩
    have := ((catR_mem _ _).1 he).1
    rcases List.mem_append.1 this with h | h
    · obtain ⟨k, hk, rfl⟩ := List.mem_map.1 h
      exact .inl ⟨List.mem_range.1 hk, rfl⟩
    · obtain ⟨k, hk, rfl⟩ := List.mem_map.1 h
      exact .inr ⟨k, List.mem_range.1 hk, rfl⟩
  obtain ⟨h3, z3, s1, s2, s3, s4, s5⟩ := go_l (r := r) (Q0 := catR (EP g (nV (g 5)) ++ EC g (nV (g 6))) 0 48) V ap (by omega) _ 0 g_fu h2 z 0 cF 0 _ rfl b2 R0 H2 z12 hmem (catR_sorted _ _ _) (by rw [show List.drop 0 (catR (EP g (nV (g 5)) ++ EC g (nV (g 6))) 0 48) = catR (EP g (nV (g 5)) ++ EC g (nV (g 6))) 0 48 from rfl]; omega) (by rw [show List.drop 0 (catR (EP g (nV (g 5)) ++ EC g (nV (g 6))) 0 48) = catR (EP g (nV (g 5)) ++ EC g (nV (g 6))) 0 48 from rfl]; unfold g_fu; omega) (by omega) (Nat.zero_le _)
  rw [show List.drop 0 (catR (EP g (nV (g 5)) ++ EC g (nV (g 6))) 0 48) = catR (EP g (nV (g 5)) ++ EC g (nV (g 6))) 0 48 from rfl] at s2 s3
  have hM := modH V 48 0 g_fu z z3 (by omega) (by unfold g_fu; omega) z12 s2
  refine ⟨h3, z3, ?_, ?_, ?_, ?_, ?_⟩
  · unfold Dy_goThrough
    rw [H.2.2.2.2.2.2.2.2.2.1, c1, Option.bind_some, b1, Option.bind_some, show (0 : Int32) = nI 0 from rfl, s1, Option.bind_some]
  · unfold Md_goDay
    rw [hq, show (0 : Int32) = nI 0 from rfl, hr, Option.bind_some, hM, Option.bind_some]
  · refine dyR_mono s3 (Nat.le_refl _) (by omega) (by omega) (fun j _ hj => .inr ?_)
    refine (catR_mem _ _).2 ⟨List.mem_append.2 (.inr (List.mem_map.2 ⟨j, List.mem_range.2 hj, rfl⟩)), Nat.zero_le _, ?_⟩
    have := (zN_V (pv_comer V j hj).2.1 (by decide)).2
    simp only
    unfold hoC
    omega
  · intro x hx
    rw [s4.2 x (by omega), b4.2 x (by omega) (by omega) (by omega), c5 x (by omega)]
  · refine frM_tr ⟨?_, ?_⟩ s5
    · intro y hy
      rw [zm, qm]
      rw [if_neg (by omega), if_neg (by omega), if_neg (by omega), if_neg (by omega)]
    · intro x hx
      rw [zx _ (by omega) (by omega) (by omega) (by omega), ← hq]
      simp (disch := omega) only [z_upr]
end DAY
