/-! a comer comes: the reference -/
section DAY
variable {l : List (Nat × Nat)} {r : am_R} {h hc hm : am_F} {a d m p k b t c st hg bl A : Nat} {g f : Nat → Int32} {x y : Int32}
theorem Md_sits_at (eg : h (m + 12) = g) (hk : k < 14) (hb6 : b < 6) (hs : st < 3) : ∃ h', Md_sits m (nI k) (nI b) x (nI st) h = some h' ∧ h' m 36 = h m 36 + g (111 + (6 * k + 3)) ∧ h' m 38 = h m 38 + 1 ∧ h' m 37 = (if st = 2 then h m 37 + g (55 + 4 * b) else h m 37) ∧ (∀ y, y ≠ 36 → y ≠ 37 → y ≠ 38 → h' m y = h m y) ∧ h' (m + 15) = upz (h (m + 15)) k (h (m + 15) k + costZ (g (111 + (6 * k + 4))) st) ∧ h' (m + 22) = p3 (h (m + 22)) b st ∧ h' (m + 23) = p4 (h (m + 23)) b st ∧ h' (m + 19) = p5 (h (m + 19)) b st x ∧ h' (m + 20) = p5 (h (m + 20)) b st (nI st) ∧ h' (m + 21) = upz (h (m + 21)) b x ∧ ∀ x, x ≠ m → x ≠ m + 15 → x ≠ m + 19 → x ≠ m + 20 → x ≠ m + 21 → x ≠ m + 22 → x ≠ m + 23 → h' x = h x := by
  have e3 := Md_comer_at (a := m) (h := h) (p := 3) hk (by decide)
  rw [eg] at e3
  unfold Md_sits
  simp only [z_lits]
  rw [e3, Option.bind_some, z_ix hk (by decide), Option.bind_some]
  generalize hh1 : am_up (am_up h m 36 (h m 36 + g (111 + (6 * k + 3)))) m 38 ((am_up h m 36 (h m 36 + g (111 + (6 * k + 3)))) m 38 + nI 1) = h1
  have hd1 : h1 m = upz (upz (h m) 36 (h m 36 + g (111 + (6 * k + 3)))) 38 (h m 38 + nI 1) := by
    rw [← hh1]
    simp (disch := omega) only [z_upr, z_ups, upz_s, upz_n]
  have hx1 : ∀ x, x ≠ m → h1 x = h x := by
    intro x hx
    rw [← hh1]
    simp (disch := omega) only [z_upr]
  have e4 := Md_comer_at (a := m) (h := h1) (p := 4) hk (by decide)
  rw [hx1 _ (by omega), eg] at e4
  rw [e4, Option.bind_some, costs_at hs, Option.bind_some, Option.bind_some]
  generalize hh2 : am_up h1 (m + 15) k (h1 (m + 15) k + costZ (g (111 + (6 * k + 4))) st) = h2
  have hd2 : h2 (m + 15) = upz (h (m + 15)) k (h (m + 15) k + costZ (g (111 + (6 * k + 4))) st) := by
    rw [← hh2, z_ups, hx1 _ (by omega)]
  have hx2 : ∀ x, x ≠ m + 15 → h2 x = h1 x := by
    intro x hx
    rw [← hh2]
    simp (disch := omega) only [z_upr]
  obtain ⟨u, eu, u3, u4, u5, u6, ux⟩ := Md_print_at (m := m) (t := x) (h := h2) hb6 hs
  rw [eu, Option.bind_some]
  have um : u m = h1 m := by rw [ux _ (by omega) (by omega) (by omega) (by omega), hx2 _ (by omega)]
  have u12 : u (m + 12) = g := by rw [ux _ (by omega) (by omega) (by omega) (by omega), hx2 _ (by omega), hx1 _ (by omega), eg]
  have e5 : (if nI st = nI 2 then (g_ix (nI 55 + nI 4 * nI b) 195).bind fun k9 => some (u (m + 12) k9) else some (nI 0) : Option Int32) = some (if st = 2 then g (55 + 4 * b) else 0) := by
    by_cases c : st = 2
    · subst c
      rw [if_pos rfl, if_pos rfl, pk_mul, nI_add, z_ix (by omega) (by decide), Option.bind_some, u12]
    · rw [if_neg (fun e => c ((nI_eq (by omega) (by decide)).1 e)), if_neg c]
      rfl
  rw [e5, Option.bind_some, z_ix hb6 (by decide), Option.bind_some]
  have key : ∀ y, (am_up (am_up u m 37 (u m 37 + if st = 2 then g (55 + 4 * b) else 0)) (m + 21) b x) m y = upz (h1 m) 37 (h1 m 37 + if st = 2 then g (55 + 4 * b) else 0) y := by
    intro y
    simp (disch := omega) only [z_upr, z_ups]
    rw [um]
  refine ⟨_, rfl, ?_, ?_, ?_, ?_, ?_, ?_, ?_, ?_, ?_, ?_, ?_⟩
  · rw [key, upz_n (by omega), hd1]
    simp (disch := omega) only [upz_s, upz_n]
  · rw [key, upz_n (by omega), hd1]
    simp (disch := omega) only [upz_s, upz_n]
  · rw [key, upz_s, hd1]
    simp (disch := omega) only [upz_s, upz_n]
    by_cases c : st = 2
    · rw [if_pos c, if_pos c]
    · rw [if_neg c, if_neg c, Int32.add_zero]
  · intro y h1 h2 h3
    rw [key, upz_n h2, hd1]
    simp (disch := omega) only [upz_s, upz_n]
  · simp (disch := omega) only [z_upr]
    rw [ux _ (by omega) (by omega) (by omega) (by omega), hd2]
  · simp (disch := omega) only [z_upr]
    rw [u3, hx2 _ (by omega), hx1 _ (by omega)]
  · simp (disch := omega) only [z_upr]
    rw [u4, hx2 _ (by omega), hx1 _ (by omega)]
  · simp (disch := omega) only [z_upr]
    rw [u5, hx2 _ (by omega), hx1 _ (by omega)]
  · simp (disch := omega) only [z_upr]
    rw [u6, hx2 _ (by omega), hx1 _ (by omega)]
  · simp (disch := omega) only [z_upr, z_ups]
    rw [ux _ (by omega) (by omega) (by omega) (by omega), hx2 _ (by omega), hx1 _ (by omega)]
  · intro x q1 q2 q3 q4 q5 q6 q7
    simp (disch := omega) only [z_upr]
    rw [ux _ (by omega) (by omega) (by omega) (by omega), hx2 _ (by omega), hx1 _ (by omega)]
/-- what a comer does, by his choice: 1 is touching first -/
def actOf (c st : Nat) : Nat := if c = 1 then (if st = 0 then 2 else 1) else c
set_option maxHeartbeats 4000000 in
theorem come_M (eg : h (m + 12) = g) (V : pkV g) (hk : k < nV (g 6)) (eb : g (111 + (6 * k + 2)) = nI b) (hb : b < nV (g 3)) (et : g (111 + (6 * k + 1)) = nI t) (ht : t < 48) (hst : stX g (g (56 + 4 * b)) t = st) (h2 : hg < 2) (hl2 : bl < 2)
    (ecard : ∀ h' : am_F, h' (m + 12) = g → Md_hangs m (nI b) (nI t) h' = some (nI hg)) (ebl : ∀ h' : am_F, h' (m + 12) = g → h' m = h m → Md_believes m h' = some (nI bl))
    (hc : c = 0 ∨ c = 1 ∨ c = 3) (eA : Md_choice m (nI k) (nI b) (nI t) (nI st) h = some (nI c)) (hA : actOf c st = A) :
    ∃ h', Md_comes m (nI k) h = some h' ∧ h' m 35 = h m 35 + (costA g k A st + missA g k A st) ∧ h' m 36 = (if 2 ≤ A then h m 36 + g (111 + (6 * k + 3)) else h m 36) ∧ h' m 37 = (if 2 ≤ A ∧ st = 2 then h m 37 + g (55 + 4 * b) else h m 37) ∧ h' m 38 = (if 2 ≤ A then h m 38 + 1 else h m 38) ∧ h' m 39 = (if A ≠ 0 ∧ hg = 1 then h m 39 + (if st = 0 then 0 else 1) else h m 39) ∧ h' m 40 = (if A ≠ 0 ∧ hg = 1 then h m 40 + 1 else h m 40) ∧ (∀ y, y < 35 ∨ 40 < y → h' m y = h m y) ∧ h' (m + 13) = upz (h (m + 13)) k (nI A) ∧ h' (m + 14) = upz (h (m + 14)) k (nI st) ∧ (h' (m + 15) k = costA g k A st ∧ ∀ y, y ≠ k → h' (m + 15) y = h (m + 15) y) ∧ h' (m + 16) = upz (h (m + 16)) k (missA g k A st) ∧ h' (m + 17) = upz (h (m + 17)) k (nI hg) ∧ h' (m + 18) = upz (h (m + 18)) k (nI bl) ∧ h' (m + 22) = (if A = 0 then h (m + 22) else p3 (h (m + 22)) b st) ∧ h' (m + 23) = (if A = 0 then h (m + 23) else p4 (h (m + 23)) b st) ∧ h' (m + 19) = (if A = 0 then h (m + 19) else p5 (h (m + 19)) b st (nI t)) ∧ h' (m + 20) = (if A = 0 then h (m + 20) else p5 (h (m + 20)) b st (nI st)) ∧ h' (m + 21) = (if A < 2 then h (m + 21) else upz (h (m + 21)) b (nI t)) ∧ ∀ x, x < m ∨ (m < x ∧ x < m + 13) ∨ m + 24 ≤ x → h' x = h x := by
  have h3 := zN_V (pv_nb V) (by decide)
  have hnc := zN_V (pv_nc V) (by decide)
  have hb6 : b < 6 := by omega
  have hk14 : k < 14 := by omega
  have hs : st < 3 := by rw [← hst]; exact stN_lt _ _
  have Vh : pkV (h (m + 12)) := by rw [eg]; exact V
  have e2 := Md_comer_at (a := m) (h := h) (p := 2) hk14 (by decide)
  have e1 := Md_comer_at (a := m) (h := h) (p := 1) hk14 (by decide)
  rw [eg, eb] at e2
  rw [eg, et] at e1
  have ep := Md_painted_at (a := m) (h := h) hb6
  rw [eg] at ep
  have es := Md_stage_at (a := m) (h := h) (x := g (56 + 4 * b)) (t := t) Vh (by omega) (zP_big (pv_bench V b hb6).1)
  rw [eg, hst] at es
  have zk : g_ix (nI k) 14 = some k := z_ix hk14 (by decide)
  unfold Md_comes
  simp only [z_lits]
  simp only [e2, e1, ep, es, eA, zk, Option.bind_some]
  rw [ecard _ (by rw [z_upr (by omega), eg]), Option.bind_some, z_b01 h2, Option.bind_some, ebl _ (by simp (disch := omega) only [z_upr]; exact eg) (by simp (disch := omega) only [z_upr]), Option.bind_some, z_b01 hl2, Option.bind_some]
  generalize hq : am_up (am_up (am_up (am_up h (m + 14) k (nI st)) (m + 17) k (nI hg)) (m + 18) k (nI bl)) (m + 15) k (nI 0) = q
  have q14 : q (m + 14) = upz (h (m + 14)) k (nI st) := by
    rw [← hq]; simp (disch := omega) only [z_upr, z_ups]
  have q15 : q (m + 15) = upz (h (m + 15)) k (nI 0) := by
    rw [← hq]; simp (disch := omega) only [z_upr, z_ups]
  have q17 : q (m + 17) = upz (h (m + 17)) k (nI hg) := by
    rw [← hq]; simp (disch := omega) only [z_upr, z_ups]
  have q18 : q (m + 18) = upz (h (m + 18)) k (nI bl) := by
    rw [← hq]; simp (disch := omega) only [z_upr, z_ups]
  have qx : ∀ x, x ≠ m + 14 → x ≠ m + 15 → x ≠ m + 17 → x ≠ m + 18 → q x = h x := by
    intro x h1 h2 h3 h4
    rw [← hq]
    simp (disch := omega) only [z_upr]
  clear hq
  -- touching
  obtain ⟨u, eu, um, u12, u13, u14, u15k, u15, u16, u17, u18, u22, u23, u19, u20, u21, ux⟩ : ∃ u : am_F, (if nI c = nI 1 then (Md_comer m (nI k) (nI 5) q).bind fun q20 => (Md_costs q20 (nI st)).bind fun q21 => (Md_print m (nI b) (nI t) (nI st) (am_up q (m + 15) k q21)).bind fun q23 => (if nI st = nI 0 then some (nI 2) else some (nI 1) : Option Int32).bind fun q26 => some (q26, q23) else some (nI c, q) : Option (Int32 × am_F)) = some (nI A, u) ∧ u m = h m ∧ u (m + 12) = g ∧ u (m + 13) = h (m + 13) ∧ u (m + 14) = upz (h (m + 14)) k (nI st) ∧ u (m + 15) k = (if c = 1 then costZ (g (111 + (6 * k + 5))) st else 0) ∧ (∀ y, y ≠ k → u (m + 15) y = h (m + 15) y) ∧ u (m + 16) = h (m + 16) ∧ u (m + 17) = upz (h (m + 17)) k (nI hg) ∧ u (m + 18) = upz (h (m + 18)) k (nI bl) ∧ u (m + 22) = (if c = 1 then p3 (h (m + 22)) b st else h (m + 22)) ∧ u (m + 23) = (if c = 1 then p4 (h (m + 23)) b st else h (m + 23)) ∧ u (m + 19) = (if c = 1 then p5 (h (m + 19)) b st (nI t) else h (m + 19)) ∧ u (m + 20) = (if c = 1 then p5 (h (m + 20)) b st (nI st) else h (m + 20)) ∧ u (m + 21) = h (m + 21) ∧ ∀ x, x < m ∨ (m < x ∧ x < m + 13) ∨ m + 24 ≤ x → u x = h x := by
    by_cases c1 : c = 1
    · subst c1
      have e5 := Md_comer_at (a := m) (h := q) (p := 5) hk14 (by decide)
      rw [qx _ (by omega) (by omega) (by omega) (by omega), eg] at e5
      obtain ⟨u, eu, u3, u4, u5, u6, ux⟩ := Md_print_at (m := m) (t := nI t) (h := am_up q (m + 15) k (costZ (g (111 + (6 * k + 5))) st)) hb6 hs
      have hr : (if nI st = nI 0 then some (nI 2) else some (nI 1) : Option Int32) = some (nI A) := by
        rw [← hA]
        unfold actOf
        rw [if_pos rfl]
        by_cases cs : st = 0
        · subst cs; rfl
        · rw [if_neg (fun e => cs ((nI_eq (by omega) (by decide)).1 e)), if_neg cs]
      rw [if_pos rfl, e5, Option.bind_some, costs_at hs, Option.bind_some, eu, Option.bind_some, hr]
      simp only [if_true]
      refine ⟨u, rfl, ?_, ?_, ?_, ?_, ?_, ?_, ?_, ?_, ?_, ?_, ?_, ?_, ?_, ?_, ?_⟩
      · rw [ux _ (by omega) (by omega) (by omega) (by omega), z_upr (by omega), qx _ (by omega) (by omega) (by omega) (by omega)]
      · rw [ux _ (by omega) (by omega) (by omega) (by omega), z_upr (by omega), qx _ (by omega) (by omega) (by omega) (by omega), eg]
      · rw [ux _ (by omega) (by omega) (by omega) (by omega), z_upr (by omega), qx _ (by omega) (by omega) (by omega) (by omega)]
      · rw [ux _ (by omega) (by omega) (by omega) (by omega), z_upr (by omega), q14]
      · rw [ux _ (by omega) (by omega) (by omega) (by omega), z_ups, upz_s]
      · intro y hy
        rw [ux _ (by omega) (by omega) (by omega) (by omega), z_ups, upz_n hy, q15, upz_n hy]
      · rw [ux _ (by omega) (by omega) (by omega) (by omega), z_upr (by omega), qx _ (by omega) (by omega) (by omega) (by omega)]
      · rw [ux _ (by omega) (by omega) (by omega) (by omega), z_upr (by omega), q17]
      · rw [ux _ (by omega) (by omega) (by omega) (by omega), z_upr (by omega), q18]
      · rw [u3, z_upr (by omega), qx _ (by omega) (by omega) (by omega) (by omega)]
      · rw [u4, z_upr (by omega), qx _ (by omega) (by omega) (by omega) (by omega)]
      · rw [u5, z_upr (by omega), qx _ (by omega) (by omega) (by omega) (by omega)]
      · rw [u6, z_upr (by omega), qx _ (by omega) (by omega) (by omega) (by omega)]
      · rw [ux _ (by omega) (by omega) (by omega) (by omega), z_upr (by omega), qx _ (by omega) (by omega) (by omega) (by omega)]
      · intro x hx
        rw [ux _ (by omega) (by omega) (by omega) (by omega), z_upr (by omega), qx _ (by omega) (by omega) (by omega) (by omega)]
    · have hcA : c = A := by
        rw [← hA]; unfold actOf; rw [if_neg c1]
      rw [if_neg (fun e => c1 ((nI_eq (by omega) (by decide)).1 e)), hcA]
      have c1A : ¬ A = 1 := by omega
      simp only [if_neg c1A]
      refine ⟨q, rfl, ?_, ?_, ?_, q14, ?_, ?_, ?_, q17, q18, ?_, ?_, ?_, ?_, ?_, ?_⟩
      · rw [qx _ (by omega) (by omega) (by omega) (by omega)]
      · rw [qx _ (by omega) (by omega) (by omega) (by omega), eg]
      · rw [qx _ (by omega) (by omega) (by omega) (by omega)]
      · rw [q15, upz_s]; rfl
      · intro y hy
        rw [q15, upz_n hy]
      · rw [qx _ (by omega) (by omega) (by omega) (by omega)]
      · rw [qx _ (by omega) (by omega) (by omega) (by omega)]
      · rw [qx _ (by omega) (by omega) (by omega) (by omega)]
      · rw [qx _ (by omega) (by omega) (by omega) (by omega)]
      · rw [qx _ (by omega) (by omega) (by omega) (by omega)]
      · rw [qx _ (by omega) (by omega) (by omega) (by omega)]
      · intro x hx
        rw [qx _ (by omega) (by omega) (by omega) (by omega)]
  rw [eu, Option.bind_some]
  have hA4 : A < 4 := by 
    rw [← hA]
    unfold actOf
    split
    · split <;> omega
    · omega
  -- sitting
  obtain ⟨v, ev, v12, v36, v38, v37, vm, v13, v14, v15k, v15, v16, v17, v18, v22, v23, v19, v20, v21, vx⟩ : ∃ v : am_F, (if nI A < nI 2 then some u else (Md_sits m (nI k) (nI b) (nI t) (nI st) u).bind fun q30 => some q30 : Option am_F) = some v ∧ v (m + 12) = g ∧ v m 36 = (if 2 ≤ A then h m 36 + g (111 + (6 * k + 3)) else h m 36) ∧ v m 38 = (if 2 ≤ A then h m 38 + 1 else h m 38) ∧ v m 37 = (if 2 ≤ A ∧ st = 2 then h m 37 + g (55 + 4 * b) else h m 37) ∧ (∀ y, y ≠ 36 → y ≠ 37 → y ≠ 38 → v m y = h m y) ∧ v (m + 13) = h (m + 13) ∧ v (m + 14) = upz (h (m + 14)) k (nI st) ∧ v (m + 15) k = costA g k A st ∧ (∀ y, y ≠ k → v (m + 15) y = h (m + 15) y) ∧ v (m + 16) = h (m + 16) ∧ v (m + 17) = upz (h (m + 17)) k (nI hg) ∧ v (m + 18) = upz (h (m + 18)) k (nI bl) ∧ v (m + 22) = (if A = 0 then h (m + 22) else p3 (h (m + 22)) b st) ∧ v (m + 23) = (if A = 0 then h (m + 23) else p4 (h (m + 23)) b st) ∧ v (m + 19) = (if A = 0 then h (m + 19) else p5 (h (m + 19)) b st (nI t)) ∧ v (m + 20) = (if A = 0 then h (m + 20) else p5 (h (m + 20)) b st (nI st)) ∧ v (m + 21) = (if A < 2 then h (m + 21) else upz (h (m + 21)) b (nI t)) ∧ ∀ x, x < m ∨ (m < x ∧ x < m + 13) ∨ m + 24 ≤ x → v x = h x := by
    by_cases c2 : A < 2
    · have n2 : ¬ 2 ≤ A := by omega
      have n3 : ¬ (2 ≤ A ∧ st = 2) := by omega
      have hcA : (if c = 1 then costZ (g (111 + (6 * k + 5))) st else 0) = costA g k A st := by
        rw [← hA] at c2 ⊢
        unfold actOf at c2 ⊢
        unfold costA
        rcases hc with rfl | rfl | rfl
        · rfl
        · by_cases cs : st = 0
          · rw [if_pos rfl, if_pos cs] at c2; omega
          · rw [if_pos rfl, if_pos rfl, if_neg cs]; rfl
        · rw [if_neg (by decide)] at c2; omega
      have hpr : ∀ (R S : Nat → Int32), (if c = 1 then R else S) = if A = 0 then S else R := by
        intro R S
        rw [← hA] at c2 ⊢
        unfold actOf at c2 ⊢
        rcases hc with rfl | rfl | rfl
        · rfl
        · by_cases cs : st = 0
          · rw [if_pos rfl, if_pos cs] at c2; omega
          · rw [if_pos rfl, if_pos rfl, if_neg cs]; rfl
        · rw [if_neg (by decide)] at c2; omega
      rw [if_pos (nI_lt c2 (by decide))]
      simp only [if_neg n2, if_neg n3, if_pos c2]
      refine ⟨u, rfl, u12, by rw [um], by rw [um], by rw [um], fun y _ _ _ => by rw [um], u13, u14, by rw [u15k, hcA], u15, u16, u17, u18, by rw [u22, hpr], by rw [u23, hpr], by rw [u19, hpr], by rw [u20, hpr], u21, ux⟩
    · have n2 : 2 ≤ A := by omega
      have nA : ¬ A = 0 := by omega
      obtain ⟨w, ew, w36, w38, w37, wm, w15, w22, w23, w19, w20, w21, wx⟩ := Md_sits_at (x := nI t) u12 hk14 hb6 hs
      rw [if_neg (nI_nlt n2 (by omega)), ew, Option.bind_some]
      simp only [if_pos n2, z_ifand n2, if_neg c2, if_neg nA]
      have hc3 : (c = 1 ∧ st = 0 ∧ A = 2) ∨ (c = 3 ∧ A = 3) := by
        rw [← hA] at n2 ⊢
        unfold actOf at n2 ⊢
        rcases hc with rfl | rfl | rfl
        · rw [if_neg (by decide)] at n2; omega
        · by_cases cs : st = 0
          · exact .inl ⟨rfl, cs, by rw [if_pos rfl, if_pos cs]⟩
          · rw [if_pos rfl, if_neg cs] at n2; omega
        · exact .inr ⟨rfl, rfl⟩
      refine ⟨w, rfl, ?_, ?_, ?_, ?_, ?_, ?_, ?_, ?_, ?_, ?_, ?_, ?_, ?_, ?_, ?_, ?_, ?_, ?_⟩
      · rw [wx _ (by omega) (by omega) (by omega) (by omega) (by omega) (by omega) (by omega), u12]
      · rw [w36, um]
      · rw [w38, um]
      · rw [w37, um]
      · intro y h1 h2 h3
        rw [wm y h1 h2 h3, um]
      · rw [wx _ (by omega) (by omega) (by omega) (by omega) (by omega) (by omega) (by omega), u13]
      · rw [wx _ (by omega) (by omega) (by omega) (by omega) (by omega) (by omega) (by omega), u14]
      · rw [w15, upz_s, u15k]
        unfold costA
        rcases hc3 with ⟨rfl, rfl, rfl⟩ | ⟨rfl, rfl⟩
        · rfl
        · rw [if_neg (by decide), if_pos rfl, Int32.zero_add]
      · intro y hy
        rw [w15, upz_n hy, u15 y hy]
      · rw [wx _ (by omega) (by omega) (by omega) (by omega) (by omega) (by omega) (by omega), u16]
      · rw [wx _ (by omega) (by omega) (by omega) (by omega) (by omega) (by omega) (by omega), u17]
      · rw [wx _ (by omega) (by omega) (by omega) (by omega) (by omega) (by omega) (by omega), u18]
      · rw [w22, u22]
        rcases hc3 with ⟨rfl, rfl, rfl⟩ | ⟨rfl, rfl⟩ <;> rfl
      · rw [w23, u23]
        rcases hc3 with ⟨rfl, rfl, rfl⟩ | ⟨rfl, rfl⟩ <;> rfl
      · rw [w19, u19]
        rcases hc3 with ⟨rfl, rfl, rfl⟩ | ⟨rfl, rfl⟩ <;> rfl
      · rw [w20, u20]
        rcases hc3 with ⟨rfl, rfl, rfl⟩ | ⟨rfl, rfl⟩ <;> rfl
      · rw [w21, u21]
      · intro x hx
        rw [wx _ (by omega) (by omega) (by omega) (by omega) (by omega) (by omega) (by omega), ux _ hx]
  simp only [ev, Option.bind_some]
  have em : (if nI 2 ≤ nI A then some (nI 0) else if nI st = nI 0 then (Md_comer m (nI k) (nI 3) v).bind fun q35 => some q35 else some (nI 0) : Option Int32) = some (missA g k A st) := by
    have e3 := Md_comer_at (a := m) (h := v) (p := 3) hk14 (by decide)
    rw [v12] at e3
    unfold missA
    by_cases c2 : 2 ≤ A
    · rw [if_pos (nI_le c2 (by omega)), if_neg (by omega)]
      rfl
    · rw [if_neg (nI_ge (by omega) (by omega))]
      by_cases cs : st = 0
      · have : A = 0 := by
          rw [← hA] at c2 ⊢
          unfold actOf at c2 ⊢
          rcases hc with rfl | rfl | rfl
          · rfl
          · rw [if_pos rfl, if_pos cs] at c2; omega
          · rw [if_neg (by decide)] at c2; omega
        rw [cs, if_pos rfl, e3, Option.bind_some, if_pos ⟨this, rfl⟩]
      · rw [if_neg (fun e => cs ((nI_eq (by omega) (by decide)).1 e)), if_neg (fun e => cs e.2)]
        rfl
  rw [em, Option.bind_some]
  generalize missA g k A st = mis at *
  generalize costA g k A st = cst at *
  generalize hz : am_up (am_up (am_up v (m + 16) k mis) m 35 ((am_up v (m + 16) k mis) m 35 + ((am_up v (m + 16) k mis) (m + 15) k + (am_up v (m + 16) k mis) (m + 16) k))) (m + 13) k (nI A) = z
  have z16 : z (m + 16) = upz (h (m + 16)) k mis := by
    rw [← hz]; simp (disch := omega) only [z_upr, z_ups]; rw [v16]
  have z13 : z (m + 13) = upz (h (m + 13)) k (nI A) := by
    rw [← hz]; simp (disch := omega) only [z_upr, z_ups]; rw [v13]
  have zm : z m = upz (v m) 35 (h m 35 + (cst + mis)) := by
    rw [← hz]; simp (disch := omega) only [z_upr, z_ups, upz_s]; rw [v15k, vm 35 (by omega) (by omega) (by omega)]
  have zx : ∀ x, x ≠ m → x ≠ m + 13 → x ≠ m + 16 → z x = v x := by
    intro x h1 h2 h3
    rw [← hz]
    simp (disch := omega) only [z_upr]
  clear hz
  have fin : ∀ w : am_F, (∀ x, x ≠ m → w x = z x) → (∀ y, y ≠ 39 → y ≠ 40 → w m y = z m y) → w m 39 = (if A ≠ 0 ∧ hg = 1 then h m 39 + (if st = 0 then 0 else 1) else h m 39) → w m 40 = (if A ≠ 0 ∧ hg = 1 then h m 40 + 1 else h m 40) → w m 35 = h m 35 + (cst + mis) ∧ w m 36 = (if 2 ≤ A then h m 36 + g (111 + (6 * k + 3)) else h m 36) ∧ w m 37 = (if 2 ≤ A ∧ st = 2 then h m 37 + g (55 + 4 * b) else h m 37) ∧ w m 38 = (if 2 ≤ A then h m 38 + 1 else h m 38) ∧ w m 39 = (if A ≠ 0 ∧ hg = 1 then h m 39 + (if st = 0 then 0 else 1) else h m 39) ∧ w m 40 = (if A ≠ 0 ∧ hg = 1 then h m 40 + 1 else h m 40) ∧ (∀ y, y < 35 ∨ 40 < y → w m y = h m y) ∧ w (m + 13) = upz (h (m + 13)) k (nI A) ∧ w (m + 14) = upz (h (m + 14)) k (nI st) ∧ (w (m + 15) k = cst ∧ ∀ y, y ≠ k → w (m + 15) y = h (m + 15) y) ∧ w (m + 16) = upz (h (m + 16)) k mis ∧ w (m + 17) = upz (h (m + 17)) k (nI hg) ∧ w (m + 18) = upz (h (m + 18)) k (nI bl) ∧ w (m + 22) = (if A = 0 then h (m + 22) else p3 (h (m + 22)) b st) ∧ w (m + 23) = (if A = 0 then h (m + 23) else p4 (h (m + 23)) b st) ∧ w (m + 19) = (if A = 0 then h (m + 19) else p5 (h (m + 19)) b st (nI t)) ∧ w (m + 20) = (if A = 0 then h (m + 20) else p5 (h (m + 20)) b st (nI st)) ∧ w (m + 21) = (if A < 2 then h (m + 21) else upz (h (m + 21)) b (nI t)) ∧ ∀ x, x < m ∨ (m < x ∧ x < m + 13) ∨ m + 24 ≤ x → w x = h x := by
    intro w wx wm w39 w40
    refine ⟨?_, ?_, ?_, ?_, w39, w40, ?_, ?_, ?_, ⟨?_, ?_⟩, ?_, ?_, ?_, ?_, ?_, ?_, ?_, ?_, ?_⟩
    · rw [wm _ (by omega) (by omega), zm, upz_s]
    · rw [wm _ (by omega) (by omega), zm, upz_n (by omega), v36]
    · rw [wm _ (by omega) (by omega), zm, upz_n (by omega), v37]
    · rw [wm _ (by omega) (by omega), zm, upz_n (by omega), v38]
    · intro y hy
      rw [wm _ (by omega) (by omega), zm, upz_n (by omega), vm _ (by omega) (by omega) (by omega)]
    · rw [wx _ (by omega), z13]
    · rw [wx _ (by omega), zx _ (by omega) (by omega) (by omega), v14]
    · rw [wx _ (by omega), zx _ (by omega) (by omega) (by omega), v15k]
    · intro y hy
      rw [wx _ (by omega), zx _ (by omega) (by omega) (by omega), v15 y hy]
    · rw [wx _ (by omega), z16]
    · rw [wx _ (by omega), zx _ (by omega) (by omega) (by omega), v17]
    · rw [wx _ (by omega), zx _ (by omega) (by omega) (by omega), v18]
    · rw [wx _ (by omega), zx _ (by omega) (by omega) (by omega), v22]
    · rw [wx _ (by omega), zx _ (by omega) (by omega) (by omega), v23]
    · rw [wx _ (by omega), zx _ (by omega) (by omega) (by omega), v19]
    · rw [wx _ (by omega), zx _ (by omega) (by omega) (by omega), v20]
    · rw [wx _ (by omega), zx _ (by omega) (by omega) (by omega), v21]
    · intro x hx
      rw [wx _ (by omega), zx _ (by omega) (by omega) (by omega), vx _ hx]
  have z39 : z m 39 = h m 39 := by rw [zm, upz_n (by omega), vm _ (by omega) (by omega) (by omega)]
  have z40 : z m 40 = h m 40 := by rw [zm, upz_n (by omega), vm _ (by omega) (by omega) (by omega)]
  by_cases cA : A = 0
  · rw [if_pos (by rw [cA])]
    exact ⟨z, rfl, fin z (fun _ _ => rfl) (fun _ _ _ => rfl) (by rw [z39, if_neg (fun e => e.1 cA)]) (by rw [z40, if_neg (fun e => e.1 cA)])⟩
  · have z17 : z (m + 17) k = nI hg := by rw [zx _ (by omega) (by omega) (by omega), v17, upz_s]
    rw [if_neg (fun e => cA ((nI_eq (by omega) (by decide)).1 e)), z17]
    by_cases ch : hg = 1
    · subst ch
      have es0 : (if nI st = nI 0 then some (nI 0) else some (nI 1) : Option Int32) = some (if st = 0 then 0 else 1) := by
        by_cases cs : st = 0
        · subst cs; rfl
        · rw [if_neg (fun e => cs ((nI_eq (by omega) (by decide)).1 e)), if_neg cs]
          rfl
      rw [if_pos rfl, es0, Option.bind_some]
      refine ⟨_, rfl, fin _ ?_ ?_ ?_ ?_⟩
      · intro x hx
        simp (disch := omega) only [z_upr]
      · intro y h1 h2
        simp (disch := omega) only [z_upr, z_ups, upz_n]
      · simp (disch := omega) only [z_upr, z_ups, upz_s, upz_n]
        rw [z39]
        simp only [ne_eq, cA, not_false_eq_true, and_self, if_true]
      · simp (disch := omega) only [z_upr, z_ups, upz_s, upz_n]
        rw [z40]
        simp only [ne_eq, cA, not_false_eq_true, and_self, if_true]
        rfl
    · rw [if_neg (fun e => ch ((nI_eq (by omega) (by decide)).1 e))]
      exact ⟨z, rfl, fin z (fun _ _ => rfl) (fun _ _ _ => rfl) (by rw [z39, if_neg (fun e => ch e.2)]) (by rw [z40, if_neg (fun e => ch e.2)])⟩
end DAY
