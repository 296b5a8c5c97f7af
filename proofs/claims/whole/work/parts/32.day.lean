/-! a day, step by step -/
theorem z_n1 : -nI 1 = -1 ∧ -nI 2 = -2 := ⟨rfl, rfl⟩
theorem z_upr {α : Type} {f : Nat → Nat → α} {i k x : Nat} {v : α} (h : x ≠ i) : am_up f i k v x = f x := by
  funext y
  rw [z_up, if_neg (fun e => h e.1)]
def upz (r : Nat → Int32) (k : Nat) (v : Int32) : Nat → Int32 := fun y => if y = k then v else r y
theorem z_ups {f : am_F} {i k : Nat} {v : Int32} : am_up f i k v i = upz (f i) k v := by
  funext y
  simp only [z_up, upz, true_and]
theorem upz_s {r : Nat → Int32} {k : Nat} {v : Int32} : upz r k v k = v := if_pos rfl
theorem upz_n {r : Nat → Int32} {k y : Nat} {v : Int32} (h : y ≠ k) : upz r k v y = r y := if_neg h
theorem upz_id {r : Nat → Int32} {k : Nat} : upz r k (r k + 0) = r := by
  funext y
  unfold upz
  split
  · rename_i e
    rw [e, Int32.add_zero]
  · rfl
theorem upz_rel {r s : Nat → Int32} {k N : Nat} {v w : Int32} (h : ∀ y, y < N → r y = s y) (hv : v = w) : ∀ y, y < N → upz r k v y = upz s k w y := by
  intro y hy
  unfold upz
  rw [h y hy, hv]
theorem rwI_self {l : List (Nat × Nat)} {h : am_F} {a w lim n : Nat} {f : Nat → Int32} (H : rwI l h a w lim n f) : rwI l h a w lim n (h (a + 1)) := ⟨H.1, H.2.1, H.2.2.1, H.2.2.2.1, H.2.2.2.2.1, H.2.2.2.2.2.1, H.2.2.2.2.2.2.1, fun _ _ => rfl⟩
theorem rwI_fr {l : List (Nat × Nat)} {h h' : am_F} {a w lim n : Nat} {f : Nat → Int32} (H : rwI l h a w lim n f) (e1 : h' a = h a) (e2 : h' (a + 1) = h (a + 1)) : rwI l h' a w lim n f := by
  unfold rwI
  rw [e1, e2]
  exact H
theorem rwI_hd {l : List (Nat × Nat)} {h h' : am_F} {a w lim n : Nat} {f : Nat → Int32} (H : rwI l h a w lim n f) (e1 : h' a = h a) : rwI l h' a w lim n (h' (a + 1)) := by
  unfold rwI
  rw [e1]
  exact ⟨H.1, H.2.1, H.2.2.1, H.2.2.2.1, H.2.2.2.2.1, H.2.2.2.2.2.1, H.2.2.2.2.2.2.1, fun _ _ => rfl⟩
theorem pkI_fr {l : List (Nat × Nat)} {h h' : am_F} {p : Nat} {g : Nat → Int32} (H : pkI l h p g) (e : ∀ x, p ≤ x → x ≤ p + 12 → h' x = h x) : pkI l h' p g := by
  obtain ⟨h0, h1, h2, h3, h4, h5, h6, h7⟩ := H
  unfold pkI
  rw [e p (by omega) (by omega), e (p + 1) (by omega) (by omega), e (p + 2) (by omega) (by omega), e (p + 3) (by omega) (by omega), e (p + 4) (by omega) (by omega), e (p + 5) (by omega) (by omega), e (p + 6) (by omega) (by omega)]
  exact ⟨h0, h1, h2, h3, h4, rwI_fr h5 (e _ (by omega) (by omega)) (e _ (by omega) (by omega)), rwI_fr h6 (e _ (by omega) (by omega)) (e _ (by omega) (by omega)), rwI_fr h7 (e _ (by omega) (by omega)) (e _ (by omega) (by omega))⟩
def costZ (x : Int32) (st : Nat) : Int32 := if st = 2 then x else if st = 1 then x / 2 else 0
theorem atStage_at {x : Int32} {st : Nat} (hs : st < 3) : Wp_atStage x (nI st) = some (costZ x st) := by
  unfold Wp_atStage costZ
  match st, hs with
  | 0, _ => rfl
  | 1, _ => rfl
  | 2, _ => rfl
theorem costs_at {x : Int32} {st : Nat} (hs : st < 3) : Md_costs x (nI st) = some (costZ x st) := by
  unfold Md_costs costZ
  match st, hs with
  | 0, _ => rfl
  | 1, _ => rfl
  | 2, _ => rfl
/-- the rows of prints: deep, faint, hour, kind -/
def p3 (r : Nat → Int32) (b st : Nat) : Nat → Int32 := if st = 2 then upz r b (r b + 1) else r
def p4 (r : Nat → Int32) (b st : Nat) : Nat → Int32 := if st = 1 then upz r b (r b + 1) else r
def p5 (r : Nat → Int32) (b st : Nat) (t : Int32) : Nat → Int32 := if st = 0 then r else upz r b t
theorem Dy_print_at {d b st : Nat} {t : Int32} {h : am_F} (hb : b < 6) (hs : st < 3) : ∃ h', Dy_print d (nI b) t (nI st) h = some h' ∧ h' (d + 3) = p3 (h (d + 3)) b st ∧ h' (d + 4) = p4 (h (d + 4)) b st ∧ h' (d + 5) = p5 (h (d + 5)) b st t ∧ h' (d + 6) = p5 (h (d + 6)) b st (nI st) ∧ ∀ x, x ≠ d + 3 → x ≠ d + 4 → x ≠ d + 5 → x ≠ d + 6 → h' x = h x := by
  unfold Dy_print p3 p4 p5
  match st, hs with
  | 0, _ => exact ⟨h, rfl, rfl, rfl, rfl, rfl, fun _ _ _ _ _ => rfl⟩
  | 1, _ =>
    rw [if_neg (by decide), if_neg (nI_pos (by omega)), show (6 : Int32) = nI 6 from rfl, if_pos (nI_lt hb (by decide)), if_neg (by decide)]
    simp only [z_ix hb (show 6 < 2 ^ 31 by decide), Option.bind_some]
    refine ⟨_, rfl, ?_, ?_, ?_, ?_, ?_⟩
    · simp (disch := omega) only [z_upr]; rfl
    · simp (disch := omega) only [z_upr, z_ups]; rfl
    · simp (disch := omega) only [z_upr, z_ups]; rfl
    · simp (disch := omega) only [z_upr, z_ups]; rfl
    · intro x h1 h2 h3 h4
      simp (disch := omega) only [z_upr]
  | 2, _ =>
    rw [if_neg (by decide), if_neg (nI_pos (by omega)), show (6 : Int32) = nI 6 from rfl, if_pos (nI_lt hb (by decide)), if_pos (by decide)]
    simp only [z_ix hb (show 6 < 2 ^ 31 by decide), Option.bind_some]
    refine ⟨_, rfl, ?_, ?_, ?_, ?_, ?_⟩
    · simp (disch := omega) only [z_upr, z_ups]; rfl
    · simp (disch := omega) only [z_upr]; rfl
    · simp (disch := omega) only [z_upr, z_ups]; rfl
    · simp (disch := omega) only [z_upr, z_ups]; rfl
    · intro x h1 h2 h3 h4
      simp (disch := omega) only [z_upr]
theorem Md_print_at {m b st : Nat} {t : Int32} {h : am_F} (hb : b < 6) (hs : st < 3) : ∃ h', Md_print m (nI b) t (nI st) h = some h' ∧ h' (m + 22) = p3 (h (m + 22)) b st ∧ h' (m + 23) = p4 (h (m + 23)) b st ∧ h' (m + 19) = p5 (h (m + 19)) b st t ∧ h' (m + 20) = p5 (h (m + 20)) b st (nI st) ∧ ∀ x, x ≠ m + 22 → x ≠ m + 23 → x ≠ m + 19 → x ≠ m + 20 → h' x = h x := by
  unfold Md_print p3 p4 p5
  match st, hs with
  | 0, _ => exact ⟨h, rfl, rfl, rfl, rfl, rfl, fun _ _ _ _ _ => rfl⟩
  | 1, _ =>
    rw [if_neg (by decide), if_neg (by decide), if_pos (by decide)]
    simp only [z_ix hb (show 6 < 2 ^ 31 by decide), Option.bind_some]
    refine ⟨_, rfl, ?_, ?_, ?_, ?_, ?_⟩
    · simp (disch := omega) only [z_upr, z_ups, upz_id]; rfl
    · simp (disch := omega) only [z_upr, z_ups]; rfl
    · simp (disch := omega) only [z_upr, z_ups]; rfl
    · simp (disch := omega) only [z_upr, z_ups]; rfl
    · intro x h1 h2 h3 h4
      simp (disch := omega) only [z_upr]
  | 2, _ =>
    rw [if_neg (by decide), if_pos (by decide), if_neg (by decide)]
    simp only [z_ix hb (show 6 < 2 ^ 31 by decide), Option.bind_some]
    refine ⟨_, rfl, ?_, ?_, ?_, ?_, ?_⟩
    · simp (disch := omega) only [z_upr, z_ups]; rfl
    · simp (disch := omega) only [z_upr, z_ups, upz_id]; rfl
    · simp (disch := omega) only [z_upr, z_ups]; rfl
    · simp (disch := omega) only [z_upr, z_ups]; rfl
    · intro x h1 h2 h3 h4
      simp (disch := omega) only [z_upr]
section DAY
variable {l : List (Nat × Nat)} {r : am_R} {h hc hm : am_F} {a d m p k b t c : Nat} {g f : Nat → Int32} {x y : Int32}
theorem com_at (H : pkI l h p g) (hk : k < nV (g 6)) (hc : c < 6) : Rw_get l r (p + 11) (nI k) (nI c) h = some (g (111 + (6 * k + c))) := Rw_get_at H.2.2.2.2.2.2.2 hk hc
theorem pig_at (H : pkI l h p g) (hk : k < nV (g 5)) (hc : c < 2) : Rw_get l r (p + 9) (nI k) (nI c) h = some (g (103 + (2 * k + c))) := Rw_get_at H.2.2.2.2.2.2.1 hk hc
theorem card_at (H : pkI l h p g) (V : pkV g) (hb : b < nV (g 3)) : ∃ v, v < 2 ∧ Pk_hasCard p (nI b) x h = some (nI v) ∧ ∀ hm : am_F, hm (a + 12) = g → Md_hangs a (nI b) x hm = some (nI v) := by
  have h3 := zN_V (pv_nb V) (by decide)
  have hb6 : b < 6 := by omega
  obtain ⟨_, e5, e6⟩ := H.2.2.2.2.1 b hb6
  unfold Pk_hasCard Md_hangs Md_in
  rw [Pk_hasBench_at H V hb, if_neg (by decide)]
  simp only [z_ix hb6 (show 6 < 2 ^ 31 by decide), Option.bind_some, e5]
  by_cases c1 : g (57 + 4 * b) = -1
  · refine ⟨0, by decide, by rw [if_pos c1]; rfl, fun hm em => ?_⟩
    simp only [z_lits, pk_mul, nI_add]
    simp only [z_n1]
    rw [z_ix (by omega) (by omega), Option.bind_some, em, show 55 + 4 * b + 2 = 57 + 4 * b by omega, if_pos c1]
  · rw [if_neg c1, e6 c1]
    by_cases c2 : x < g (57 + 4 * b)
    · refine ⟨0, by decide, by rw [if_pos c2]; rfl, fun hm em => ?_⟩
      simp only [z_lits, pk_mul, nI_add]
      simp only [z_n1]
      rw [z_ix (by omega) (by omega), Option.bind_some, em, show 55 + 4 * b + 2 = 57 + 4 * b by omega, if_neg c1, z_ix (by omega) (by omega), Option.bind_some, if_pos c2, if_pos rfl]
    · rw [if_neg c2]
      by_cases c3 : g (58 + 4 * b) < x
      · refine ⟨0, by decide, by rw [if_pos c3]; rfl, fun hm em => ?_⟩
        simp only [z_lits, pk_mul, nI_add]
        simp only [z_n1]
        rw [z_ix (by omega) (by omega), Option.bind_some, em, show 55 + 4 * b + 2 = 57 + 4 * b by omega, if_neg c1, z_ix (by omega) (by omega), Option.bind_some, if_neg c2, show 55 + 4 * b + 3 = 58 + 4 * b by omega, if_pos c3, if_pos rfl]
      · refine ⟨1, by decide, by rw [if_neg c3]; rfl, fun hm em => ?_⟩
        simp only [z_lits, pk_mul, nI_add]
        simp only [z_n1]
        rw [z_ix (by omega) (by omega), Option.bind_some, em, show 55 + 4 * b + 2 = 57 + 4 * b by omega, if_neg c1, z_ix (by omega) (by omega), Option.bind_some, if_neg c2, show 55 + 4 * b + 3 = 58 + 4 * b by omega, if_neg c3, if_neg (by decide)]
end DAY
