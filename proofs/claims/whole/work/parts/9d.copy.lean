/-! a Told copied: the class -/
def slS (l : List (Nat × Nat)) (hc : am_F) (b : Nat) (hm : am_F) (m k s q : Nat) : Prop := (s = 1 → sl1 l hc b hm m k q) ∧ (s = 2 → sl2 l hc b hm m k q) ∧ (s = 3 → sl3 l hc b hm m k q)
section COPY
variable {l : List (Nat × Nat)} {r : am_R} {hc hm : am_F} {b d m k : Nat} {n : Nat → Nat}
theorem rows_at {s q N : Nat} {h : am_F} (T : tdW r b) (hs : 1 ≤ s) (hs4 : s < 4) (hq : q < 2) (e : h (b + 2) s = nI N) (hN : N ≤ 2) : Tl_rowsAt l r b (nI s) (nI q) h = some (if q < N then some (b + 16 + 2 * s + 19 * q) else none) := by
  have e2 : r (b + 4) (s * 2 + q) = some (b + 16 + 2 * s + 19 * q) := by
    have h3 : s = 1 ∨ s = 2 ∨ s = 3 := by omega
    rcases h3 with rfl | rfl | rfl
    · rw [show 1 * 2 + q = 2 + q by omega, (T.2 q hq).1]
    · rw [show 2 * 2 + q = 4 + q by omega, (T.2 q hq).2.1]
    · rw [show 3 * 2 + q = 6 + q by omega, (T.2 q hq).2.2]
  unfold Tl_rowsAt
  rw [if_neg (nI_nle (show 0 < s by omega) (by omega)), show (4 : Int32) = nI 4 from rfl, if_neg (nI_ge hs4 (by decide)), if_neg (nI_pos (by omega)), show (2 : Int32) = nI 2 from rfl, if_neg (nI_ge hq (by decide)), z_ix hs4 (by decide), Option.bind_some, e]
  by_cases c : q < N
  · rw [if_pos (nI_lt c (by omega)), if_pos c, pk_mul, nI_add, z_ix (by omega) (by decide), Option.bind_some, e2]
  · rw [if_neg (nI_nlt (by omega) (by omega)), if_neg c]
theorem rows_at0 {q : Int32} {h : am_F} : Tl_rowsAt l r b (nI 0) q h = some none := by
  unfold Tl_rowsAt
  rw [if_pos (show nI 0 ≤ 0 by decide)]
theorem slS_fr {hc' : am_F} {s q : Nat} (S : slS l hc b hm m k s q) (e : ∀ x, b + 18 + 19 * q ≤ x → x ≤ b + 23 + 19 * q → (x = b + 16 + 2 * s + 19 * q ∨ x = b + 17 + 2 * s + 19 * q) → hc' x = hc x) : slS l hc' b hm m k s q := by
  refine ⟨fun h => ?_, fun h => ?_, fun h => ?_⟩
  · subst h
    exact sl1_fr (S.1 rfl) (e _ (by omega) (by omega) (by omega)) (e _ (by omega) (by omega) (by omega)) (fun _ _ => rfl)
  · subst h
    exact sl2_fr (S.2.1 rfl) (e _ (by omega) (by omega) (by omega)) (e _ (by omega) (by omega) (by omega)) (fun _ _ => rfl)
  · subst h
    exact sl3_fr (S.2.2 rfl) (e _ (by omega) (by omega) (by omega)) (e _ (by omega) (by omega) (by omega)) (fun _ _ => rfl)
/-- one row copied -/
theorem slS_cp {s q : Nat} (ap : b + 43 ≤ d ∨ d + 43 ≤ b) (hs : 1 ≤ s) (hs4 : s < 4) (hq : q < 2) (S : slS l hc b hm m k s q) (TH : tdH l hc d) : ∃ hc', Rw_copyFrom l r (d + 16 + 2 * s + 19 * q) (b + 16 + 2 * s + 19 * q) hc = some hc' ∧ slS l hc' d hm m k s q ∧ tdH l hc' d ∧ ∀ x, x ≠ d + 16 + 2 * s + 19 * q → x ≠ d + 17 + 2 * s + 19 * q → hc' x = hc x := by
  have h3 : s = 1 ∨ s = 2 ∨ s = 3 := by omega
  rcases h3 with rfl | rfl | rfl
  · obtain ⟨c, c1, c2, J, V⟩ := S.1 rfl
    obtain ⟨h', e1, e2, e3⟩ := row_copy (r := r) (a := d + 18 + 19 * q) J (TH q hq).2.1 c1 (by omega)
    refine ⟨h', e1, ⟨fun _ => ⟨c, c1, c2, e2, V⟩, fun h => by omega, fun h => by omega⟩, fun q' hq' => ?_, fun x h1 h2 => e3 x (by omega) (by omega)⟩
    obtain ⟨p1, p2, p3, p4⟩ := TH q' hq'
    refine ⟨pkH_fr p1 (e3 _ (by omega) (by omega)) (e3 _ (by omega) (by omega)) (e3 _ (by omega) (by omega)), ?_, rwH_fr p3 (e3 _ (by omega) (by omega)), rwH_fr p4 (e3 _ (by omega) (by omega))⟩
    by_cases c : q' = q
    · rw [c]; exact rwI_H e2
    · exact rwH_fr p2 (e3 _ (by omega) (by omega))
  · obtain ⟨c, c1, c2, J, V⟩ := S.2.1 rfl
    obtain ⟨h', e1, e2, e3⟩ := row_copy (r := r) (a := d + 20 + 19 * q) J (TH q hq).2.2.1 c1 (by omega)
    refine ⟨h', e1, ⟨fun h => by omega, fun _ => ⟨c, c1, c2, e2, V⟩, fun h => by omega⟩, fun q' hq' => ?_, fun x h1 h2 => e3 x (by omega) (by omega)⟩
    obtain ⟨p1, p2, p3, p4⟩ := TH q' hq'
    refine ⟨pkH_fr p1 (e3 _ (by omega) (by omega)) (e3 _ (by omega) (by omega)) (e3 _ (by omega) (by omega)), rwH_fr p2 (e3 _ (by omega) (by omega)), ?_, rwH_fr p4 (e3 _ (by omega) (by omega))⟩
    by_cases c : q' = q
    · rw [c]; exact rwI_H e2
    · exact rwH_fr p3 (e3 _ (by omega) (by omega))
  · obtain ⟨c, c1, c2, J, V⟩ := S.2.2 rfl
    obtain ⟨h', e1, e2, e3⟩ := row_copy (r := r) (a := d + 22 + 19 * q) J (TH q hq).2.2.2 c1 (by omega)
    refine ⟨h', e1, ⟨fun h => by omega, fun h => by omega, fun _ => ⟨c, c1, c2, e2, V⟩⟩, fun q' hq' => ?_, fun x h1 h2 => e3 x (by omega) (by omega)⟩
    obtain ⟨p1, p2, p3, p4⟩ := TH q' hq'
    refine ⟨pkH_fr p1 (e3 _ (by omega) (by omega)) (e3 _ (by omega) (by omega)) (e3 _ (by omega) (by omega)), rwH_fr p2 (e3 _ (by omega) (by omega)), rwH_fr p3 (e3 _ (by omega) (by omega)), ?_⟩
    by_cases c : q' = q
    · rw [c]; exact rwI_H e2
    · exact rwH_fr p4 (e3 _ (by omega) (by omega))
/-- a Told half copied: counts up to s, rows of the sorts before s, and q of sort s -/
def cpJ (l : List (Nat × Nat)) (d : Nat) (hm : am_F) (m k : Nat) (n : Nat → Nat) (h0 : am_F) (c s q : Nat) (h : am_F) : Prop := (∀ t, t < c → h (d + 2) t = nI (n t)) ∧ (∀ t p, t < 4 → (t < s ∨ t = s ∧ p < q) → p < n t → slS l h d hm m k t p) ∧ tdH l h d ∧ ∀ x, x < d + 2 ∨ d + 43 ≤ x → h x = h0 x
theorem tdB_S {h : am_F} {t p : Nat} (B : tdB l h b hm m k n) (hp : p < n t) : slS l h b hm m k t p := ⟨fun e => by subst e; exact B.2.2.1 p hp, fun e => by subst e; exact B.2.2.2.1 p hp, fun e => by subst e; exact B.2.2.2.2 p hp⟩
theorem cp_68 {h0 : am_F} {s : Nat} (ap : b + 43 ≤ d ∨ d + 43 ≤ b) (T : tdW r b) (T2 : tdW r d) (B : tdB l h0 b hm m k n) (hs : s < 4) : ∀ (c q fu : Nat) (h : am_F), q + c = 2 → c < fu → cpJ l d hm m k n h0 (s + 1) s q h → ∃ h', Tl_copyFrom_l68 l r d b (nI s) fu (nI q) h = some h' ∧ cpJ l d hm m k n h0 (s + 1) s 2 h' := by
  intro c
  induction c with
  | zero =>
    intro q fu h hq hfu J
    obtain ⟨fu, rfl⟩ : ∃ q, fu = q + 1 := ⟨fu - 1, by omega⟩
    unfold Tl_copyFrom_l68
    rw [show (2 : Int32) = nI 2 from rfl, if_pos (nI_le (by omega) (by omega))]
    obtain rfl : q = 2 := by omega
    exact ⟨h, rfl, J⟩
  | succ c ih =>
    intro q fu h hq hfu J
    obtain ⟨fu, rfl⟩ : ∃ q, fu = q + 1 := ⟨fu - 1, by omega⟩
    unfold Tl_copyFrom_l68
    rw [show (2 : Int32) = nI 2 from rfl, if_neg (nI_ge (by omega) (by omega))]
    have step : ∃ h1, ((Tl_rowsAt l r b (nI s) (nI q) h).bind fun q6 => (Tl_rowsAt l r d (nI s) (nI q) h).bind fun q7 => (g_on q6 (some h) (fun p8 => g_on q7 (some h) (fun p10 => (Rw_copyFrom l r p10 p8 h).bind fun q11 => some q11)) : Option am_F)) = some h1 ∧ cpJ l d hm m k n h0 (s + 1) s (q + 1) h1 := by
      obtain ⟨J1, J2, J3, J4⟩ := J
      by_cases cs : s = 0
      · subst cs
        rw [rows_at0, rows_at0]
        refine ⟨h, rfl, J1, fun t p ht hp hpn => ⟨fun e => by omega, fun e => by omega, fun e => by omega⟩, J3, J4⟩
      · obtain ⟨b1, b2, b3⟩ := B.1 s hs
        have eb : h (b + 2) s = nI (n s) := by rw [J4 _ (by omega)]; exact b2
        rw [rows_at T (by omega) hs (by omega) eb b1, rows_at T2 (by omega) hs (by omega) (J1 s (by omega)) b1, Option.bind_some, Option.bind_some]
        by_cases cq : q < n s
        · rw [if_pos cq, if_pos cq]
          simp only [g_on]
          obtain ⟨h1, e1, e2, e3, e4⟩ := slS_cp (r := r) (hc := h) ap (by omega) hs (show q < 2 by omega) (slS_fr (tdB_S B cq) (fun x g1 g2 _ => J4 x (by omega))) J3
          rw [e1]
          refine ⟨h1, rfl, fun t ht => by rw [e4 _ (by omega) (by omega)]; exact J1 t ht, fun t p ht hp hpn => ?_, e3, fun x hx => by rw [e4 x (by omega) (by omega)]; exact J4 x hx⟩
          by_cases ce : t = s ∧ p = q
          · rw [ce.1, ce.2]; exact e2
          · have hp2 : p < 2 := by have := (B.1 t ht).1; omega
            exact slS_fr (J2 t p ht (by omega) hpn) (fun x g1 g2 g3 => e4 x (by omega) (by omega))
        · rw [if_neg cq, if_neg cq]
          exact ⟨h, rfl, J1, fun t p ht hp hpn => J2 t p ht (by
            rcases hp with hp | ⟨hp, hp2⟩
            · exact .inl hp
            · subst hp; omega) hpn, J3, J4⟩
    obtain ⟨h1, e1, J'⟩ := step
    obtain ⟨h', g1, g2⟩ := ih (q + 1) fu h1 (by omega) (by omega) J'
    refine ⟨h', ?_, g2⟩
    rw [← g1, ← nI_1]
    generalize Tl_rowsAt l r b (nI s) (nI q) h = A at e1 ⊢
    generalize Tl_rowsAt l r d (nI s) (nI q) h = A2 at e1 ⊢
    cases A with
    | none => cases e1
    | some A => cases A2 with
      | none => cases e1
      | some A2 =>
        simp only [Option.bind_some] at e1 ⊢
        rw [e1]
        rfl
theorem cp_49 {h0 : am_F} (ap : b + 43 ≤ d ∨ d + 43 ≤ b) (T : tdW r b) (T2 : tdW r d) (B : tdB l h0 b hm m k n) : ∀ (c s fu : Nat) (h : am_F), s + c = 4 → c < fu → cpJ l d hm m k n h0 s s 0 h → ∃ h', Tl_copyFrom_l49 l r d b fu (nI s) h = some h' ∧ cpJ l d hm m k n h0 4 4 0 h' := by
  intro c
  induction c with
  | zero =>
    intro s fu h hs hfu J
    obtain ⟨fu, rfl⟩ : ∃ q, fu = q + 1 := ⟨fu - 1, by omega⟩
    unfold Tl_copyFrom_l49
    rw [show (4 : Int32) = nI 4 from rfl, if_pos (nI_le (by omega) (by omega))]
    obtain rfl : s = 4 := by omega
    exact ⟨h, rfl, J⟩
  | succ c ih =>
    intro s fu h hs hfu J
    obtain ⟨fu, rfl⟩ : ∃ q, fu = q + 1 := ⟨fu - 1, by omega⟩
    unfold Tl_copyFrom_l49
    rw [show (4 : Int32) = nI 4 from rfl, if_neg (nI_ge (by omega) (by omega)), z_ix (show s < 4 by omega) (by decide), Option.bind_some, Option.bind_some]
    obtain ⟨J1, J2, J3, J4⟩ := J
    have eb : h (b + 2) s = nI (n s) := by rw [J4 _ (by omega)]; exact (B.1 s (by omega)).2.1
    rw [eb]
    have J' : cpJ l d hm m k n h0 (s + 1) s 0 (am_up h (d + 2) s (nI (n s))) := by
      refine ⟨fun t ht => ?_, fun t p ht hp hpn => slS_fr (J2 t p ht hp hpn) (fun x g1 g2 _ => z_upr (by omega)), fun q hq => ?_, fun x hx => by rw [z_upr (by omega)]; exact J4 x hx⟩
      · rw [z_ups]
        by_cases c : t = s
        · rw [c, upz_s]
        · rw [upz_n c]; exact J1 t (by omega)
      · obtain ⟨p1, p2, p3, p4⟩ := J3 q hq
        exact ⟨pkH_fr p1 (z_upr (by omega)) (z_upr (by omega)) (z_upr (by omega)), rwH_fr p2 (z_upr (by omega)), rwH_fr p3 (z_upr (by omega)), rwH_fr p4 (z_upr (by omega))⟩
    obtain ⟨h1, g1, g2⟩ := cp_68 ap T T2 B (show s < 4 by omega) 2 0 g_fu _ (by omega) (by unfold g_fu; omega) J'
    have g1' : Tl_copyFrom_l68 l r d b (nI s) g_fu 0 (am_up h (d + 2) s (nI (n s))) = some h1 := g1
    rw [g1', Option.bind_some, nI_1]
    exact ih (s + 1) fu h1 (by omega) (by omega) ⟨g2.1, fun t p ht hp hpn => g2.2.1 t p ht (by
      have := (B.1 t ht).1
      omega) hpn, g2.2.2.1, g2.2.2.2⟩
/-- parks up to q -/
def cpP (l : List (Nat × Nat)) (d : Nat) (hm : am_F) (m k : Nat) (n : Nat → Nat) (h0 : am_F) (q : Nat) (h : am_F) : Prop := cpJ l d hm m k n h0 4 4 0 h ∧ ∀ p, p < q → p < n 0 → sl0 l h d hm m k p
theorem cp_120 {h0 : am_F} (ap : b + 43 ≤ d ∨ d + 43 ≤ b) (T : tdW r b) (T2 : tdW r d) (B : tdB l h0 b hm m k n) : ∀ (c q fu : Nat) (h : am_F), q + c = 2 → c < fu → cpP l d hm m k n h0 q h → ∃ h', Tl_copyFrom_l120 l r d b fu (nI q) h = some h' ∧ cpP l d hm m k n h0 2 h' := by
  intro c
  induction c with
  | zero =>
    intro q fu h hq hfu J
    obtain ⟨fu, rfl⟩ : ∃ q, fu = q + 1 := ⟨fu - 1, by omega⟩
    unfold Tl_copyFrom_l120
    rw [show (2 : Int32) = nI 2 from rfl, if_pos (nI_le (by omega) (by omega))]
    obtain rfl : q = 2 := by omega
    exact ⟨h, rfl, J⟩
  | succ c ih =>
    intro q fu h hq hfu J
    obtain ⟨fu, rfl⟩ : ∃ q, fu = q + 1 := ⟨fu - 1, by omega⟩
    unfold Tl_copyFrom_l120
    rw [show (2 : Int32) = nI 2 from rfl, if_neg (nI_ge (by omega) (by omega))]
    obtain ⟨⟨J1, J2, J3, J4⟩, J5⟩ := J
    obtain ⟨b1, b2, b3⟩ := B.1 0 (by decide)
    have eb : h (b + 2) 0 = nI (n 0) := by rw [J4 _ (by omega)]; exact b2
    have ed : h (d + 2) 0 = nI (n 0) := J1 0 (by decide)
    have pk : ∀ (z : Nat), tdW r z → h (z + 2) 0 = nI (n 0) → Tl_parkAt l r z (nI q) h = some (if q < n 0 then some (z + 5 + 19 * q) else none) := by
      intro z Tz ez
      unfold Tl_parkAt
      rw [if_neg (nI_pos (by omega)), show (2 : Int32) = nI 2 from rfl, if_neg (nI_ge (by omega) (by decide)), ez]
      by_cases c : q < n 0
      · rw [if_pos (nI_lt c (by omega)), z_ix (by omega) (by decide), Option.bind_some, Tz.1 q (by omega), if_pos c]
      · rw [if_neg (nI_nlt (by omega) (by omega)), if_neg c]
    rw [pk b T eb, pk d T2 ed, Option.bind_some, Option.bind_some]
    by_cases cq : q < n 0
    · rw [if_pos cq, if_pos cq]
      simp only [g_on]
      obtain ⟨P1, P2, P3⟩ := B.2.1 q cq
      obtain ⟨h1, e1, e2, e3, e4⟩ := Pk_copyFrom_at (r := r) (a := d + 5 + 19 * q) (z := b + 5 + 19 * q) (h := h) (pkI_fr P1 (fun x g1 g2 => J4 x (by omega))) P2 (J3 q (by omega)).1 (by omega)
      rw [e1, Option.bind_some, Option.bind_some, nI_1]
      refine ih (q + 1) fu h1 (by omega) (by omega) ⟨⟨fun t ht => by rw [e4 _ (by omega)]; exact J1 t ht, fun t p ht hp hpn => ?_, fun q' hq' => ?_, fun x hx => by rw [e4 x (by omega)]; exact J4 x hx⟩, fun p hp hpn => ?_⟩
      · have := (B.1 t ht).1
        exact slS_fr (J2 t p ht hp hpn) (fun x g1 g2 g3 => e4 x (by omega))
      · obtain ⟨p1, p2, p3, p4⟩ := J3 q' hq'
        refine ⟨?_, rwH_fr p2 (e4 _ (by omega)), rwH_fr p3 (e4 _ (by omega)), rwH_fr p4 (e4 _ (by omega))⟩
        by_cases c : q' = q
        · rw [c]; exact ⟨rwI_H e2.2.2.2.2.2.1, rwI_H e2.2.2.2.2.2.2.1, rwI_H e2.2.2.2.2.2.2.2⟩
        · exact pkH_fr p1 (e4 _ (by omega)) (e4 _ (by omega)) (e4 _ (by omega))
      · by_cases c : p = q
        · rw [c]
          exact ⟨e2, P2, fun y hy => by rw [e3 y hy, J4 _ (by omega)]; exact P3 y hy⟩
        · exact sl0_fr (J5 p (by omega) hpn) (fun x g1 g2 => e4 x (by omega)) (fun _ _ => rfl)
    · rw [if_neg cq, if_neg cq]
      simp only [g_on]
      rw [Option.bind_some, nI_1]
      exact ih (q + 1) fu h (by omega) (by omega) ⟨⟨J1, J2, J3, J4⟩, fun p hp hpn => J5 p (by omega) hpn⟩
theorem copy_at (ap : b + 43 ≤ d ∨ d + 43 ≤ b) (T : tdW r b) (T2 : tdW r d) (B : tdB l hc b hm m k n) (F : tdF hc b hm m k) (TH : tdH l hc d) : ∃ hc', Tl_copyFrom l r d b hc = some hc' ∧ tdB l hc' d hm m k n ∧ tdF hc' d hm m k ∧ tdH l hc' d ∧ ∀ x, x < d ∨ d + 43 ≤ x → hc' x = hc x := by
  obtain ⟨N, N1, N2, N3, N4, N5, N6⟩ := F
  unfold Tl_copyFrom
  rw [z_ups, upz_s, N2, show (600 : Int32) = nI 600 from rfl, if_neg (nI_nlt N1 (by decide)), z_cx N1 N1 (by omega), Option.bind_some]
  have e1 : ∀ x y, g_cp (am_up hc d 1 (nI N)) (b + 1) (d + 1) N x y = if x = d + 1 ∧ y < N then hc (b + 1) y else am_up hc d 1 (nI N) x y := by
    intro x y
    simp only [g_cp, am_row, va_cpy]
    by_cases c : x = d + 1
    · rw [if_pos c]
      by_cases c2 : y < N
      · rw [if_pos (by omega), if_pos ⟨c, c2⟩, z_upr (by omega)]
        congr 1
        omega
      · rw [if_neg (by omega), if_neg (fun z => c2 z.2), c]
    · rw [if_neg c, if_neg (fun z => c z.1)]
  generalize eG : g_cp (am_up hc d 1 (nI N)) (b + 1) (d + 1) N = h1 at e1 ⊢
  have hb : ∀ x, x ≠ d → x ≠ d + 1 → h1 x = hc x := fun x c1 c2 => by
    funext y
    rw [e1, if_neg (fun z => c2 z.1), z_upr c1]
  have hd1 : h1 d 1 = nI N := by rw [e1, if_neg (by omega), z_ups, upz_s]
  rw [z_upr (show b ≠ d by omega), hb b (by omega) (by omega), N5, N6]
  generalize eH : am_up (am_up h1 d 2 (hm (m + 3) k)) d 3 (hm (m + 4) k) = h2
  have H2 : ∀ x, x ≠ d → h2 x = h1 x := fun x hx => by rw [← eH, z_upr hx, z_upr hx]
  have Hb : ∀ x, x ≠ d → x ≠ d + 1 → h2 x = hc x := fun x c1 c2 => by rw [H2 x c1, hb x c1 c2]
  have B2 : tdB l h2 b hm m k n := tdB_fr B (fun x g1 g2 => Hb x (by omega) (by omega)) (fun _ _ _ => rfl)
  have J0 : cpJ l d hm m k n h2 0 0 0 h2 := ⟨fun t ht => by omega, fun t p _ hp _ => by omega, tdH_fr TH (fun x g1 g2 => Hb x (by omega) (by omega)), fun _ _ => rfl⟩
  obtain ⟨h3, g1, g2⟩ := cp_49 ap T T2 B2 4 0 g_fu h2 (by omega) (by unfold g_fu; omega) J0
  have g1' : Tl_copyFrom_l49 l r d b g_fu 0 h2 = some h3 := g1
  obtain ⟨h4, g3, g4⟩ := cp_120 ap T T2 B2 2 0 g_fu h3 (by omega) (by unfold g_fu; omega) ⟨g2, fun p hp => by omega⟩
  have g3' : Tl_copyFrom_l120 l r d b g_fu 0 h3 = some h4 := g3
  rw [g1', Option.bind_some, g3', Option.bind_some]
  obtain ⟨⟨K1, K2, K3, K4⟩, K5⟩ := g4
  refine ⟨h4, rfl, ⟨fun s hs => ⟨(B.1 s hs).1, K1 s hs, (B.1 s hs).2.2⟩, fun q hq => ?_, fun q hq => ?_, fun q hq => ?_, fun q hq => ?_⟩, ⟨N, N1, ?_, N3, fun i hi => ?_, ?_, ?_⟩, K3, fun x hx => ?_⟩
  · have := (B.1 0 (by decide)).1
    exact K5 q (by omega) hq
  · exact (K2 1 q (by decide) (.inl (by decide)) hq).1 rfl
  · exact (K2 2 q (by decide) (.inl (by decide)) hq).2.1 rfl
  · exact (K2 3 q (by decide) (.inl (by decide)) hq).2.2 rfl
  · rw [K4 d (by omega), ← eH, z_ups, upz_n (by decide), z_ups, upz_n (by decide), hd1]
  · rw [K4 (d + 1) (by omega), H2 _ (by omega), e1, if_pos ⟨rfl, hi⟩]
    exact N4 i hi
  · rw [K4 d (by omega), ← eH, z_ups, upz_n (by decide), z_ups, upz_s]
  · rw [K4 d (by omega), ← eH, z_ups, upz_s]
  · rw [K4 x (by omega), Hb x (by omega) (by omega)]
end COPY
