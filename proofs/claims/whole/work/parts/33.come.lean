/-! a comer comes: the class -/
theorem z_ifand {α : Type} {p q : Prop} [Decidable q] [Decidable (p ∧ q)] {a b : α} (h : p) : (if p ∧ q then a else b) = if q then a else b := by
  by_cases c : q
  · rw [if_pos c, if_pos ⟨h, c⟩]
  · rw [if_neg c, if_neg (fun e => c e.2)]
theorem z_ifor {α : Type} {p q : Prop} [Decidable q] [Decidable (p ∨ q)] {a b : α} (h : ¬ p) : (if p ∨ q then a else b) = if q then a else b := by
  by_cases c : q
  · rw [if_pos c, if_pos (.inr c)]
  · rw [if_neg c, if_neg (fun e => e.elim h c)]
section DAY
variable {l : List (Nat × Nat)} {r : am_R} {h hc hm : am_F} {a d m p k b t c st hg bl A : Nat} {g f : Nat → Int32} {x y : Int32}
theorem Dy_findOut_at (h2 : hg < 2) (hs : st < 3) : ∃ h', Dy_findOut d (nI hg) (nI st) h = some h' ∧ h' d 1 = (if hg = 1 then h d 1 + (if st = 0 then 0 else 1) else h d 1) ∧ h' d 2 = (if hg = 1 then h d 2 + 1 else h d 2) ∧ (∀ y, y ≠ 1 → y ≠ 2 → h' d y = h d y) ∧ ∀ x, x ≠ d → h' x = h x := by
  unfold Dy_findOut
  match hg, h2 with
  | 0, _ => exact ⟨h, rfl, rfl, rfl, fun _ _ _ => rfl, fun _ _ => rfl⟩
  | 1, _ =>
    rw [if_neg (by decide), if_pos rfl, if_pos rfl]
    by_cases c : st = 0
    · subst c
      refine ⟨_, rfl, ?_, ?_, ?_, ?_⟩
      · simp (disch := omega) only [z_upr, z_ups, upz_s, upz_n, if_true]
      · simp (disch := omega) only [z_upr, z_ups, upz_s, upz_n]
      · intro y h1 h2
        simp (disch := omega) only [z_upr, z_ups, upz_s, upz_n]
      · intro x h1
        simp (disch := omega) only [z_upr]
    · rw [if_neg (fun e => c ((z_eq0 (by omega)).1 e)), if_neg c]
      refine ⟨_, rfl, ?_, ?_, ?_, ?_⟩
      · simp (disch := omega) only [z_upr, z_ups, upz_s, upz_n]
      · simp (disch := omega) only [z_upr, z_ups, upz_s, upz_n]
      · intro y h1 h2
        simp (disch := omega) only [z_upr, z_ups, upz_s, upz_n]
      · intro x h1
        simp (disch := omega) only [z_upr]
theorem Dy_sit_at (H : pkI l h p g) (V : pkV g) (ap : p + 12 < d ∨ d + 10 ≤ p) (hk : k < nV (g 6)) (eb : g (111 + (6 * k + 2)) = nI b) (hb : b < nV (g 3)) (et : g (111 + (6 * k + 1)) = nI t) (hs : st < 3) : ∃ h', Dy_sit l r d p (nI k) (nI st) h = some h' ∧ h' d 6 = h d 6 + 1 ∧ h' d 4 = h d 4 + g (111 + (6 * k + 3)) ∧ h' d 5 = (if st = 2 then h d 5 + g (55 + 4 * b) else h d 5) ∧ (∀ y, y ≠ 4 → y ≠ 5 → y ≠ 6 → h' d y = h d y) ∧ h' (d + 7) = (if nI t < g (56 + 4 * b) then h (d + 7) else upz (h (d + 7)) b 1) ∧ ∀ x, x ≠ d → x ≠ d + 7 → h' x = h x := by
  have h3 := zN_V (pv_nb V) (by decide)
  have hb6 : b < 6 := by omega
  have H1 : pkI l (am_up h d 6 (h d 6 + 1)) p g := pkI_fr H (fun x h1 h2 => z_upr (by omega))
  have e3 := com_at (r := r) (c := 3) H1 hk (by decide)
  have e2 := com_at (r := r) (c := 2) H hk (by decide)
  rw [eb] at e2
  unfold Dy_sit
  simp only [z_lits] at e3 ⊢
  rw [e2, Option.bind_some, Pk_hasBench_at H V hb, if_neg (by decide), e3, Option.bind_some]
  generalize hh1 : am_up (am_up h d 6 (h d 6 + nI 1)) d 4 ((am_up h d 6 (h d 6 + nI 1)) d 4 + g (111 + (6 * k + 3))) = h1
  obtain ⟨h2, e4, hr5, hrx⟩ : ∃ h2, (if nI st = nI 2 then (g_ix (nI b) 6).bind fun k6 => some (am_up h1 d 5 (h1 d 5 + h1 (p + 3) k6)) else some h1) = some h2 ∧ h2 d = (if st = 2 then upz (h1 d) 5 (h1 d 5 + g (55 + 4 * b)) else h1 d) ∧ ∀ x, x ≠ d → h2 x = h1 x := by
    by_cases c : st = 2
    · subst c
      have : h1 (p + 3) b = g (55 + 4 * b) := by
        rw [← hh1]
        simp (disch := omega) only [z_upr]
        exact H.2.2.2.1 b hb
      rw [if_pos rfl, z_ix hb6 (by decide), Option.bind_some, this]
      refine ⟨_, rfl, ?_, ?_⟩
      · rw [if_pos rfl, z_ups]
      · intro x hx
        exact z_upr hx
    · rw [if_neg (fun e => c ((nI_eq (by omega) (by omega)).1 e)), if_neg c]
      exact ⟨h1, rfl, rfl, fun _ _ => rfl⟩
  have hd1 : h1 d = upz (upz (h d) 6 (h d 6 + nI 1)) 4 (h d 4 + g (111 + (6 * k + 3))) := by
    rw [← hh1]
    simp (disch := omega) only [z_upr, z_ups, upz_s, upz_n]
  have hx1 : ∀ x, x ≠ d → h1 x = h x := by
    intro x hx
    rw [← hh1]
    simp (disch := omega) only [z_upr]
  have H2 : pkI l h2 p g := pkI_fr H (fun x q1 q2 => by rw [hrx x (by omega), hx1 x (by omega)])
  have e5 := com_at (r := r) (c := 1) H2 hk (by decide)
  rw [et] at e5
  rw [e4, Option.bind_some, e5, Option.bind_some, z_ix hb6 (by decide), Option.bind_some, (H2.2.2.2.2.1 b hb6).1]
  have key : ∀ h3 : am_F, h3 d = h2 d → h3 d 6 = h d 6 + 1 ∧ h3 d 4 = h d 4 + g (111 + (6 * k + 3)) ∧ h3 d 5 = (if st = 2 then h d 5 + g (55 + 4 * b) else h d 5) ∧ (∀ y, y ≠ 4 → y ≠ 5 → y ≠ 6 → h3 d y = h d y) := by
    intro h3 e
    rw [e, hr5, hd1]
    by_cases c : st = 2
    · simp only [if_pos c]
      refine ⟨?_, ?_, ?_, ?_⟩
      · simp (disch := omega) only [upz_s, upz_n]; rfl
      · simp (disch := omega) only [upz_s, upz_n]
      · simp (disch := omega) only [upz_s, upz_n]
      · intro y q1 q2 q3
        simp (disch := omega) only [upz_s, upz_n]
    · simp only [if_neg c]
      refine ⟨?_, ?_, ?_, ?_⟩
      · simp (disch := omega) only [upz_s, upz_n]; rfl
      · simp (disch := omega) only [upz_s, upz_n]
      · simp (disch := omega) only [upz_s, upz_n]
      · intro y q1 q2 q3
        simp (disch := omega) only [upz_s, upz_n]
  by_cases c : nI t < g (56 + 4 * b)
  · rw [if_pos c, if_pos c]
    obtain ⟨k1, k2, k3, k4⟩ := key h2 rfl
    refine ⟨h2, rfl, k1, k2, k3, k4, ?_, ?_⟩
    · rw [hrx _ (by omega), hx1 _ (by omega)]
    · intro x q1 q2
      rw [hrx _ q1, hx1 _ q1]
  · rw [if_neg c, if_neg c]
    obtain ⟨k1, k2, k3, k4⟩ := key (am_up h2 (d + 7) b (nI 1)) (z_upr (by omega))
    refine ⟨_, rfl, k1, k2, k3, k4, ?_, ?_⟩
    · rw [z_ups, hrx _ (by omega), hx1 _ (by omega)]
    · intro x q1 q2
      rw [z_upr q2, hrx _ q1, hx1 _ q1]
def D6 (q : Nat → Int32) (k : Nat) (v0 v1 v2 v3 v4 v5 : Int32) : Nat → Int32 := upz (upz (upz (upz (upz (upz q (6 * k + 0) v0) (6 * k + 1) v1) (6 * k + 2) v2) (6 * k + 3) v3) (6 * k + 4) v4) (6 * k + 5) v5
def costA (g : Nat → Int32) (k A st : Nat) : Int32 := if A = 3 then costZ (g (111 + (6 * k + 4))) st else if A = 1 then costZ (g (111 + (6 * k + 5))) st else 0
def missA (g : Nat → Int32) (k A st : Nat) : Int32 := if A = 0 ∧ st = 0 then g (111 + (6 * k + 3)) else 0
theorem z_b01 {v : Nat} (hv : v < 2) : (if nI v = nI 0 then some (nI 0) else some (nI 1) : Option Int32) = some (nI v) := by
  match v, hv with
  | 0, _ => rfl
  | 1, _ => rfl
set_option maxHeartbeats 4000000 in
theorem come_C (H : pkI l h p g) (V : pkV g) (Dn : rwI l h (d + 1) 6 14 (nV (g 6)) f) (ap : p + 12 < d ∨ d + 10 ≤ p) (hk : k < nV (g 6)) (eb : g (111 + (6 * k + 2)) = nI b) (hb : b < nV (g 3)) (et : g (111 + (6 * k + 1)) = nI t) (ht : t < 48) (hst : stX g (g (56 + 4 * b)) t = st) (h2 : hg < 2) (hl2 : bl < 2) (hA4 : A < 4)
    (ecard : Pk_hasCard p (nI b) (nI t) h = some (nI hg)) (ebl : h d 1 * 100 < h p 2 * h d 2 ↔ bl = 0)
    (eA : Dy_choose l r d p (nI k) (nI st) (nI (if hg = 0 then 0 else if bl = 0 then 0 else 1)) h = some (nI A)) :
    ∃ h', Dy_come l r d p (nI k) h = some h' ∧ h' d 0 = h d 0 + (costA g k A st + missA g k A st) ∧ h' d 4 = (if 2 ≤ A then h d 4 + g (111 + (6 * k + 3)) else h d 4) ∧ h' d 5 = (if 2 ≤ A ∧ st = 2 then h d 5 + g (55 + 4 * b) else h d 5) ∧ h' d 6 = (if 2 ≤ A then h d 6 + 1 else h d 6) ∧ h' d 1 = (if A ≠ 0 ∧ hg = 1 then h d 1 + (if st = 0 then 0 else 1) else h d 1) ∧ h' d 2 = (if A ≠ 0 ∧ hg = 1 then h d 2 + 1 else h d 2) ∧ h' d 14 = h d 14 ∧ h' (d + 1) = h (d + 1) ∧ h' (d + 2) = D6 (h (d + 2)) k (nI A) (nI st) (costA g k A st) (missA g k A st) (nI hg) (nI bl) ∧ h' (d + 3) = (if A = 0 then h (d + 3) else p3 (h (d + 3)) b st) ∧ h' (d + 4) = (if A = 0 then h (d + 4) else p4 (h (d + 4)) b st) ∧ h' (d + 5) = (if A = 0 then h (d + 5) else p5 (h (d + 5)) b st (nI t)) ∧ h' (d + 6) = (if A = 0 then h (d + 6) else p5 (h (d + 6)) b st (nI st)) ∧ h' (d + 7) = (if A < 2 ∨ nI t < g (56 + 4 * b) then h (d + 7) else upz (h (d + 7)) b 1) ∧ ∀ x, x < d ∨ d + 8 ≤ x → h' x = h x := by
  have h3 := zN_V (pv_nb V) (by decide)
  have hnc := zN_V (pv_nc V) (by decide)
  have hb6 : b < 6 := by omega
  have hs : st < 3 := by rw [← hst]; exact stN_lt _ _
  have e2 := com_at (r := r) (c := 2) H hk (by decide)
  have e1 := com_at (r := r) (c := 1) H hk (by decide)
  have e3 := com_at (r := r) (c := 3) H hk (by decide)
  have e4 := com_at (r := r) (c := 4) H hk (by decide)
  have e5 := com_at (r := r) (c := 5) H hk (by decide)
  rw [eb] at e2
  rw [et] at e1
  have es := Pk_stageOf_at H V hb ht
  rw [hst] at es
  unfold Dy_come
  simp only [z_lits]
  simp only [z_lits] at ebl
  rw [e2, Option.bind_some, e1, Option.bind_some, Pk_hasBench_at H V hb, if_neg (by decide), es, Option.bind_some, ecard, Option.bind_some]
  have eb8 : (if h d 1 * nI 100 < h p 2 * h d 2 then some (nI 0) else some (nI 1) : Option Int32) = some (nI bl) := by
    match bl, hl2, ebl with
    | 0, _, e => rw [if_pos (e.2 rfl)]
    | 1, _, e => rw [if_neg (fun z => absurd (e.1 z) (by decide))]
  have ew : (if nI hg = nI 0 then some (nI 0) else if nI bl = nI 0 then some (nI 0) else some (nI 1) : Option Int32) = some (nI (if hg = 0 then 0 else if bl = 0 then 0 else 1)) := by
    match hg, h2, bl, hl2 with
    | 0, _, _, _ => rfl
    | 1, _, 0, _ => rfl
    | 1, _, 1, _ => rfl
  rw [eb8, Option.bind_some, ew, Option.bind_some, eA, Option.bind_some]
  have ec : (if nI A = nI 3 then (Rw_get l r (p + 11) (nI k) (nI 4) h).bind fun q16 => (Wp_atStage q16 (nI st)).bind fun q17 => some q17 else if nI A = nI 1 then (Rw_get l r (p + 11) (nI k) (nI 5) h).bind fun q19 => (Wp_atStage q19 (nI st)).bind fun q20 => some q20 else some (nI 0) : Option Int32) = some (costA g k A st) := by
    unfold costA
    by_cases c3 : A = 3
    · subst c3
      rw [if_pos rfl, if_pos rfl, e4, Option.bind_some, atStage_at hs]
      rfl
    · rw [if_neg (fun e => c3 ((nI_eq (by omega) (by decide)).1 e)), if_neg c3]
      by_cases c1 : A = 1
      · subst c1
        rw [if_pos rfl, if_pos rfl, e5, Option.bind_some, atStage_at hs]
        rfl
      · rw [if_neg (fun e => c1 ((nI_eq (by omega) (by decide)).1 e)), if_neg c1]
        rfl
  have em : (if nI A = nI 0 then (if nI st = nI 0 then (Rw_get l r (p + 11) (nI k) (nI 3) h).bind fun q25 => some q25 else some (nI 0)) else some (nI 0) : Option Int32) = some (missA g k A st) := by
    unfold missA
    by_cases c3 : A = 0
    · subst c3
      rw [if_pos rfl]
      by_cases c1 : st = 0
      · subst c1
        rw [if_pos rfl, if_pos ⟨rfl, rfl⟩, e3, Option.bind_some]
      · rw [if_neg (fun e => c1 ((nI_eq (by omega) (by decide)).1 e)), if_neg (fun e => c1 e.2)]
        rfl
    · rw [if_neg (fun e => c3 ((nI_eq (by omega) (by decide)).1 e)), if_neg (fun e => c3 e.1)]
      rfl
  rw [ec, Option.bind_some, em, Option.bind_some]
  simp only [z_b01 h2, z_b01 hl2, Option.bind_some]
  generalize costA g k A st = cst
  generalize missA g k A st = mis
  -- six numbers of what he did
  have st6 : ∀ (q : am_F) (c : Nat) (v : Int32), q (d + 1) = h (d + 1) → c < 6 → Rw_set l r (d + 1) (nI k) (nI c) v q = some (am_up q (d + 2) (6 * k + c) v) := fun q c v e hc => Rw_set_at (rwI_hd Dn e) hk hc
  have q0 : (am_up h d 0 (h d 0 + (cst + mis))) (d + 1) = h (d + 1) := z_upr (by omega)
  rw [st6 _ 0 _ q0 (by decide), Option.bind_some, st6 _ 1 _ (by simp (disch := omega) only [z_upr]) (by decide), Option.bind_some, st6 _ 2 _ (by simp (disch := omega) only [z_upr]) (by decide), Option.bind_some, st6 _ 3 _ (by simp (disch := omega) only [z_upr]) (by decide), Option.bind_some, st6 _ 4 _ (by simp (disch := omega) only [z_upr]) (by decide), Option.bind_some, st6 _ 5 _ (by simp (disch := omega) only [z_upr]) (by decide), Option.bind_some]
  generalize hq : am_up (am_up (am_up (am_up (am_up (am_up (am_up h d 0 (h d 0 + (cst + mis))) (d + 2) (6 * k + 0) (nI A)) (d + 2) (6 * k + 1) (nI st)) (d + 2) (6 * k + 2) cst) (d + 2) (6 * k + 3) mis) (d + 2) (6 * k + 4) (nI hg)) (d + 2) (6 * k + 5) (nI bl) = q
  have qd : q d = upz (h d) 0 (h d 0 + (cst + mis)) := by
    rw [← hq]
    simp (disch := omega) only [z_upr, z_ups]
  have q2 : q (d + 2) = D6 (h (d + 2)) k (nI A) (nI st) cst mis (nI hg) (nI bl) := by
    rw [← hq]
    simp (disch := omega) only [z_upr, z_ups]
    rfl
  have qx : ∀ x, x ≠ d → x ≠ d + 2 → q x = h x := by
    intro x h1 h2
    rw [← hq]
    simp (disch := omega) only [z_upr]
  clear hq
  by_cases cA : A = 0
  · subst cA
    rw [if_pos rfl, Option.bind_some, if_pos (by decide)]
    refine ⟨q, rfl, ?_, ?_, ?_, ?_, ?_, ?_, ?_, qx _ (by omega) (by omega), q2, qx _ (by omega) (by omega), qx _ (by omega) (by omega), qx _ (by omega) (by omega), qx _ (by omega) (by omega), qx _ (by omega) (by omega), fun x hx => qx _ (by omega) (by omega)⟩
    all_goals rw [qd]
    · exact upz_s
    all_goals exact upz_n (by omega)
  · rw [if_neg (fun e => cA ((nI_eq (by omega) (by decide)).1 e))]
    obtain ⟨u, eu, u3, u4, u5, u6, ux⟩ := Dy_print_at (d := d) (t := nI t) (h := q) hb6 hs
    obtain ⟨w, ew2, w1, w2, wd, wx⟩ := Dy_findOut_at (d := d) (h := u) h2 hs
    rw [eu, Option.bind_some, ew2, Option.bind_some, Option.bind_some]
    have ud : u d = q d := ux d (by omega) (by omega) (by omega) (by omega)
    by_cases c2 : A < 2
    · rw [if_pos (nI_lt c2 (by decide))]
      have n2 : ¬ 2 ≤ A := by omega
      have n3 : ¬ (2 ≤ A ∧ st = 2) := by omega
      have n7 : A < 2 ∨ nI t < g (56 + 4 * b) := .inl c2
      simp only [if_neg n2, if_neg n3, if_pos n7, if_neg cA, z_ifand cA]
      refine ⟨w, rfl, ?_, ?_, ?_, ?_, ?_, ?_, ?_, ?_, ?_, ?_, ?_, ?_, ?_, ?_, ?_⟩
      · rw [wd _ (by omega) (by omega), ud, qd]; exact upz_s
      · rw [wd _ (by omega) (by omega), ud, qd]; exact upz_n (by omega)
      · rw [wd _ (by omega) (by omega), ud, qd]; exact upz_n (by omega)
      · rw [wd _ (by omega) (by omega), ud, qd]; exact upz_n (by omega)
      · rw [w1, ud, qd, upz_n (by omega)]; rfl
      · rw [w2, ud, qd, upz_n (by omega)]; rfl
      · rw [wd _ (by omega) (by omega), ud, qd]; exact upz_n (by omega)
      · rw [wx _ (by omega), ux _ (by omega) (by omega) (by omega) (by omega), qx _ (by omega) (by omega)]
      · rw [wx _ (by omega), ux _ (by omega) (by omega) (by omega) (by omega), q2]
      · rw [wx _ (by omega), u3, qx _ (by omega) (by omega)]
      · rw [wx _ (by omega), u4, qx _ (by omega) (by omega)]
      · rw [wx _ (by omega), u5, qx _ (by omega) (by omega)]
      · rw [wx _ (by omega), u6, qx _ (by omega) (by omega)]
      · rw [wx _ (by omega), ux _ (by omega) (by omega) (by omega) (by omega), qx _ (by omega) (by omega)]
      · intro x hx
        rw [wx _ (by omega), ux _ (by omega) (by omega) (by omega) (by omega), qx _ (by omega) (by omega)]
    · rw [if_neg (nI_nlt (by omega) (by omega))]
      have Hw : pkI l w p g := pkI_fr H (fun x g1 g2 => by rw [wx _ (by omega), ux _ (by omega) (by omega) (by omega) (by omega), qx _ (by omega) (by omega)])
      obtain ⟨z, ez, z6, z4, z5, zd, z7, zx⟩ := Dy_sit_at (r := r) Hw V ap hk eb hb et hs
      rw [ez, Option.bind_some]
      have n2 : 2 ≤ A := by omega
      simp only [if_pos n2, z_ifand n2, z_ifor c2, if_neg cA, z_ifand cA]
      refine ⟨z, rfl, ?_, ?_, ?_, ?_, ?_, ?_, ?_, ?_, ?_, ?_, ?_, ?_, ?_, ?_, ?_⟩
      · rw [zd _ (by omega) (by omega) (by omega), wd _ (by omega) (by omega), ud, qd]; exact upz_s
      · rw [z4, wd _ (by omega) (by omega), ud, qd, upz_n (by omega)]
      · rw [z5, wd _ (by omega) (by omega), ud, qd, upz_n (by omega)]
      · rw [z6, wd _ (by omega) (by omega), ud, qd, upz_n (by omega)]; rfl
      · rw [zd _ (by omega) (by omega) (by omega), w1, ud, qd, upz_n (by omega)]; rfl
      · rw [zd _ (by omega) (by omega) (by omega), w2, ud, qd, upz_n (by omega)]; rfl
      · rw [zd _ (by omega) (by omega) (by omega), wd _ (by omega) (by omega), ud, qd]; exact upz_n (by omega)
      · rw [zx _ (by omega) (by omega), wx _ (by omega), ux _ (by omega) (by omega) (by omega) (by omega), qx _ (by omega) (by omega)]
      · rw [zx _ (by omega) (by omega), wx _ (by omega), ux _ (by omega) (by omega) (by omega) (by omega), q2]
      · rw [zx _ (by omega) (by omega), wx _ (by omega), u3, qx _ (by omega) (by omega)]
      · rw [zx _ (by omega) (by omega), wx _ (by omega), u4, qx _ (by omega) (by omega)]
      · rw [zx _ (by omega) (by omega), wx _ (by omega), u5, qx _ (by omega) (by omega)]
      · rw [zx _ (by omega) (by omega), wx _ (by omega), u6, qx _ (by omega) (by omega)]
      · rw [z7, wx _ (by omega), ux _ (by omega) (by omega) (by omega) (by omega), qx _ (by omega) (by omega)]; rfl
      · intro x hx
        rw [zx _ (by omega) (by omega), wx _ (by omega), ux _ (by omega) (by omega) (by omega) (by omega), qx _ (by omega) (by omega)]
end DAY
