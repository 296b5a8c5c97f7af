/-! what a bench may be: sums, fits -/
def fS : Nat → (Nat → Nat) → Nat
  | 0, _ => 0
  | n + 1, f => fS n f + f n
theorem fS_congr {f f' : Nat → Nat} : ∀ {n : Nat}, (∀ i, i < n → f i = f' i) → fS n f = fS n f' := by
  intro n
  induction n with
  | zero => intro _; rfl
  | succ n ih =>
    intro e
    show fS n f + f n = fS n f' + f' n
    rw [ih (fun i hi => e i (by omega)), e n (by omega)]
theorem fS_add {f f' : Nat → Nat} : ∀ n : Nat, fS n (fun i => f i + f' i) = fS n f + fS n f' := by
  intro n
  induction n with
  | zero => rfl
  | succ n ih =>
    show fS n (fun i => f i + f' i) + (f n + f' n) = fS n f + f n + (fS n f' + f' n)
    rw [ih]
    omega
theorem fS_0 {f : Nat → Nat} : ∀ {n : Nat}, (∀ i, i < n → f i = 0) → fS n f = 0 := by
  intro n
  induction n with
  | zero => intro _; rfl
  | succ n ih =>
    intro e
    show fS n f + f n = 0
    rw [ih (fun i hi => e i (by omega)), e n (by omega)]
theorem fS_one {f : Nat → Nat} {a : Nat} : ∀ {n : Nat}, a < n → (∀ i, i ≠ a → f i = 0) → fS n f = f a := by
  intro n
  induction n with
  | zero => intro h _; omega
  | succ n ih =>
    intro h e
    show fS n f + f n = f a
    by_cases c : a = n
    · subst c
      rw [fS_0 (fun i hi => e i (by omega))]
      omega
    · rw [ih (by omega) e, e n (fun z => c z.symm)]
      rfl
theorem fS_le {f : Nat → Nat} {M : Nat} : ∀ {n : Nat}, (∀ i, i < n → f i ≤ M) → fS n f ≤ n * M := by
  intro n
  induction n with
  | zero => intro _; exact Nat.zero_le _
  | succ n ih =>
    intro e
    show fS n f + f n ≤ (n + 1) * M
    have := ih (fun i hi => e i (by omega))
    have := e n (by omega)
    rw [Nat.add_mul]
    omega
theorem fS_ge {f : Nat → Nat} {i : Nat} : ∀ {n : Nat}, i < n → f i ≤ fS n f := by
  intro n
  induction n with
  | zero => intro h; omega
  | succ n ih =>
    intro h
    show f i ≤ fS n f + f n
    by_cases c : i = n
    · subst c; omega
    · have := ih (by omega); omega
theorem fS_swap (P : Nat → Prop) [DecidablePred P] (H w : Nat → Nat) (N : Nat) : ∀ n : Nat, (∀ t, t < n → H t < N) → fS N (fun j => if P j then fS n (fun t => if H t = j then w t else 0) else 0) = fS n (fun t => if P (H t) then w t else 0) := by
  intro n
  induction n with
  | zero =>
    intro _
    exact fS_0 (fun i _ => by split <;> rfl)
  | succ n ih =>
    intro hH
    have e : fS N (fun j => if P j then fS (n + 1) (fun t => if H t = j then w t else 0) else 0) = fS N (fun j => (if P j then fS n (fun t => if H t = j then w t else 0) else 0) + (if P j then (if H n = j then w n else 0) else 0)) := by
      apply fS_congr
      intro i _
      split
      · rfl
      · rfl
    rw [e, fS_add, ih (fun t ht => hH t (by omega)), fS_one (a := H n) (hH n (by omega)) (by
      intro i hi
      split
      · rw [if_neg (fun z => hi z.symm)]
      · rfl)]
    show _ = fS n _ + _
    rw [if_pos (show H n = H n from rfl)]
def oI (j : Nat) : Int32 := nI j - 1
theorem oI_0 : oI 0 = -1 := by decide
theorem oI_s {j : Nat} : oI (j + 1) = nI j := by
  unfold oI
  rw [show (1 : Int32) = nI 1 from rfl, pk_sub (by omega), Nat.add_sub_cancel]
theorem oI_1 {j : Nat} : oI j + 1 = oI (j + 1) := by
  rw [oI_s]
  unfold oI
  exact Int32.sub_add_cancel ..
theorem oI_ix {j : Nat} : 1 + oI j = nI j := by
  rw [Int32.add_comm]
  unfold oI
  exact Int32.sub_add_cancel ..
theorem oI_P {j : Nat} (h : j < 49) : zP (oI j) := by
  cases j with
  | zero => exact .inl oI_0
  | succ j => exact .inr ⟨j, by omega, oI_s⟩
theorem oI_of {x : Int32} (h : zP x) : ∃ j, j < 49 ∧ x = oI j := by
  rcases h with rfl | ⟨n, hn, rfl⟩
  · exact ⟨0, by decide, oI_0.symm⟩
  · exact ⟨n + 1, by omega, oI_s.symm⟩
theorem oI_inj {i j : Nat} (hi : i < 100) (hj : j < 100) (e : oI i = oI j) : i = j := by
  have : 1 + oI i = 1 + oI j := by rw [e]
  rw [oI_ix, oI_ix] at this
  exact (nI_eq (by omega) (by omega)).1 this
theorem oI_lt {j : Nat} (h : j < 49) : ¬ (48 : Int32) ≤ oI j := by
  cases j with
  | zero => rw [oI_0]; decide
  | succ j => rw [oI_s]; exact nI_ge (show j < 48 by omega) (by decide)
def fitR (g f : Nat → Int32) (x b : Int32) : Nat → Nat → Nat
  | 0, _ => 1
  | c + 1, i => if f (3 * i + 1) = b then (if f (3 * i + 2) < x then 0 else if nI (stX g x (nV (f (3 * i + 2)))) = f (3 * i) then fitR g f x b c (i + 1) else 0) else fitR g f x b c (i + 1)
def lastR (f : Nat → Int32) (b : Int32) : Nat → Nat → Int32 → Int32
  | 0, _, v => v
  | c + 1, i, v => lastR f b c (i + 1) (if f (3 * i + 1) = b then Md_greater v (f (3 * i + 2)) else v)
section FITS
variable {l : List (Nat × Nat)} {r : am_R} {h h' hc hm : am_F} {d m k p b t s w lim a q c i nb nc z : Nat} {n : Nat → Nat} {f g g' : Nat → Int32} {x x1 x2 x3 x4 y u v sd : Int32}
theorem fitC (H : pkI l h p g) (V : pkV g) (R : rwI l h z 3 10 s f) (P : prV f s) (er : r a 6 = some p) (hx : zP x) : ∀ (c i fu : Nat), i + c = s → c < fu → Fi_isFit_l3 l r a x z y h fu (nI i) = some (nI (fitR g f x y c i)) := by
  have hs := R.2.2.2.1
  intro c
  induction c with
  | zero =>
    intro i fu hi hf
    obtain ⟨fu, rfl⟩ : ∃ q, fu = q + 1 := ⟨fu - 1, by omega⟩
    unfold Fi_isFit_l3
    rw [R.2.2.1, if_pos (nI_le (by omega) (by omega))]
    rfl
  | succ c ih =>
    intro i fu hi hf
    obtain ⟨fu, rfl⟩ : ∃ q, fu = q + 1 := ⟨fu - 1, by omega⟩
    have e0 : Rw_get l r z (nI i) 0 h = some (f (3 * i)) := Rw_get_at (c := 0) R (by omega) (by decide)
    have e1 : Rw_get l r z (nI i) 1 h = some (f (3 * i + 1)) := Rw_get_at (c := 1) R (by omega) (by decide)
    have e2 : Rw_get l r z (nI i) 2 h = some (f (3 * i + 2)) := Rw_get_at (c := 2) R (by omega) (by decide)
    obtain ⟨_, _, t2⟩ := P i (by omega)
    have t2' := zN_V t2 (by decide)
    have est := Pk_stage_at H V hx t2'.2
    rw [← t2'.1] at est
    unfold Fi_isFit_l3 fitR
    rw [R.2.2.1, if_neg (nI_ge (by omega) (by omega)), e2, Option.bind_some, e1, Option.bind_some]
    by_cases c1 : f (3 * i + 1) = y
    · rw [if_pos c1, if_pos c1]
      by_cases c2 : f (3 * i + 2) < x
      · rw [if_pos c2, if_pos c2]; rfl
      · rw [if_neg c2, if_neg c2, er, Option.bind_some, est, Option.bind_some, e0, Option.bind_some]
        by_cases c3 : nI (stX g x (nV (f (3 * i + 2)))) = f (3 * i)
        · rw [if_pos c3, if_pos c3, nI_1]
          exact ih (i + 1) fu (by omega) (by omega)
        · rw [if_neg c3, if_neg c3]; rfl
    · rw [if_neg c1, if_neg c1, nI_1]
      exact ih (i + 1) fu (by omega) (by omega)
theorem prn_at (e43 : h m 43 = nI q) (hq : q < 8) (e7 : h (m + 7) (31 * q) = nI s) : Md_prints m h = some (nI s) := by
  unfold Md_prints
  rw [e43, show (31 : Int32) = nI 31 from rfl, pk_mul, z_ix (by omega) (by decide), Option.bind_some, e7]
theorem prof_at (e43 : h m 43 = nI q) (hq : q < 8) (hi : i < 10) (hk : k < 3) : Md_printOf m (nI i) (nI k) h = some (h (m + 7) (31 * q + 1 + (3 * i + k))) := by
  unfold Md_printOf
  rw [e43]
  simp (disch := omega) only [↓z_neg, z_lits, nI_eq, nI_ltI, nI_leI, nI_add, pk_mul, pk_sub, z_ix, if_pos, if_neg, if_true, if_false, Option.bind_some, m_eq, m_qe, m_lt, m_tl, m_le, m_el, Md_in_N, z_lesser, z_greater]
  congr 2
  omega
theorem fitM (V : pkV (h (m + 12))) (e43 : h m 43 = nI q) (hq : q < 8) (hs : s ≤ 10) (e7 : h (m + 7) (31 * q) = nI s) (ef : f = fun i => h (m + 7) (31 * q + 1 + i)) (P : prV f s) (hx : zP x) : ∀ (c i fu : Nat), i + c = s → c < fu → Md_isFit_l2 m y x h fu (nI i) = some (nI (fitR (h (m + 12)) f x y c i)) := by
  have ep := prn_at e43 hq e7
  intro c
  induction c with
  | zero =>
    intro i fu hi hf
    obtain ⟨fu, rfl⟩ : ∃ q, fu = q + 1 := ⟨fu - 1, by omega⟩
    unfold Md_isFit_l2
    rw [ep, Option.bind_some, if_pos (nI_le (by omega) (by omega))]
    rfl
  | succ c ih =>
    intro i fu hi hf
    obtain ⟨fu, rfl⟩ : ∃ q, fu = q + 1 := ⟨fu - 1, by omega⟩
    have e0 : Md_printOf m (nI i) 0 h = some (f (3 * i)) := by rw [ef]; exact prof_at (k := 0) e43 hq (by omega) (by decide)
    have e1 : Md_printOf m (nI i) 1 h = some (f (3 * i + 1)) := by rw [ef]; exact prof_at (k := 1) e43 hq (by omega) (by decide)
    have e2 : Md_printOf m (nI i) 2 h = some (f (3 * i + 2)) := by rw [ef]; exact prof_at (k := 2) e43 hq (by omega) (by decide)
    obtain ⟨_, _, t2⟩ := P i (by omega)
    have t2' := zN_V t2 (by decide)
    have est := Md_stage_at (x := x) V (show nV (f (3 * i + 2)) < 10000 by omega) (zP_big hx)
    rw [← t2'.1] at est
    unfold Md_isFit_l2 fitR
    rw [ep, Option.bind_some, if_neg (nI_ge (by omega) (by omega)), e1, Option.bind_some]
    by_cases c1 : f (3 * i + 1) = y
    · rw [if_pos c1, if_pos c1, e2, Option.bind_some]
      by_cases c2 : f (3 * i + 2) < x
      · rw [if_pos c2, if_pos c2]; rfl
      · rw [if_neg c2, if_neg c2, est, Option.bind_some, e0, Option.bind_some]
        by_cases c3 : nI (stX (h (m + 12)) x (nV (f (3 * i + 2)))) = f (3 * i)
        · rw [if_pos c3, if_pos c3, nI_1]
          exact ih (i + 1) fu (by omega) (by omega)
        · rw [if_neg c3, if_neg c3]; rfl
    · rw [if_neg c1, if_neg c1, nI_1]
      exact ih (i + 1) fu (by omega) (by omega)
theorem fitR_2 : ∀ (c i : Nat), fitR g f x y c i = 0 ∨ fitR g f x y c i = 1 := by
  intro c
  induction c with
  | zero => intro i; exact .inr rfl
  | succ c ih =>
    intro i
    unfold fitR
    repeat' split
    all_goals first | exact ih _ | exact .inl rfl
end FITS
