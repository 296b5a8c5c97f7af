/-! halves of benches -/
def dN (g : Nat → Int32) (x : Int32) (t : Nat) : Nat := if wetX g x t = 0 then 1 else 0
def lastP (f : Nat → Int32) (y : Int32) : Nat → Nat → Int32 → Int32
  | 0, _, v => v
  | c + 1, i, v => lastP f y c (i + 1) (if f (3 * i) = y then nI i else v)
def vlN (g f : Nat → Int32) (x : Int32) (t : Nat) (v : Int32) : Nat := if v = -1 then dN g x t else if dN g (f (3 * nV v + 1)) t + dN g (f (3 * nV v + 2)) t = 0 then 0 else 1
section HALVES
variable {l : List (Nat × Nat)} {r : am_R} {h h' hc hm hc0 hm0 : am_F} {d m k p b t s lim a q c i nb nc z j N T : Nat} {n : Nat → Nat} {f g g' : Nat → Int32} {x x1 x2 x3 x4 x5 x6 y u v sd : Int32}
theorem dN_2 : dN g x t = 0 ∨ dN g x t = 1 := by
  unfold dN
  split
  · exact .inr rfl
  · exact .inl rfl
theorem vlN_2 : vlN g f x t v = 0 ∨ vlN g f x t v = 1 := by
  unfold vlN
  split
  · exact dN_2
  · split
    · exact .inl rfl
    · exact .inr rfl
theorem st_dry (K : pkI l hc p g) (V : pkV g) (hx : zP x) (ht : t < 48) : ∃ w, Pk_stage p x (nI t) hc = some w ∧ (if w = 0 then some (1 : Int32) else some 0 : Option Int32) = some (nI (dN g x t)) := by
  refine ⟨_, Pk_stage_at K V hx ht, ?_⟩
  have h3 := stX_lt (g := g) (x := x) (t := t)
  unfold dN
  by_cases c : wetX g x t = 0
  · have : stX g x t = 0 := by
      unfold stX stN
      rw [if_pos (by omega), if_pos c]
    rw [this, if_pos (show nI 0 = 0 from rfl), if_pos c]
    rfl
  · have : ¬ stX g x t = 0 := by
      unfold stX stN
      rw [if_neg c]
      split <;> omega
    rw [if_neg (fun e => this ((z_eq0 (by omega)).1 e)), if_neg c]
    rfl
theorem isDry_at (V : pkV (hm (m + 12))) (hx : zP x) (ht : t < 48) : Md_isDry m x (nI t) hm = some (nI (dN (hm (m + 12)) x t)) := by
  unfold Md_isDry
  rw [Md_wetness_at V (by omega) (zP_big hx), Option.bind_some]
  have hw : wetX (hm (m + 12)) x t < 2 ^ 31 := by
    have := (zN_V (pv_fresh V).1 (by decide)).2
    unfold wetX
    split
    · omega
    · split <;> omega
  unfold dN
  by_cases c : wetX (hm (m + 12)) x t = 0
  · rw [if_pos ((z_eq0 hw).2 c), if_pos c]; rfl
  · rw [if_neg (fun e => c ((z_eq0 hw).1 e)), if_neg c]; rfl
theorem halv_at (K : pkI l hc p g) (V : pkV g) (R : rwI l hc z 3 6 s f) (P : plV f s) (hk : k < s) (ht : t < 48) : Wp_dryHalves l r p z (nI k) (nI t) hc = some (nI (dN g (f (3 * k + 1)) t + dN g (f (3 * k + 2)) t)) := by
  obtain ⟨_, p1, p2⟩ := P k hk
  have e1 : Rw_get l r z (nI k) 1 hc = some (f (3 * k + 1)) := Rw_get_at (c := 1) R hk (by decide)
  have e2 : Rw_get l r z (nI k) 2 hc = some (f (3 * k + 2)) := Rw_get_at (c := 2) R hk (by decide)
  obtain ⟨w1, a1, a2⟩ := st_dry K V (.inr p1) ht
  obtain ⟨w2, b1, b2⟩ := st_dry K V (.inr p2) ht
  unfold Wp_dryHalves
  rw [e1, Option.bind_some, a1, Option.bind_some, a2, Option.bind_some, e2, Option.bind_some, b1, Option.bind_some, b2, Option.bind_some, nI_add]
theorem pln_at (e47 : h m 47 = nI q) (hq : q < 8) (e9 : h (m + 9) (19 * q) = nI s) : Md_planMany m h = some (nI s) := by
  unfold Md_planMany
  rw [e47, show (19 : Int32) = nI 19 from rfl, pk_mul, z_ix (by omega) (by decide), Option.bind_some, e9]
theorem plof_at (e47 : h m 47 = nI q) (hq : q < 8) (hi : i < 6) (hk : k < 3) (ef : f = fun i => h (m + 9) (19 * q + 1 + i)) : Md_planOf m (nI i) (nI k) h = some (f (3 * i + k)) := by
  unfold Md_planOf
  rw [e47, ef]
  simp (disch := omega) only [↓z_neg, z_lits, nI_eq, nI_ltI, nI_leI, nI_add, pk_mul, pk_sub, z_ix, if_pos, if_neg, if_true, if_false, Option.bind_some, m_eq, m_qe, m_lt, m_tl, m_le, m_el, Md_in_N, z_lesser, z_greater]
  congr 2
  omega
theorem lastPC (R : rwI l hc z 3 6 s f) : ∀ (c i fu : Nat) (v : Int32), i + c = s → c < fu → Wp_lastToldOf_l4 l r z y hc fu v (nI i) = some (lastP f y c i v) := by
  have hs := R.2.2.2.1
  intro c
  induction c with
  | zero =>
    intro i fu v hi hf
    obtain ⟨fu, rfl⟩ : ∃ q, fu = q + 1 := ⟨fu - 1, by omega⟩
    unfold Wp_lastToldOf_l4
    rw [R.2.2.1, if_pos (nI_le (by omega) (by omega))]
    rfl
  | succ c ih =>
    intro i fu v hi hf
    obtain ⟨fu, rfl⟩ : ∃ q, fu = q + 1 := ⟨fu - 1, by omega⟩
    have e0 : Rw_get l r z (nI i) 0 hc = some (f (3 * i)) := Rw_get_at (c := 0) R (by omega) (by decide)
    unfold Wp_lastToldOf_l4
    rw [R.2.2.1, if_neg (nI_ge (by omega) (by omega)), e0, Option.bind_some, nI_1]
    have : (if f (3 * i) = y then some (nI i) else some v : Option Int32) = some (if f (3 * i) = y then nI i else v) := by split <;> rfl
    rw [this, Option.bind_some]
    exact ih (i + 1) fu _ (by omega) (by omega)
theorem lastP_z : ∀ (c i : Nat) (v : Int32), i + c = s → (v = -1 ∨ zN v s) → (lastP f y c i v = -1 ∨ zN (lastP f y c i v) s) := by
  intro c
  induction c with
  | zero => intro i v _ h; exact h
  | succ c ih =>
    intro i v hi hv
    show lastP f y c (i + 1) (if f (3 * i) = y then nI i else v) = -1 ∨ zN (lastP f y c (i + 1) (if f (3 * i) = y then nI i else v)) s
    refine ih (i + 1) _ (by omega) ?_
    split
    · exact .inr ⟨i, by omega, rfl⟩
    · exact hv
theorem hasD_l (V : pkV (hm (m + 12))) (e47 : hm m 47 = nI q) (hq : q < 8) (hs : s ≤ 6) (e9 : hm (m + 9) (19 * q) = nI s) (ef : f = fun i => hm (m + 9) (19 * q + 1 + i)) (P : plV f s) (ht : t < 48) : ∀ (c i fu : Nat) (v : Int32), i + c = s → c < fu → Md_hasDry_l14 m y (nI t) hm fu (nI (vlN (hm (m + 12)) f x t v)) (nI i) = some (nI (vlN (hm (m + 12)) f x t (lastP f y c i v))) := by
  have ep := pln_at e47 hq e9
  intro c
  induction c with
  | zero =>
    intro i fu v hi hf
    obtain ⟨fu, rfl⟩ : ∃ q, fu = q + 1 := ⟨fu - 1, by omega⟩
    unfold Md_hasDry_l14
    rw [ep, Option.bind_some, if_pos (nI_le (by omega) (by omega))]
    rfl
  | succ c ih =>
    intro i fu v hi hf
    obtain ⟨fu, rfl⟩ : ∃ q, fu = q + 1 := ⟨fu - 1, by omega⟩
    obtain ⟨_, p1, p2⟩ := P i (by omega)
    have e0 : Md_planOf m (nI i) 0 hm = some (f (3 * i)) := plof_at (k := 0) e47 hq (by omega) (by decide) ef
    have e1 : Md_planOf m (nI i) 1 hm = some (f (3 * i + 1)) := plof_at (k := 1) e47 hq (by omega) (by decide) ef
    have e2 : Md_planOf m (nI i) 2 hm = some (f (3 * i + 2)) := plof_at (k := 2) e47 hq (by omega) (by decide) ef
    unfold Md_hasDry_l14
    rw [ep, Option.bind_some, if_neg (nI_ge (by omega) (by omega)), e0, Option.bind_some, e1, e2, nI_1]
    simp only [Option.bind_some, isDry_at V (.inr p1) ht, isDry_at V (.inr p2) ht]
    show _ = some (nI (vlN (hm (m + 12)) f x t (lastP f y c (i + 1) (if f (3 * i) = y then nI i else v))))
    rw [← ih (i + 1) fu (if f (3 * i) = y then nI i else v) (by omega) (by omega)]
    by_cases c1 : f (3 * i) = y
    · simp only [if_pos c1]
      have e : vlN (hm (m + 12)) f x t (nI i) = if dN (hm (m + 12)) (f (3 * i + 1)) t + dN (hm (m + 12)) (f (3 * i + 2)) t = 0 then 0 else 1 := by
        unfold vlN
        rw [if_neg (z_nem (by omega)), nV_nI (by omega)]
      rw [e]
      rcases dN_2 (g := hm (m + 12)) (x := f (3 * i + 1)) (t := t) with d1 | d1
      · rcases dN_2 (g := hm (m + 12)) (x := f (3 * i + 2)) (t := t) with d2 | d2
        · rw [d1, d2]; rfl
        · rw [d1, d2]; rfl
      · rcases dN_2 (g := hm (m + 12)) (x := f (3 * i + 2)) (t := t) with d2 | d2
        · rw [d1, d2]; rfl
        · rw [d1, d2]; rfl
    · simp only [if_neg c1, Option.bind_some]
end HALVES
