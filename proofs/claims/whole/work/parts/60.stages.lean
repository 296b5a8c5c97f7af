/-! the stages a bench may have -/
def sW (g : Nat → Int32) (N : Nat) (H w : Nat → Nat) (t k : Nat) : Nat := fS N (fun i => if stX g (oI (H i)) t = k then w i else 0)
section FITS
variable {l : List (Nat × Nat)} {r : am_R} {h h' hc hm hc0 hm0 : am_F} {d m k p b t s lim a q c i nb nc z j N : Nat} {n : Nat → Nat} {H w W fit : Nat → Nat} {f g g' : Nat → Int32} {x x1 x2 x3 x4 y u v sd : Int32}
theorem stX_lt : stX g x t < 3 := stN_lt _ _
theorem sW_sum : ∀ N : Nat, sW g N H w t 0 + sW g N H w t 1 + sW g N H w t 2 = fS N w := by
  intro N
  induction N with
  | zero => rfl
  | succ N ih =>
    have h3 := stX_lt (g := g) (x := oI (H N)) (t := t)
    have e : ∀ k, sW g (N + 1) H w t k = sW g N H w t k + if stX g (oI (H N)) t = k then w N else 0 := fun _ => rfl
    rw [e, e, e]
    show _ = fS N w + w N
    rw [← ih]
    generalize stX g (oI (H N)) t = s at *
    have : s = 0 ∨ s = 1 ∨ s = 2 := by omega
    rcases this with rfl | rfl | rfl
    · rw [if_pos rfl, if_neg (by decide), if_neg (by decide)]; omega
    · rw [if_neg (by decide), if_pos rfl, if_neg (by decide)]; omega
    · rw [if_neg (by decide), if_neg (by decide), if_pos rfl]; omega
theorem stag_l (K : pkI l hc0 p g) (V : pkV g) (hp : p + 12 < 66) (er : r 100 6 = some p) (I : fI hc0 N H w) (ht : t < 48) : ∀ (c i fu : Nat) (hc : am_F), i + c = N → c < fu → (∀ x, x ≠ 101 → hc x = hc0 x) → (∀ k, k < 3 → hc 101 k = nI (sW g i H w t k)) → ∃ hc', Fi_weighStages_l18 l r 100 (nI t) fu (nI i) hc = some hc' ∧ (∀ k, k < 3 → hc' 101 k = nI (sW g N H w t k)) ∧ ∀ x, x ≠ 101 → hc' x = hc0 x := by
  obtain ⟨i1, i2, i3, i4⟩ := I
  intro c
  induction c with
  | zero =>
    intro i fu hc hi hf ex ek
    obtain ⟨fu, rfl⟩ : ∃ q, fu = q + 1 := ⟨fu - 1, by omega⟩
    have : i = N := by omega
    subst this
    unfold Fi_weighStages_l18
    rw [ex 100 (by decide), i1, if_pos (nI_le (by omega) (by omega))]
    exact ⟨hc, rfl, ek, ex⟩
  | succ c ih =>
    intro i fu hc hi hf ex ek
    obtain ⟨fu, rfl⟩ : ∃ q, fu = q + 1 := ⟨fu - 1, by omega⟩
    obtain ⟨j1, j2, j3, j4, j5⟩ := i4 i (by omega)
    have K' : pkI l hc p g := pkI_fr K (fun x _ _ => ex x (by omega))
    have est := Pk_stage_at K' V (oI_P j2) ht
    have h3 := stX_lt (g := g) (x := oI (H i)) (t := t)
    generalize hst : stX g (oI (H i)) t = st at *
    obtain ⟨hc', a1, a2, a3⟩ := ih (i + 1) fu (am_up hc 101 st (hc 101 st + hc 103 i)) (by omega) (by omega) (fun x hx => by rw [z_upr hx]; exact ex x hx) (by
      intro k hk
      rw [z_ups]
      have e : sW g (i + 1) H w t k = sW g i H w t k + if stX g (oI (H i)) t = k then w i else 0 := rfl
      rw [e, hst]
      by_cases ck : st = k
      · subst ck
        rw [upz_s, if_pos rfl, ek st hk, ex 103 (by decide), j3, nI_add]
      · rw [upz_n (fun z => ck z.symm), if_neg ck]
        exact ek k hk)
    refine ⟨hc', ?_, a2, a3⟩
    unfold Fi_weighStages_l18
    simp only [Nat.reduceAdd]
    rw [ex 100 (by decide), i1, if_neg (nI_ge (by omega) (by omega)), if_neg (show ¬ (8 : Int32) ≤ nI i from nI_ge (show i < 8 by omega) (by decide)), z_ix (show i < 8 by omega) (by decide), Option.bind_some, er, Option.bind_some, show hc 102 i = oI (H i) by rw [ex 102 (by decide)]; exact j1, est, Option.bind_some, if_neg (nI_pos (show st < 2 ^ 31 by omega)), if_neg (show ¬ (2 : Int32) < nI st from nI_nlt (show st ≤ 2 by omega) (by decide)), z_ix h3 (by decide), Option.bind_some, Option.bind_some, Option.bind_some, Option.bind_some, nI_1]
    exact a1
theorem stag_eq (K : pkI l hc p g) (V : pkV g) (hp : p + 12 < 66) (er : r 100 6 = some p) (I : fI hc N H w) (ht : t < 48) (hl : g_ln l 101 = 3) : ∃ hc', Fi_weighStages l r 100 (nI t) hc = some hc' ∧ (∀ k, k < 3 → hc' 101 k = nI (sW g N H w t k)) ∧ ∀ x, x ≠ 101 → hc' x = hc x := by
  have e : ∀ x, x ≠ 101 → fillA hc 101 3 0 x = hc x := by
    intro x hx
    funext y
    unfold fillA
    rw [if_neg (fun z => hx z.1)]
  have I' : fI (fillA hc 101 3 0) N H w := by
    obtain ⟨i1, i2, i3, i4⟩ := I
    exact ⟨by rw [e 100 (by decide)]; exact i1, i2, by rw [e 100 (by decide)]; exact i3, fun t ht => by rw [e 102 (by decide), e 103 (by decide)]; exact i4 t ht⟩
  obtain ⟨hc', a1, a2, a3⟩ := stag_l (r := r) (t := t) (pkI_fr K (fun x _ _ => e x (by omega))) V hp er I' ht N 0 g_fu (fillA hc 101 3 0) (by omega) (by have := I.2.1; unfold g_fu; omega) (fun _ _ => rfl) (fun k hk => by
    unfold fillA
    rw [if_pos ⟨rfl, hk⟩]
    rfl)
  refine ⟨hc', ?_, a2, fun x hx => by rw [a3 x hx, e x hx]⟩
  unfold Fi_weighStages
  simp only [Nat.reduceAdd]
  rw [Ar_fill_at hl (by decide), Option.bind_some, er]
  simp only [g_on]
  rw [show Fi_weighStages_l18 l r 100 (nI t) g_fu 0 (fillA hc 101 3 0) = some hc' from a1]
  rfl
theorem wof_l (V : pkV (hm (m + 12))) (eW : ∀ j, j < 49 → hm (m + 26) j = nI (W j)) (ht : t < 48) (hk : k < 3) : ∀ (c i fu : Nat) (s : Nat), i + c = 49 → c < fu → s = fS i (fun j => if stX (hm (m + 12)) (oI j) t = k then W j else 0) → Md_weightOf_l5 m (nI t) (nI k) hm fu (nI s) (oI i) = some (nI (fS 49 (fun j => if stX (hm (m + 12)) (oI j) t = k then W j else 0))) := by
  intro c
  induction c with
  | zero =>
    intro i fu s hi hf es
    obtain ⟨fu, rfl⟩ : ∃ q, fu = q + 1 := ⟨fu - 1, by omega⟩
    have : i = 49 := by omega
    subst this
    unfold Md_weightOf_l5
    rw [if_pos (show (48 : Int32) ≤ oI 49 by decide), es]
  | succ c ih =>
    intro i fu s hi hf es
    obtain ⟨fu, rfl⟩ : ∃ q, fu = q + 1 := ⟨fu - 1, by omega⟩
    have est := Md_stage_at (a := m) (h := hm) (x := oI i) V (show t < 10000 by omega) (zP_big (oI_P (by omega)))
    have h3 := stX_lt (g := hm (m + 12)) (x := oI i) (t := t)
    unfold Md_weightOf_l5
    rw [if_neg (oI_lt (by omega)), est, Option.bind_some, oI_ix, z_ix (by omega) (by decide), Option.bind_some, eW i (by omega), oI_1]
    by_cases c1 : stX (hm (m + 12)) (oI i) t = k
    · rw [if_pos (by rw [c1]), Option.bind_some, nI_add]
      refine ih (i + 1) fu _ (by omega) (by omega) ?_
      show _ = fS i _ + (if stX (hm (m + 12)) (oI i) t = k then W i else 0)
      rw [← es, if_pos c1]
    · rw [if_neg (fun e => c1 ((nI_eq (by omega) (by omega)).1 e)), Option.bind_some, Int32.add_zero]
      refine ih (i + 1) fu s (by omega) (by omega) ?_
      show _ = fS i _ + (if stX (hm (m + 12)) (oI i) t = k then W i else 0)
      rw [← es, if_neg c1]
      rfl
theorem wof_eq (V : pkV g) (eg : hm (m + 12) = g) (eW : ∀ j, j < 49 → hm (m + 26) j = nI (fW N H w j)) (hH : ∀ t, t < N → H t < 49) (ht : t < 48) (hk : k < 3) : Md_weightOf m (nI t) (nI k) hm = some (nI (sW g N H w t k)) := by
  subst eg
  have := wof_l (W := fW N H w) V eW ht hk 49 0 g_fu 0 (by omega) (by unfold g_fu; omega) rfl
  rw [oI_0] at this
  unfold Md_weightOf
  rw [show Md_weightOf_l5 m (nI t) (nI k) hm g_fu 0 (-1) = _ from this]
  have e := fS_swap (fun j => stX (hm (m + 12)) (oI j) t = k) H w 49 N hH
  show some (nI (fS 49 (fun j => if stX (hm (m + 12)) (oI j) t = k then fW N H w j else 0))) = some (nI (sW (hm (m + 12)) N H w t k))
  rw [show fS 49 (fun j => if stX (hm (m + 12)) (oI j) t = k then fW N H w j else 0) = sW (hm (m + 12)) N H w t k from e]
end FITS
