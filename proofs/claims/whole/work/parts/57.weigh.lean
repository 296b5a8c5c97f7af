/-! the list of fits against the weights by hour -/
def fI (hc : am_F) (n : Nat) (H w : Nat → Nat) : Prop := hc 100 4 = nI n ∧ n ≤ 8 ∧ hc 100 0 = nI (fS n w) ∧ ∀ t, t < n → hc 102 t = oI (H t) ∧ H t < 49 ∧ hc 103 t = nI (w t) ∧ 1 ≤ w t ∧ w t ≤ 9
def fW (n : Nat) (H w : Nat → Nat) (j : Nat) : Nat := fS n (fun t => if H t = j then w t else 0)
section FITS
variable {l : List (Nat × Nat)} {r : am_R} {h h' hc hm : am_F} {d m k p b t s lim a q c i nb nc z j N : Nat} {n : Nat → Nat} {H w : Nat → Nat} {f g g' : Nat → Int32} {x x1 x2 x3 x4 y u v sd : Int32}
theorem weigh_eq {w0 : Nat} (I : fI hc N H w) (hN : N < 8) (hj : j < 49) (h1 : 1 ≤ w0) (h9 : w0 ≤ 9) (ef : Fi_isFit l r 100 (oI j) z y hc = some (nI k)) (hk : k = 0 ∨ k = 1) : ∃ hc' N' H' w', Fi_weigh l r 100 (oI j) (nI w0) z y hc = some hc' ∧ fI hc' N' H' w' ∧ N' ≤ N + 1 ∧ (∀ i, fW N' H' w' i = fW N H w i + if i = j then (if k = 0 then 0 else w0) else 0) ∧ hc' 100 5 = hc 100 5 ∧ ∀ x, x ≠ 100 → x ≠ 102 → x ≠ 103 → hc' x = hc x := by
  obtain ⟨i1, i2, i3, i4⟩ := I
  unfold Fi_weigh
  simp only [Nat.reduceAdd]
  rw [i1, if_neg (show ¬ (8 : Int32) ≤ nI N from nI_ge hN (by decide)), ef, Option.bind_some]
  rcases hk with rfl | rfl
  · rw [if_pos rfl]
    refine ⟨hc, N, H, w, rfl, ⟨i1, i2, i3, i4⟩, by omega, fun i => ?_, rfl, fun _ _ _ _ => rfl⟩
    split <;> rfl
  · rw [if_neg (show ¬ nI 1 = 0 by decide), z_ix hN (by decide), Option.bind_some, show (am_up hc 102 N (oI j)) 100 4 = nI N by rw [z_upr (by decide)]; exact i1, z_ix hN (by decide), Option.bind_some]
    refine ⟨_, N + 1, fun t => if t = N then j else H t, fun t => if t = N then w0 else w t, rfl, ⟨?_, by omega, ?_, ?_⟩, by omega, ?_, ?_, ?_⟩
    · simp (disch := omega) only [z_upr, z_ups, upz_s, upz_n]
      rw [i1, nI_1]
    · simp (disch := omega) only [z_upr, z_ups, upz_s, upz_n]
      rw [i3, nI_add]
      congr 1
      show _ = fS N _ + (if N = N then w0 else w N)
      rw [if_pos rfl]
      congr 1
      apply fS_congr
      intro t ht
      rw [if_neg (by omega)]
    · intro t ht
      simp (disch := omega) only [z_upr, z_ups]
      by_cases ct : t = N
      · subst ct
        rw [upz_s, upz_s, if_pos rfl, if_pos rfl]
        exact ⟨rfl, hj, rfl, h1, h9⟩
      · rw [upz_n ct, upz_n ct, if_neg ct, if_neg ct]
        exact i4 t (by omega)
    · intro i
      show fS N (fun t => if (if t = N then j else H t) = i then (if t = N then w0 else w t) else 0) + (if (if N = N then j else H N) = i then (if N = N then w0 else w N) else 0) = fW N H w i + if i = j then if 1 = 0 then 0 else w0 else 0
      rw [if_pos (show N = N from rfl), if_pos (show N = N from rfl), if_neg (show ¬ (1 : Nat) = 0 by decide)]
      have : (if j = i then w0 else 0) = if i = j then w0 else 0 := by
        by_cases ci : i = j
        · rw [if_pos ci, if_pos ci.symm]
        · rw [if_neg ci, if_neg (fun e => ci e.symm)]
      rw [this]
      congr 1
      apply fS_congr
      intro t ht
      have ht' : ¬ t = N := by omega
      simp only [if_neg ht']
    · simp (disch := omega) only [z_upr, z_ups, upz_s, upz_n]
    · intro x h1 h2 h3
      simp (disch := omega) only [z_upr]
theorem lastC (R : rwI l hc z 3 10 s f) (hz : z ≠ 100) (hz1 : z + 1 ≠ 100) : ∀ (c i fu : Nat) (h : am_F), i + c = s → c < fu → (∀ x, x ≠ 100 → h x = hc x) → Fi_find_l23 l r 100 p z y fu (nI i) h = some (am_up h 100 5 (lastR f y c i (h 100 5))) := by
  have hs := R.2.2.2.1
  intro c
  induction c with
  | zero =>
    intro i fu h hi hf e
    obtain ⟨fu, rfl⟩ : ∃ q, fu = q + 1 := ⟨fu - 1, by omega⟩
    unfold Fi_find_l23 lastR
    rw [e z hz, R.2.2.1, if_pos (nI_le (by omega) (by omega)), up_self rfl]
  | succ c ih =>
    intro i fu h hi hf e
    obtain ⟨fu, rfl⟩ : ∃ q, fu = q + 1 := ⟨fu - 1, by omega⟩
    have R' : rwI l h z 3 10 s f := rwI_fr R (e z hz) (e _ hz1)
    have e1 : Rw_get l r z (nI i) 1 h = some (f (3 * i + 1)) := Rw_get_at (c := 1) R' (by omega) (by decide)
    have e2 : Rw_get l r z (nI i) 2 h = some (f (3 * i + 2)) := Rw_get_at (c := 2) R' (by omega) (by decide)
    unfold Fi_find_l23 lastR
    rw [R'.2.2.1, if_neg (nI_ge (by omega) (by omega)), e1, Option.bind_some]
    by_cases c1 : f (3 * i + 1) = y
    · rw [if_pos c1, if_pos c1, e2, Option.bind_some, Option.bind_some, nI_1]
      have eg : (if h 100 5 < f (3 * i + 2) then f (3 * i + 2) else h 100 5) = Md_greater (h 100 5) (f (3 * i + 2)) := by
        unfold Md_greater
        by_cases c2 : h 100 5 < f (3 * i + 2)
        · rw [if_pos c2, if_pos (Int32.le_of_lt c2)]
        · rw [if_neg c2]
          split
          · rename_i c3
            exact Int32.le_antisymm c3 (Int32.not_lt.1 c2)
          · rfl
      rw [eg, ih (i + 1) fu _ (by omega) (by omega) (fun x hx => by rw [z_upr hx]; exact e x hx), z_ups, upz_s, up_up]
    · rw [if_neg c1, if_neg c1, Option.bind_some, nI_1]
      exact ih (i + 1) fu h (by omega) (by omega) e
end FITS
