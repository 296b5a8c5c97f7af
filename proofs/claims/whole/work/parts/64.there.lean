/-! hours that fit: counted, the first, the last -/
def thN (N : Nat) (H w : Nat → Nat) (t : Nat) : Nat := if fW N H w (t + 1) = 0 then 0 else 1
def thC (N : Nat) (H w : Nat → Nat) : Nat → Int32
  | 0 => 0
  | i + 1 => thC N H w i + (if thN N H w i = 0 then 0 else 1)
def thF (N : Nat) (H w : Nat → Nat) : Nat → Int32
  | 0 => -1
  | i + 1 => if thN N H w i = 0 then thF N H w i else if thF N H w i = -1 then nI i else thF N H w i
def thL (N : Nat) (H w : Nat → Nat) : Nat → Int32
  | 0 => -1
  | i + 1 => if thN N H w i = 0 then thL N H w i else nI i
section THERE
variable {l : List (Nat × Nat)} {r : am_R} {h h' hc hm hc0 hm0 : am_F} {d m k p b t s lim a q c i nb nc z j N : Nat} {n : Nat → Nat} {H w W fit : Nat → Nat} {f g g' : Nat → Int32} {x x1 x2 x3 x4 x5 x6 y u v sd : Int32}
theorem fW_le (I : fI hc N H w) (j : Nat) : fW N H w j ≤ 72 := by
  have h1 := fS_le (n := N) (f := fun t => if H t = j then w t else 0) (M := 9) (fun t ht => by
    show (if _ then _ else _) ≤ 9
    split
    · exact (I.2.2.2 t ht).2.2.2.2
    · omega)
  have h2 : fW N H w j ≤ N * 9 := h1
  have := I.2.1
  omega
theorem there_l (I : fI hc N H w) (ht : t < 48) : ∀ (c i fu : Nat), i + c = N → c < fu → (∀ k, k < i → H k ≠ t + 1) → Fi_isThere_l2 100 (nI t) hc fu (nI i) = some (nI (thN N H w t)) := by
  obtain ⟨i1, i2, i3, i4⟩ := I
  intro c
  induction c with
  | zero =>
    intro i fu hi hf e
    obtain ⟨fu, rfl⟩ : ∃ q, fu = q + 1 := ⟨fu - 1, by omega⟩
    have : i = N := by omega
    subst this
    unfold Fi_isThere_l2
    rw [i1, if_pos (nI_le (by omega) (by omega))]
    have : fW i H w (t + 1) = 0 := fS_0 (fun k hk => if_neg (e k hk))
    unfold thN
    rw [if_pos this]
    rfl
  | succ c ih =>
    intro i fu hi hf e
    obtain ⟨fu, rfl⟩ : ∃ q, fu = q + 1 := ⟨fu - 1, by omega⟩
    obtain ⟨j1, j2, j3, j4, j5⟩ := i4 i (by omega)
    unfold Fi_isThere_l2
    simp only [Nat.reduceAdd]
    rw [i1, if_neg (nI_ge (by omega) (by omega)), if_neg (show ¬ (8 : Int32) ≤ nI i from nI_ge (show i < 8 by omega) (by decide)), z_ix (show i < 8 by omega) (by decide), Option.bind_some, j1]
    by_cases c1 : H i = t + 1
    · rw [c1, oI_s, if_pos rfl]
      have h1 := fS_ge (f := fun k => if H k = t + 1 then w k else 0) (n := N) (i := i) (by omega)
      have h2 : w i ≤ fW N H w (t + 1) := by
        rw [if_pos c1] at h1
        exact h1
      unfold thN
      rw [if_neg (by omega)]
      rfl
    · rw [if_neg (fun e => c1 (oI_inj (by omega) (by omega) (by rw [e, oI_s]))), nI_1]
      refine ih (i + 1) fu (by omega) (by omega) ?_
      intro k hk
      by_cases ck : k = i
      · subst ck; exact c1
      · exact e k (by omega)
theorem there_eq (I : fI hc N H w) (ht : t < 48) : Fi_isThere 100 (nI t) hc = some (nI (thN N H w t)) :=
  there_l I ht N 0 g_fu (by omega) (by have := I.2.1; unfold g_fu; omega) (fun k hk => by omega)
theorem thN_0 (t : Nat) : (nI (thN N H w t) = 0) ↔ thN N H w t = 0 := z_eq0 (by unfold thN; split <;> omega)
theorem cnt_l (I : fI hc N H w) : ∀ (c i fu : Nat), i + c = 48 → c < fu → Fi_unlikeHours_l4 100 hc fu (thC N H w i) (nI i) = some (thC N H w 48) := by
  intro c
  induction c with
  | zero =>
    intro i fu hi hf
    obtain ⟨fu, rfl⟩ : ∃ q, fu = q + 1 := ⟨fu - 1, by omega⟩
    have : i = 48 := by omega
    subst this
    unfold Fi_unlikeHours_l4
    rw [if_pos (by decide)]
  | succ c ih =>
    intro i fu hi hf
    obtain ⟨fu, rfl⟩ : ∃ q, fu = q + 1 := ⟨fu - 1, by omega⟩
    unfold Fi_unlikeHours_l4
    rw [if_neg (show ¬ (48 : Int32) ≤ nI i from nI_ge (show i < 48 by omega) (by decide)), there_eq I (by omega), Option.bind_some, nI_1]
    have : (if nI (thN N H w i) = 0 then some (thC N H w i) else some (thC N H w i + 1) : Option Int32) = some (thC N H w (i + 1)) := by
      unfold thC
      by_cases c0 : thN N H w i = 0
      · rw [if_pos ((thN_0 i).2 c0), if_pos c0, Int32.add_zero]
        cases i <;> rfl
      · rw [if_neg (fun e => c0 ((thN_0 i).1 e)), if_neg c0]
        cases i <;> rfl
    rw [this, Option.bind_some]
    exact ih (i + 1) fu (by omega) (by omega)
theorem thF_keep : ∀ (c i : Nat), thF N H w i ≠ -1 → thF N H w (i + c) = thF N H w i := by
  intro c
  induction c with
  | zero => intro i _; rfl
  | succ c ih =>
    intro i hi
    have e := ih i hi
    show (if thN N H w (i + c) = 0 then thF N H w (i + c) else if thF N H w (i + c) = -1 then nI (i + c) else thF N H w (i + c)) = _
    rw [e]
    split
    · rfl
    · first | rfl | rw [if_neg hi]
theorem fst_l (I : fI hc N H w) : ∀ (c i fu : Nat), i + c = 48 → c < fu → thF N H w i = -1 → Fi_firstHour_l2 100 hc fu (nI i) = some (thF N H w 48) := by
  intro c
  induction c with
  | zero =>
    intro i fu hi hf e
    obtain ⟨fu, rfl⟩ : ∃ q, fu = q + 1 := ⟨fu - 1, by omega⟩
    have : i = 48 := by omega
    subst this
    unfold Fi_firstHour_l2
    rw [if_pos (by decide), e]
  | succ c ih =>
    intro i fu hi hf e
    obtain ⟨fu, rfl⟩ : ∃ q, fu = q + 1 := ⟨fu - 1, by omega⟩
    unfold Fi_firstHour_l2
    rw [if_neg (show ¬ (48 : Int32) ≤ nI i from nI_ge (show i < 48 by omega) (by decide)), there_eq I (by omega), Option.bind_some, nI_1]
    have es : thF N H w (i + 1) = if thN N H w i = 0 then thF N H w i else if thF N H w i = -1 then nI i else thF N H w i := rfl
    by_cases c0 : thN N H w i = 0
    · rw [if_pos ((thN_0 i).2 c0)]
      exact ih (i + 1) fu (by omega) (by omega) (by rw [es, if_pos c0]; exact e)
    · rw [if_neg (fun z => c0 ((thN_0 i).1 z))]
      rw [if_neg c0, if_pos e] at es
      have := thF_keep (N := N) (H := H) (w := w) c (i + 1) (by rw [es]; exact z_nem (by omega))
      rw [show i + 1 + c = 48 by omega, es] at this
      rw [this]
theorem lst_l (I : fI hc N H w) : ∀ (i fu : Nat), i ≤ 48 → i < fu → Fi_lastHour_l3 100 hc fu (oI i) = some (thL N H w i) := by
  intro i
  induction i with
  | zero =>
    intro fu _ hf
    obtain ⟨fu, rfl⟩ : ∃ q, fu = q + 1 := ⟨fu - 1, by omega⟩
    unfold Fi_lastHour_l3
    rw [oI_0, if_pos (by decide)]
    rfl
  | succ i ih =>
    intro fu h48 hf
    obtain ⟨fu, rfl⟩ : ∃ q, fu = q + 1 := ⟨fu - 1, by omega⟩
    unfold Fi_lastHour_l3
    rw [oI_s, if_neg (nI_pos (show i < 2 ^ 31 by omega)), there_eq I (by omega), Option.bind_some]
    have es : thL N H w (i + 1) = if thN N H w i = 0 then thL N H w i else nI i := rfl
    rw [es]
    by_cases c0 : thN N H w i = 0
    · rw [if_pos ((thN_0 i).2 c0), if_pos c0, show nI i + Int32.ofInt (-1) = oI i by unfold oI; rw [show Int32.ofInt (-1) = -1 by decide]; exact (Int32.sub_eq_add_neg ..).symm]
      exact ih fu (by omega) (by omega)
    · rw [if_neg (fun z => c0 ((thN_0 i).1 z)), if_neg c0]
theorem read_l (I : fI hc N H w) (eW : ∀ j, j < 49 → hm (m + 26) j = nI (fW N H w j)) : ∀ (c i fu : Nat), i + c = 48 → c < fu → Md_read_l76 m x4 hm fu (thC N H w i) (thF N H w i) (thL N H w i) (nI i) = some (thC N H w 48, thF N H w 48, thL N H w 48) := by
  intro c
  induction c with
  | zero =>
    intro i fu hi hf
    obtain ⟨fu, rfl⟩ : ∃ q, fu = q + 1 := ⟨fu - 1, by omega⟩
    have : i = 48 := by omega
    subst this
    unfold Md_read_l76
    rw [if_pos (by decide)]
  | succ c ih =>
    intro i fu hi hf
    obtain ⟨fu, rfl⟩ : ∃ q, fu = q + 1 := ⟨fu - 1, by omega⟩
    have hW := fW_le I (i + 1)
    have e9 : (if nI (fW N H w (i + 1)) ≤ 0 then some (0 : Int32) else some 1 : Option Int32) = some (if thN N H w i = 0 then 0 else 1) := by
      unfold thN
      by_cases c0 : fW N H w (i + 1) = 0
      · rw [if_pos ((z_le0 (by omega)).2 c0), if_pos c0, if_pos rfl]
      · rw [if_neg (fun e => c0 ((z_le0 (by omega)).1 e)), if_neg c0, if_neg (by decide)]
    unfold Md_read_l76
    rw [if_neg (show ¬ (48 : Int32) ≤ nI i from nI_ge (show i < 48 by omega) (by decide)), show g_ix ((1 : Int32) + nI i) 49 = some (i + 1) by rw [show (1 : Int32) = nI 1 from rfl, nI_add, z_ix (by omega) (by decide), Nat.add_comm], Option.bind_some, eW (i + 1) (by omega), e9, Option.bind_some, nI_1]
    have r := ih (i + 1) fu (by omega) (by omega)
    have s1 : thC N H w (i + 1) = thC N H w i + (if thN N H w i = 0 then 0 else 1) := rfl
    have s2 : thF N H w (i + 1) = if thN N H w i = 0 then thF N H w i else if thF N H w i = -1 then nI i else thF N H w i := rfl
    have s3 : thL N H w (i + 1) = if thN N H w i = 0 then thL N H w i else nI i := rfl
    rw [s1, s2, s3] at r
    by_cases c0 : thN N H w i = 0
    · simp only [if_pos c0] at r ⊢
      exact r
    · simp only [if_neg c0, if_neg (show ¬ (1 : Int32) = 0 by decide)] at r ⊢
      by_cases c1 : thF N H w i = -1
      · simp only [if_pos c1] at r ⊢
        exact r
      · simp only [if_neg c1] at r ⊢
        exact r
end THERE
