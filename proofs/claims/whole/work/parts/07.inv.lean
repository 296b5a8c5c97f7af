/-! what a run says of the state that it began in -/
section INV
variable {S : List Value} {L : am_L} {s : am_S} {R : Option Value × am_S}
theorem am_i1_s {k : Int32 → List Value → am_O} (h : am_i1 S k = some R) : ∃ x S', S = .int x :: S' ∧ k x S' = some R := by
  unfold am_i1 at h
  split at h
  · exact ⟨_, _, rfl, h⟩
  · cases h
theorem am_i2_s {k : Int32 → Int32 → List Value → am_O} (h : am_i2 S k = some R) : ∃ x y S', S = .int y :: .int x :: S' ∧ k x y S' = some R := by
  unfold am_i2 at h
  split at h
  · exact ⟨_, _, _, rfl, h⟩
  · cases h
theorem am_j1_s {k : Int64 → List Value → am_O} (h : am_j1 S k = some R) : ∃ x S', S = .long x :: S' ∧ k x S' = some R := by
  unfold am_j1 at h
  split at h
  · exact ⟨_, _, rfl, h⟩
  · cases h
theorem am_j2_s {k : Int64 → Int64 → List Value → am_O} (h : am_j2 S k = some R) : ∃ x y S', S = .long y :: .long x :: S' ∧ k x y S' = some R := by
  unfold am_j2 at h
  split at h
  · exact ⟨_, _, _, rfl, h⟩
  · cases h
theorem am_ji_s {k : Int64 → Int32 → List Value → am_O} (h : am_ji S k = some R) : ∃ x y S', S = .int y :: .long x :: S' ∧ k x y S' = some R := by
  unfold am_ji at h
  split at h
  · exact ⟨_, _, _, rfl, h⟩
  · cases h
theorem am_ai_s {k x : Nat → Int32 → List Value → am_O} (h : am_ai S k x = some R) : (∃ i j S', S = .int j :: .ref i :: S' ∧ k i j S' = some R) ∨ ∃ i j S', S = .int j :: .retAddr i :: S' ∧ x i j S' = some R := by
  unfold am_ai at h
  split at h
  · exact Or.inl ⟨_, _, _, rfl, h⟩
  · exact Or.inr ⟨_, _, _, rfl, h⟩
  · cases h
theorem am_aii_s {k : Nat → Int32 → Int32 → List Value → am_O} (h : am_aii S k = some R) : ∃ i j v S', S = .int v :: .int j :: .ref i :: S' ∧ k i j v S' = some R := by
  unfold am_aii at h
  split at h
  · exact ⟨_, _, _, _, rfl, h⟩
  · cases h
theorem am_aia_s {k : Nat → Int32 → Nat → List Value → am_O} (h : am_aia S k = some R) : ∃ i j v S', S = .ref v :: .int j :: .ref i :: S' ∧ k i j v S' = some R := by
  unfold am_aia at h
  split at h
  · exact ⟨_, _, _, _, rfl, h⟩
  · cases h
theorem am_a1_s {k x : Nat → List Value → am_O} {z : List Value → am_O} (h : am_a1 S k x z = some R) : (∃ i S', S = .ref i :: S' ∧ k i S' = some R) ∨ (∃ i S', S = .retAddr i :: S' ∧ x i S' = some R) ∨ ∃ S', S = .null :: S' ∧ z S' = some R := by
  unfold am_a1 at h
  split at h
  · exact Or.inl ⟨_, _, rfl, h⟩
  · exact Or.inr (Or.inl ⟨_, _, rfl, h⟩)
  · exact Or.inr (Or.inr ⟨_, rfl, h⟩)
  · cases h
theorem am_ldi_s {n : Nat} {k : Int32 → am_O} (h : am_ldi L n k = some R) : ∃ x, L[n]? = some (some (.int x)) ∧ k x = some R := by
  unfold am_ldi at h
  split at h
  · rename_i x e; exact ⟨x, e, h⟩
  · cases h
theorem am_ldj_s {n : Nat} {k : Int64 → am_O} (h : am_ldj L n k = some R) : ∃ x, L[n]? = some (some (.long x)) ∧ k x = some R := by
  unfold am_ldj at h
  split at h
  · rename_i x e; exact ⟨x, e, h⟩
  · cases h
theorem am_lda_s {n : Nat} {k : Value → am_O} (h : am_lda L n k = some R) : (∃ x, L[n]? = some (some (.ref x)) ∧ k (.ref x) = some R) ∨ (∃ x, L[n]? = some (some (.retAddr x)) ∧ k (.retAddr x) = some R) ∨ (L[n]? = some (some .null) ∧ k .null = some R) := by
  unfold am_lda at h
  split at h
  · rename_i x e; exact Or.inl ⟨x, e, h⟩
  · rename_i x e; exact Or.inr (Or.inl ⟨x, e, h⟩)
  · rename_i e; exact Or.inr (Or.inr ⟨e, h⟩)
  · cases h
theorem am_cond_s {b : Bool} {k : am_O} (h : (bif b then k else none) = some R) : b = true ∧ k = some R := by
  cases b
  · cases h
  · exact ⟨rfl, h⟩
theorem am_st_s {n : Nat} {v : Value} {k : am_L → am_O} (h : am_st L n v k = some R) : n < L.length ∧ am_nl L n = true ∧ k (L.set n (some v)) = some R := by
  obtain ⟨h1, h2⟩ := am_cond_s h
  simp only [Bool.and_eq_true, Nat.blt_eq] at h1
  exact ⟨h1.1, h1.2, h2⟩
theorem am_stj_s {n : Nat} {v : Int64} {k : am_L → am_O} (h : am_stj L n v k = some R) : n + 1 < L.length ∧ am_nl L n = true ∧ k ((L.set n (some (.long v))).set (n + 1) none) = some R := by
  obtain ⟨h1, h2⟩ := am_cond_s h
  simp only [Bool.and_eq_true, Nat.blt_eq] at h1
  exact ⟨h1.1, h1.2, h2⟩
theorem am_is_s {i t : Nat} {k : Nat → am_O} (h : am_is s i t k = some R) : ∃ n, s.1[i]? = some (t, n) ∧ k n = some R := by
  unfold am_is at h
  split at h
  · rename_i q e
    obtain ⟨h1, h2⟩ := am_cond_s h
    have h3 : q.1 = t := Nat.eq_of_beq_eq_true h1
    exact ⟨q.2, by rw [e, ← h3], h2⟩
  · cases h
theorem am_ix_s {j : Int32} {n : Nat} {k : am_O} (h : am_ix j n k = some R) : vp_in j n ∧ k = some R := by
  unfold am_ix at h
  split at h
  · cases h
  · rename_i q; exact ⟨q, h⟩
theorem am_ipi_s {k : Nat → Int32 → List Value → am_O} (h : am_ipi S k = some R) : ∃ i v S', S = .int v :: .ref i :: S' ∧ k i v S' = some R := by
  unfold am_ipi at h
  split at h
  · exact ⟨_, _, _, rfl, h⟩
  · cases h
theorem am_ipj_s {k : Nat → Int64 → List Value → am_O} (h : am_ipj S k = some R) : ∃ i v S', S = .long v :: .ref i :: S' ∧ k i v S' = some R := by
  unfold am_ipj at h
  split at h
  · exact ⟨_, _, _, rfl, h⟩
  · cases h
theorem am_ipr_s {k : Nat → Option Nat → List Value → am_O} (h : am_ipr S k = some R) : ∃ i v S', S = va_rf v :: .ref i :: S' ∧ k i v S' = some R := by
  unfold am_ipr at h
  split at h
  · exact ⟨_, some _, _, rfl, h⟩
  · exact ⟨_, none, _, rfl, h⟩
  · cases h
theorem am_dr_s {na : Nat} {k : Nat → List Value → am_O} (h : am_dr S na k = some R) : ∃ b rest, S = (S.take na) ++ .ref b :: rest ∧ S.drop na = .ref b :: rest ∧ na < S.length ∧ rest.length ≤ 4 ∧ k b rest = some R := by
  unfold am_dr at h
  split at h
  · rename_i b rest e
    obtain ⟨h1, h2⟩ := am_cond_s h
    refine ⟨b, rest, by rw [← e, List.take_append_drop], e, ?_, by simpa using h1, h2⟩
    have : 0 < (S.drop na).length := by rw [e]; simp
    simp at this
    omega
  · cases h
theorem am_rr_s {K : am_K} {pc : Nat} {r : am_O} (h : am_rr K pc L S r = some R) : ∃ v t, r = some (v, t) ∧ K (pc + 3) L (v.toList ++ S) t = some R := by
  unfold am_rr at h
  split at h
  · exact ⟨some _, _, rfl, h⟩
  · exact ⟨none, _, rfl, h⟩
  · cases h
theorem am_cats {l : List Value} (h : l.length ≤ 4) : (l.map fun v => v.category).sum ≤ 8 := by
  have key : ∀ l : List Value, (l.map fun v => v.category).sum ≤ 2 * l.length := by
    intro l
    induction l with
    | nil => simp
    | cons v l ih =>
      simp only [List.map_cons, List.sum_cons, List.length_cons]
      have : v.category ≤ 2 := by cases v <;> simp [Value.category]
      omega
  have := key l
  omega
theorem am_cats_tr {N0 : Nat} {ext : Nat → Nat} {l : List Value} (h : l.length ≤ 4) : ((l.map (am_tr N0 ext)).map fun v => v.category).sum ≤ 8 := am_cats (by simpa using h)
end INV
/-! sizes -/
def am_sz (y : List (Nat × Nat)) : Nat := (y.map fun q => q.2).sum
theorem am_sz_app (y z : List (Nat × Nat)) : am_sz (y ++ z) = am_sz y + am_sz z := by simp [am_sz]
theorem am_pre_len {y z : List (Nat × Nat)} (h : y <+: z) : y.length ≤ z.length ∧ am_sz y ≤ am_sz z := by
  obtain ⟨w, rfl⟩ := h
  exact ⟨by simp, by rw [am_sz_app]; omega⟩
