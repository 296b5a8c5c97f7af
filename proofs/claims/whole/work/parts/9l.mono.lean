/-! longer layouts -/
def kmE (l l' : List (Nat × Nat)) (r r' : am_R) : Prop := (∀ (x : Nat) (q : Nat × Nat), l[x]? = some q → l'[x]? = some q) ∧ ∀ (x : Nat) (q : Nat × Nat), l[x]? = some q → q.1 ≠ 15 → r' x = r x
section MONO
variable {l l' : List (Nat × Nat)} {r r' : am_R} {h hc hm : am_F} {a b m k N w lim c : Nat} {n : Nat → Nat} {f g : Nat → Int32}
theorem gln_a {T : List (Nat × Nat)} {i : Nat} (hi : i < l.length) : g_ln (l ++ T) i = g_ln l i := by
  unfold g_ln
  rw [List.getElem?_append_left hi]
theorem rwI_l (H : rwI l h a w lim c f) (e : g_ln l' (a + 1) = g_ln l (a + 1)) : rwI l' h a w lim c f := ⟨H.1, H.2.1, H.2.2.1, H.2.2.2.1, e.trans H.2.2.2.2.1, H.2.2.2.2.2.1, H.2.2.2.2.2.2.1, H.2.2.2.2.2.2.2⟩
theorem rwH_l (H : rwH l h a w lim) (e : g_ln l' (a + 1) = g_ln l (a + 1)) : rwH l' h a w lim := by
  obtain ⟨n, H⟩ := H
  exact ⟨n, rwI_l H e⟩
theorem pkI_l (H : pkI l h a g) (e : ∀ i, a ≤ i → i < a + 13 → g_ln l' i = g_ln l i) : pkI l' h a g := ⟨H.1, H.2.1, H.2.2.1, H.2.2.2.1, H.2.2.2.2.1, rwI_l H.2.2.2.2.2.1 (e _ (by omega) (by omega)), rwI_l H.2.2.2.2.2.2.1 (e _ (by omega) (by omega)), rwI_l H.2.2.2.2.2.2.2 (e _ (by omega) (by omega))⟩
theorem pkH_l (H : pkH l h a) (e : ∀ i, a ≤ i → i < a + 13 → g_ln l' i = g_ln l i) : pkH l' h a := ⟨rwH_l H.1 (e _ (by omega) (by omega)), rwH_l H.2.1 (e _ (by omega) (by omega)), rwH_l H.2.2 (e _ (by omega) (by omega))⟩
theorem tdB_l (B : tdB l hc b hm m k n) (e : ∀ i, b ≤ i → i < b + 43 → g_ln l' i = g_ln l i) : tdB l' hc b hm m k n := by
  obtain ⟨B0, B1, B2, B3, B4⟩ := B
  refine ⟨B0, fun q hq => ?_, fun q hq => ?_, fun q hq => ?_, fun q hq => ?_⟩
  · have := (B0 0 (by decide)).1
    obtain ⟨J, V, C⟩ := B1 q hq
    exact ⟨pkI_l J (fun i g1 g2 => e i (by omega) (by omega)), V, C⟩
  · have := (B0 1 (by decide)).1
    obtain ⟨c, c1, c2, J, V⟩ := B2 q hq
    exact ⟨c, c1, c2, rwI_l J (e _ (by omega) (by omega)), V⟩
  · have := (B0 2 (by decide)).1
    obtain ⟨c, c1, c2, J, V⟩ := B3 q hq
    exact ⟨c, c1, c2, rwI_l J (e _ (by omega) (by omega)), V⟩
  · have := (B0 3 (by decide)).1
    obtain ⟨c, c1, c2, J, V⟩ := B4 q hq
    exact ⟨c, c1, c2, rwI_l J (e _ (by omega) (by omega)), V⟩
theorem tdH_l (H : tdH l hc b) (e : ∀ i, b ≤ i → i < b + 43 → g_ln l' i = g_ln l i) : tdH l' hc b := by
  intro q hq
  obtain ⟨p1, p2, p3, p4⟩ := H q hq
  exact ⟨pkH_l p1 (fun i g1 g2 => e i (by omega) (by omega)), rwH_l p2 (e _ (by omega) (by omega)), rwH_l p3 (e _ (by omega) (by omega)), rwH_l p4 (e _ (by omega) (by omega))⟩
theorem hdR_l (H : hdR l hc a) (e : ∀ i, a ≤ i → i < a + 21 → g_ln l' i = g_ln l i) : hdR l' hc a := by
  obtain ⟨p1, p2, p3, p4, p5, p6⟩ := H
  exact ⟨rwH_l p1 (e _ (by omega) (by omega)), rwH_l p2 (e _ (by omega) (by omega)), rwH_l p3 (e _ (by omega) (by omega)), rwH_l p4 (e _ (by omega) (by omega)), rwH_l p5 (e _ (by omega) (by omega)), rwH_l p6 (e _ (by omega) (by omega))⟩
theorem scH_l (H : scH l hc) (e : ∀ i, 66 ≤ i → i < 105 → g_ln l' i = g_ln l i) : scH l' hc := ⟨rwH_l H.1 (e _ (by omega) (by omega)), rwH_l H.2.1 (e _ (by omega) (by omega)), pkH_l H.2.2 (fun i g1 g2 => e i (by omega) (by omega))⟩
theorem km_Rw (k : kmE l l' r r') (h : Rw_K l r a) : Rw_K l' r' a := by
  have er := k.2 _ _ h.1 (by decide)
  exact ⟨k.1 _ _ h.1, by rw [er]; exact h.2.1, g_lnk (k.1 _ _ h.2.2)⟩
theorem km_Pk (k : kmE l l' r r') (h : Pk_K l r a) : Pk_K l' r' a := by
  have er := k.2 _ _ h.1 (by decide)
  exact ⟨k.1 _ _ h.1, by rw [er]; exact h.2.1, k.1 _ _ h.2.2.1, by rw [er]; exact h.2.2.2.1, k.1 _ _ h.2.2.2.2.1, by rw [er]; exact h.2.2.2.2.2.1, k.1 _ _ h.2.2.2.2.2.2.1, by rw [er]; exact h.2.2.2.2.2.2.2.1, k.1 _ _ h.2.2.2.2.2.2.2.2.1, by rw [er]; exact h.2.2.2.2.2.2.2.2.2.1, k.1 _ _ h.2.2.2.2.2.2.2.2.2.2.1, by rw [er]; exact h.2.2.2.2.2.2.2.2.2.2.2.1, k.1 _ _ h.2.2.2.2.2.2.2.2.2.2.2.2.1, by rw [er]; exact h.2.2.2.2.2.2.2.2.2.2.2.2.2.1, km_Rw k h.2.2.2.2.2.2.2.2.2.2.2.2.2.2.1, by rw [er]; exact h.2.2.2.2.2.2.2.2.2.2.2.2.2.2.2.1, km_Rw k h.2.2.2.2.2.2.2.2.2.2.2.2.2.2.2.2.1, by rw [er]; exact h.2.2.2.2.2.2.2.2.2.2.2.2.2.2.2.2.2.1, km_Rw k h.2.2.2.2.2.2.2.2.2.2.2.2.2.2.2.2.2.2⟩
theorem km_Dy (k : kmE l l' r r') (h : Dy_K l r a) : Dy_K l' r' a := by
  have er := k.2 _ _ h.1 (by decide)
  exact ⟨k.1 _ _ h.1, by rw [er]; exact h.2.1, km_Rw k h.2.2.1, by rw [er]; exact h.2.2.2.1, k.1 _ _ h.2.2.2.2.1, by rw [er]; exact h.2.2.2.2.2.1, k.1 _ _ h.2.2.2.2.2.2.1, by rw [er]; exact h.2.2.2.2.2.2.2.1, k.1 _ _ h.2.2.2.2.2.2.2.2.1, by rw [er]; exact h.2.2.2.2.2.2.2.2.2.1, k.1 _ _ h.2.2.2.2.2.2.2.2.2.2.1, by rw [er]; exact h.2.2.2.2.2.2.2.2.2.2.2.1, k.1 _ _ h.2.2.2.2.2.2.2.2.2.2.2.2.1, by rw [er]; exact h.2.2.2.2.2.2.2.2.2.2.2.2.2.1, k.1 _ _ h.2.2.2.2.2.2.2.2.2.2.2.2.2.2.1, by rw [er]; exact h.2.2.2.2.2.2.2.2.2.2.2.2.2.2.2.1, k.1 _ _ h.2.2.2.2.2.2.2.2.2.2.2.2.2.2.2.2⟩
theorem km_Fi (k : kmE l l' r r') (h : Fi_K l r a) : Fi_K l' r' a := by
  have er := k.2 _ _ h.1 (by decide)
  exact ⟨k.1 _ _ h.1, by rw [er]; exact h.2.1, k.1 _ _ h.2.2.1, by rw [er]; exact h.2.2.2.1, k.1 _ _ h.2.2.2.2.1, by rw [er]; exact h.2.2.2.2.2.1, k.1 _ _ h.2.2.2.2.2.2.1, fun p e => km_Pk k (h.2.2.2.2.2.2.2 p (by rw [← er]; exact e))⟩
theorem km_Pa (k : kmE l l' r r') (h : Pa_K l r a) : Pa_K l' r' a := by
  exact k.1 _ _ h
theorem km_Tl (k : kmE l l' r r') (h : Tl_K l r a) : Tl_K l' r' a := by
  have er := k.2 _ _ h.1 (by decide)
  exact ⟨k.1 _ _ h.1, by rw [er]; exact h.2.1, k.1 _ _ h.2.2.1, by rw [er]; exact h.2.2.2.1, k.1 _ _ h.2.2.2.2.1, by rw [er]; exact h.2.2.2.2.2.1, k.1 _ _ h.2.2.2.2.2.2.1, fun i p e => km_Pk k (h.2.2.2.2.2.2.2.1 i p (by rw [← k.2 _ _ h.2.2.2.2.2.2.1 (by decide)]; exact e)), by rw [er]; exact h.2.2.2.2.2.2.2.2.1, k.1 _ _ h.2.2.2.2.2.2.2.2.2.1, fun i p e => km_Rw k (h.2.2.2.2.2.2.2.2.2.2 i p (by rw [← k.2 _ _ h.2.2.2.2.2.2.2.2.2.1 (by decide)]; exact e))⟩
theorem km_Rd (k : kmE l l' r r') (h : Rd_K l r a) : Rd_K l' r' a := by
  have er := k.2 _ _ h.1 (by decide)
  exact ⟨k.1 _ _ h.1, by rw [er]; exact h.2.1, km_Pk k h.2.2.1, by rw [er]; exact h.2.2.2.1, km_Rw k h.2.2.2.2.1, by rw [er]; exact h.2.2.2.2.2.1, km_Rw k h.2.2.2.2.2.2.1, by rw [er]; exact h.2.2.2.2.2.2.2.1, km_Rw k h.2.2.2.2.2.2.2.2.1, by rw [er]; exact h.2.2.2.2.2.2.2.2.2.1, k.1 _ _ h.2.2.2.2.2.2.2.2.2.2.1, fun p e => g_lnk (k.1 _ _ (h.2.2.2.2.2.2.2.2.2.2.2 p (by rw [← er]; exact e)))⟩
theorem km_Tr (k : kmE l l' r r') (h : Tr_K l r a) : Tr_K l' r' a := by
  have er := k.2 _ _ h.1 (by decide)
  exact ⟨k.1 _ _ h.1, by rw [er]; exact h.2.1, km_Dy k h.2.2.1, by rw [er]; exact h.2.2.2.1, km_Pk k h.2.2.2.2⟩
theorem km_Wp (k : kmE l l' r r') (im : ∀ i p, r' (a + 44) i = some p → Tl_K l' r' p) (h : Wp_K l r a) : Wp_K l' r' a := by
  have er := k.2 _ _ h.1 (by decide)
  exact ⟨k.1 _ _ h.1, by rw [er]; exact h.2.1, km_Tl k h.2.2.1, by rw [er]; exact h.2.2.2.1, k.1 _ _ h.2.2.2.2.1, im, by rw [er]; exact h.2.2.2.2.2.2.1, km_Rd k h.2.2.2.2.2.2.2.1, by rw [er]; exact h.2.2.2.2.2.2.2.2.1, km_Dy k h.2.2.2.2.2.2.2.2.2.1, by rw [er]; exact h.2.2.2.2.2.2.2.2.2.2.1, km_Tr k h.2.2.2.2.2.2.2.2.2.2.2.1, by rw [er]; exact h.2.2.2.2.2.2.2.2.2.2.2.2.1, km_Fi k h.2.2.2.2.2.2.2.2.2.2.2.2.2.1, by rw [er]; exact h.2.2.2.2.2.2.2.2.2.2.2.2.2.2.1, km_Pa k h.2.2.2.2.2.2.2.2.2.2.2.2.2.2.2⟩
theorem km_Md (k : kmE l l' r r') (h : Md_K l r a) : Md_K l' r' a := by
  have er := k.2 _ _ h.1 (by decide)
  exact ⟨k.1 _ _ h.1, by rw [er]; exact h.2.1, k.1 _ _ h.2.2.1, by rw [er]; exact h.2.2.2.1, k.1 _ _ h.2.2.2.2.1, by rw [er]; exact h.2.2.2.2.2.1, k.1 _ _ h.2.2.2.2.2.2.1, by rw [er]; exact h.2.2.2.2.2.2.2.1, k.1 _ _ h.2.2.2.2.2.2.2.2.1, by rw [er]; exact h.2.2.2.2.2.2.2.2.2.1, k.1 _ _ h.2.2.2.2.2.2.2.2.2.2.1, by rw [er]; exact h.2.2.2.2.2.2.2.2.2.2.2.1, k.1 _ _ h.2.2.2.2.2.2.2.2.2.2.2.2.1, by rw [er]; exact h.2.2.2.2.2.2.2.2.2.2.2.2.2.1, k.1 _ _ h.2.2.2.2.2.2.2.2.2.2.2.2.2.2.1, by rw [er]; exact h.2.2.2.2.2.2.2.2.2.2.2.2.2.2.2.1, k.1 _ _ h.2.2.2.2.2.2.2.2.2.2.2.2.2.2.2.2.1, by rw [er]; exact h.2.2.2.2.2.2.2.2.2.2.2.2.2.2.2.2.2.1, k.1 _ _ h.2.2.2.2.2.2.2.2.2.2.2.2.2.2.2.2.2.2.1, by rw [er]; exact h.2.2.2.2.2.2.2.2.2.2.2.2.2.2.2.2.2.2.2.1, k.1 _ _ h.2.2.2.2.2.2.2.2.2.2.2.2.2.2.2.2.2.2.2.2.1, by rw [er]; exact h.2.2.2.2.2.2.2.2.2.2.2.2.2.2.2.2.2.2.2.2.2.1, k.1 _ _ h.2.2.2.2.2.2.2.2.2.2.2.2.2.2.2.2.2.2.2.2.2.2.1, by rw [er]; exact h.2.2.2.2.2.2.2.2.2.2.2.2.2.2.2.2.2.2.2.2.2.2.2.1, k.1 _ _ h.2.2.2.2.2.2.2.2.2.2.2.2.2.2.2.2.2.2.2.2.2.2.2.2.1, by rw [er]; exact h.2.2.2.2.2.2.2.2.2.2.2.2.2.2.2.2.2.2.2.2.2.2.2.2.2.1, k.1 _ _ h.2.2.2.2.2.2.2.2.2.2.2.2.2.2.2.2.2.2.2.2.2.2.2.2.2.2.1, by rw [er]; exact h.2.2.2.2.2.2.2.2.2.2.2.2.2.2.2.2.2.2.2.2.2.2.2.2.2.2.2.1, k.1 _ _ h.2.2.2.2.2.2.2.2.2.2.2.2.2.2.2.2.2.2.2.2.2.2.2.2.2.2.2.2.1, by rw [er]; exact h.2.2.2.2.2.2.2.2.2.2.2.2.2.2.2.2.2.2.2.2.2.2.2.2.2.2.2.2.2.1, k.1 _ _ h.2.2.2.2.2.2.2.2.2.2.2.2.2.2.2.2.2.2.2.2.2.2.2.2.2.2.2.2.2.2.1, by rw [er]; exact h.2.2.2.2.2.2.2.2.2.2.2.2.2.2.2.2.2.2.2.2.2.2.2.2.2.2.2.2.2.2.2.1, k.1 _ _ h.2.2.2.2.2.2.2.2.2.2.2.2.2.2.2.2.2.2.2.2.2.2.2.2.2.2.2.2.2.2.2.2.1, by rw [er]; exact h.2.2.2.2.2.2.2.2.2.2.2.2.2.2.2.2.2.2.2.2.2.2.2.2.2.2.2.2.2.2.2.2.2.1, k.1 _ _ h.2.2.2.2.2.2.2.2.2.2.2.2.2.2.2.2.2.2.2.2.2.2.2.2.2.2.2.2.2.2.2.2.2.2.1, by rw [er]; exact h.2.2.2.2.2.2.2.2.2.2.2.2.2.2.2.2.2.2.2.2.2.2.2.2.2.2.2.2.2.2.2.2.2.2.2.1, k.1 _ _ h.2.2.2.2.2.2.2.2.2.2.2.2.2.2.2.2.2.2.2.2.2.2.2.2.2.2.2.2.2.2.2.2.2.2.2.2.1, by rw [er]; exact h.2.2.2.2.2.2.2.2.2.2.2.2.2.2.2.2.2.2.2.2.2.2.2.2.2.2.2.2.2.2.2.2.2.2.2.2.2.1, k.1 _ _ h.2.2.2.2.2.2.2.2.2.2.2.2.2.2.2.2.2.2.2.2.2.2.2.2.2.2.2.2.2.2.2.2.2.2.2.2.2.2.1, by rw [er]; exact h.2.2.2.2.2.2.2.2.2.2.2.2.2.2.2.2.2.2.2.2.2.2.2.2.2.2.2.2.2.2.2.2.2.2.2.2.2.2.2.1, k.1 _ _ h.2.2.2.2.2.2.2.2.2.2.2.2.2.2.2.2.2.2.2.2.2.2.2.2.2.2.2.2.2.2.2.2.2.2.2.2.2.2.2.2.1, by rw [er]; exact h.2.2.2.2.2.2.2.2.2.2.2.2.2.2.2.2.2.2.2.2.2.2.2.2.2.2.2.2.2.2.2.2.2.2.2.2.2.2.2.2.2.1, k.1 _ _ h.2.2.2.2.2.2.2.2.2.2.2.2.2.2.2.2.2.2.2.2.2.2.2.2.2.2.2.2.2.2.2.2.2.2.2.2.2.2.2.2.2.2.1, by rw [er]; exact h.2.2.2.2.2.2.2.2.2.2.2.2.2.2.2.2.2.2.2.2.2.2.2.2.2.2.2.2.2.2.2.2.2.2.2.2.2.2.2.2.2.2.2.1, k.1 _ _ h.2.2.2.2.2.2.2.2.2.2.2.2.2.2.2.2.2.2.2.2.2.2.2.2.2.2.2.2.2.2.2.2.2.2.2.2.2.2.2.2.2.2.2.2.1, by rw [er]; exact h.2.2.2.2.2.2.2.2.2.2.2.2.2.2.2.2.2.2.2.2.2.2.2.2.2.2.2.2.2.2.2.2.2.2.2.2.2.2.2.2.2.2.2.2.2.1, k.1 _ _ h.2.2.2.2.2.2.2.2.2.2.2.2.2.2.2.2.2.2.2.2.2.2.2.2.2.2.2.2.2.2.2.2.2.2.2.2.2.2.2.2.2.2.2.2.2.2.1, by rw [er]; exact h.2.2.2.2.2.2.2.2.2.2.2.2.2.2.2.2.2.2.2.2.2.2.2.2.2.2.2.2.2.2.2.2.2.2.2.2.2.2.2.2.2.2.2.2.2.2.2.1, k.1 _ _ h.2.2.2.2.2.2.2.2.2.2.2.2.2.2.2.2.2.2.2.2.2.2.2.2.2.2.2.2.2.2.2.2.2.2.2.2.2.2.2.2.2.2.2.2.2.2.2.2.1, by rw [er]; exact h.2.2.2.2.2.2.2.2.2.2.2.2.2.2.2.2.2.2.2.2.2.2.2.2.2.2.2.2.2.2.2.2.2.2.2.2.2.2.2.2.2.2.2.2.2.2.2.2.2.1, k.1 _ _ h.2.2.2.2.2.2.2.2.2.2.2.2.2.2.2.2.2.2.2.2.2.2.2.2.2.2.2.2.2.2.2.2.2.2.2.2.2.2.2.2.2.2.2.2.2.2.2.2.2.2.1, by rw [er]; exact h.2.2.2.2.2.2.2.2.2.2.2.2.2.2.2.2.2.2.2.2.2.2.2.2.2.2.2.2.2.2.2.2.2.2.2.2.2.2.2.2.2.2.2.2.2.2.2.2.2.2.2.1, k.1 _ _ h.2.2.2.2.2.2.2.2.2.2.2.2.2.2.2.2.2.2.2.2.2.2.2.2.2.2.2.2.2.2.2.2.2.2.2.2.2.2.2.2.2.2.2.2.2.2.2.2.2.2.2.2.1, by rw [er]; exact h.2.2.2.2.2.2.2.2.2.2.2.2.2.2.2.2.2.2.2.2.2.2.2.2.2.2.2.2.2.2.2.2.2.2.2.2.2.2.2.2.2.2.2.2.2.2.2.2.2.2.2.2.2.1, k.1 _ _ h.2.2.2.2.2.2.2.2.2.2.2.2.2.2.2.2.2.2.2.2.2.2.2.2.2.2.2.2.2.2.2.2.2.2.2.2.2.2.2.2.2.2.2.2.2.2.2.2.2.2.2.2.2.2⟩
end MONO
