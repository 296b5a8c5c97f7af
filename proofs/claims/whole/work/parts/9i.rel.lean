/-! the whole relation of class and reference -/
def imR (l : List (Nat × Nat)) (r : am_R) (hc hm : am_F) (K : Nat) : Prop := ∀ k, k < 3 → k ≠ K → (r 44 k = none ∧ hm 132 k = 0) ∨ ∃ b n, r 44 k = some b ∧ ¬ hm 132 k = 0 ∧ 133 ≤ b ∧ b + 43 ≤ l.length ∧ tdW r b ∧ tdB l hc b hm 105 (k + 1) n ∧ tdF hc b hm 105 (k + 1) ∧ tdH l hc b
def imD (r : am_R) : Prop := ∀ k k' b b', k < 3 → k' < 3 → k ≠ k' → r 44 k = some b → r 44 k' = some b' → b + 43 ≤ b' ∨ b' + 43 ≤ b
def wR (l : List (Nat × Nat)) (r : am_R) (hc hm : am_F) (K : Nat) : Prop := Wp_K l r 0 ∧ Md_K l r 105 ∧ tdW r 1 ∧ (∃ n, tdB l hc 1 hm 105 0 n) ∧ tdF hc 1 hm 105 0 ∧ tdH l hc 1 ∧ hdR l hc 45 ∧ scH l hc ∧ imR l r hc hm K ∧ imD r ∧ 133 ≤ l.length
section REL
variable {l : List (Nat × Nat)} {r r' : am_R} {h h1 h2 hc hc' hm hm' : am_F} {K : Nat} {n : Nat → Nat} {j : am_J}
theorem scH_fr (S : scH l hc) (e : ∀ x, 66 ≤ x → x < 105 → hc' x = hc x) : scH l hc' := ⟨rwH_fr S.1 (e _ (by decide) (by decide)), rwH_fr S.2.1 (e _ (by decide) (by decide)), pkH_fr S.2.2 (e _ (by decide) (by decide)) (e _ (by decide) (by decide)) (e _ (by decide) (by decide))⟩
theorem wR_mk (H : wR l r hc hm K) (B : ∃ n, tdB l hc' 1 hm' 105 0 n) (F : tdF hc' 1 hm' 105 0) (TH : tdH l hc' 1) (Hd : hdR l hc' 45) (SH : scH l hc') (e1 : ∀ x, 133 ≤ x → hc' x = hc x) (E : ∀ k, k < 3 → plE hm hm' 105 (k + 1) (k + 1)) (e3 : hm' 132 = hm 132) : wR l r hc' hm' K := by
  obtain ⟨K1, K2, T, _, _, _, _, _, I, D, ll⟩ := H
  refine ⟨K1, K2, T, B, F, TH, Hd, SH, fun k hk hkK => ?_, D, ll⟩
  rcases I k hk hkK with ⟨i1, i2⟩ | ⟨b, n, i1, i2, i3, i4, i5, i6, i7, i8⟩
  · exact .inl ⟨i1, by rw [e3]; exact i2⟩
  · exact .inr ⟨b, n, i1, by rw [e3]; exact i2, i3, i4, i5, tdB_pl i6 (E k hk) (fun x g1 g2 => e1 x (by omega)), tdF_pl i7 (E k hk) (e1 _ (by omega)) (e1 _ (by omega)), tdH_fr i8 (fun x g1 g2 => e1 x (by omega))⟩
theorem wR_q (H : wR l r hc hm K) (e1 : ∀ x, x < 66 ∨ 133 ≤ x → hc' x = hc x) (SH : scH l hc') (e2 : ∀ x, 106 ≤ x → x < 115 → hm' x = hm x) (e3 : hm' 132 = hm 132) : wR l r hc' hm' K := by
  obtain ⟨K1, K2, T, ⟨n, B⟩, F, TH, Hd, _, I, D, ll⟩ := id H
  exact wR_mk H ⟨n, tdB_fr B (fun x g1 g2 => e1 x (by omega)) (fun x g1 g2 => e2 x (by omega) (by omega))⟩ (tdF_pl F (plE_id (fun x g1 g2 => e2 x (by omega) (by omega))) (e1 _ (by omega)) (e1 _ (by omega))) (tdH_fr TH (fun x g1 g2 => e1 x (by omega))) (hd_fr Hd (fun x g1 g2 => e1 x (by omega))) SH (fun x g => e1 x (by omega)) (fun k _ => plE_id (fun x g1 g2 => e2 x (by omega) (by omega))) e3
theorem wR_cg (H : wR l r hc hm K) (e1 : ∀ x, x < 105 ∨ 133 ≤ x → hc' x = hc x) (e2 : ∀ x, 105 ≤ x → x < 133 → hm' x = hm x) : wR l r hc' hm' K := by
  obtain ⟨K1, K2, T, ⟨n, B⟩, F, TH, Hd, SH, I, D, ll⟩ := id H
  exact wR_q H (fun x g => e1 x (by omega)) (scH_fr SH (fun x g1 g2 => e1 x (by omega))) (fun x g1 g2 => e2 x (by omega) (by omega)) (e2 _ (by omega) (by omega))
theorem wR_r (H : wR l r hc hm K) (kp : g_kp l r r') (e : ∀ x, x ≠ 45 → x ≠ 100 → r' x = r x) : wR l r' hc hm K := by
  obtain ⟨K1, K2, T, B, F, TH, Hd, SH, I, D, ll⟩ := H
  refine ⟨g_kp_Wp kp K1, g_kp_Md kp K2, ?_, B, F, TH, Hd, SH, fun k hk hkK => ?_, ?_, ll⟩
  · refine ⟨fun q hq => ?_, fun q hq => ?_⟩
    · rw [e _ (by omega) (by omega)]; exact T.1 q hq
    · rw [e _ (by omega) (by omega)]; exact T.2 q hq
  · rcases I k hk hkK with ⟨i1, i2⟩ | ⟨b, n, i1, i2, i3, i4, i5, i6, i7, i8⟩
    · exact .inl ⟨by rw [e _ (by omega) (by omega)]; exact i1, i2⟩
    · refine .inr ⟨b, n, by rw [e _ (by omega) (by omega)]; exact i1, i2, i3, i4, ⟨fun q hq => ?_, fun q hq => ?_⟩, i6, i7, i8⟩
      · rw [e _ (by omega) (by omega)]; exact i5.1 q hq
      · rw [e _ (by omega) (by omega)]; exact i5.2 q hq
  · intro k k' b b' hk hk' hkk e1 e2
    rw [e _ (by omega) (by omega)] at e1 e2
    exact D k k' b b' hk hk' hkk e1 e2
/-- a question that leaves the class as it is -/
theorem wR_A (H : wR l r h h K) (s : scM h h2 105) : wR l r h2 h2 K := by
  obtain ⟨K1, K2, T, B, F, TH, Hd, SH, I, D, ll⟩ := id H
  exact wR_q H (fun x g => s x (by omega)) (scH_fr SH (fun x g1 g2 => s x (by omega))) (fun x g1 g2 => s x (by omega)) (s _ (by omega))
/-- a question with drafts -/
theorem wR_B (H : wR l r h h K) (f : frS h h1) (SH : scH l h1) (s : scM h1 h2 105) : wR l r h2 h2 K :=
  wR_q H (fun x g => by rw [s x (by omega), f x (by omega)]) (scH_fr SH (fun x g1 g2 => s x (by omega))) (fun x g1 g2 => by rw [s x (by omega), f x (by omega)]) (by rw [s _ (by omega), f _ (by omega)])
theorem B_fr (B : tdB l h 1 h 105 0 n) (f : frS h h1) : tdB l h 1 h1 105 0 n := tdB_fr B (fun _ _ _ => rfl) (fun x g1 g2 => f x (by omega))
theorem st_wL (K1 : Wp_K l r 0) (K2 : Md_K l r 105) : wL l 105 := by
  have d1 := Wp_k3 K1
  have d2 := Tr_k2 (Wp_k4 K1)
  exact ⟨⟨g_lnE (Dy_k7 d1), g_lnE (Dy_k8 d1), g_lnE (Dy_k9 d1), g_lnE (Dy_k10 d1), g_lnE (Dy_k11 d1)⟩, ⟨g_lnE (Dy_k7 d2), g_lnE (Dy_k8 d2), g_lnE (Dy_k9 d2), g_lnE (Dy_k10 d2), g_lnE (Dy_k11 d2)⟩, g_lnE (Fi_k1 (Wp_k5 K1)), g_lnE (Md_k33 K2), g_lnE (Md_k34 K2)⟩
theorem st_rdL (K1 : Wp_K l r 0) : rdL l 45 := by
  have d := Wp_k2 K1
  have p := Rd_k0 d
  exact ⟨g_lnE (Pk_k4 p), g_lnE (Pk_k6 p), g_lnE (Pk_k7 p), g_lnE (Pk_k8 p), g_lnE (Pk_k9 p), g_lnE (Rd_k6 d)⟩
theorem st_mdL (K2 : Md_K l r 105) : mdL l 105 := ⟨g_lnE (Md_k6 K2), g_lnE (Md_k7 K2), g_lnE (Md_k8 K2), g_lnE (Md_k9 K2)⟩
theorem st_mdL2 (K2 : Md_K l r 105) : mdL2 l 105 := ⟨g_lnE (Md_k2 K2), g_lnE (Md_k3 K2), g_lnE (Md_k4 K2), g_lnE (Md_k5 K2)⟩
theorem rP_kp (K1 : Wp_K l r 0) (T : tdW r 1) (p : rP r r') : g_kp l r r' ∧ ∀ x, x ≠ 45 → x ≠ 100 → r' x = r x := by
  rcases p with rfl | ⟨q, hq, rfl⟩
  · exact ⟨g_kp_id, fun _ _ _ => rfl⟩
  · exact ⟨g_kp_park (Wp_k5 K1) (Tl_e5 (Wp_k0 K1) q _ (T.1 q hq)), fun x _ h2 => z_upr h2⟩
/-- one call of the law, of both -/
def stp (X : Nat × (Nat → Int32)) (c d : Nat) (As : List Value) (l : List (Nat × Nat)) (r : am_R) (h : am_F) (j : am_J) : Prop := ∃ v l' r' h1 h2 j1 j2, Call X c (.ref 0 :: As) (l, r, h, j) (some (.int v), (l', r', h1, j1)) ∧ Call X d (.ref 105 :: As) (l', r', h1, j1) (some (.int v), (l', r', h2, j2)) ∧ wR l' r' h2 h2 3 ∧ l'.length ≤ l.length + 43 ∧ am_sz l' ≤ am_sz l + 2000
end REL
