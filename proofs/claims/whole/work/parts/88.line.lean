/-! the end of a line: class and reference -/
def hdR (l : List (Nat × Nat)) (h : am_F) (a : Nat) : Prop := rwH l h (a + 8) 3 8 ∧ rwH l h (a + 10) 2 4 ∧ rwH l h (a + 12) 6 14 ∧ rwH l h (a + 14) 3 10 ∧ rwH l h (a + 16) 4 8 ∧ rwH l h (a + 18) 3 6
def chk (m : Nat) (M : Option (Int32 × am_F × am_J)) : Option ((Int32 × am_F) × am_J) := M.bind fun q6 => (if q6.1 = 0 then some (q6.1, q6.2.1) else if (q6.2.1 m 13) = (4 : Int32) then some (q6.1, q6.2.1) else (Md_fails m q6.2.1).bind fun q10 => some (q10.1, q10.2) : Option (Int32 × am_F)).bind fun q11 => some (q11, q6.2.2)
def rdF (hc hc' : am_F) (a : Nat) : Prop := ∀ x, x < a ∨ a + 21 ≤ x → hc' x = hc x
def mdF (hm hm' : am_F) (m : Nat) : Prop := ∀ x, x ≠ m → x ≠ m + 10 → x ≠ m + 11 → hm' x = hm x
/-- what a line comes to, for both -/
def LO (l : List (Nat × Nat)) (r : am_R) (a m tp L : Nat) (T : Nat → Nat) (D : am_F → am_F → Prop) (C : am_F → Prop) (hc0 hm0 : am_F) (f : Nat) (Cx : Option am_F) (Mx : Option (Int32 × am_F × am_J)) : Prop :=
  (∃ q, Mx = some q ∧ (q.1 = 0 ∨ q.1 = 1)) ∧
  ((∃ f' hc' hm' j', Cx = some hc' ∧ chk m Mx = some ((0, hm'), j') ∧ brR l r hc' hm' a m tp L T f' ∧ rdF hc0 hc' a ∧ mdF hm0 hm' m ∧ hdR l hc' a) ∨
  (∃ f' e' hc' hm' j', Cx = some hc' ∧ chk m Mx = some ((1, hm'), j') ∧ f < f' ∧ tpR l r hc' hm' a m tp L T ∧ tkR hc' hm' j' a m L T f' e' ∧ hm' m 13 = 4 ∧ ftR hc' hm' a m f' ∧ C hm' ∧ (hc' a 4 = 0 → D hc' hm') ∧ rdF hc0 hc' a ∧ mdF hm0 hm' m ∧ hdR l hc' a))
section LINE
variable {l : List (Nat × Nat)} {r : am_R} {hc hm hc0 hm0 : am_F} {a m tp L i d b0 f f0 e : Nat} {T vs : Nat → Nat} {j : am_J} {x2 : Int32} {D : am_F → am_F → Prop} {C : am_F → Prop} {K : am_F → am_J → Option (Int32 × am_F × am_J)}
theorem rwI_H {h : am_F} {w lim n : Nat} {f : Nat → Int32} (H : rwI l h a w lim n f) : rwH l h a w lim := ⟨n, H.1, H.2.1, H.2.2.1, H.2.2.2.1, H.2.2.2.2.1, H.2.2.2.2.2.1, H.2.2.2.2.2.2.1, fun _ _ => rfl⟩
theorem hd_fr {h h' : am_F} (H : hdR l h a) (e : ∀ x, a + 8 ≤ x → x < a + 20 → h' x = h x) : hdR l h' a := by
  obtain ⟨h1, h2, h3, h4, h5, h6⟩ := H
  exact ⟨rwH_fr h1 (e _ (by omega) (by omega)), rwH_fr h2 (e _ (by omega) (by omega)), rwH_fr h3 (e _ (by omega) (by omega)), rwH_fr h4 (e _ (by omega) (by omega)), rwH_fr h5 (e _ (by omega) (by omega)), rwH_fr h6 (e _ (by omega) (by omega))⟩
theorem LO_brk (H : tpR l r hc hm a m tp L T) (Kt : tkR hc hm j a m L T f e) (R : rdF hc0 hc a) (M : mdF hm0 hm m) (Hd : hdR l hc a) : LO l r a m tp L T D C hc0 hm0 f0 (some (am_up (am_up hc a 4 1) a 5 (nI f))) (some (0, am_up hm m 16 (nI f), j)) := by
  refine ⟨⟨_, rfl, .inl rfl⟩, .inl ⟨f, _, am_up hm m 16 (nI f), j, rfl, rfl, brk_at H Kt, ?_, ?_, ?_⟩⟩
  · intro x hx
    rw [z_upr (by omega), z_upr (by omega), R x hx]
  · intro x h1 h2 h3
    rw [z_upr h1, M x h1 h2 h3]
  · exact hd_fr Hd (fun x h1 h2 => by rw [z_upr (by omega), z_upr (by omega)])
theorem line_fin (ts : List tkI) (htp : tp < a) (ho : okA b0 ts i) (hn : i + ts.length + d ≤ 6) (H : tpR l r hc hm a m tp L T) (Kt : tkR hc hm j a m L T f e) (F : ftR hc hm a m f) (N : nmR hc hm a m d b0 i vs) (hf0 : f0 < f) (R : rdF hc0 hc a) (M : mdF hm0 hm m) (Hd : hdR l hc a)
    (hK : ∀ vs' hc' hm' j', nmR hc' hm' a m d b0 (i + ts.length) vs' → (∀ k, k < i → vs' k = vs k) → (∀ x, x ≠ a → x ≠ a + 20 → hc' x = hc x) → (∀ x, x ≠ m → x ≠ m + 11 → hm' x = hm x) → (hc' a 4 = 0 → hc a 4 = 0 ∧ rgA ts i vs') → (rgA ts i vs' → hm' m 22 = hm m 22) → (hm' m 22 ≠ 0 → rgA ts i vs') → (∀ B, B ≤ 6 → (∀ t, t ∈ ts → tC t = 98 → tBn t = true) → hc a 13 = fbI B → hm m 21 = fbI B → hc' a 4 = 0 → ∃ B', B ≤ B' ∧ B' ≤ 6 ∧ hc' a 13 = fbI B' ∧ hm' m 21 = fbI B' ∧ bnA B' ts i vs') → ∃ hm'', K hm' j' = some (1, hm'', j') ∧ (∀ x, x ≠ m + 10 → x ≠ m + 11 → hm'' x = hm' x) ∧ C hm'' ∧ (hc' a 4 = 0 → ∃ hc'', Rd_tell l r a x2 hc' = some hc'' ∧ (∀ x, x < a + 1 ∨ a + 20 ≤ x → hc'' x = hc' x) ∧ D hc'' hm'' ∧ (hdR l hc' a → hdR l hc'' a))) :
    LO l r a m tp L T D C hc0 hm0 f0 (tkC l r a x2 (ts.map tC) i hc) (mtC m d K ts i hm j) := by
  rcases chain_eq (l := l) (r := r) (d := d) (b0 := b0) (show tp ≠ a + 20 by omega) ts i f e vs hc hm j ho hn H Kt F N with ⟨f', hc', hm', j', w3, w4, w5, w8, w9⟩ | ⟨f2, e2, vs2, hc2, hm2, j2, w1, w2, w3, w4, w5, w6, w7, w8, w9, w10, w11, w12, w13, w14⟩
  · rw [w3, w4]
    refine ⟨⟨_, rfl, .inl rfl⟩, .inl ⟨f', hc', hm', j', rfl, rfl, w5, ?_, ?_, ?_⟩⟩
    · intro x hx
      rw [w8 x (by omega) (by omega), R x hx]
    · intro x h1 h2 h3
      rw [w9 x h1 h3, M x h1 h2 h3]
    · exact hd_fr Hd (fun x h1 h2 => w8 x (by omega) (by omega))
  · obtain ⟨hm3, k1, k2, k3, k4⟩ := hK vs2 hc2 hm2 j2 w7 w8 w9 w10 w11 w12 w13 w14
    rw [w2, w3, k1]
    have R2 : rdF hc0 hc2 a := fun x hx => by rw [w9 x (by omega) (by omega), R x hx]
    have M3 : mdF hm0 hm3 m := fun x h1 h2 h3 => by rw [k2 x h2 h3, w10 x h1 h3, M x h1 h2 h3]
    have Hd2 : hdR l hc2 a := hd_fr Hd (fun x h1 h2 => w9 x (by omega) (by omega))
    have em := k2 m (by omega) (by omega)
    have T3 : tpR l r hc2 hm3 a m tp L T := tp_fr w4 rfl rfl (k2 _ (by omega) (by omega)) (by rw [em])
    have K3 : tkR hc2 hm3 j2 a m L T f2 e2 := by
      unfold tkR
      rw [em]
      exact w5
    have F3 : ftR hc2 hm3 a m f2 := ft_fr w6 rfl rfl (by rw [em]) (by rw [em])
    unfold finC
    by_cases cs : hm2 m 13 = 4
    · have c10 : hc2 a 10 = 3 := by
        rcases w5.2.2.2.2.2.2 with ⟨q1, q2, _⟩ | ⟨q1, q2, _⟩ | ⟨q1, q2, _⟩ | ⟨q1, q2, _⟩ | ⟨q1, q2, _⟩
        · rw [cs] at q2; exact absurd q2 (by decide)
        · rw [cs] at q2; exact absurd q2 (by decide)
        · rw [cs] at q2; exact absurd q2 (by decide)
        · exact q1
        · rw [cs] at q2; exact absurd q2 (by decide)
      have ck : chk m (some (1, hm3, j2)) = some ((1, hm3), j2) := by
        unfold chk
        rw [Option.bind_some, if_neg (show ¬ (1 : Int32) = 0 by decide), if_pos (show hm3 m 13 = 4 by rw [em]; exact cs)]
        rfl
      rw [if_pos c10]
      by_cases c4 : hc2 a 4 = 0
      · obtain ⟨hc3, t1, t2, t3, t4⟩ := k4 c4
        have ea : hc3 a = hc2 a := t2 a (by omega)
        rw [if_pos c4, t1, Option.bind_some]
        refine ⟨⟨_, rfl, .inr rfl⟩, .inr ⟨f2, e2, hc3, hm3, j2, rfl, ck, by omega, ?_, ?_, by rw [em]; exact cs, ?_, k3, fun _ => t3, ?_, M3, t4 Hd2⟩⟩
        · exact tp_fr T3 (t2 _ (by omega)) (by rw [ea]) rfl rfl
        · unfold tkR
          rw [ea]
          exact K3
        · exact ft_fr F3 (by rw [ea]) (by rw [ea]) rfl rfl
        · intro x hx
          rw [t2 x (by omega), R2 x hx]
      · rw [if_neg c4]
        exact ⟨⟨_, rfl, .inr rfl⟩, .inr ⟨f2, e2, hc2, hm3, j2, rfl, ck, by omega, T3, K3, by rw [em]; exact cs, F3, k3, fun h => absurd h c4, R2, M3, Hd2⟩⟩
    · have c10 : ¬ hc2 a 10 = 3 := by
        rcases w5.2.2.2.2.2.2 with ⟨q1, q2, _⟩ | ⟨q1, q2, _⟩ | ⟨q1, q2, _⟩ | ⟨q1, q2, _⟩ | ⟨q1, q2, _⟩
        · rw [q1]; decide
        · rw [q1]; decide
        · rw [q1]; decide
        · exact absurd q2 cs
        · rw [q1]; decide
      rw [if_neg c10]
      have eb : (Rd_breakOff a hc2).bind (fun q15 => some q15) = some (am_up (am_up hc2 a 4 1) a 5 (nI f2)) := by
        unfold Rd_breakOff
        rw [Option.bind_some, z_ups, upz_n (by decide), w5.2.2.1]
      rw [eb]
      have ck : chk m (some (1, hm3, j2)) = some ((0, am_up hm3 m 16 (nI f2)), j2) := by
        unfold chk Md_fails
        rw [Option.bind_some, if_neg (show ¬ (1 : Int32) = 0 by decide), if_neg (show ¬ hm3 m 13 = 4 by rw [em]; exact cs)]
        show some (((0 : Int32), am_up hm3 m 16 (hm3 m 12)), j2) = _
        rw [K3.2.2.2.1]
      refine ⟨⟨_, rfl, .inr rfl⟩, .inl ⟨f2, _, _, _, rfl, ck, brk_at T3 K3, ?_, ?_, ?_⟩⟩
      · intro x hx
        rw [z_upr (by omega), z_upr (by omega), R2 x hx]
      · intro x h1 h2 h3
        rw [z_upr h1, M3 x h1 h2 h3]
      · exact hd_fr Hd2 (fun x h1 h2 => by rw [z_upr (by omega), z_upr (by omega)])
def gz (M : Option (Int32 × am_F × am_J)) : Option (Int32 × am_F × am_J) := M.bind fun q4 => (g_bz q4.1).bind fun z9 => some (z9, q4.2.1, q4.2.2)
theorem LO_gz {Cx : Option am_F} {Mx : Option (Int32 × am_F × am_J)} (h : LO l r a m tp L T D C hc0 hm0 f0 Cx Mx) : LO l r a m tp L T D C hc0 hm0 f0 Cx (gz Mx) := by
  obtain ⟨q, h1, h2⟩ := h.1
  have : gz Mx = Mx := by
    unfold gz g_bz
    rw [h1, Option.bind_some, if_pos h2]
    rfl
  rw [this]
  exact h
end LINE
