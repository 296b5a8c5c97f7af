/-! image, as a call -/
section IMAGE2
variable {X : Nat × (Nat → Int32)} {m pc len : Nat} {L : am_L} {S : List Value} {R : Option Value × am_S} {l : List (Nat × Nat)} {r : am_R} {h hc hm : am_F} {j : am_J} {x1 : Int32} {b k : Nat}
theorem g_brT {i : Instr} {a : List Nat} {c : Prop} [Decidable c] {p1 p2 : Nat} {L1 L2 : am_L} {S1 S2 : List Value} {s s1 s2 : am_S} (hc : am_code m pc = some (i, len, a)) (hi : ∀ (call : Nat → List Value → am_S → am_O) (K : am_K), am_ins am_str X call K pc i a L S s = if c then K p1 L1 S1 s1 else K p2 L2 S2 s2) (hq : c) (k : Ev X m p1 L1 S1 s1 R) : Ev X m pc L S s R :=
  ev_go (P := True) hc (fun call K => by rw [hi, if_pos hq]) (fun _ => k) trivial
theorem g_brF {i : Instr} {a : List Nat} {c : Prop} [Decidable c] {p1 p2 : Nat} {L1 L2 : am_L} {S1 S2 : List Value} {s s1 s2 : am_S} (hc : am_code m pc = some (i, len, a)) (hi : ∀ (call : Nat → List Value → am_S → am_O) (K : am_K), am_ins am_str X call K pc i a L S s = if c then K p1 L1 S1 s1 else K p2 L2 S2 s2) (hq : ¬ c) (k : Ev X m p2 L2 S2 s2 R) : Ev X m pc L S s R :=
  ev_go (P := True) hc (fun call K => by rw [hi, if_neg hq]) (fun _ => k) trivial
theorem im_no (hx : x1 < 0 ∨ 3 ≤ x1) : Call X 138 [.ref 0, .int x1] (l, r, h, j) (some (.int 0), (l, r, h, j)) := by
  refine ⟨Nat.le_of_ble_eq_true rfl, ?_⟩
  show Ev X 138 0 [some (.ref 0), some (.int x1), none] [] (l, r, h, j) _
  refine g_run 1 1 [some (.ref 0), some (.int x1), none] [.int x1] (fun _ => rfl) ?_
  by_cases c : x1 < 0
  · refine g_brT (p1 := 9) (L1 := [some (.ref 0), some (.int x1), none]) (S1 := []) (s1 := (l, r, h, j)) (p2 := 4) (L2 := [some (.ref 0), some (.int x1), none]) (S2 := []) (s2 := (l, r, h, j)) rfl (fun _ _ => rfl) c ?_
    refine g_run 1 10 [some (.ref 0), some (.int x1), none] [.int (0 : Int32)] (fun _ => rfl) ?_
    exact g_retZ rfl (y := (0 : Int32)) rfl rfl
  · refine g_brF (p1 := 9) (L1 := [some (.ref 0), some (.int x1), none]) (S1 := []) (s1 := (l, r, h, j)) (p2 := 4) (L2 := [some (.ref 0), some (.int x1), none]) (S2 := []) (s2 := (l, r, h, j)) rfl (fun _ _ => rfl) c ?_
    refine g_run 2 6 [some (.ref 0), some (.int x1), none] [.int (3 : Int32), .int x1] (fun _ => rfl) ?_
    have c2 : ¬ x1 < 3 := by
      rcases hx with hx | hx
      · exact absurd hx c
      · exact Int32.not_lt.2 hx
    refine g_brF (p1 := 11) (L1 := [some (.ref 0), some (.int x1), none]) (S1 := []) (s1 := (l, r, h, j)) (p2 := 9) (L2 := [some (.ref 0), some (.int x1), none]) (S2 := []) (s2 := (l, r, h, j)) rfl (fun _ _ => rfl) c2 ?_
    refine g_run 1 10 [some (.ref 0), some (.int x1), none] [.int (0 : Int32)] (fun _ => rfl) ?_
    exact g_retZ rfl (y := (0 : Int32)) rfl rfl
/-- up to the place's reference -/
theorem im_in (K1 : Wp_K l r 0) (hk : k < 3) (kk : Ev X 138 19 [some (.ref 0), some (.int (nI k)), some (va_rf (r (0 + 44) k))] [va_rf (r (0 + 44) k)] (l, r, h, j) R) : Ev X 138 0 [some (.ref 0), some (.int (nI k)), none] [] (l, r, h, j) R := by
  refine g_run 1 1 [some (.ref 0), some (.int (nI k)), none] [.int (nI k)] (fun _ => rfl) ?_
  refine g_brF (p1 := 9) (L1 := [some (.ref 0), some (.int (nI k)), none]) (S1 := []) (s1 := (l, r, h, j)) (p2 := 4) (L2 := [some (.ref 0), some (.int (nI k)), none]) (S2 := []) (s2 := (l, r, h, j)) rfl (fun _ _ => rfl) (nI_pos (by omega)) ?_
  refine g_run 2 6 [some (.ref 0), some (.int (nI k)), none] [.int (3 : Int32), .int (nI k)] (fun _ => rfl) ?_
  refine g_brT (p1 := 11) (L1 := [some (.ref 0), some (.int (nI k)), none]) (S1 := []) (s1 := (l, r, h, j)) (p2 := 9) (L2 := [some (.ref 0), some (.int (nI k)), none]) (S2 := []) (s2 := (l, r, h, j)) rfl (fun _ _ => rfl) (show nI k < 3 from nI_lt hk (by decide)) ?_
  refine g_run 1 12 [some (.ref 0), some (.int (nI k)), none] [.ref 0] (fun _ => rfl) ?_
  refine g_getA 15 rfl rfl (Wp_l K1) (Wp_r1 K1) ?_
  refine g_run 1 16 [some (.ref 0), some (.int (nI k)), none] [.int (nI k), .ref (0 + 44)] (fun _ => rfl) ?_
  refine g_aald 17 rfl rfl (Wp_k1 K1) rfl (z_ix hk (by decide)) ?_
  refine g_run 1 18 [some (.ref 0), some (.int (nI k)), some (va_rf (r (0 + 44) k))] [] (fun _ => by generalize (r (0 + 44) k) = o90; cases o90 <;> rfl) ?_
  refine g_run 1 19 [some (.ref 0), some (.int (nI k)), some (va_rf (r (0 + 44) k))] [va_rf (r (0 + 44) k)] (fun _ => by generalize (r (0 + 44) k) = o90; cases o90 <;> rfl) ?_
  exact kk
/-- from the copying on -/
theorem im_out (K1 : Wp_K l r 0) (kb : Tl_K l r b) {hc' : am_F} (e : Tl_copyFrom l r b 1 hc = some hc') : Ev X 138 37 [some (.ref 0), some (.int (nI k)), some (.ref b)] [] (l, r, hc, j) (some (.int 1), (l, r, hc', j)) := by
  refine g_run 2 39 [some (.ref 0), some (.int (nI k)), some (.ref b)] [.ref 0, .ref b] (fun _ => rfl) ?_
  refine g_getA 42 rfl rfl (Wp_l K1) (Wp_r0 K1) ?_
  refine g_cVv 45 rfl rfl rfl rfl rfl (Tl_l kb) (Tl_copyFrom_s kb (Wp_k0 K1) e) ?_
  refine g_run 1 46 [some (.ref 0), some (.int (nI k)), some (.ref b)] [.int (1 : Int32)] (fun _ => rfl) ?_
  exact g_retZ rfl (y := (1 : Int32)) rfl rfl
theorem s_image (H : wR l r h h 3) : stp X 138 269 [.int x1] l r h j := by
  obtain ⟨K1, K2, T, ⟨n, B⟩, F, TH, Hd, SH, I, D, ll⟩ := id H
  have bad : (x1 < 0 ∨ 3 ≤ x1) → stp X 138 269 [.int x1] l r h j := by
    intro hx
    have hin : Md_image l r 105 x1 h = some (0, am_up h 105 0 0) := by
      unfold Md_image
      rw [Md_in_no (hx.elim .inl (fun c => .inr (Int32.lt_of_lt_of_le (show (2 : Int32) < 3 by decide) c))), if_pos rfl]
    exact ⟨0, l, r, h, am_up h 105 0 0, j, j, im_no hx, Md_image_s K2 hin, wR_cg (wR_0 H) (fun x g => z_upr (by omega)) (fun _ _ _ => rfl), by omega, by omega⟩
  rcases pk_ix x1 (n := 3) (by decide) with c | c | ⟨k, hk, rfl⟩
  · exact bad (.inl c)
  · exact bad (.inr c)
  rcases I k hk (by omega) with ⟨i1, i2⟩ | ⟨b, n', i1, i2, i3, i4, i5, i6, i7, i8⟩
  · obtain ⟨r1, h1, j1, c1, f, tk, tw, th⟩ := Tl_init2 (X := X) (l := l ++ [(6, 7)]) (r := am_nw r l.length none) (h := am_nw h l.length 0) (j := am_nw j l.length 0) (a := l.length) (lkln (N := l.length) (k := 1) rfl rfl rfl) (lkT (N := l.length) (i := 0) rfl rfl rfl) nw_s nw_s
    obtain ⟨w, tk2, tw2, e44, hlen⟩ := im_new H hk i1 f tk tw th
    obtain ⟨hc', a1, a2, a3⟩ := im_copy w hk e44 ll (by omega) tw2 th
    have eh : ∀ x, x < l.length → h1 x = h x := fun x hx => by rw [(f x (.inl hx)).2, nw_o (by omega)]
    obtain ⟨hm', b1, b2, b3⟩ := a3 hc' (fun x g1 g2 => by rw [a2 x g1 g2, eh x (by omega)])
    have K1' := w.1
    refine ⟨1, _, am_up r1 44 k (some l.length), hc', hm', j1, j1, ⟨Nat.le_of_ble_eq_true rfl, ?_⟩, Md_image_s w.2.1 b1, wR_cg b2 b3 (fun _ _ _ => rfl), by omega, ?_⟩
    · show Ev X 138 0 [some (.ref 0), some (.int (nI k)), none] [] (l, r, h, j) _
      refine im_in K1 hk ?_
      have i1' : r (0 + 44) k = none := i1
      rw [i1']
      refine g_run 1 22 [some (.ref 0), some (.int (nI k)), some (.null)] [] (fun _ => rfl) ?_
      rw [show (l, r, h, j) = (l ++ [], r, h, j) by rw [List.append_nil]]
      refine g_new (N := l.length) (T' := [(6, 7)]) 25 rfl rfl (by rw [List.append_nil]) rfl ?_
      refine g_run 1 26 [some (.ref 0), some (.int (nI k)), some (.null)] [.ref l.length, .ref l.length] (fun _ => rfl) ?_
      refine g_cK (s2 := (l ++ [(6, 7)] ++ iT, r1, h1, j1)) 29 rfl rfl (.inl rfl) rfl rfl rfl c1 ?_
      refine g_run 1 30 [some (.ref 0), some (.int (nI k)), some (.ref l.length)] [] (fun _ => rfl) ?_
      refine g_run 1 31 [some (.ref 0), some (.int (nI k)), some (.ref l.length)] [.ref 0] (fun _ => rfl) ?_
      refine g_getA 34 rfl rfl (Wp_l K1') (c := 0 + 44) (by rw [(f 0 (.inl (by omega))).1, nw_o (by omega)]; exact Wp_r1 K1) ?_
      refine g_run 2 36 [some (.ref 0), some (.int (nI k)), some (.ref l.length)] [.ref l.length, .int (nI k), .ref (0 + 44)] (fun _ => rfl) ?_
      refine g_aas (kx := k) 37 rfl rfl (Wp_k1 K1') (Tl_l tk) rfl (z_ix hk (by decide)) ?_
      exact im_out K1' tk2 a1
    · have : am_sz (l ++ [(6, 7)] ++ iT) = am_sz l + 7 + am_sz iT := by
        unfold am_sz
        rw [List.map_append, List.map_append, List.sum_append, List.sum_append]
        rfl
      have h2 : am_sz iT = 1320 := by decide
      omega
  · obtain ⟨hc', a1, a2, a3⟩ := im_copy (wR_w H) hk i1 i3 i4 i5 i8
    obtain ⟨hm', b1, b2, b3⟩ := a3 hc' a2
    refine ⟨1, l, r, hc', hm', j, j, ⟨Nat.le_of_ble_eq_true rfl, ?_⟩, Md_image_s K2 b1, wR_cg b2 b3 (fun _ _ _ => rfl), by omega, by omega⟩
    show Ev X 138 0 [some (.ref 0), some (.int (nI k)), none] [] (l, r, h, j) _
    refine im_in K1 hk ?_
    have i1' : r (0 + 44) k = some b := i1
    rw [i1']
    refine g_run 1 37 [some (.ref 0), some (.int (nI k)), some (.ref b)] [] (fun _ => rfl) ?_
    exact im_out K1 (Wp_e1 K1 _ _ i1) a1
end IMAGE2
