/-! a whole day: class and reference -/
def hoP (g : Nat → Int32) (k : Nat) : Nat := nV (g (103 + (2 * k + 1)))
def hoC (g : Nat → Int32) (k : Nat) : Nat := nV (g (111 + (6 * k + 1)))
def EP (g : Nat → Int32) (n : Nat) : List (Nat × Nat) := (List.range n).map fun k => (k, hoP g k)
def EC (g : Nat → Int32) (n : Nat) : List (Nat × Nat) := (List.range n).map fun k => (4 + k, hoC g k)
theorem EP_s (g : Nat → Int32) (n : Nat) : EP g (n + 1) = EP g n ++ [(n, hoP g n)] := by
  unfold EP
  rw [List.range_succ, List.map_append]
  rfl
theorem EC_s (g : Nat → Int32) (n : Nat) : EC g (n + 1) = EC g n ++ [(4 + n, hoC g n)] := by
  unfold EC
  rw [List.range_succ, List.map_append]
  rfl
theorem queue_cat {d t w : Nat} {h : am_F} {E : List (Nat × Nat)} (hq : qI h d (catR E 0 48)) (hl : (catR E 0 48).length < 18) (ht : t < 48) : ∃ h', Dy_queueUp d (nI w) (nI t) h = some h' ∧ qI h' d (catR (E ++ [(w, t)]) 0 48) ∧ (catR (E ++ [(w, t)]) 0 48).length = (catR E 0 48).length + 1 ∧ frQ h h' d := by
  have hs := catR_spl (E := E) ht
  have hi := catR_ins (E := E) (x := (w, t)) (N := 48) ht
  rw [hs] at hq hl
  obtain ⟨h', e1, e2, e3⟩ := queue_up (w := w) hq hl ht (fun e he => by have := (catR_mem _ _).1 he; omega) (fun e he => by have := (catR_mem _ _).1 he; omega)
  refine ⟨h', e1, by rw [hi]; exact e2, ?_, e3⟩
  rw [hi, hs]
  simp only [List.length_append, List.length_cons, List.length_nil]
  omega
theorem catR_nil : ∀ n a, catR [] a n = [] := by
  intro n
  induction n with
  | zero => intro a; rfl
  | succ n ih => intro a; show [] ++ catR [] (a + 1) n = []; rw [ih]; rfl
section DAY
variable {l : List (Nat × Nat)} {r : am_R} {hc hm : am_F} {a d m p k b t c st hg bl A cur cF cH : Nat} {g f : Nat → Int32} {x y : Int32} {P : Nat → Prop}
theorem pkI_Q {h h' : am_F} (H : pkI l h p g) (e : frQ h h' d) (ap : p + 12 < d ∨ d + 10 ≤ p) : pkI l h' p g := pkI_fr H (fun x _ _ => e.2 x (by omega) (by omega) (by omega))
theorem lineUp_p (V : pkV g) (ap : p + 12 < d ∨ d + 10 ≤ p) : ∀ (m k fu : Nat) (h : am_F), k + m = nV (g 5) → m < fu → pkI l h p g → qI h d (catR (EP g k) 0 48) → (catR (EP g k) 0 48).length = k → ∃ h', Dy_lineUp_l7 l r d p fu (nI k) h = some h' ∧ qI h' d (catR (EP g (nV (g 5))) 0 48) ∧ (catR (EP g (nV (g 5))) 0 48).length = nV (g 5) ∧ frQ h h' d := by
  have hn := zN_V (pv_np V) (by decide)
  intro m
  induction m with
  | zero =>
    intro k fu h hk hfu H hq hl
    obtain ⟨fu, rfl⟩ : ∃ q, fu = q + 1 := ⟨fu - 1, by omega⟩
    have : k = nV (g 5) := by omega
    subst this
    unfold Dy_lineUp_l7
    rw [H.2.2.2.2.2.2.1.2.2.1, if_pos (nI_le (Nat.le_refl _) (by omega))]
    exact ⟨h, rfl, hq, hl, ⟨fun _ _ => rfl, fun _ _ _ _ => rfl⟩⟩
  | succ m ih =>
    intro k fu h hk hfu H hq hl
    obtain ⟨fu, rfl⟩ : ∃ q, fu = q + 1 := ⟨fu - 1, by omega⟩
    have ht := zN_V (pv_pigeon V k (by omega)).2 (by decide)
    obtain ⟨h1, e1, e2, e3, e4⟩ := queue_cat (w := k) (t := hoP g k) hq (by omega) ht.2
    rw [← EP_s] at e2 e3
    obtain ⟨h2, f1, f2, f3, f4⟩ := ih (k + 1) fu h1 (by omega) (by omega) (pkI_Q H e4 ap) e2 (by omega)
    have eg := pig_at (r := r) (c := 1) H (k := k) (by omega) (by decide)
    rw [ht.1] at eg
    unfold Dy_lineUp_l7
    rw [H.2.2.2.2.2.2.1.2.2.1, if_neg (nI_ge (by omega) (by omega)), show (1 : Int32) = nI 1 from rfl, eg, Option.bind_some, show nV (g (103 + (2 * k + 1))) = hoP g k from rfl, e1, Option.bind_some, nI_add]
    exact ⟨h2, f1, f2, f3, frQ_tr e4 f4⟩
theorem lineUp_c (V : pkV g) (ap : p + 12 < d ∨ d + 10 ≤ p) : ∀ (m k fu : Nat) (h : am_F), k + m = nV (g 6) → m < fu → pkI l h p g → qI h d (catR (EP g (nV (g 5)) ++ EC g k) 0 48) → (catR (EP g (nV (g 5)) ++ EC g k) 0 48).length = nV (g 5) + k → ∃ h', Dy_lineUp_l40 l r d p fu (nI k) h = some h' ∧ qI h' d (catR (EP g (nV (g 5)) ++ EC g (nV (g 6))) 0 48) ∧ (catR (EP g (nV (g 5)) ++ EC g (nV (g 6))) 0 48).length = nV (g 5) + nV (g 6) ∧ frQ h h' d := by
  have hn := zN_V (pv_nc V) (by decide)
  have hn5 := zN_V (pv_np V) (by decide)
  intro m
  induction m with
  | zero =>
    intro k fu h hk hfu H hq hl
    obtain ⟨fu, rfl⟩ : ∃ q, fu = q + 1 := ⟨fu - 1, by omega⟩
    have : k = nV (g 6) := by omega
    subst this
    unfold Dy_lineUp_l40
    rw [H.2.2.2.2.2.2.2.2.2.1, if_pos (nI_le (Nat.le_refl _) (by omega))]
    exact ⟨h, rfl, hq, hl, ⟨fun _ _ => rfl, fun _ _ _ _ => rfl⟩⟩
  | succ m ih =>
    intro k fu h hk hfu H hq hl
    obtain ⟨fu, rfl⟩ : ∃ q, fu = q + 1 := ⟨fu - 1, by omega⟩
    have ht := zN_V (pv_comer V k (by omega)).2.1 (by decide)
    obtain ⟨h1, e1, e2, e3, e4⟩ := queue_cat (w := 4 + k) (t := hoC g k) hq (by omega) ht.2
    rw [List.append_assoc, ← EC_s] at e2 e3
    obtain ⟨h2, f1, f2, f3, f4⟩ := ih (k + 1) fu h1 (by omega) (by omega) (pkI_Q H e4 ap) e2 (by omega)
    have eg := com_at (r := r) (c := 1) H (k := k) (by omega) (by decide)
    rw [ht.1] at eg
    unfold Dy_lineUp_l40
    rw [H.2.2.2.2.2.2.2.2.2.1, if_neg (nI_ge (by omega) (by omega)), show (1 : Int32) = nI 1 from rfl, show (4 : Int32) = nI 4 from rfl, eg, Option.bind_some, show nV (g (111 + (6 * k + 1))) = hoC g k from rfl, nI_add, e1, Option.bind_some, nI_add]
    exact ⟨h2, f1, f2, f3, frQ_tr e4 f4⟩
theorem lineUp_at {h : am_F} (H : pkI l h p g) (V : pkV g) (ap : p + 12 < d ∨ d + 10 ≤ p) : ∃ h', Dy_lineUp l r d p h = some h' ∧ qI h' d (catR (EP g (nV (g 5)) ++ EC g (nV (g 6))) 0 48) ∧ (catR (EP g (nV (g 5)) ++ EC g (nV (g 6))) 0 48).length = nV (g 5) + nV (g 6) ∧ frQ h h' d := by
  have hn := zN_V (pv_nc V) (by decide)
  have hn5 := zN_V (pv_np V) (by decide)
  have f0 : frQ h (am_up h d 14 0) d := ⟨fun y hy => by rw [z_up, if_neg (by omega)], fun x h1 _ _ => z_upr h1⟩
  have q0 : qI (am_up h d 14 0) d (catR (EP g 0) 0 48) := by
    rw [show EP g 0 = [] from rfl, catR_nil]
    exact ⟨by rw [z_up, if_pos ⟨rfl, rfl⟩]; rfl, fun i e he => by cases he⟩
  obtain ⟨h1, e1, e2, e3, e4⟩ := lineUp_p (r := r) V ap (nV (g 5)) 0 g_fu _ (by omega) (by unfold g_fu; omega) (pkI_Q H f0 ap) q0 (by rw [show EP g 0 = [] from rfl, catR_nil]; rfl)
  have H1 := pkI_Q H (frQ_tr f0 e4) ap
  obtain ⟨h2, k1, k2, k3, k4⟩ := lineUp_c (r := r) V ap (nV (g 6)) 0 g_fu h1 (by omega) (by unfold g_fu; omega) H1 (by rw [show EC g 0 = [] from rfl, List.append_nil]; exact e2) (by rw [show EC g 0 = [] from rfl, List.append_nil]; exact e3)
  unfold Dy_lineUp
  rw [show (0 : Int32) = nI 0 from rfl] at e1
  rw [show (0 : Int32) = nI 0 from rfl, e1, Option.bind_some, k1, Option.bind_some]
  exact ⟨h2, rfl, k2, k3, frQ_tr (frQ_tr f0 e4) k4⟩
def dyL (l : List (Nat × Nat)) (d : Nat) : Prop := g_ln l (d + 3) = 6 ∧ g_ln l (d + 4) = 6 ∧ g_ln l (d + 5) = 6 ∧ g_ln l (d + 6) = 6 ∧ g_ln l (d + 7) = 6
theorem clear_l : ∀ (m k fu : Nat) (h : am_F) (f : Nat → Int32) (n : Nat), k + m = n → n ≤ 14 → m < fu → rwI l h (d + 1) 6 14 k f → ∃ h', Dy_clear_l70 l r d (nI n) fu (nI k) h = some h' ∧ rwI l h' (d + 1) 6 14 n (h' (d + 2)) ∧ ∀ x, x ≠ d + 1 → x ≠ d + 2 → h' x = h x := by
  intro m
  induction m with
  | zero =>
    intro k fu h f n hk hn hfu H
    obtain ⟨fu, rfl⟩ : ∃ q, fu = q + 1 := ⟨fu - 1, by omega⟩
    have : k = n := by omega
    subst this
    unfold Dy_clear_l70
    rw [if_pos (nI_le (Nat.le_refl _) (by omega))]
    exact ⟨h, rfl, rwI_self H, fun _ _ _ => rfl⟩
  | succ m ih =>
    intro k fu h f n hk hn hfu H
    obtain ⟨fu, rfl⟩ : ∃ q, fu = q + 1 := ⟨fu - 1, by omega⟩
    have ho := Rw_open_at (r := r) H (by omega)
    have H1 : rwI l (rwN h (d + 1) 6 k (fun _ => 0)) (d + 1) 6 14 (k + 1) ((rwN h (d + 1) 6 k (fun _ => 0)) (d + 1 + 1)) := by
      obtain ⟨h0, h1, h3, h4, h5, h6, h7, _⟩ := H
      refine ⟨?_, ?_, ?_, by omega, h5, h6, h7, fun _ _ => rfl⟩
      · simp only [rwN]; rw [if_neg (by omega), if_neg (by omega)]; exact h0
      · simp only [rwN]; rw [if_neg (by omega), if_neg (by omega)]; exact h1
      · unfold rwN; rw [if_neg (by omega), if_pos ⟨rfl, rfl⟩]
    obtain ⟨h2, e1, e2, e3⟩ := ih (k + 1) fu _ _ n (by omega) hn (by omega) H1
    unfold Dy_clear_l70
    rw [if_neg (nI_ge (by omega) (by omega)), ho, Option.bind_some, nI_1]
    refine ⟨h2, e1, e2, fun x h1 h2 => ?_⟩
    rw [e3 x h1 h2]
    funext y
    simp only [rwN]
    rw [if_neg (by omega), if_neg (by omega)]
theorem clear_at {h : am_F} {n n0 : Nat} {f : Nat → Int32} (D : dyL l d) (H : rwI l h (d + 1) 6 14 n0 f) (hn : n ≤ 14) : ∃ h', Dy_clear l r d (nI n) h = some h' ∧ (h' d 0 = 0 ∧ h' d 4 = 0 ∧ h' d 5 = 0 ∧ h' d 6 = 0 ∧ h' d 1 = h d 1 ∧ h' d 2 = h d 2) ∧ (∀ y, y < 6 → h' (d + 3) y = 0 ∧ h' (d + 4) y = 0 ∧ h' (d + 5) y = -1 ∧ h' (d + 6) y = 0 ∧ h' (d + 7) y = 0) ∧ rwI l h' (d + 1) 6 14 n (h' (d + 2)) ∧ ∀ x, x < d ∨ d + 8 ≤ x → h' x = h x := by
  obtain ⟨l3, l4, l5, l6, l7⟩ := D
  unfold Dy_clear
  rw [Ar_fill_at l3 (by decide), Option.bind_some, Ar_fill_at l4 (by decide), Option.bind_some, Ar_fill_at l5 (by decide), Option.bind_some, Ar_fill_at l6 (by decide), Option.bind_some, Ar_fill_at l7 (by decide), Option.bind_some]
  generalize hq : am_up (fillA (fillA (fillA (fillA (fillA (am_up (am_up (am_up (am_up h d 0 0) d 4 0) d 5 0) d 6 0) (d + 3) 6 0) (d + 4) 6 0) (d + 5) 6 (-1)) (d + 6) 6 0) (d + 7) 6 0) (d + 1) 3 0 = q
  have H1 : rwI l q (d + 1) 6 14 0 f := by
    obtain ⟨h0, h1, h3, h4, h5, h6, h7, _⟩ := H
    refine ⟨?_, ?_, ?_, by omega, h5, h6, h7, fun i hi => by omega⟩
    all_goals
      rw [← hq]
      simp only [z_up, fillA, true_and, and_true, true_or, or_true, if_true]
      repeat' split
      all_goals try (exfalso; omega)
    · exact h0
    · exact h1
    · rfl
  obtain ⟨h', e1, e2, e3⟩ := clear_l (r := r) n 0 g_fu q f n (by omega) hn (by unfold g_fu; omega) H1
  rw [show (0 : Int32) = nI 0 from rfl] at hq ⊢
  rw [e1, Option.bind_some]
  refine ⟨h', rfl, ?_, ?_, e2, ?_⟩
  · rw [e3 d (by omega) (by omega), ← hq]
    refine ⟨?_, ?_, ?_, ?_, ?_, ?_⟩
    all_goals
      simp only [z_up, fillA, true_and, and_true, true_or, or_true, if_true]
      repeat' split
      all_goals try (exfalso; omega)
      all_goals rfl
  · intro y hy
    rw [e3 (d + 3) (by omega) (by omega), e3 (d + 4) (by omega) (by omega), e3 (d + 5) (by omega) (by omega), e3 (d + 6) (by omega) (by omega), e3 (d + 7) (by omega) (by omega), ← hq]
    refine ⟨?_, ?_, ?_, ?_, ?_⟩
    all_goals
      simp only [z_up, fillA, true_and, and_true, true_or, or_true, if_true]
      repeat' split
      all_goals try (exfalso; omega)
      all_goals rfl
  · intro x hx
    rw [e3 x (by omega) (by omega), ← hq]
    funext y
    simp only [z_up, fillA, true_and, and_true, true_or, or_true, if_true]
    repeat' split
    all_goals try (exfalso; omega)
    rfl
/-- the reference's step at an event, and a row of such steps -/
def stM (g : Nat → Int32) (m : Nat) (e : Nat × Nat) (h : am_F) : Option am_F := if e.1 < 4 then Md_print m (g (103 + 2 * e.1)) (nI e.2) (nI (stX g (g (56 + 4 * nV (g (103 + 2 * e.1)))) e.2)) h else Md_comes m (nI (e.1 - 4)) h
def chM (g : Nat → Int32) (m : Nat) : List (Nat × Nat) → am_F → am_F → Prop
  | [], h, h' => h' = h
  | e :: Q, h, h' => ∃ h1, stM g m e h = some h1 ∧ h1 (m + 12) = g ∧ chM g m Q h1 h'
theorem chM_app : ∀ (Q1 Q2 : List (Nat × Nat)) (h h' : am_F), chM g m (Q1 ++ Q2) h h' → ∃ h1, chM g m Q1 h h1 ∧ chM g m Q2 h1 h' := by
  intro Q1
  induction Q1 with
  | nil => intro Q2 h h' e; exact ⟨h, rfl, e⟩
  | cons e Q1 ih =>
    intro Q2 h h' ⟨h1, e1, e2, e3⟩
    obtain ⟨h2, f1, f2⟩ := ih Q2 h1 h' e3
    exact ⟨h2, ⟨h1, e1, e2, f1⟩, f2⟩
theorem chM_g : ∀ (Q : List (Nat × Nat)) (h h' : am_F), h (m + 12) = g → chM g m Q h h' → h' (m + 12) = g := by
  intro Q
  induction Q with
  | nil => intro h h' e1 e2; rw [show h' = h from e2]; exact e1
  | cons e Q ih =>
    intro h h' _ ⟨h1, _, e2, e3⟩
    exact ih h1 h' e2 e3
theorem dyR_mono {cur' cF' cH' : Nat} {P' : Nat → Prop} (R : dyR l hc d hm m g cur cF cH P) (h1 : cur ≤ cur') (h2 : cF ≤ cF') (h3 : cH ≤ cH') (h4 : ∀ j, j < 14 → P' j → P j) : dyR l hc d hm m g cur' cF' cH' P' := by
  obtain ⟨q0, ⟨T, F, HH, e1, e2, e3, e4, e5, e6⟩, q7, q8, q9⟩ := R
  refine ⟨q0, ⟨T, F, HH, e1, e2, e3, by omega, e5, by omega⟩, ?_, q8, fun k hk hP => q9 k hk (h4 k hk hP)⟩
  intro y hy
  obtain ⟨y3, y4, y5, y6, y7⟩ := q7 y hy
  refine ⟨y3, y4, y5, y6, ?_⟩
  rcases y7 with h | ⟨s, hs1, h⟩
  · exact .inl h
  · exact .inr ⟨s, by omega, h⟩
def evV (g : Nat → Int32) (e : Nat × Nat) : Prop := (e.1 < nV (g 5) ∧ e.2 = hoP g e.1) ∨ ∃ k, k < nV (g 6) ∧ e = (4 + k, hoC g k)
set_option maxHeartbeats 2000000 in
theorem go_l {Q0 : List (Nat × Nat)} (V : pkV g) (ap : p + 12 < d ∨ d + 10 ≤ p) (h18 : Q0.length ≤ 18) : ∀ (Q : List (Nat × Nat)) (i fu : Nat) (hc hm : am_F) (cur cF cH : Nat) (P : Nat → Prop), Q0.drop i = Q → qI hc d Q0 → dyR l hc d hm m g cur cF cH P → pkI l hc p g → hm (m + 12) = g → (∀ e ∈ Q, evV g e ∧ cur ≤ e.2) → Q.Pairwise (fun a b => a.2 ≤ b.2) → cF + Q.length < 9000 → Q.length < fu → cur < 48 → i ≤ Q0.length → ∃ hc' hm', Dy_goThrough_l18 l r d p fu (nI i) hc = some hc' ∧ chM g m Q hm hm' ∧ dyR l hc' d hm' m g 47 (cF + Q.length) (cH + Q.length) (fun j => P j ∨ (4 + j, hoC g j) ∈ Q) ∧ frC hc hc' d ∧ frM hm hm' m := by
  have h3 := zN_V (pv_nb V) (by decide)
  have hnp := zN_V (pv_np V) (by decide)
  intro Q
  induction Q with
  | nil =>
    intro i fu hc hm cur cF cH P hQ hq R H eg _ _ _ hfu hcur hil
    obtain ⟨fu, rfl⟩ : ∃ q, fu = q + 1 := ⟨fu - 1, by omega⟩
    have hi : Q0.length ≤ i := List.drop_eq_nil_iff.1 hQ
    unfold Dy_goThrough_l18
    rw [hq.1, if_pos (nI_le hi (by omega))]
    refine ⟨hc, hm, rfl, rfl, dyR_mono R (by omega) (by omega) (by omega) (fun j _ hj => hj.elim id (fun e => by cases e)), frC_id, frM_id⟩
  | cons e Q ih =>
    intro i fu hc hm cur cF cH P hQ hq R H eg hev hso hcf hfu hcur hil
    obtain ⟨fu, rfl⟩ : ∃ q, fu = q + 1 := ⟨fu - 1, by omega⟩
    have hi : i < Q0.length := by
      by_cases c : i < Q0.length
      · exact c
      · rw [List.drop_eq_nil_of_le (by omega)] at hQ; cases hQ
    have he : Q0[i]? = some e := by
      have := List.drop_eq_getElem_cons hi
      rw [hQ] at this
      injection this with h1 h2
      rw [h1, List.getElem?_eq_getElem hi]
    have hQ' : Q0.drop (i + 1) = Q := by
      have := List.drop_eq_getElem_cons hi
      rw [hQ] at this
      injection this with h1 h2
      exact h2.symm
    obtain ⟨q8, q9⟩ := hq.2 i e he
    obtain ⟨hev1, hev2⟩ := hev e List.mem_cons_self
    have hlen : (e :: Q).length = Q.length + 1 := rfl
    have hso' := List.pairwise_cons.1 hso
    unfold Dy_goThrough_l18
    rw [hq.1, if_neg (nI_ge hi (by omega)), show (18 : Int32) = nI 18 from rfl, if_neg (nI_ge (by omega) (by omega)), z_ix (show i < 18 by omega) (by decide), Option.bind_some, q8, nI_1]
    simp only [z_lits]
    rcases hev1 with ⟨hw, ht⟩ | ⟨k, hk, rfl⟩
    · have htt := zN_V (pv_pigeon V e.1 hw).2 (by decide)
      have hbb := zN_V (pv_pigeon V e.1 hw).1 (by omega)
      have et48 : e.2 < 48 := by rw [ht]; exact htt.2
      have a0 : Rw_get l r (p + 9) (nI e.1) (nI 0) hc = some (nI (nV (g (103 + 2 * e.1)))) := by
        rw [← hbb.1]
        exact pig_at (c := 0) H hw (by decide)
      have a1 : Rw_get l r (p + 9) (nI e.1) (nI 1) hc = some (nI e.2) := by
        rw [ht]
        unfold hoP
        rw [← htt.1]
        exact pig_at (c := 1) H hw (by decide)
      have es := Pk_stageOf_at H V hbb.2 et48
      obtain ⟨hc1, hm1, e1, e2, R1, f1, f2⟩ := step_pigeon (st := stX g (g (56 + 4 * nV (g (103 + 2 * e.1)))) e.2) R (show nV (g (103 + 2 * e.1)) < 6 by omega) (stN_lt _ _) et48 hev2
      have eg1 : hm1 (m + 12) = g := by rw [f2.2 _ (by omega)]; exact eg
      obtain ⟨hc2, hm2, k1, k2, k3, k4, k5⟩ := ih (i + 1) fu hc1 hm1 e.2 cF cH P hQ' ⟨by rw [f1.1]; exact hq.1, fun i e he => by rw [f1.2 (d + 8) (by omega), f1.2 (d + 9) (by omega)]; exact hq.2 i e he⟩ R1 (pkI_fr H (fun x _ _ => f1.2 x (by omega))) eg1 (fun e' he' => ⟨(hev e' (List.mem_cons_of_mem _ he')).1, hso'.1 e' he'⟩) hso'.2 (by omega) (by omega) et48 (by omega)
      rw [if_pos (nI_lt (by omega) (by omega)), a0, Option.bind_some, a1, Option.bind_some, es, Option.bind_some, e1, Option.bind_some, Option.bind_some]
      refine ⟨hc2, hm2, k1, ⟨hm1, ?_, eg1, k2⟩, ?_, frC_tr f1 k4, frM_tr f2 k5⟩
      · unfold stM
        rw [if_pos (by omega)]
        rw [← hbb.1] at e2
        exact e2
      · refine dyR_mono k3 (Nat.le_refl _) (by omega) (by omega) (fun j hj hP => ?_)
        rcases hP with hP | hP
        · exact .inl hP
        · rcases List.mem_cons.1 hP with hP | hP
          · exfalso
            have := congrArg Prod.fst hP
            simp only at this
            omega
          · exact .inr hP
    · have htt := zN_V (pv_comer V k hk).2.1 (by decide)
      have hnc := zN_V (pv_nc V) (by decide)
      obtain ⟨hc1, hm1, e1, e2, R1, f1, f2⟩ := step_comer (r := r) R H V eg ap hk htt.1 htt.2 hev2 (by omega)
      have eg1 : hm1 (m + 12) = g := by rw [f2.2 _ (by omega)]; exact eg
      obtain ⟨hc2, hm2, k1, k2, k3, k4, k5⟩ := ih (i + 1) fu hc1 hm1 (hoC g k) (cF + 1) (cH + 1) _ hQ' ⟨by rw [f1.1]; exact hq.1, fun i e he => by rw [f1.2 (d + 8) (by omega), f1.2 (d + 9) (by omega)]; exact hq.2 i e he⟩ R1 (pkI_fr H (fun x _ _ => f1.2 x (by omega))) eg1 (fun e' he' => ⟨(hev e' (List.mem_cons_of_mem _ he')).1, hso'.1 e' he'⟩) hso'.2 (by omega) (by omega) htt.2 (by omega)
      rw [if_neg (nI_nlt (by omega) (by omega)), pk_sub (by omega), show 4 + k - 4 = k by omega, e1, Option.bind_some, Option.bind_some]
      refine ⟨hc2, hm2, k1, ⟨hm1, ?_, eg1, k2⟩, ?_, frC_tr f1 k4, frM_tr f2 k5⟩
      · unfold stM
        rw [if_neg (by omega), show (4 + k, hoC g k).1 - 4 = k by simp only; omega]
        exact e2
      · refine dyR_mono k3 (Nat.le_refl _) (by omega) (by omega) (fun j hj hP => ?_)
        rcases hP with hP | hP
        · exact .inl (.inl hP)
        · rcases List.mem_cons.1 hP with hP | hP
          · have := congrArg Prod.fst hP
            simp only at this
            exact .inl (.inr (by omega))
          · exact .inr hP
end DAY
