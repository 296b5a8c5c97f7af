/-! who comes, by hours: the class's queue -/
def catR (E : List (Nat × Nat)) (a : Nat) : Nat → List (Nat × Nat)
  | 0 => []
  | n + 1 => E.filter (fun e => e.2 == a) ++ catR E (a + 1) n
theorem catR_add (E : List (Nat × Nat)) : ∀ m a n, catR E a (m + n) = catR E a m ++ catR E (a + m) n := by
  intro m
  induction m with
  | zero => intro a n; rw [Nat.zero_add]; rfl
  | succ m ih =>
    intro a n
    rw [Nat.add_right_comm m 1 n]
    show E.filter _ ++ catR E (a + 1) (m + n) = (E.filter _ ++ catR E (a + 1) m) ++ _
    rw [ih, List.append_assoc, show a + 1 + m = a + (m + 1) by omega]
theorem catR_mem {E : List (Nat × Nat)} {e : Nat × Nat} : ∀ n a, e ∈ catR E a n ↔ e ∈ E ∧ a ≤ e.2 ∧ e.2 < a + n := by
  intro n
  induction n with
  | zero =>
    intro a
    constructor
    · intro h; cases h
    · intro h; omega
  | succ n ih =>
    intro a
    show e ∈ E.filter _ ++ catR E (a + 1) n ↔ _
    rw [List.mem_append, List.mem_filter, ih]
    constructor
    · rintro (⟨h1, h2⟩ | ⟨h1, h2, h3⟩)
      · have : e.2 = a := by simpa using h2
        exact ⟨h1, by omega, by omega⟩
      · exact ⟨h1, by omega, by omega⟩
    · rintro ⟨h1, h2, h3⟩
      by_cases c : e.2 = a
      · exact .inl ⟨h1, by simpa using c⟩
      · exact .inr ⟨h1, by omega, by omega⟩
theorem catR_skip {E : List (Nat × Nat)} {x : Nat × Nat} : ∀ n a, x.2 < a ∨ a + n ≤ x.2 → catR (E ++ [x]) a n = catR E a n := by
  intro n
  induction n with
  | zero => intro a _; rfl
  | succ n ih =>
    intro a h
    show (E ++ [x]).filter _ ++ catR (E ++ [x]) (a + 1) n = E.filter _ ++ catR E (a + 1) n
    rw [ih (a + 1) (by omega), List.filter_append]
    have : [x].filter (fun e => e.2 == a) = [] := by
      rw [List.filter_cons_of_neg]
      · rfl
      · simp; omega
    rw [this, List.append_nil]
theorem catR_ins {E : List (Nat × Nat)} {x : Nat × Nat} {N : Nat} (h : x.2 < N) : catR (E ++ [x]) 0 N = catR E 0 (x.2 + 1) ++ [x] ++ catR E (x.2 + 1) (N - (x.2 + 1)) := by
  have h1 : catR (E ++ [x]) 0 N = catR (E ++ [x]) 0 (x.2 + (1 + (N - (x.2 + 1)))) := by congr 1; omega
  have h2 : catR E 0 (x.2 + 1) = catR E 0 x.2 ++ E.filter (fun e => e.2 == x.2) := by
    rw [catR_add, Nat.zero_add]
    show _ ++ (E.filter _ ++ []) = _
    rw [List.append_nil]
  rw [h1, catR_add, catR_add, Nat.zero_add, catR_skip x.2 0 (by omega), catR_skip (N - (x.2 + 1)) (x.2 + 1) (by omega), h2]
  show _ ++ ((E ++ [x]).filter _ ++ [] ++ _) = _
  rw [List.filter_append, List.append_nil]
  have : [x].filter (fun e => e.2 == x.2) = [x] := by
    rw [List.filter_cons_of_pos]
    · rfl
    · simp
  rw [this]
  simp only [List.append_assoc]
theorem catR_spl {E : List (Nat × Nat)} {t N : Nat} (h : t < N) : catR E 0 N = catR E 0 (t + 1) ++ catR E (t + 1) (N - (t + 1)) := by
  have := catR_add E (t + 1) 0 (N - (t + 1))
  rw [Nat.zero_add, show t + 1 + (N - (t + 1)) = N by omega] at this
  exact this
def qI (h : am_F) (d : Nat) (Q : List (Nat × Nat)) : Prop := h d 14 = nI Q.length ∧ ∀ i e, Q[i]? = some e → h (d + 8) i = nI e.1 ∧ h (d + 9) i = nI e.2
def frQ (h h' : am_F) (d : Nat) : Prop := (∀ y, y ≠ 14 → h' d y = h d y) ∧ ∀ x, x ≠ d → x ≠ d + 8 → x ≠ d + 9 → h' x = h x
theorem frQ_tr {h1 h2 h3 : am_F} {d : Nat} (a : frQ h1 h2 d) (b : frQ h2 h3 d) : frQ h1 h3 d := ⟨fun y hy => (b.1 y hy).trans (a.1 y hy), fun x q1 q2 q3 => (b.2 x q1 q2 q3).trans (a.2 x q1 q2 q3)⟩
theorem queue_l {d t : Nat} {w : Int32} : ∀ (j a fu : Nat) (h : am_F), a + j < 18 → j < fu → t < 48 → (∀ i, a ≤ i → i < a + j → ∃ s, t < s ∧ s < 48 ∧ h (d + 9) i = nI s) → (a = 0 ∨ ∃ s, s ≤ t ∧ h (d + 9) (a - 1) = nI s) → Dy_queueUp_l18 d w (nI t) fu (nI (a + j)) h = some (nI a, fun x y => if (x = d + 8 ∨ x = d + 9) ∧ a < y ∧ y ≤ a + j then h x (y - 1) else h x y) := by
  intro j
  induction j with
  | zero =>
    intro a fu h h18 hfu ht hB hA
    obtain ⟨fu, rfl⟩ : ∃ q, fu = q + 1 := ⟨fu - 1, by omega⟩
    have e : (fun x y => if (x = d + 8 ∨ x = d + 9) ∧ a < y ∧ y ≤ a + 0 then h x (y - 1) else h x y) = h := by
      funext x y
      rw [if_neg (by omega)]
    rw [e]
    show Dy_queueUp_l18 d w (nI t) (fu + 1) (nI a) h = some (nI a, h)
    unfold Dy_queueUp_l18
    by_cases c : a = 0
    · rw [if_pos ((z_le0 (by omega)).2 c)]
    · rw [if_neg (fun e => c ((z_le0 (by omega)).1 e)), show nI a - 1 = nI (a - 1) by rw [show (1 : Int32) = nI 1 from rfl, pk_sub (by omega)], z_ix (by omega) (by decide), Option.bind_some]
      rcases hA with hA | ⟨s, hs, es⟩
      · exact absurd hA c
      · rw [es, if_pos (nI_le hs (by omega))]
  | succ j ih =>
    intro a fu h h18 hfu ht hB hA
    obtain ⟨fu, rfl⟩ : ∃ q, fu = q + 1 := ⟨fu - 1, by omega⟩
    obtain ⟨s, hs1, hs2, es⟩ := hB (a + j) (by omega) (by omega)
    unfold Dy_queueUp_l18
    rw [if_neg (fun e => by have := (z_le0 (by omega)).1 e; omega), show nI (a + (j + 1)) - 1 = nI (a + j) by rw [show (1 : Int32) = nI 1 from rfl, pk_sub (by omega)]; congr 1, z_ix (show a + j < 18 by omega) (by decide), Option.bind_some, es, if_neg (nI_ge hs1 (by omega))]
    simp only [z_ix (show a + (j + 1) < 18 by omega) (show 18 < 2 ^ 31 by decide), Option.bind_some]
    rw [show nI (a + (j + 1)) + Int32.ofInt (-1) = nI (a + j) from pk_m1 (a + j), ih a fu _ (by omega) (by omega) ht (fun i h1 h2 => by
      obtain ⟨s, q1, q2, q3⟩ := hB i h1 (by omega)
      exact ⟨s, q1, q2, by rw [z_up, if_neg (by omega), z_up, if_neg (by omega)]; exact q3⟩) (by
      rcases hA with hA | ⟨s, q1, q2⟩
      · exact .inl hA
      · exact .inr ⟨s, q1, by rw [z_up, if_neg (by omega), z_up, if_neg (by omega)]; exact q2⟩)]
    congr 1
    congr 1
    funext x y
    simp only [z_up]
    repeat' split
    all_goals try (exfalso; omega)
    all_goals first
      | rfl
      | (have e1 : x = d + 9 := by omega
         have e2 : y = a + j + 1 := by omega
         subst e1; subst e2; rfl)
      | (have e1 : x = d + 8 := by omega
         have e2 : y = a + j + 1 := by omega
         subst e1; subst e2; rfl)
theorem queue_up {d t w : Nat} {h : am_F} {A B : List (Nat × Nat)} (hq : qI h d (A ++ B)) (hl : (A ++ B).length < 18) (ht : t < 48) (hA : ∀ e ∈ A, e.2 ≤ t) (hB : ∀ e ∈ B, t < e.2 ∧ e.2 < 48) : ∃ h', Dy_queueUp d (nI w) (nI t) h = some h' ∧ qI h' d (A ++ [(w, t)] ++ B) ∧ frQ h h' d := by
  obtain ⟨q14, qq⟩ := hq
  rw [List.length_append] at q14 hl
  have key := queue_l (d := d) (t := t) (w := nI w) B.length A.length g_fu h (by omega) (by unfold g_fu; omega) ht (fun i h1 h2 => by
    have hi : i - A.length < B.length := by omega
    have e := qq i (B[i - A.length]) (by rw [List.getElem?_append_right h1, List.getElem?_eq_getElem hi])
    have hm := hB _ (List.getElem_mem hi)
    exact ⟨_, hm.1, hm.2, e.2⟩) (by
    by_cases c : A.length = 0
    · exact .inl c
    · have hi : A.length - 1 < A.length := by omega
      have e := qq (A.length - 1) (A[A.length - 1]) (by rw [List.getElem?_append_left hi, List.getElem?_eq_getElem hi])
      exact .inr ⟨_, hA _ (List.getElem_mem hi), e.2⟩)
  unfold Dy_queueUp
  rw [q14, show (18 : Int32) = nI 18 from rfl, if_pos (nI_lt hl (by decide)), key, Option.bind_some]
  simp only [z_ix (show A.length < 18 by omega) (show 18 < 2 ^ 31 by decide), Option.bind_some]
  refine ⟨_, rfl, ⟨?_, ?_⟩, ⟨?_, ?_⟩⟩
  · simp only [z_up, true_and, and_true, true_or, or_true, if_true, List.length_append, List.length_cons, List.length_nil]
    repeat' split
    all_goals try (exfalso; omega)
    rw [q14, nI_1]
    congr 1
    omega
  · intro i e he
    have hlen : i < A.length + 1 + B.length := by
      have := (List.getElem?_eq_some_iff.1 he).1
      simp only [List.length_append, List.length_cons, List.length_nil] at this
      omega
    simp only [z_up, true_and, and_true, true_or, or_true, if_true]
    by_cases c1 : i < A.length
    · have he2 : (A ++ B)[i]? = some e := by
        rw [List.append_assoc, List.getElem?_append_left c1] at he
        rw [List.getElem?_append_left c1]
        exact he
      have := qq i e he2
      refine ⟨?_, ?_⟩
      · repeat' split
        all_goals try (exfalso; omega)
        exact this.1
      · repeat' split
        all_goals try (exfalso; omega)
        exact this.2
    · by_cases c2 : i = A.length
      · subst c2
        rw [List.append_assoc, List.getElem?_append_right (Nat.le_refl _), Nat.sub_self] at he
        cases he
        refine ⟨?_, ?_⟩
        · repeat' split
          all_goals try (exfalso; omega)
          rfl
        · repeat' split
          all_goals try (exfalso; omega)
          rfl
      · have he2 : (A ++ B)[i - 1]? = some e := by
          rw [List.append_assoc, List.getElem?_append_right (by omega), List.singleton_append, show i - A.length = (i - 1 - A.length) + 1 by omega, List.getElem?_cons_succ] at he
          rw [List.getElem?_append_right (by omega)]
          exact he
        have := qq (i - 1) e he2
        refine ⟨?_, ?_⟩
        · repeat' split
          all_goals try (exfalso; omega)
          exact this.1
        · repeat' split
          all_goals try (exfalso; omega)
          exact this.2
  · intro y hy
    simp only [z_up, true_and, and_true, true_or, or_true, if_true]
    repeat' split
    all_goals try (exfalso; omega)
    all_goals rfl
  · intro x h1 h2 h3
    funext y
    simp only [z_up, true_and, and_true, true_or, or_true, if_true]
    repeat' split
    all_goals try (exfalso; omega)
    all_goals rfl
