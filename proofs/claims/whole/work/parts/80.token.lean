/-! tokens of a text: class and reference -/
theorem ll_tb (n : Nat) : (lN n).toBitVec = BitVec.ofNat 64 n := rfl
theorem ll_shl (n : Nat) : lN n <<< (Int32.toInt64 (8 : Int32) &&& 63) = lN (n * 2 ^ 8) := by
  rw [show (Int32.toInt64 (8 : Int32) &&& 63) = lN 8 by decide +kernel]
  apply Int64.toBitVec_inj.mp
  rw [Int64.toBitVec_shiftLeft, ll_tb, ll_tb, ll_tb, show (BitVec.ofNat 64 8).smod 64 = BitVec.ofNat 64 8 by decide +kernel]
  apply BitVec.eq_of_toNat_eq
  rw [BitVec.shiftLeft_eq', BitVec.toNat_shiftLeft, BitVec.toNat_ofNat, BitVec.toNat_ofNat, BitVec.toNat_ofNat, Nat.mod_eq_of_lt (show 8 < 2 ^ 64 by omega), Nat.shiftLeft_eq, Nat.mul_mod, Nat.mod_mod, ← Nat.mul_mod]
theorem ll_or {a b : Nat} (ha : a < 2 ^ 64) (hb : b < 2 ^ 64) : lN a ||| lN b = lN (a ||| b) := by
  apply Int64.toBitVec_inj.mp
  rw [Int64.toBitVec_or, ll_tb, ll_tb, ll_tb]
  apply BitVec.eq_of_toNat_eq
  rw [BitVec.toNat_or, BitVec.toNat_ofNat, BitVec.toNat_ofNat, BitVec.toNat_ofNat, Nat.mod_eq_of_lt ha, Nat.mod_eq_of_lt hb, Nat.mod_eq_of_lt (Nat.or_lt_two_pow ha hb)]
theorem ll_push {p t : Nat} (hp : p < 2 ^ 56) (ht : t < 256) : (lN p <<< (Int32.toInt64 (8 : Int32) &&& 63)) ||| (nI t).toInt64 = lN (p * 256 + t) := by
  rw [ll_shl, nI_l (by omega), ll_or (by omega) (by omega)]
  congr 1
  rw [← Nat.shiftLeft_eq, ← Nat.shiftLeft_add_eq_or_of_lt (show t < 2 ^ 8 by omega), Nat.shiftLeft_eq]
/-- letters, the last first -/
def rlT (T : Nat → Nat) (f : Nat) : Nat → List Nat
  | 0 => []
  | n + 1 => T (f + n) :: rlT T f n
def prL : List Nat → Nat
  | [] => 0
  | d :: t => prL t * 256 + d
/-- the word as the reference packs it -/
def wlT (T : Nat → Nat) (f : Nat) : Nat → Int64
  | 0 => 0
  | n + 1 => (wlT T f n <<< (Int32.toInt64 (8 : Int32) &&& 63)) ||| (nI (T (f + n))).toInt64
theorem prL_lt {T : Nat → Nat} {f : Nat} : ∀ n, (∀ i, i < n → T (f + i) < 128) → prL (rlT T f n) < 128 * 256 ^ (n - 1) ∨ n = 0 := by
  intro n
  induction n with
  | zero => intro _; exact .inr rfl
  | succ n ih =>
    intro h
    left
    have h1 := h n (by omega)
    rcases ih (fun i hi => h i (by omega)) with h2 | h2
    · cases n with
      | zero => show 0 * 256 + T (f + 0) < _; simpa using h1
      | succ n =>
        show prL (rlT T f (n + 1)) * 256 + T (f + (n + 1)) < 128 * 256 ^ (n + 1)
        rw [show n + 1 - 1 = n from rfl] at h2
        rw [Nat.pow_succ]
        generalize 256 ^ n = q at *
        omega
    · subst h2
      show 0 * 256 + T (f + 0) < _
      simpa using h1
theorem wlT_eq {T : Nat → Nat} {f : Nat} : ∀ n, n ≤ 8 → (∀ i, i < n → T (f + i) < 128) → wlT T f n = lN (prL (rlT T f n)) := by
  intro n
  induction n with
  | zero => intro _ _; rfl
  | succ n ih =>
    intro hn h
    show (wlT T f n <<< (Int32.toInt64 (8 : Int32) &&& 63)) ||| (nI (T (f + n))).toInt64 = lN (prL (rlT T f n) * 256 + T (f + n))
    have h1 := h n (by omega)
    have h2 : prL (rlT T f n) < 2 ^ 56 := by
      rcases prL_lt n (fun i hi => h i (by omega)) with h2 | h2
      · have h3 : 256 ^ (n - 1) ≤ 256 ^ 6 := Nat.pow_le_pow_right (by decide) (by omega)
        omega
      · subst h2
        show 0 < _
        decide
    rw [ih (by omega) (fun i hi => h i (by omega)), ll_push h2 (by omega)]
theorem prL_inj : ∀ (s t : List Nat), (∀ x, x ∈ s → 1 ≤ x ∧ x < 256) → (∀ x, x ∈ t → 1 ≤ x ∧ x < 256) → prL s = prL t → s = t := by
  intro s
  induction s with
  | nil =>
    intro t _ ht e
    cases t with
    | nil => rfl
    | cons d t =>
      have := ht d (List.mem_cons_self ..)
      have e2 : 0 = prL t * 256 + d := e
      omega
  | cons c s ih =>
    intro t hs ht e
    have hc := hs c (List.mem_cons_self ..)
    cases t with
    | nil =>
      have e2 : prL s * 256 + c = 0 := e
      omega
    | cons d t =>
      have hd := ht d (List.mem_cons_self ..)
      have e2 : prL s * 256 + c = prL t * 256 + d := e
      rw [show c = d by omega, ih t (fun x hx => hs x (List.mem_cons_of_mem _ hx)) (fun x hx => ht x (List.mem_cons_of_mem _ hx)) (by omega)]
/-- the tape at hand, for both -/
def tpR (l : List (Nat × Nat)) (r : am_R) (hc hm : am_F) (a m tp L : Nat) (T : Nat → Nat) : Prop := r a 7 = some tp ∧ g_ln l tp = 600 ∧ L ≤ 600 ∧ tp ≠ a ∧ hc a 8 = nI L ∧ hm m 11 = nI L ∧ ∀ i, i < L → hc tp i &&& 255 = nI (T i) ∧ hm (m + 1) i &&& 255 = nI (T i) ∧ T i < 256
section TOKEN
variable {l : List (Nat × Nat)} {r : am_R} {hc hm : am_F} {a m tp L i f : Nat} {T : Nat → Nat} {j : am_J}
theorem tp_fr {hc' hm' : am_F} (H : tpR l r hc hm a m tp L T) (e1 : hc' tp = hc tp) (e2 : hc' a 8 = hc a 8) (e3 : hm' (m + 1) = hm (m + 1)) (e4 : hm' m 11 = hm m 11) : tpR l r hc' hm' a m tp L T := by
  obtain ⟨h1, h2, h3, h4, h5, h6, h7⟩ := H
  refine ⟨h1, h2, h3, h4, by rw [e2]; exact h5, by rw [e4]; exact h6, ?_⟩
  rw [e1, e3]
  exact h7
theorem byte_at (H : tpR l r hc hm a m tp L T) (hi : i < L) : Rd_byteAt l r a (nI i) hc = some (nI (T i)) := by
  obtain ⟨h1, h2, h3, h4, h5, h6, h7⟩ := H
  unfold Rd_byteAt
  rw [h1]
  simp only [g_on, Option.bind_some]
  rw [h2, h5, if_neg (nI_pos (show i < 2 ^ 31 by omega)), if_neg (nI_ge hi (by omega)), if_pos (show nI i < Int32.ofNat 600 from nI_lt (show i < 600 by omega) (by decide)), z_ix (show i < 600 by omega) (by decide), Option.bind_some, (h7 i hi).1]
theorem see_at (H : tpR l r hc hm a m tp L T) (e : hm m 10 = nI i) (hi : i < L) : Md_see m hm = some (nI (T i)) := by
  obtain ⟨h1, h2, h3, h4, h5, h6, h7⟩ := H
  unfold Md_see
  rw [e, h6, if_neg (nI_ge hi (by omega)), z_ix (show i < 2400 by omega) (by decide), Option.bind_some, (h7 i hi).2.1]
theorem see_end (H : tpR l r hc hm a m tp L T) (e : hm m 10 = nI i) (hi : L ≤ i) (h2 : i < 2 ^ 31) : Md_see m hm = some (-1) := by
  unfold Md_see
  rw [e, H.2.2.2.2.2.1, if_pos (nI_le hi h2)]
theorem tp_9 {v w : Int32} (H : tpR l r hc hm a m tp L T) : tpR l r (am_up hc a 9 v) (am_up hm m 10 w) a m tp L T := tp_fr H (z_upr H.2.2.2.1) (by rw [z_ups, upz_n (by decide)]) (z_upr (by omega)) (by rw [z_ups, upz_n (by decide)])
theorem skip_l : ∀ (c i fu fu' : Nat) (hc hm : am_F), i + c = L → c < fu → c < fu' → tpR l r hc hm a m tp L T → hc a 9 = nI i → hm m 10 = nI i → ∃ f, i ≤ f ∧ f ≤ L ∧ (f < L → T f ≠ 10 ∧ T f ≠ 32) ∧ Rd_next_l0 l r a fu hc = some (am_up hc a 9 (nI f)) ∧ Md_token_l0 m j fu' hm = some (am_up hm m 10 (nI f)) := by
  intro c
  induction c with
  | zero =>
    intro i fu fu' hc hm hi hf hf' H e1 e2
    obtain ⟨fu, rfl⟩ : ∃ q, fu = q + 1 := ⟨fu - 1, by omega⟩
    obtain ⟨fu', rfl⟩ : ∃ q, fu' = q + 1 := ⟨fu' - 1, by omega⟩
    have hL := H.2.2.1
    refine ⟨i, Nat.le_refl _, by omega, fun e => by omega, ?_, ?_⟩
    · unfold Rd_next_l0
      rw [e1, H.2.2.2.2.1, if_pos (nI_le (by omega) (by omega)), up_self e1]
    · unfold Md_token_l0
      rw [see_end H e2 (by omega) (by omega), Option.bind_some, if_neg (by decide), Option.bind_some, if_neg (by decide), up_self e2]
  | succ c ih =>
    intro i fu fu' hc hm hi hf hf' H e1 e2
    obtain ⟨fu, rfl⟩ : ∃ q, fu = q + 1 := ⟨fu - 1, by omega⟩
    obtain ⟨fu', rfl⟩ : ∃ q, fu' = q + 1 := ⟨fu' - 1, by omega⟩
    have hL := H.2.2.1
    have ht := (H.2.2.2.2.2.2 i (by omega)).2.2
    have hb := byte_at H (show i < L by omega)
    have hs := see_at H e2 (show i < L by omega)
    by_cases c1 : T i = 10 ∨ T i = 32
    · obtain ⟨f, k1, k2, k3, k4, k5⟩ := ih (i + 1) fu fu' (am_up hc a 9 (nI (i + 1))) (am_up hm m 10 (nI (i + 1))) (by omega) (by omega) (by omega) (tp_9 H) (by rw [z_ups, upz_s]) (by rw [z_ups, upz_s])
      rw [up_up] at k4 k5
      refine ⟨f, by omega, k2, k3, ?_, ?_⟩
      · unfold Rd_next_l0
        rw [e1, H.2.2.2.2.1, if_neg (nI_ge (by omega) (by omega)), hb, Option.bind_some, nI_1]
        have : Rd_isBlank (nI (T i)) = 1 := by
          rcases c1 with e | e <;> rw [e] <;> decide
        rw [this, if_neg (by decide)]
        exact k4
      · unfold Md_token_l0
        rw [hs, Option.bind_some, e2, nI_1]
        rcases c1 with e | e
        · rw [e, if_pos (by decide)]
          exact k5
        · rw [e, if_neg (by decide), Option.bind_some, if_pos (by decide)]
          exact k5
    · have n10 : ¬ nI (T i) = 10 := fun e => c1 (.inl ((nI_eq (by omega) (by decide)).1 (show nI (T i) = nI 10 from e)))
      have n32 : ¬ nI (T i) = 32 := fun e => c1 (.inr ((nI_eq (by omega) (by decide)).1 (show nI (T i) = nI 32 from e)))
      refine ⟨i, Nat.le_refl _, by omega, fun _ => ⟨fun e => c1 (.inl e), fun e => c1 (.inr e)⟩, ?_, ?_⟩
      · unfold Rd_next_l0
        rw [e1, H.2.2.2.2.1, if_neg (nI_ge (by omega) (by omega)), hb, Option.bind_some]
        unfold Rd_isBlank
        rw [if_neg n10, if_neg n32, if_pos rfl, up_self e1]
      · unfold Md_token_l0
        rw [hs, Option.bind_some, if_neg n10, Option.bind_some, if_neg n32, up_self e2]
def ltB (t : Nat) : Prop := 97 ≤ t ∧ t ≤ 122
def dgB (t : Nat) : Prop := 48 ≤ t ∧ t ≤ 57
theorem isLetter_y {t : Nat} (h : ltB t) : Rd_isLetter (nI t) = 1 ∧ Md_in (nI t) 97 122 = 1 := by
  unfold ltB at h
  refine ⟨?_, Md_in_yes (show 97 ≤ t by omega) (show t ≤ 122 by omega) (by decide)⟩
  unfold Rd_isLetter
  rw [if_neg (show ¬ nI t < 97 from nI_nlt (show 97 ≤ t by omega) (by omega)), if_neg (show ¬ (122 : Int32) < nI t from nI_nlt (show t ≤ 122 by omega) (by decide))]
theorem isLetter_n {t : Nat} (ht : t < 256) (h : ¬ ltB t) : Rd_isLetter (nI t) = 0 ∧ Md_in (nI t) 97 122 = 0 := by
  unfold ltB at h
  unfold Rd_isLetter Md_in
  by_cases c : t < 97
  · rw [if_pos (show nI t < 97 from nI_lt c (by decide))]
    exact ⟨rfl, rfl⟩
  · rw [if_neg (show ¬ nI t < 97 from nI_nlt (show 97 ≤ t by omega) (by omega)), if_pos (show (122 : Int32) < nI t from nI_lt (show 122 < t by omega) (by omega))]
    exact ⟨rfl, rfl⟩
theorem isDigit_y {t : Nat} (h : dgB t) : Rd_isDigit (nI t) = 1 ∧ Md_in (nI t) 48 57 = 1 := by
  unfold dgB at h
  refine ⟨?_, Md_in_yes (show 48 ≤ t by omega) (show t ≤ 57 by omega) (by decide)⟩
  unfold Rd_isDigit
  rw [if_neg (show ¬ nI t < 48 from nI_nlt (show 48 ≤ t by omega) (by omega)), if_neg (show ¬ (57 : Int32) < nI t from nI_nlt (show t ≤ 57 by omega) (by decide))]
theorem isDigit_n {t : Nat} (ht : t < 256) (h : ¬ dgB t) : Rd_isDigit (nI t) = 0 ∧ Md_in (nI t) 48 57 = 0 := by
  unfold dgB at h
  unfold Rd_isDigit Md_in
  by_cases c : t < 48
  · rw [if_pos (show nI t < 48 from nI_lt c (by decide))]
    exact ⟨rfl, rfl⟩
  · rw [if_neg (show ¬ nI t < 48 from nI_nlt (show 48 ≤ t by omega) (by omega)), if_pos (show (57 : Int32) < nI t from nI_lt (show 57 < t by omega) (by omega))]
    exact ⟨rfl, rfl⟩
theorem upj_s {i k : Nat} {v w : Int64} : am_up (am_up j i k v) i k w = am_up j i k w := by
  funext x y
  simp only [z_up]
  split <;> rfl
theorem upj_id {i k : Nat} {v : Int64} (e : j i k = v) : am_up j i k v = j := by
  funext x y
  rw [z_up]
  split
  · rename_i h
    rw [h.1, h.2, e]
  · rfl
theorem word_l : ∀ (c i fu fu' : Nat) (hc hm : am_F) (j : am_J), i + c = L → c < fu → c < fu' → tpR l r hc hm a m tp L T → f ≤ i → (∀ k, f ≤ k → k < i → ltB (T k)) → hc a 9 = nI i → hm m 10 = nI i → j m 15 = wlT T f (i - f) → ∃ e, i ≤ e ∧ e ≤ L ∧ (∀ k, f ≤ k → k < e → ltB (T k)) ∧ (i < L → ltB (T i) → i < e) ∧ Rd_next_l89 l r a fu hc = some (am_up hc a 9 (nI e)) ∧ Md_token_l74 m fu' (nI (i - f)) hm j = some (nI (e - f), am_up hm m 10 (nI e), am_up j m 15 (wlT T f (e - f))) := by
  intro c
  induction c with
  | zero =>
    intro i fu fu' hc hm j hi hf hf' H hfi hl e1 e2 e3
    obtain ⟨fu, rfl⟩ : ∃ q, fu = q + 1 := ⟨fu - 1, by omega⟩
    obtain ⟨fu', rfl⟩ : ∃ q, fu' = q + 1 := ⟨fu' - 1, by omega⟩
    have hL := H.2.2.1
    refine ⟨i, Nat.le_refl _, by omega, hl, fun e => by omega, ?_, ?_⟩
    · unfold Rd_next_l89
      rw [e1, H.2.2.2.2.1, if_pos (nI_le (by omega) (by omega)), up_self e1]
    · unfold Md_token_l74
      rw [see_end H e2 (by omega) (by omega), Option.bind_some, show Md_in (-1) 97 122 = 0 by decide, if_pos rfl, up_self e2, upj_id e3]
  | succ c ih =>
    intro i fu fu' hc hm j hi hf hf' H hfi hl e1 e2 e3
    obtain ⟨fu, rfl⟩ : ∃ q, fu = q + 1 := ⟨fu - 1, by omega⟩
    obtain ⟨fu', rfl⟩ : ∃ q, fu' = q + 1 := ⟨fu' - 1, by omega⟩
    have hL := H.2.2.1
    have ht := (H.2.2.2.2.2.2 i (by omega)).2.2
    have hb := byte_at H (show i < L by omega)
    have hs := see_at H e2 (show i < L by omega)
    by_cases c1 : ltB (T i)
    · have ew : wlT T f (i + 1 - f) = (wlT T f (i - f) <<< (Int32.toInt64 (8 : Int32) &&& 63)) ||| (nI (T i)).toInt64 := by
        rw [show i + 1 - f = (i - f) + 1 by omega]
        show (wlT T f (i - f) <<< (Int32.toInt64 (8 : Int32) &&& 63)) ||| (nI (T (f + (i - f)))).toInt64 = _
        rw [show f + (i - f) = i by omega]
      obtain ⟨e, k1, k2, k3, k4, k5, k6⟩ := ih (i + 1) fu fu' (am_up hc a 9 (nI (i + 1))) (am_up hm m 10 (nI (i + 1))) (am_up j m 15 (wlT T f (i + 1 - f))) (by omega) (by omega) (by omega) (tp_9 H) (by omega) (fun k h1 h2 => by
        by_cases q : k = i
        · rw [q]; exact c1
        · exact hl k h1 (by omega)) (by rw [z_ups, upz_s]) (by rw [z_ups, upz_s]) (by rw [z_up, if_pos ⟨rfl, rfl⟩])
      rw [up_up] at k5
      rw [up_up, upj_s] at k6
      refine ⟨e, by omega, k2, k3, fun _ _ => by omega, ?_, ?_⟩
      · unfold Rd_next_l89
        rw [e1, H.2.2.2.2.1, if_neg (nI_ge (by omega) (by omega)), hb, Option.bind_some, (isLetter_y c1).1, if_neg (by decide), nI_1]
        exact k5
      · unfold Md_token_l74
        rw [hs, Option.bind_some, (isLetter_y c1).2, if_neg (by decide), Option.bind_some, e2, e3, nI_1, nI_1, ← ew, show i - f + 1 = i + 1 - f by omega]
        exact k6
    · refine ⟨i, Nat.le_refl _, by omega, hl, fun _ e => absurd e c1, ?_, ?_⟩
      · unfold Rd_next_l89
        rw [e1, H.2.2.2.2.1, if_neg (nI_ge (by omega) (by omega)), hb, Option.bind_some, (isLetter_n ht c1).1, if_pos rfl, up_self e1]
      · unfold Md_token_l74
        rw [hs, Option.bind_some, (isLetter_n ht c1).2, if_pos rfl, up_self e2, upj_id e3]
end TOKEN
