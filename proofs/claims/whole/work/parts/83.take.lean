/-! numbers of a line: class and reference -/
def tkI : Type := Nat × Nat × Bool × Nat × Bool
def kI (c lo : Nat) (pv : Bool) (hi : Nat) (bn : Bool) : tkI := (c, lo, pv, hi, bn)
def tC (t : tkI) : Nat := Prod.fst (α := Nat) (β := Nat × Bool × Nat × Bool) t
def tLo (t : tkI) : Nat := (Prod.snd (α := Nat) (β := Nat × Bool × Nat × Bool) t).1
def tPv (t : tkI) : Bool := (Prod.snd (α := Nat) (β := Nat × Bool × Nat × Bool) t).2.1
def tHi (t : tkI) : Nat := (Prod.snd (α := Nat) (β := Nat × Bool × Nat × Bool) t).2.2.1
def tBn (t : tkI) : Bool := (Prod.snd (α := Nat) (β := Nat × Bool × Nat × Bool) t).2.2.2
def okI (t : tkI) : Prop := ((tC t) < 200 ∧ (tLo t) < 1000 ∧ (tHi t) < 1000) ∧ ¬ (nI (tC t) = 119) ∧ Rd_leastOf (nI (tC t)) = nI (tLo t) ∧ Rd_mostOf (nI (tC t)) = nI (tHi t) ∧ (if nI (tC t) = 117 then some 1 else if nI (tC t) = 111 then some 1 else some 0 : Option Int32) = some (if (tPv t) = true then 1 else 0) ∧ ((tBn t) = true → (tC t) = 98 ∧ (tLo t) = 0 ∧ (tPv t) = false ∧ (tHi t) = 5)
/-- the reference's least for a number -/
def tkLo (m d i : Nat) (t : tkI) (h : am_F) : Int32 := bif (tPv t) then (match (tLo t) with | 0 => h (m + 11) (i - 1 + d) | n + 1 => Md_greater (nI (n + 1)) (h (m + 11) (i - 1 + d))) else nI (tLo t)
def mtC (m d : Nat) (K : am_F → am_J → Option (Int32 × am_F × am_J)) : List tkI → Nat → am_F → am_J → Option (Int32 × am_F × am_J)
  | [], _, h, j => K h j
  | t :: ts, i, h, j => (bif (tBn t) then Md_takeBench m (nI (i + d)) h j else Md_take m (nI (i + d)) (tkLo m d i t h) (nI (tHi t)) h j).bind fun q => if q.1 = 0 then some ((0 : Int32), q.2.1, q.2.2) else mtC m d K ts (i + 1) q.2.1 q.2.2
/-- the end of a line, for the class -/
def finC (l : List (Nat × Nat)) (r : am_R) (a : Nat) (x2 : Int32) (q : am_F) : Option am_F := if (q a 10) = (3 : Int32) then (if (q a 4) = 0 then (Rd_tell l r a x2 q).bind fun q14 => some q14 else some q) else (Rd_breakOff a q).bind fun q15 => some q15
def tkC (l : List (Nat × Nat)) (r : am_R) (a : Nat) (x2 : Int32) : List Nat → Nat → am_F → Option am_F
  | [], _, q => finC l r a x2 q
  | c :: cs, i, q => (Rd_takeNumber l r a (nI c) (nI i) q).bind fun q25 => if q25.1 = 0 then (Rd_breakOff a q25.2).bind fun q27 => some q27 else (Rd_next l r a q25.2).bind (tkC l r a x2 cs (i + 1))
section TAKE
variable {l : List (Nat × Nat)} {r : am_R} {hc hm : am_F} {a m tp L i d f e : Nat} {T vs : Nat → Nat} {j : am_J} {t : tkI} {x2 : Int32}
theorem l41_eq {x3 : Nat} (hx : x3 < 30) (h6 : (am_str x3).length ≤ 6) : ∀ (n i fu : Nat) (h : am_F), i + n = (am_str x3).length → n < fu → Rd_readLine_l41 l r a x2 x3 fu (nI i) h = (Rd_next l r a h).bind (tkC l r a x2 ((am_str x3).drop i) i) := by
  intro n
  induction n with
  | zero =>
    intro i fu h hi hf
    obtain ⟨fu, rfl⟩ : ∃ q, fu = q + 1 := ⟨fu - 1, by omega⟩
    unfold Rd_readLine_l41 g_sx
    rw [if_pos hx, Option.bind_some, if_pos (nI_le (by omega) (by omega)), List.drop_eq_nil_of_le (by omega)]
    rfl
  | succ n ih =>
    intro i fu h hi hf
    obtain ⟨fu, rfl⟩ : ∃ q, fu = q + 1 := ⟨fu - 1, by omega⟩
    unfold Rd_readLine_l41 g_sx
    rw [if_pos hx, Option.bind_some, if_neg (nI_ge (by omega) (by omega)), if_neg (show ¬ (6 : Int32) ≤ nI i from nI_ge (show i < 6 by omega) (by decide)), List.drop_eq_getElem_cons (show i < (am_str x3).length by omega)]
    congr 1
    funext q
    rw [Option.bind_some, z_ix (by omega) (by omega), Option.bind_some, gD_at _ i (by omega)]
    unfold tkC
    congr 1
    funext q25
    rw [nI_1, ih (i + 1) fu _ (by omega) (by omega)]
/-- faults noted so far, for both -/
def ftR (hc hm : am_F) (a m f : Nat) : Prop := (hc a 4 = 0 ∧ hm m 17 = 0 ∧ hc a 5 = -1) ∨ ∃ F P, (F = 2 ∨ F = 3) ∧ P < f ∧ hc a 4 = nI F ∧ hm m 17 = nI F ∧ hc a 5 = nI P ∧ hm m 18 = nI P
theorem ft_le {f' : Nat} (h : ftR hc hm a m f) (hf : f ≤ f') : ftR hc hm a m f' := by
  rcases h with h | ⟨F, P, h1, h2, h3⟩
  · exact .inl h
  · exact .inr ⟨F, P, h1, by omega, h3⟩
theorem ft_fr {hc' hm' : am_F} (h : ftR hc hm a m f) (e1 : hc' a 4 = hc a 4) (e2 : hc' a 5 = hc a 5) (e3 : hm' m 17 = hm m 17) (e4 : hm' m 18 = hm m 18) : ftR hc' hm' a m f := by
  unfold ftR
  rw [e1, e2, e3, e4]
  exact h
theorem flt_eq {c : Nat} (hc23 : c = 2 ∨ c = 3) (hf : f < 1000) (h : ftR hc hm a m f) : ∃ hc' hm', Rd_noteFault a (nI c) (nI f) hc = some hc' ∧ Md_later m (nI c) (nI f) hm = some hm' ∧ ftR hc' hm' a m (f + 1) ∧ hc' a 4 ≠ 0 ∧ (∀ y, y ≠ 4 → y ≠ 5 → hc' a y = hc a y) ∧ (∀ x, x ≠ a → hc' x = hc x) ∧ (∀ y, y ≠ 17 → y ≠ 18 → hm' m y = hm m y) ∧ ∀ x, x ≠ m → hm' x = hm x := by
  unfold Rd_noteFault Md_later
  rcases h with ⟨h1, h2, h3⟩ | ⟨F, P, h1, h2, h3, h4, h5, h6⟩
  · rw [if_pos h1, if_pos h2]
    refine ⟨_, _, rfl, rfl, .inr ⟨c, f, hc23, by omega, ?_, ?_, ?_, ?_⟩, ?_, ?_, ?_, ?_, ?_⟩
    · rw [z_ups, upz_n (by decide), z_ups, upz_s]
    · rw [z_ups, upz_n (by decide), z_ups, upz_s]
    · rw [z_ups, upz_s]
    · rw [z_ups, upz_s]
    · rw [z_ups, upz_n (by decide), z_ups, upz_s]
      rcases hc23 with rfl | rfl <;> decide
    · intro y h1 h2
      rw [z_ups, upz_n h2, z_ups, upz_n h1]
    · intro x hx
      rw [z_upr hx, z_upr hx]
    · intro y h1 h2
      rw [z_ups, upz_n h2, z_ups, upz_n h1]
    · intro x hx
      rw [z_upr hx, z_upr hx]
  · have hF : nI F ≠ 0 := by rcases h1 with rfl | rfl <;> decide
    rw [h3, h4, h6, if_neg hF, if_neg hF, if_neg (nI_nlt (by omega) (by omega)), if_neg (fun h => by have := (nI_eq (show f < 2 ^ 31 by omega) (show P < 2 ^ 31 by omega)).1 h; omega)]
    exact ⟨hc, hm, rfl, rfl, .inr ⟨F, P, h1, by omega, h3, h4, h5, h6⟩, by rw [h3]; exact hF, fun _ _ _ => rfl, fun _ _ => rfl, fun _ _ _ => rfl, fun _ _ => rfl⟩
def loN (t : tkI) (vs : Nat → Nat) (i : Nat) : Nat := if (tPv t) = true then max (tLo t) (vs (i - 1)) else (tLo t)
def nmR (hc hm : am_F) (a m d b0 i : Nat) (vs : Nat → Nat) : Prop := ∀ k, k < i → hc (a + 20) k = nI (vs k) ∧ (b0 ≤ k → hm (m + 11) (k + d) = nI (vs k)) ∧ vs k < 1000
def fbI (B : Nat) : Int32 := if B = 0 then -1 else nI (B - 1)
theorem fb_max {B v : Nat} (hB : B ≤ 6) (hv : v ≤ 5) : ∃ B', B ≤ B' ∧ B' ≤ 6 ∧ v < B' ∧ (if fbI B < nI v then nI v else fbI B) = fbI B' ∧ Md_greater (fbI B) (nI v) = fbI B' := by
  have h : ∀ B, B ≤ 6 → ∀ v, v ≤ 5 → B ≤ max B (v + 1) ∧ max B (v + 1) ≤ 6 ∧ v < max B (v + 1) ∧ (if fbI B < nI v then nI v else fbI B) = fbI (max B (v + 1)) ∧ Md_greater (fbI B) (nI v) = fbI (max B (v + 1)) := by decide +kernel
  exact ⟨_, h B hB v hv⟩
theorem tkLo_at (hd : ∀ (h : (tPv t) = true), hm (m + 11) (i - 1 + d) = nI (vs (i - 1)) ∧ vs (i - 1) < 1000) (ho : okI t) : tkLo m d i t hm = nI (loN t vs i) := by
  obtain ⟨⟨_, h1, h2⟩, _⟩ := ho
  unfold tkLo loN
  by_cases c : (tPv t) = true
  · obtain ⟨q1, q2⟩ := hd c
    rw [c, if_pos rfl]
    simp only [cond_true]
    rw [q1]
    cases e : (tLo t) with
    | zero => simp
    | succ n => simp only; rw [z_greater (by omega) (by omega)]
  · rw [Bool.not_eq_true] at c
    rw [c, if_neg (by decide)]
    rfl
/-- one number: what both do -/
theorem take_no (ho : okI t) (hi : i < 6) (K : tkR hc hm j a m L T f e) (hn : hm m 13 ≠ 3) {x y : Int32} : Rd_takeNumber l r a (nI (tC t)) (nI i) hc = some (0, hc) ∧ Md_take m x y (nI (tHi t)) hm j = some (0, am_up hm m 16 (nI f), j) ∧ Md_takeBench m x hm j = some (0, am_up hm m 16 (nI f), j) := by
  have h10 : hc a 10 ≠ 2 := by
    rcases K.2.2.2.2.2.2 with ⟨q1, q2, _⟩ | ⟨q1, q2, _⟩ | ⟨q1, q2, _⟩ | ⟨q1, q2, _⟩ | ⟨q1, q2, _⟩
    · rw [q1]; decide
    · rw [q1]; decide
    · exact absurd q2 hn
    · rw [q1]; decide
    · rw [q1]; decide
  have hT : ∀ z, Md_take m x y z hm j = some (0, am_up hm m 16 (nI f), j) := by
    intro z
    unfold Md_take
    rw [if_neg hn]
    unfold Md_fails
    rw [K.2.2.2.1]
    rfl
  refine ⟨?_, hT _, ?_⟩
  · unfold Rd_takeNumber
    rw [if_neg (nI_pos (by omega)), if_pos (show nI i < 6 from nI_lt (show i < 6 by omega) (by decide)), if_neg ho.2.1, if_neg h10]
  · have hT2 : Md_take m x 0 5 hm j = some (0, am_up hm m 16 (nI f), j) := by
      unfold Md_take
      rw [if_neg hn]
      unfold Md_fails
      rw [K.2.2.2.1]
      rfl
    unfold Md_takeBench
    rw [hT2, Option.bind_some, if_pos rfl]
end TAKE
