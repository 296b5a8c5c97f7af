section EV
variable {X : Nat × (Nat → Int32)} {m pc pc' len : Nat} {L L' : am_L} {S S' : List Value} {s s' : am_S} {R : Option Value × am_S} {a : List Nat} {P : Prop} {α : Type} {q : α} {E A B : Option α}
/-- two ways on -/
theorem ev_br {i : Instr} {c : Prop} [Decidable c] {p1 p2 : Nat} {L1 L2 : am_L} {S1 S2 : List Value} {s1 s2 : am_S} (hc : am_code m pc = some (i, len, a)) (hi : ∀ (call : Nat → List Value → am_S → am_O) (K : am_K), am_ins am_str X call K pc i a L S s = if c then K p1 L1 S1 s1 else K p2 L2 S2 s2) (k1 : c → A = some q → Ev X m p1 L1 S1 s1 R) (k2 : ¬ c → B = some q → Ev X m p2 L2 S2 s2 R) : (if c then A else B) = some q → Ev X m pc L S s R := by
  intro h
  by_cases hq : c
  · rw [if_pos hq] at h
    obtain ⟨n, h⟩ := k1 hq h
    exact ev_ins hc ⟨n, fun j hj => by rw [hi, if_pos hq]; exact h j hj⟩
  · rw [if_neg hq] at h
    obtain ⟨n, h⟩ := k2 hq h
    exact ev_ins hc ⟨n, fun j hj => by rw [hi, if_neg hq]; exact h j hj⟩
/-- the kind of a cell is looked at -/
theorem ev_ck {i : Instr} {b t p1 : Nat} {L1 : am_L} {S1 : List Value} {s1 : am_S} {F : Nat → Option α} (hc : am_code m pc = some (i, len, a)) (hi : ∀ (call : Nat → List Value → am_S → am_O) (K : am_K), am_ins am_str X call K pc i a L S s = am_is s b t fun _ => K p1 L1 S1 s1) (k : ∀ n, s.1[b]? = some (t, n) → F n = some q → Ev X m p1 L1 S1 s1 R) : ck s b t F = some q → Ev X m pc L S s R := by
  intro h
  unfold ck at h
  split at h
  · rename_i z hz
    cases hb : Nat.beq z.1 t with
    | false => rw [hb] at h; cases h
    | true =>
      rw [hb] at h
      have ht : z.1 = t := Nat.eq_of_beq_eq_true hb
      obtain ⟨n, h2⟩ := k z.2 (by rw [hz, ← ht]) h
      exact ev_ins hc ⟨n, fun j hj => by rw [hi]; unfold am_is; rw [hz]; simp only [hb]; exact h2 j hj⟩
  · cases h
/-- the same where the kind is known -/
theorem ev_kn {i : Instr} {b t n p1 : Nat} {L1 : am_L} {S1 : List Value} {s1 : am_S} (hc : am_code m pc = some (i, len, a)) (hi : ∀ (call : Nat → List Value → am_S → am_O) (K : am_K), am_ins am_str X call K pc i a L S s = am_is s b t fun _ => K p1 L1 S1 s1) (hk : s.1[b]? = some (t, n)) (k : P → Ev X m p1 L1 S1 s1 R) : P → Ev X m pc L S s R := by
  intro p
  obtain ⟨n', h⟩ := k p
  exact ev_ins hc ⟨n', fun j hj => by rw [hi]; unfold am_is; rw [hk]; simp only [Nat.beq_refl]; exact h j hj⟩
end EV
