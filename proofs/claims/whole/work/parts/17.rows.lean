section EV
variable {X : Nat × (Nat → Int32)} {m pc pc' len : Nat} {L L' : am_L} {S S' : List Value} {s s' : am_S} {R : Option Value × am_S} {a : List Nat} {P : Prop} {α : Type} {q : α} {E A B : Option α}
/-- two ways on -/
theorem ev_br {i : Instr} {c : Prop} [Decidable c] {p1 p2 : Nat} {L1 L2 : am_L} {S1 S2 : List Value} {s1 s2 : am_S} (hc : am_code m pc = some (i, len, a)) (hi : ∀ (call : Nat → List Value → am_S → am_O) (K : am_K), am_ins am_str X call K pc i a L S s = if c then K p1 L1 S1 s1 else K p2 L2 S2 s2) (k1 : c → A = some q → Ev X m p1 L1 S1 s1 R) (k2 : ¬ c → B = some q → Ev X m p2 L2 S2 s2 R) : (if c then A else B) = some q → Ev X m pc L S s R := by
  intro h
  by_cases hq : c
  · rw [if_pos hq] at h
    obtain ⟨n, h⟩ := k1 hq h
    exact ev_ins hc ⟨n, fun j hj => by rw [hi, if_pos hq]; exact h j hj⟩
  · rw [if_neg hq] at h
    obtain ⟨n, h⟩ := k2 hq h
    exact ev_ins hc ⟨n, fun j hj => by rw [hi, if_neg hq]; exact h j hj⟩
/-- the kind of a cell is looked at -/
theorem ev_ck {i : Instr} {b t p1 : Nat} {L1 : am_L} {S1 : List Value} {s1 : am_S} {F : Nat → Option α} (hc : am_code m pc = some (i, len, a)) (hi : ∀ (call : Nat → List Value → am_S → am_O) (K : am_K), am_ins am_str X call K pc i a L S s = am_is s b t fun _ => K p1 L1 S1 s1) (k : ∀ n, s.1[b]? = some (t, n) → F n = some q → Ev X m p1 L1 S1 s1 R) : ck s b t F = some q → Ev X m pc L S s R := by
  intro h
  unfold ck at h
  split at h
  · rename_i z hz
    cases hb : Nat.beq z.1 t with
    | false => rw [hb] at h; cases h
    | true =>
      rw [hb] at h
      have ht : z.1 = t := Nat.eq_of_beq_eq_true hb
      obtain ⟨n, h2⟩ := k z.2 (by rw [hz, ← ht]) h
      exact ev_ins hc ⟨n, fun j hj => by rw [hi]; unfold am_is; rw [hz]; simp only [hb]; exact h2 j hj⟩
  · cases h
/-- the same where the kind is known -/
theorem ev_kn {i : Instr} {b t n p1 : Nat} {L1 : am_L} {S1 : List Value} {s1 : am_S} (hc : am_code m pc = some (i, len, a)) (hi : ∀ (call : Nat → List Value → am_S → am_O) (K : am_K), am_ins am_str X call K pc i a L S s = am_is s b t fun _ => K p1 L1 S1 s1) (hk : s.1[b]? = some (t, n)) (k : P → Ev X m p1 L1 S1 s1 R) : P → Ev X m pc L S s R := by
  intro p
  obtain ⟨n', h⟩ := k p
  exact ev_ins hc ⟨n', fun j hj => by rw [hi]; unfold am_is; rw [hk]; simp only [Nat.beq_refl]; exact h j hj⟩
/-- an index is looked at -/
theorem ev_xk {i : Instr} {n p1 : Nat} {j : Int32} {L1 : am_L} {S1 : List Value} {s1 : am_S} (hc : am_code m pc = some (i, len, a)) (hi : ∀ (call : Nat → List Value → am_S → am_O) (K : am_K), am_ins am_str X call K pc i a L S s = am_ix j n (K p1 L1 S1 s1)) (k : vp_in j n → E = some q → Ev X m p1 L1 S1 s1 R) : xk j n E = some q → Ev X m pc L S s R := by
  intro h
  unfold xk at h
  split at h
  · cases h
  · rename_i hj
    obtain ⟨n', h2⟩ := k hj h
    exact ev_ins hc ⟨n', fun w hw => by rw [hi]; unfold am_ix; rw [if_neg hj]; exact h2 w hw⟩
/-- a call -/
theorem ev_call {i : Instr} {kk : Nat} {As rest : List Value} {β : Type} {x : Option β} {F : β → Option α} {cv : β → Option Value × am_S} (hc : am_code m pc = some (i, len, a)) (hi : ∀ (call : Nat → List Value → am_S → am_O) (K : am_K), am_ins am_str X call K pc i a L S s = am_rr K pc L rest (call kk As s)) (hcall : ∀ v, x = some v → Call X kk As s (cv v)) (k : ∀ v, x = some v → F v = some q → Ev X m (pc + 3) L ((cv v).1.toList ++ rest) (cv v).2 R) : x.bind F = some q → Ev X m pc L S s R := by
  intro h
  cases hx : x with
  | none => rw [hx] at h; cases h
  | some v =>
    rw [hx] at h
    obtain ⟨c1, n1, h1⟩ := hcall v hx
    obtain ⟨n2, h2⟩ := k v hx h
    refine ev_ins hc ⟨n1 + n2, fun w hw => ?_⟩
    rw [hi]
    have e1 : Nat.ble (am_la As).length (am_maxL kk) = true := by simpa using c1
    simp only [e1, cond_true]
    rw [h1 w (by omega)]
    have h3 := h2 w (by omega)
    cases hcv : cv v with
    | mk o s2 =>
      rw [hcv] at h3
      cases o <;> exact h3
/-- a reference that may be null is used -/
theorem ev_bd {e : Option Nat} {F : Nat → Option α} {G : Prop} (k : ∀ i, e = some i → F i = some q → G) : e.bind F = some q → G := by
  intro h
  cases he : e with
  | none => rw [he] at h; cases h
  | some i => rw [he] at h; exact k i he h
/-- a place of an array of a known kind -/
theorem ev_kx {i : Instr} {b t n p1 : Nat} {j : Int32} {L1 : am_L} {S1 : List Value} {s1 : am_S} (hc : am_code m pc = some (i, len, a)) (hi : ∀ (call : Nat → List Value → am_S → am_O) (K : am_K), am_ins am_str X call K pc i a L S s = am_is s b t fun n => am_ix j n (K p1 L1 S1 s1)) (hk : s.1[b]? = some (t, n)) (k : vp_in j n → E = some q → Ev X m p1 L1 S1 s1 R) : xk j n E = some q → Ev X m pc L S s R :=
  ev_xk hc (fun call K => by rw [hi]; unfold am_is; rw [hk]; simp only [Nat.beq_refl]; rfl) k
theorem ev_ret {i : Instr} {R' : Option Value × am_S} (hc : am_code m pc = some (i, len, a)) (hi : ∀ (call : Nat → List Value → am_S → am_O) (K : am_K), am_ins am_str X call K pc i a L S s = some R') (k : P → R' = R) : P → Ev X m pc L S s R := by
  intro p
  exact ev_ins hc ⟨0, fun j hj => by rw [hi, k p]⟩
theorem ev_pre (h : Ev X m pc L S s R) : s.1 <+: R.2.1 := by
  obtain ⟨n, h⟩ := h
  exact am_mono n m pc L S s R.1 R.2 (h n (Nat.le_refl _))
theorem ev_at {s s2 : am_S} {b : Nat} {z : Nat × Nat} (hp : s.1 <+: s2.1) (h : s.1[b]? = some z) : s2.1[b]? = some z := by
  obtain ⟨w, hw⟩ := hp
  rw [← hw, List.getElem?_append_left (List.getElem?_eq_some_iff.mp h).1]
  exact h
end EV
