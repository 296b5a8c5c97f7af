/-! runs, and rows that lead from a pure function's answer to a run -/
def Ev (X : Nat × (Nat → Int32)) (m pc : Nat) (L : am_L) (S : List Value) (s : am_S) (R : Option Value × am_S) : Prop := ∃ n, ∀ k, n ≤ k → am_ev X k m pc L S s = some R
def Call (X : Nat × (Nat → Int32)) (k : Nat) (As : List Value) (s : am_S) (R : Option Value × am_S) : Prop := (am_la As).length ≤ am_maxL k ∧ Ev X k 0 (am_L0 k As) [] s R
def gI (s : am_S) (i k : Nat) : Int32 := s.2.2.1 i k
def gR (s : am_S) (i k : Nat) : Option Nat := s.2.1 i k
def gJ (s : am_S) (i k : Nat) : Int64 := s.2.2.2 i k
def pI (s : am_S) (i k : Nat) (v : Int32) : am_S := (s.1, s.2.1, am_up s.2.2.1 i k v, s.2.2.2)
def pR (s : am_S) (i k : Nat) (v : Option Nat) : am_S := (s.1, am_up s.2.1 i k v, s.2.2.1, s.2.2.2)
def pJ (s : am_S) (i k : Nat) (v : Int64) : am_S := (s.1, s.2.1, s.2.2.1, am_up s.2.2.2 i k v)
def ck {α : Type} (s : am_S) (i t : Nat) (k : Nat → Option α) : Option α := match s.1[i]? with
  | some q => bif Nat.beq q.1 t then k q.2 else none
  | none => none
def xk {α : Type} (j : Int32) (n : Nat) (k : Option α) : Option α := if j < 0 ∨ n ≤ j.toNatClampNeg then none else k
section EV
variable {X : Nat × (Nat → Int32)} {m pc pc' len : Nat} {L L' : am_L} {S S' : List Value} {s s' : am_S} {R : Option Value × am_S} {i : Instr} {a : List Nat} {P : Prop} {α : Type} {q : α}
theorem ev_ins (hc : am_code m pc = some (i, len, a)) (h : ∃ n, ∀ k, n ≤ k → am_ins am_str X (fun j As s => bif Nat.ble (am_la As).length (am_maxL j) then am_ev X k j 0 (am_L0 j As) [] s else none) (am_ev X k m) pc i a L S s = some R) : Ev X m pc L S s R := by
  obtain ⟨n, h⟩ := h
  refine ⟨n + 1, fun k hk => ?_⟩
  obtain ⟨j, rfl⟩ : ∃ j, k = j + 1 := ⟨k - 1, by omega⟩
  unfold am_ev
  rw [hc]
  exact h j (by omega)
/-- a plain instruction -/
theorem ev_go (hc : am_code m pc = some (i, len, a)) (hi : ∀ (call : Nat → List Value → am_S → am_O) (K : am_K), am_ins am_str X call K pc i a L S s = K pc' L' S' s') (k : P → Ev X m pc' L' S' s' R) : P → Ev X m pc L S s R := by
  intro p
  obtain ⟨n, h⟩ := k p
  exact ev_ins hc ⟨n, fun j hj => by rw [hi]; exact h j hj⟩
end EV
