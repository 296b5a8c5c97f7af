/-! rows of a walk: a run from here follows from a run from there -/
def g_ix (j : Int32) (n : Nat) : Option Nat := if j < 0 ∨ n ≤ j.toNatClampNeg then none else some j.toNatClampNeg
def g_ln (l : List (Nat × Nat)) (b : Nat) : Nat := match l[b]? with
  | some q => q.2
  | none => 0
def g_dv (x y : Int32) : Option Int32 := if y = 0 then none else some (x / y)
def g_rm (x y : Int32) : Option Int32 := if y = 0 then none else some (x - x / y * y)
def g_dvJ (x y : Int64) : Option Int64 := if y = 0 then none else some (x / y)
def g_rmJ (x y : Int64) : Option Int64 := if y = 0 then none else some (x - x / y * y)
def g_bz (x : Int32) : Option Int32 := if x = 0 ∨ x = 1 then some x else none
def g_sx (e : Nat) : Option Nat := if e < 30 then some e else none
def g_on {α : Type} (o : Option Nat) (A : α) (B : Nat → α) : α := match o with
  | none => A
  | some p => B p
def g_cx (n : Int32) (n1 n2 : Nat) : Option Nat := if n < 0 ∨ n1 < n.toNatClampNeg ∨ n2 < n.toNatClampNeg then none else some n.toNatClampNeg
def g_fu : Nat := 100000
def g_cp (h : am_F) (b d k : Nat) : am_F := am_row h d (va_cpy (h b) (h d) 0 0 k)
theorem g_lnk {l : List (Nat × Nat)} {b t n : Nat} (h : l[b]? = some (t, n)) : l[b]? = some (t, g_ln l b) := by
  unfold g_ln
  rw [h]
theorem g_onN {α : Type} {A q : α} {B : Nat → α} (e : g_on none A B = q) : A = q := e
theorem g_onS {α : Type} {A q : α} {B : Nat → α} {p : Nat} (e : g_on (some p) A B = q) : B p = q := e
theorem g_bd {α β : Type} {x : Option α} {F : α → Option β} {q : β} (e : x.bind F = some q) : ∃ v, x = some v ∧ F v = some q := Option.bind_eq_some_iff.1 e
theorem g_ixs {x : Int32} {n k : Nat} (e : g_ix x n = some k) : ¬ (x < 0 ∨ n ≤ x.toNatClampNeg) ∧ k = x.toNatClampNeg := by
  unfold g_ix at e
  split at e
  · cases e
  · cases e; exact ⟨by assumption, rfl⟩
theorem g_ne {x c : Int32} (h : ¬ x = c) : x.toInt ≠ c.toInt := fun e => h (Int32.toInt_inj.1 e)
theorem g_onN2 {α : Type} {o : Option Nat} {A q : α} {B : Nat → α} (h : o = none) (e : g_on o A B = q) : A = q := by
  subst h
  exact e
theorem g_onS2 {α : Type} {o : Option Nat} {A q : α} {B : Nat → α} {p : Nat} (h : o = some p) (e : g_on o A B = q) : B p = q := by
  subst h
  exact e
section EV
variable {X : Nat × (Nat → Int32)} {m pc len : Nat} {L : am_L} {S : List Value} {l : List (Nat × Nat)} {r : am_R} {h : am_F} {j : am_J} {R : Option Value × am_S}
theorem g_run {pc0 : Nat} {L0 : am_L} {S0 : List Value} {s0 : am_S} (n pc : Nat) (L : am_L) (S : List Value) {s : am_S} (hi : ∀ k, am_ev X (k + n) m pc0 L0 S0 s0 = am_ev X k m pc L S s) (k : Ev X m pc L S s R) : Ev X m pc0 L0 S0 s0 R := by
  obtain ⟨w, hw⟩ := k
  refine ⟨w + n, fun i hi2 => ?_⟩
  obtain ⟨d, rfl⟩ : ∃ d, i = d + n := ⟨i - n, by omega⟩
  rw [hi]
  exact hw d (by omega)
theorem g_go {i : Instr} {a : List Nat} {s : am_S} (p1 : Nat) (L1 : am_L) (S1 : List Value) (hc : am_code m pc = some (i, len, a)) (hi : ∀ (call : Nat → List Value → am_S → am_O) (K : am_K), am_ins am_str X call K pc i a L S s = K p1 L1 S1 s) (k : Ev X m p1 L1 S1 s R) : Ev X m pc L S s R :=
  ev_go (P := True) hc hi (fun _ => k) trivial
theorem g_is {i : Instr} {a : List Nat} {s : am_S} {b t n p1 : Nat} {L1 : am_L} {S1 : List Value} {s1 : am_S} (hc : am_code m pc = some (i, len, a)) (hi : ∀ (call : Nat → List Value → am_S → am_O) (K : am_K), am_ins am_str X call K pc i a L S s = am_is s b t fun _ => K p1 L1 S1 s1) (hk : s.1[b]? = some (t, n)) (k : Ev X m p1 L1 S1 s1 R) : Ev X m pc L S s R :=
  ev_kn (P := True) hc hi hk (fun _ => k) trivial
theorem g_isx {i : Instr} {a : List Nat} {s : am_S} {b t n kx p1 : Nat} {x : Int32} {L1 : am_L} {S1 : List Value} {s1 : am_S} (hc : am_code m pc = some (i, len, a)) (hi : ∀ (call : Nat → List Value → am_S → am_O) (K : am_K), am_ins am_str X call K pc i a L S s = am_is s b t fun n => am_ix x n (K p1 L1 S1 s1)) (hk : s.1[b]? = some (t, n)) (hx : g_ix x n = some kx) (k : Ev X m p1 L1 S1 s1 R) : Ev X m pc L S s R := by
  obtain ⟨n', h2⟩ := k
  have hj := (g_ixs hx).1
  exact ev_ins hc ⟨n', fun w hw => by rw [hi]; unfold am_is; rw [hk]; simp only [Nat.beq_refl, cond_true]; unfold am_ix; rw [if_neg hj]; exact h2 w hw⟩
theorem g_getI {w ci f z nn b : Nat} (p1 : Nat) (hp : pc + 3 = p1) (hc : am_code m pc = some (.getfield w, len, [ci, f, 0, z])) (hk : l[b]? = some (ci, nn)) (k : Ev X m p1 L (.int (h b f) :: S) (l, r, h, j) R) : Ev X m pc L (.ref b :: S) (l, r, h, j) R := by
  subst hp
  exact g_is hc (fun _ _ => rfl) hk k
theorem g_getZ {w ci f z nn b : Nat} (p1 : Nat) (hp : pc + 3 = p1) (hc : am_code m pc = some (.getfield w, len, [ci, f, 1, z])) (hk : l[b]? = some (ci, nn)) (k : Ev X m p1 L (.int (h b f) :: S) (l, r, h, j) R) : Ev X m pc L (.ref b :: S) (l, r, h, j) R := by
  subst hp
  exact g_is hc (fun _ _ => rfl) hk k
theorem g_getJ {w ci f z nn b : Nat} (p1 : Nat) (hp : pc + 3 = p1) (hc : am_code m pc = some (.getfield w, len, [ci, f, 2, z])) (hk : l[b]? = some (ci, nn)) (k : Ev X m p1 L (.long (j b f) :: S) (l, r, h, j) R) : Ev X m pc L (.ref b :: S) (l, r, h, j) R := by
  subst hp
  exact g_is hc (fun _ _ => rfl) hk k
theorem g_getO {w ci f z nn b : Nat} (p1 : Nat) (hp : pc + 3 = p1) (hc : am_code m pc = some (.getfield w, len, [ci, f, 3, z])) (hk : l[b]? = some (ci, nn)) (k : Ev X m p1 L (va_rf (r b f) :: S) (l, r, h, j) R) : Ev X m pc L (.ref b :: S) (l, r, h, j) R := by
  subst hp
  exact g_is hc (fun _ _ => rfl) hk k
theorem g_getA {w ci f z nn b c : Nat} (p1 : Nat) (hp : pc + 3 = p1) (hc : am_code m pc = some (.getfield w, len, [ci, f, 3, z])) (hk : l[b]? = some (ci, nn)) (hr : r b f = some c) (k : Ev X m p1 L (.ref c :: S) (l, r, h, j) R) : Ev X m pc L (.ref b :: S) (l, r, h, j) R := by
  refine g_getO p1 hp hc hk ?_
  rw [hr]
  exact k
theorem g_putI {w ci f z nn b : Nat} {v : Int32} (p1 : Nat) (hp : pc + 3 = p1) (hc : am_code m pc = some (.putfield w, len, [ci, f, 0, z])) (hk : l[b]? = some (ci, nn)) (k : Ev X m p1 L S (l, r, am_up h b f v, j) R) : Ev X m pc L (.int v :: .ref b :: S) (l, r, h, j) R := by
  subst hp
  exact g_is hc (fun _ _ => rfl) hk k
theorem g_putZ {w ci f z nn b : Nat} {v : Int32} (p1 : Nat) (hp : pc + 3 = p1) (hc : am_code m pc = some (.putfield w, len, [ci, f, 1, z])) (hk : l[b]? = some (ci, nn)) (hv : v = 0 ∨ v = 1) (k : Ev X m p1 L S (l, r, am_up h b f v, j) R) : Ev X m pc L (.int v :: .ref b :: S) (l, r, h, j) R := by
  subst hp
  refine g_is (p1 := pc + 3) (L1 := L) (S1 := S) (s1 := (l, r, am_up h b f v, j)) hc (fun call K => ?_) hk k
  show am_is (l, r, h, j) b ci (fun _ => if v = 0 ∨ v = 1 then K (pc + 3) L S (l, r, am_up h b f v, j) else none) = _
  simp only [if_pos hv]
theorem g_putJ {w ci f z nn b : Nat} {v : Int64} (p1 : Nat) (hp : pc + 3 = p1) (hc : am_code m pc = some (.putfield w, len, [ci, f, 2, z])) (hk : l[b]? = some (ci, nn)) (k : Ev X m p1 L S (l, r, h, am_up j b f v) R) : Ev X m pc L (.long v :: .ref b :: S) (l, r, h, j) R := by
  subst hp
  exact g_is hc (fun _ _ => rfl) hk k
theorem g_putR {w ci f z nn b v : Nat} (p1 : Nat) (hp : pc + 3 = p1) (hc : am_code m pc = some (.putfield w, len, [ci, f, 3, z])) (hk : l[b]? = some (ci, nn)) (k : Ev X m p1 L S (l, am_up r b f (some v), h, j) R) : Ev X m pc L (.ref v :: .ref b :: S) (l, r, h, j) R := by
  subst hp
  exact g_is hc (fun _ _ => rfl) hk k
theorem g_iald {b n kx : Nat} {x : Int32} (p1 : Nat) (hp : pc + 1 = p1) (hc : am_code m pc = some (.iaload, len, [])) (hk : l[b]? = some (10, n)) (hx : g_ix x n = some kx) (k : Ev X m p1 L (.int (h b kx) :: S) (l, r, h, j) R) : Ev X m pc L (.int x :: .ref b :: S) (l, r, h, j) R := by
  subst hp
  obtain ⟨_, rfl⟩ := g_ixs hx
  exact g_isx hc (fun _ _ => rfl) hk hx k
theorem g_iaX {kx : Nat} {x : Int32} (p1 : Nat) (hp : pc + 1 = p1) (hc : am_code m pc = some (.iaload, len, [])) (hx : g_ix x X.1 = some kx) (k : Ev X m p1 L (.int (X.2 kx) :: S) (l, r, h, j) R) : Ev X m pc L (.int x :: .retAddr 1000 :: S) (l, r, h, j) R := by
  subst hp
  obtain ⟨n', h2⟩ := k
  obtain ⟨hj, rfl⟩ := g_ixs hx
  refine ev_ins hc ⟨n', fun w hw => ?_⟩
  show am_ix x X.1 _ = _
  unfold am_ix
  rw [if_neg hj]
  exact h2 w hw
theorem g_bald {b t n kx : Nat} {x : Int32} (p1 : Nat) (hp : pc + 1 = p1) (hc : am_code m pc = some (.baload, len, [])) (hk : l[b]? = some (t, n)) (ht : (Nat.beq t 11 || Nat.beq t 12) = true) (hx : g_ix x n = some kx) (k : Ev X m p1 L (.int (h b kx) :: S) (l, r, h, j) R) : Ev X m pc L (.int x :: .ref b :: S) (l, r, h, j) R := by
  subst hp
  obtain ⟨n', h2⟩ := k
  obtain ⟨hj, rfl⟩ := g_ixs hx
  refine ev_ins hc ⟨n', fun w hw => ?_⟩
  show (match l[b]? with | some q => (bif Nat.beq q.1 11 || Nat.beq q.1 12 then am_ix x q.2 _ else none) | none => none) = _
  rw [hk]
  simp only [ht, cond_true]
  unfold am_ix
  rw [if_neg hj]
  exact h2 w hw
theorem g_aald {b t n kx : Nat} {x : Int32} (p1 : Nat) (hp : pc + 1 = p1) (hc : am_code m pc = some (.aaload, len, [])) (hk : l[b]? = some (t, n)) (ht : (Nat.ble 13 t && Nat.ble t 15) = true) (hx : g_ix x n = some kx) (k : Ev X m p1 L (va_rf (r b kx) :: S) (l, r, h, j) R) : Ev X m pc L (.int x :: .ref b :: S) (l, r, h, j) R := by
  subst hp
  obtain ⟨n', h2⟩ := k
  obtain ⟨hj, rfl⟩ := g_ixs hx
  refine ev_ins hc ⟨n', fun w hw => ?_⟩
  show (match l[b]? with | some q => (bif Nat.ble 13 q.1 && Nat.ble q.1 15 then am_ix x q.2 _ else none) | none => none) = _
  rw [hk]
  simp only [ht, cond_true]
  unfold am_ix
  rw [if_neg hj]
  exact h2 w hw
theorem g_iast {b n kx : Nat} {x v : Int32} (p1 : Nat) (hp : pc + 1 = p1) (hc : am_code m pc = some (.iastore, len, [])) (hk : l[b]? = some (10, n)) (hx : g_ix x n = some kx) (k : Ev X m p1 L S (l, r, am_up h b kx v, j) R) : Ev X m pc L (.int v :: .int x :: .ref b :: S) (l, r, h, j) R := by
  subst hp
  obtain ⟨_, rfl⟩ := g_ixs hx
  exact g_isx hc (fun _ _ => rfl) hk hx k
theorem g_bast {b n kx : Nat} {x v : Int32} (p1 : Nat) (hp : pc + 1 = p1) (hc : am_code m pc = some (.bastore, len, [])) (hk : l[b]? = some (11, n)) (hx : g_ix x n = some kx) (k : Ev X m p1 L S (l, r, am_up h b kx v.toInt8.toInt32, j) R) : Ev X m pc L (.int v :: .int x :: .ref b :: S) (l, r, h, j) R := by
  subst hp
  obtain ⟨n', h2⟩ := k
  obtain ⟨hj, rfl⟩ := g_ixs hx
  refine ev_ins hc ⟨n', fun w hw => ?_⟩
  show (match l[b]? with | some q => (bif Nat.beq q.1 11 then am_ix x q.2 _ else bif Nat.beq q.1 12 then am_ix x q.2 _ else none) | none => none) = _
  rw [hk]
  show am_ix x n _ = _
  unfold am_ix
  rw [if_neg hj]
  exact h2 w hw
theorem g_bastZ {b n kx : Nat} {x v : Int32} (p1 : Nat) (hp : pc + 1 = p1) (hc : am_code m pc = some (.bastore, len, [])) (hk : l[b]? = some (12, n)) (hx : g_ix x n = some kx) (k : Ev X m p1 L S (l, r, am_up h b kx (vp_nar .boolean v), j) R) : Ev X m pc L (.int v :: .int x :: .ref b :: S) (l, r, h, j) R := by
  subst hp
  obtain ⟨n', h2⟩ := k
  obtain ⟨hj, rfl⟩ := g_ixs hx
  refine ev_ins hc ⟨n', fun w hw => ?_⟩
  show (match l[b]? with | some q => (bif Nat.beq q.1 11 then am_ix x q.2 _ else bif Nat.beq q.1 12 then am_ix x q.2 _ else none) | none => none) = _
  rw [hk]
  show am_ix x n _ = _
  unfold am_ix
  rw [if_neg hj]
  exact h2 w hw
theorem g_alen {b t n : Nat} (p1 : Nat) (hp : pc + 1 = p1) (hc : am_code m pc = some (.arraylength, len, [])) (hk : l[b]? = some (t, n)) (ht : (Nat.ble 10 t && Nat.ble t 15) = true) (k : Ev X m p1 L (.int (Int32.ofNat n) :: S) (l, r, h, j) R) : Ev X m pc L (.ref b :: S) (l, r, h, j) R := by
  subst hp
  obtain ⟨n', h2⟩ := k
  refine ev_ins hc ⟨n', fun w hw => ?_⟩
  show (match l[b]? with | some q => (bif Nat.ble 10 q.1 && Nat.ble q.1 15 then _ else none) | none => none) = _
  rw [hk]
  simp only [ht, cond_true]
  exact h2 w hw
theorem g_idiv {x y v : Int32} {s : am_S} (p1 : Nat) (hp : pc + 1 = p1) (hc : am_code m pc = some (.idiv, len, [])) (hx : g_dv x y = some v) (k : Ev X m p1 L (.int v :: S) s R) : Ev X m pc L (.int y :: .int x :: S) s R := by
  subst hp
  obtain ⟨n', h2⟩ := k
  unfold g_dv at hx
  refine ev_ins hc ⟨n', fun w hw => ?_⟩
  show (if y = 0 then none else _) = _
  split at hx
  · cases hx
  · cases hx; rename_i hy; rw [if_neg hy]; exact h2 w hw
theorem g_irem {x y v : Int32} {s : am_S} (p1 : Nat) (hp : pc + 1 = p1) (hc : am_code m pc = some (.irem, len, [])) (hx : g_rm x y = some v) (k : Ev X m p1 L (.int v :: S) s R) : Ev X m pc L (.int y :: .int x :: S) s R := by
  subst hp
  obtain ⟨n', h2⟩ := k
  unfold g_rm at hx
  refine ev_ins hc ⟨n', fun w hw => ?_⟩
  show (if y = 0 then none else _) = _
  split at hx
  · cases hx
  · cases hx; rename_i hy; rw [if_neg hy]; exact h2 w hw
theorem g_ldiv {x y v : Int64} {s : am_S} (p1 : Nat) (hp : pc + 1 = p1) (hc : am_code m pc = some (.ldiv, len, [])) (hx : g_dvJ x y = some v) (k : Ev X m p1 L (.long v :: S) s R) : Ev X m pc L (.long y :: .long x :: S) s R := by
  subst hp
  obtain ⟨n', h2⟩ := k
  unfold g_dvJ at hx
  refine ev_ins hc ⟨n', fun w hw => ?_⟩
  show (if y = 0 then none else _) = _
  split at hx
  · cases hx
  · cases hx; rename_i hy; rw [if_neg hy]; exact h2 w hw
theorem g_lrem {x y v : Int64} {s : am_S} (p1 : Nat) (hp : pc + 1 = p1) (hc : am_code m pc = some (.lrem, len, [])) (hx : g_rmJ x y = some v) (k : Ev X m p1 L (.long v :: S) s R) : Ev X m pc L (.long y :: .long x :: S) s R := by
  subst hp
  obtain ⟨n', h2⟩ := k
  unfold g_rmJ at hx
  refine ev_ins hc ⟨n', fun w hw => ?_⟩
  show (if y = 0 then none else _) = _
  split at hx
  · cases hx
  · cases hx; rename_i hy; rw [if_neg hy]; exact h2 w hw
theorem g_if {α : Type} {i : Instr} {a : List Nat} {c : Prop} [Decidable c] {p1 p2 : Nat} {L1 L2 : am_L} {S1 S2 : List Value} {s s1 s2 : am_S} {A B : α} {q : α} (hc : am_code m pc = some (i, len, a)) (hi : ∀ (call : Nat → List Value → am_S → am_O) (K : am_K), am_ins am_str X call K pc i a L S s = if c then K p1 L1 S1 s1 else K p2 L2 S2 s2) (e : (if c then A else B) = q) (k1 : c → A = q → Ev X m p1 L1 S1 s1 R) (k2 : ¬ c → B = q → Ev X m p2 L2 S2 s2 R) : Ev X m pc L S s R := by
  by_cases hq : c
  · rw [if_pos hq] at e
    obtain ⟨n, h⟩ := k1 hq e
    exact ev_ins hc ⟨n, fun j hj => by rw [hi, if_pos hq]; exact h j hj⟩
  · rw [if_neg hq] at e
    obtain ⟨n, h⟩ := k2 hq e
    exact ev_ins hc ⟨n, fun j hj => by rw [hi, if_neg hq]; exact h j hj⟩
theorem g_cV {w kk na z ci nn b : Nat} {rest As : List Value} {v : Value} {s2 : am_S} (p1 : Nat) (hp : pc + 3 = p1) (hc : am_code m pc = some (.invokevirtual w, len, [0, kk, na, z, ci])) (hS : S.drop na = .ref b :: rest) (hA : (S.take na).reverse = As) (hle : Nat.ble rest.length 4 = true) (hk : l[b]? = some (ci, nn)) (hcall : Call X kk (.ref b :: As) (l, r, h, j) (some v, s2)) (k : Ev X m p1 L (v :: rest) s2 R) : Ev X m pc L S (l, r, h, j) R := by
  subst hp; subst hA
  obtain ⟨c1, n1, h1⟩ := hcall
  obtain ⟨n2, h2⟩ := k
  refine ev_ins hc ⟨n1 + n2, fun i hi => ?_⟩
  show am_dr S na (fun b rest => am_is (l, r, h, j) b ci fun _ => am_rr (am_ev X i m) pc L rest (bif Nat.ble (am_la (.ref b :: (S.take na).reverse)).length (am_maxL kk) then am_ev X i kk 0 (am_L0 kk (.ref b :: (S.take na).reverse)) [] (l, r, h, j) else none)) = some R
  have e1 : Nat.ble (am_la (.ref b :: (S.take na).reverse)).length (am_maxL kk) = true := by simpa using c1
  unfold am_dr
  rw [hS]
  simp only [hle, cond_true]
  unfold am_is
  simp only [hk, Nat.beq_refl, cond_true, e1]
  rw [h1 i (by omega)]
  exact h2 i (by omega)
theorem g_cVv {w kk na z ci nn b : Nat} {rest As : List Value} {s2 : am_S} (p1 : Nat) (hp : pc + 3 = p1) (hc : am_code m pc = some (.invokevirtual w, len, [0, kk, na, z, ci])) (hS : S.drop na = .ref b :: rest) (hA : (S.take na).reverse = As) (hle : Nat.ble rest.length 4 = true) (hk : l[b]? = some (ci, nn)) (hcall : Call X kk (.ref b :: As) (l, r, h, j) (none, s2)) (k : Ev X m p1 L rest s2 R) : Ev X m pc L S (l, r, h, j) R := by
  subst hp; subst hA
  obtain ⟨c1, n1, h1⟩ := hcall
  obtain ⟨n2, h2⟩ := k
  refine ev_ins hc ⟨n1 + n2, fun i hi => ?_⟩
  show am_dr S na (fun b rest => am_is (l, r, h, j) b ci fun _ => am_rr (am_ev X i m) pc L rest (bif Nat.ble (am_la (.ref b :: (S.take na).reverse)).length (am_maxL kk) then am_ev X i kk 0 (am_L0 kk (.ref b :: (S.take na).reverse)) [] (l, r, h, j) else none)) = some R
  have e1 : Nat.ble (am_la (.ref b :: (S.take na).reverse)).length (am_maxL kk) = true := by simpa using c1
  unfold am_dr
  rw [hS]
  simp only [hle, cond_true]
  unfold am_is
  simp only [hk, Nat.beq_refl, cond_true, e1]
  rw [h1 i (by omega)]
  exact h2 i (by omega)
theorem g_cS {w kk na z z2 kd : Nat} {rest As : List Value} {v : Value} {s s2 : am_S} (p1 : Nat) (hp : pc + 3 = p1) (hc : am_code m pc = some (.invokestatic w, len, [kd, kk, na, z, z2])) (hkd : kd = 1 ∨ kd = 2) (hS : S.drop na = rest) (hA : (S.take na).reverse = As) (hle : (Nat.ble na S.length && Nat.ble rest.length 4) = true) (hcall : Call X kk As s (some v, s2)) (k : Ev X m p1 L (v :: rest) s2 R) : Ev X m pc L S s R := by
  subst hp; subst hA; subst hS
  obtain ⟨c1, n1, h1⟩ := hcall
  obtain ⟨n2, h2⟩ := k
  refine ev_ins hc ⟨n1 + n2, fun i hi => ?_⟩
  have e1 : Nat.ble (am_la (S.take na).reverse).length (am_maxL kk) = true := by simpa using c1
  have : (bif Nat.ble na S.length && Nat.ble (S.drop na).length 4 then am_rr (am_ev X i m) pc L (S.drop na) (bif Nat.ble (am_la (S.take na).reverse).length (am_maxL kk) then am_ev X i kk 0 (am_L0 kk (S.take na).reverse) [] s else none) else none) = some R := by
    simp only [hle, cond_true, e1]
    rw [h1 i (by omega)]
    exact h2 i (by omega)
  rcases hkd with rfl | rfl <;> exact this
theorem g_cSv {w kk na z z2 kd : Nat} {rest As : List Value} {s s2 : am_S} (p1 : Nat) (hp : pc + 3 = p1) (hc : am_code m pc = some (.invokestatic w, len, [kd, kk, na, z, z2])) (hkd : kd = 1 ∨ kd = 2) (hS : S.drop na = rest) (hA : (S.take na).reverse = As) (hle : (Nat.ble na S.length && Nat.ble rest.length 4) = true) (hcall : Call X kk As s (none, s2)) (k : Ev X m p1 L rest s2 R) : Ev X m pc L S s R := by
  subst hp; subst hA; subst hS
  obtain ⟨c1, n1, h1⟩ := hcall
  obtain ⟨n2, h2⟩ := k
  refine ev_ins hc ⟨n1 + n2, fun i hi => ?_⟩
  have e1 : Nat.ble (am_la (S.take na).reverse).length (am_maxL kk) = true := by simpa using c1
  have : (bif Nat.ble na S.length && Nat.ble (S.drop na).length 4 then am_rr (am_ev X i m) pc L (S.drop na) (bif Nat.ble (am_la (S.take na).reverse).length (am_maxL kk) then am_ev X i kk 0 (am_L0 kk (S.take na).reverse) [] s else none) else none) = some R := by
    simp only [hle, cond_true, e1]
    rw [h1 i (by omega)]
    exact h2 i (by omega)
  rcases hkd with rfl | rfl <;> exact this
theorem g_ret {i : Instr} {a : List Nat} {s : am_S} (hc : am_code m pc = some (i, len, a)) (hi : ∀ (call : Nat → List Value → am_S → am_O) (K : am_K), am_ins am_str X call K pc i a L S s = some R) : Ev X m pc L S s R :=
  ev_ins hc ⟨0, fun j _ => by rw [hi]⟩
theorem g_retZ {x y : Int32} {s : am_S} (hc : am_code m pc = some (.ireturn, len, [1])) (hx : g_bz x = some y) (hR : R = (some (.int y), s)) : Ev X m pc L [.int x] s R := by
  subst hR
  unfold g_bz at hx
  split at hx
  · cases hx; rename_i hy
    refine ev_ins hc ⟨0, fun j _ => ?_⟩
    show (if x = 0 ∨ x = 1 then _ else none) = _
    rw [if_pos hy]
  · cases hx
theorem g_retO {o : Option Nat} {s : am_S} (hc : am_code m pc = some (.areturn, len, [])) (hR : R = (some (va_rf o), s)) : Ev X m pc L [va_rf o] s R := by
  subst hR
  refine ev_ins hc ⟨0, fun j _ => ?_⟩
  cases o <;> rfl
theorem g_cpy {w z0 z1 z2 z3 b d t n1 n2 kx : Nat} {x : Int32} (p1 : Nat) (hp : pc + 3 = p1) (hc : am_code m pc = some (.invokestatic w, len, [9, z0, z1, z2, z3])) (hb : l[b]? = some (t, n1)) (hd : l[d]? = some (t, n2)) (ht : (Nat.beq t 10 || Nat.beq t 11) = true) (hx : g_cx x n1 n2 = some kx) (hS : Nat.ble S.length 4 = true) (k : Ev X m p1 L S (l, r, g_cp h b d kx, j) R) : Ev X m pc L (.int x :: .int 0 :: .ref d :: .int 0 :: .ref b :: S) (l, r, h, j) R := by
  subst hp
  obtain ⟨n', h2⟩ := k
  refine ev_ins hc ⟨n', fun w hw => ?_⟩
  show am_cpy (am_ev X w m) pc L (.int x :: .int 0 :: .ref d :: .int 0 :: .ref b :: S) (l, r, h, j) = _
  unfold am_cpy
  simp only [hb, hd, Nat.beq_refl, Bool.true_and, ht, hS, cond_true]
  unfold g_cx at hx
  split at hx
  · cases hx
  · cases hx
    rename_i hn
    rw [if_neg (by
      rintro (h | h | h | h | h)
      · exact absurd h (by decide)
      · exact absurd h (by decide)
      · exact hn (.inl h)
      · exact hn (.inr (.inl (by simpa using h)))
      · exact hn (.inr (.inr (by simpa using h))))]
    exact h2 w hw
theorem g_slen {w z0 z1 z2 z3 e : Nat} {s : am_S} (p1 : Nat) (hp : pc + 3 = p1) (hc : am_code m pc = some (.invokevirtual w, len, [10, z0, z1, z2, z3])) (he : g_sx e = some e) (hS : Nat.ble S.length 4 = true) (k : Ev X m p1 L (.int (nI (am_str e).length) :: S) s R) : Ev X m pc L (.retAddr e :: S) s R := by
  subst hp
  obtain ⟨n', h2⟩ := k
  refine ev_ins hc ⟨n', fun w hw => ?_⟩
  show (bif Nat.blt e 30 && Nat.ble S.length 4 then _ else none) = _
  unfold g_sx at he
  split at he
  · rename_i h30
    rw [show Nat.blt e 30 = true from Nat.ble_eq_true_of_le h30, hS]
    exact h2 w hw
  · cases he
theorem g_char {w z0 z1 z2 z3 e kx : Nat} {x : Int32} {s : am_S} (p1 : Nat) (hp : pc + 3 = p1) (hc : am_code m pc = some (.invokevirtual w, len, [11, z0, z1, z2, z3])) (he : g_sx e = some e) (hx : g_ix x (am_str e).length = some kx) (hS : Nat.ble S.length 4 = true) (k : Ev X m p1 L (.int (nI ((am_str e).getD kx 0)) :: S) s R) : Ev X m pc L (.int x :: .retAddr e :: S) s R := by
  subst hp
  obtain ⟨n', h2⟩ := k
  obtain ⟨hj, rfl⟩ := g_ixs hx
  refine ev_ins hc ⟨n', fun w hw => ?_⟩
  show (bif Nat.blt e 30 && Nat.ble S.length 4 then am_ix x (am_str e).length _ else none) = _
  unfold g_sx at he
  split at he
  · rename_i h30
    rw [show Nat.blt e 30 = true from Nat.ble_eq_true_of_le h30, hS]
    show am_ix x (am_str e).length _ = _
    unfold am_ix
    rw [if_neg hj]
    exact h2 w hw
  · cases he
theorem g_sw {i : Instr} {a : List Nat} {x c : Int32} {s : am_S} {p1 : Nat} {L1 : am_L} {S1 : List Value} {s1 : am_S} (hc : am_code m pc = some (i, len, a)) (hx : x = c) (hi : ∀ (call : Nat → List Value → am_S → am_O) (K : am_K), am_ins am_str X call K pc i a L (.int c :: S) s = K p1 L1 S1 s1) (k : Ev X m p1 L1 S1 s1 R) : Ev X m pc L (.int x :: S) s R := by
  subst hx
  exact ev_go (P := True) hc hi (fun _ => k) trivial
theorem g_swd {i : Instr} {a : List Nat} {x : Int32} {lo hi : Int} {s : am_S} {p1 : Nat} {L1 : am_L} {S1 : List Value} {s1 : am_S} {Z : (Nat → List Value → am_S → am_O) → am_K → am_O} (hc : am_code m pc = some (i, len, a)) (hi2 : ∀ (call : Nat → List Value → am_S → am_O) (K : am_K), am_ins am_str X call K pc i a L (.int x :: S) s = if x.toInt < lo ∨ hi < x.toInt then K p1 L1 S1 s1 else Z call K) (hd : x.toInt < lo ∨ hi < x.toInt) (k : Ev X m p1 L1 S1 s1 R) : Ev X m pc L (.int x :: S) s R :=
  ev_go (P := True) hc (fun call K => by rw [hi2, if_pos hd]) (fun _ => k) trivial
theorem g_sxs {e e2 : Nat} (h : g_sx e = some e2) : e2 = e := by
  unfold g_sx at h
  split at h
  · cases h; rfl
  · cases h
end EV
