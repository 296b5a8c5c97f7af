/-! cells made: rows of a walk, and the Rows' constructor -/
def upo {α : Type} (f : Nat → α) (k : Nat) (v : α) : Nat → α := fun y => if y = k then v else f y
theorem z_upo {α : Type} {f : Nat → Nat → α} {i k : Nat} {v : α} : am_up f i k v i = upo (f i) k v := by
  funext y
  unfold am_up upo
  by_cases c : y = k
  · rw [if_pos ⟨rfl, c⟩, if_pos c]
  · rw [if_neg (fun z => c z.2), if_neg c]
theorem nw_s {α : Type} {f : Nat → Nat → α} {i : Nat} {v : α} : am_nw f i v i = fun _ => v := by
  funext y
  unfold am_nw
  rw [if_pos rfl]
theorem nw_o {α : Type} {f : Nat → Nat → α} {i x : Nat} {v : α} (h : x ≠ i) : am_nw f i v x = f x := by
  funext y
  unfold am_nw
  rw [if_neg h]
theorem lkL {l T : List (Nat × Nat)} {i : Nat} {q : Nat × Nat} (h : l[i]? = some q) : (l ++ T)[i]? = some q := by
  have hi : i < l.length := by
    rcases Nat.lt_or_ge i l.length with c | c
    · exact c
    · rw [List.getElem?_eq_none c] at h
      cases h
  rw [List.getElem?_append_left hi]
  exact h
theorem lkT {l T : List (Nat × Nat)} {N i x : Nat} {q : Nat × Nat} (hl : l.length = N) (hx : x = N + i) (h : T[i]? = some q) : (l ++ T)[x]? = some q := by
  subst hx
  rw [List.getElem?_append_right (by omega), hl, Nat.add_sub_cancel_left]
  exact h
theorem lkln {l T : List (Nat × Nat)} {N k x : Nat} (hl : l.length = N) (hT : T.length = k) (hx : x = N + k) : (l ++ T).length = x := by
  rw [List.length_append]
  omega
section NEW
variable {X : Nat × (Nat → Int32)} {m pc len : Nat} {L : am_L} {S : List Value} {l : List (Nat × Nat)} {r : am_R} {h : am_F} {j : am_J} {R : Option Value × am_S}
theorem g_new {w ci n z1 z2 N : Nat} {T T' : List (Nat × Nat)} (p1 : Nat) (hp : pc + 3 = p1) (hc : am_code m pc = some (.new w, len, [ci, n, z1, z2])) (hN : (l ++ T).length = N) (hT : T ++ [(ci, n)] = T') (k : Ev X m p1 L (.ref N :: S) (l ++ T', am_nw r N none, am_nw h N 0, am_nw j N 0) R) : Ev X m pc L S (l ++ T, r, h, j) R := by
  subst hp; subst hN; subst hT
  rw [← List.append_assoc] at k
  exact ev_go (P := True) hc (fun _ _ => rfl) (fun _ => k) trivial
theorem nwa_ok {x : Int32} {n t N : Nat} {T T' : List (Nat × Nat)} {K : am_K} {L : am_L} {S : List Value} (hx : x = nI n) (hn : n ≤ 100000) (hN : (l ++ T).length = N) (hT : T ++ [(t, n)] = T') : am_nwa K pc t L (.int x :: S) (l ++ T, r, h, j) = K pc L (.ref N :: S) (l ++ T', am_nw r N none, am_nw h N 0, am_nw j N 0) := by
  subst hx; subst hN; subst hT
  show (if nI n < 0 ∨ 100000 < (nI n).toNatClampNeg then none else K pc L (.ref (l ++ T).length :: S) (am_new (l ++ T, r, h, j) t (nI n).toNatClampNeg)) = _
  rw [nI_clamp (by omega), if_neg (by
    rintro (c | c)
    · exact nI_pos (by omega) c
    · omega), ← List.append_assoc]
  rfl
theorem g_nwI {x : Int32} {n N : Nat} {T T' : List (Nat × Nat)} {a : List Nat} (p1 : Nat) (hp : pc + 2 = p1) (hc : am_code m pc = some (.newarray .int, len, a)) (hx : x = nI n) (hn : n ≤ 100000) (hN : (l ++ T).length = N) (hT : T ++ [(10, n)] = T') (k : Ev X m p1 L (.ref N :: S) (l ++ T', am_nw r N none, am_nw h N 0, am_nw j N 0) R) : Ev X m pc L (.int x :: S) (l ++ T, r, h, j) R := by
  subst hp
  exact ev_go (P := True) hc (fun _ _ => nwa_ok hx hn hN hT) (fun _ => k) trivial
theorem g_nwB {x : Int32} {n N : Nat} {T T' : List (Nat × Nat)} {a : List Nat} (p1 : Nat) (hp : pc + 2 = p1) (hc : am_code m pc = some (.newarray .byte, len, a)) (hx : x = nI n) (hn : n ≤ 100000) (hN : (l ++ T).length = N) (hT : T ++ [(11, n)] = T') (k : Ev X m p1 L (.ref N :: S) (l ++ T', am_nw r N none, am_nw h N 0, am_nw j N 0) R) : Ev X m pc L (.int x :: S) (l ++ T, r, h, j) R := by
  subst hp
  exact ev_go (P := True) hc (fun _ _ => nwa_ok hx hn hN hT) (fun _ => k) trivial
theorem g_nwZ {x : Int32} {n N : Nat} {T T' : List (Nat × Nat)} {a : List Nat} (p1 : Nat) (hp : pc + 2 = p1) (hc : am_code m pc = some (.newarray .boolean, len, a)) (hx : x = nI n) (hn : n ≤ 100000) (hN : (l ++ T).length = N) (hT : T ++ [(12, n)] = T') (k : Ev X m p1 L (.ref N :: S) (l ++ T', am_nw r N none, am_nw h N 0, am_nw j N 0) R) : Ev X m pc L (.int x :: S) (l ++ T, r, h, j) R := by
  subst hp
  exact ev_go (P := True) hc (fun _ _ => nwa_ok hx hn hN hT) (fun _ => k) trivial
theorem g_nwA {x : Int32} {n N w t z : Nat} {T T' : List (Nat × Nat)} (p1 : Nat) (hp : pc + 3 = p1) (hc : am_code m pc = some (.anewarray w, len, [t, z])) (hx : x = nI n) (hn : n ≤ 100000) (hN : (l ++ T).length = N) (hT : T ++ [(t, n)] = T') (k : Ev X m p1 L (.ref N :: S) (l ++ T', am_nw r N none, am_nw h N 0, am_nw j N 0) R) : Ev X m pc L (.int x :: S) (l ++ T, r, h, j) R := by
  subst hp
  exact ev_go (P := True) hc (fun _ _ => nwa_ok hx hn hN hT) (fun _ => k) trivial
theorem g_aas {b v t t2 n n2 kx : Nat} {x : Int32} (p1 : Nat) (hp : pc + 1 = p1) (hc : am_code m pc = some (.aastore, len, [])) (hk : l[b]? = some (t, n)) (hv : l[v]? = some (t2, n2)) (ht : ((Nat.beq t 13 && Nat.beq t2 3) || (Nat.beq t 14 && Nat.beq t2 5) || (Nat.beq t 15 && Nat.beq t2 6)) = true) (hx : g_ix x n = some kx) (k : Ev X m p1 L S (l, am_up r b kx (some v), h, j) R) : Ev X m pc L (.ref v :: .int x :: .ref b :: S) (l, r, h, j) R := by
  subst hp
  obtain ⟨n', h2⟩ := k
  obtain ⟨hj, rfl⟩ := g_ixs hx
  refine ev_ins hc ⟨n', fun w hw => ?_⟩
  show (match l[b]?, l[v]? with | some q, some q' => (bif (Nat.beq q.1 13 && Nat.beq q'.1 3) || (Nat.beq q.1 14 && Nat.beq q'.1 5) || (Nat.beq q.1 15 && Nat.beq q'.1 6) then am_ix x q.2 _ else none) | _, _ => none) = _
  rw [hk, hv]
  simp only [ht, cond_true]
  unfold am_ix
  rw [if_neg hj]
  exact h2 w hw
theorem g_cK {w kd kk na z z2 b : Nat} {rest As : List Value} {s s2 : am_S} (p1 : Nat) (hp : pc + 3 = p1) (hc : am_code m pc = some (.invokespecial w, len, [kd, kk, na, z, z2])) (hkd : kd = 3 ∨ kd = 4) (hS : S.drop na = .ref b :: rest) (hA : (S.take na).reverse = As) (hle : Nat.ble rest.length 4 = true) (hcall : Call X kk (.ref b :: As) s (none, s2)) (k : Ev X m p1 L rest s2 R) : Ev X m pc L S s R := by
  subst hp; subst hA
  obtain ⟨c1, n1, h1⟩ := hcall
  obtain ⟨n2, h2⟩ := k
  refine ev_ins hc ⟨n1 + n2, fun i hi => ?_⟩
  have e1 : Nat.ble (am_la (.ref b :: (S.take na).reverse)).length (am_maxL kk) = true := by simpa using c1
  have : am_dr S na (fun b rest => am_rr (am_ev X i m) pc L rest (bif Nat.ble (am_la (.ref b :: (S.take na).reverse)).length (am_maxL kk) then am_ev X i kk 0 (am_L0 kk (.ref b :: (S.take na).reverse)) [] s else none)) = some R := by
    unfold am_dr
    rw [hS]
    simp only [hle, cond_true, e1]
    rw [h1 i (by omega)]
    exact h2 i (by omega)
  rcases hkd with rfl | rfl <;> exact this
theorem g_geF {x y : Int32} {off : Int} {a : List Nat} {s : am_S} (p1 : Nat) (hp : pc + 3 = p1) (hc : am_code m pc = some (.if_icmp .ge off, len, a)) (c : ¬ y ≤ x) (k : Ev X m p1 L S s R) : Ev X m pc L (.int y :: .int x :: S) s R := by
  subst hp
  exact ev_go (P := True) hc (fun _ K => show (if y ≤ x then K (am_tg pc off) L S s else K (pc + 3) L S s) = K (pc + 3) L S s from if_neg c) (fun _ => k) trivial
theorem g_geT {x y : Int32} {off : Int} {a : List Nat} {s : am_S} (p1 : Nat) (hp : am_tg pc off = p1) (hc : am_code m pc = some (.if_icmp .ge off, len, a)) (c : y ≤ x) (k : Ev X m p1 L S s R) : Ev X m pc L (.int y :: .int x :: S) s R := by
  subst hp
  exact ev_go (P := True) hc (fun _ K => show (if y ≤ x then K (am_tg pc off) L S s else K (pc + 3) L S s) = K (am_tg pc off) L S s from if_pos c) (fun _ => k) trivial
theorem Rw_init {a w lim : Nat} (hl : l.length = a + 1) (hk : l[a]? = some (5, 4)) (hr : r a = fun _ => none) (hh : h a = fun _ => 0) (hw : 1 ≤ w) (hw6 : w ≤ 6) (hm1 : 1 ≤ lim) (hm : lim ≤ 14) : ∃ r' h' j', Call X 77 [.ref a, .int (nI w), .int (nI lim)] (l, r, h, j) (none, (l ++ [(10, w * lim)], r', h', j')) ∧ (∀ x, x < a ∨ a + 2 ≤ x → r' x = r x ∧ h' x = h x) ∧ r' a = upo (fun _ => none) 2 (some (a + 1)) ∧ h' a = upz (upz (upz (fun _ => 0) 0 (nI w)) 1 (nI lim)) 3 0 ∧ r' (a + 1) = (fun _ => none) ∧ h' (a + 1) = fun _ => 0 := by
  have hb := z_mulb hw6 hm
  refine ⟨am_up (am_nw r (a + 1) none) a 2 (some (a + 1)), am_up (am_nw (am_up (am_up h a 0 (nI w)) a 1 (nI lim)) (a + 1) 0) a 3 0, am_nw j (a + 1) 0, ⟨Nat.le_of_ble_eq_true rfl, ?_⟩, fun x hx => ⟨?_, ?_⟩, ?_, ?_, ?_, ?_⟩
  · show Ev X 77 0 [some (.ref a), some (.int (nI w)), some (.int (nI lim))] [] (l, r, h, j) _
    refine g_run 2 4 [some (.ref a), some (.int (nI w)), some (.int (nI lim))] [] (fun _ => rfl) ?_
    refine g_run 4 10 [some (.ref a), some (.int (nI w)), some (.int (nI lim))] [.int (if (0 : Int32) < nI w then nI w else 0), .ref a] (fun _ => rfl) ?_
    rw [if_pos (show (0 : Int32) < nI w from nI_lt (show 0 < w by omega) (by omega))]
    refine g_putI 13 rfl rfl hk ?_
    refine g_run 4 19 [some (.ref a), some (.int (nI w)), some (.int (nI lim))] [.int (if (0 : Int32) < nI lim then nI lim else 0), .ref a] (fun _ => rfl) ?_
    rw [if_pos (show (0 : Int32) < nI lim from nI_lt (show 0 < lim by omega) (by omega))]
    refine g_putI 22 rfl rfl hk ?_
    refine g_run 2 24 [some (.ref a), some (.int (nI w)), some (.int (nI lim))] [.ref a, .ref a] (fun _ => rfl) ?_
    refine g_getI 27 rfl rfl hk ?_
    refine g_run 1 28 [some (.ref a), some (.int (nI w)), some (.int (nI lim))] [.ref a, .int (am_up (am_up h a 0 (nI w)) a 1 (nI lim) a 0), .ref a] (fun _ => rfl) ?_
    refine g_getI 31 rfl rfl hk ?_
    rw [show am_up (am_up h a 0 (nI w)) a 1 (nI lim) a 0 = nI w by rw [z_ups, upz_n (by decide), z_ups, upz_s], show am_up (am_up h a 0 (nI w)) a 1 (nI lim) a 1 = nI lim by rw [z_ups, upz_s]]
    refine g_run 1 32 [some (.ref a), some (.int (nI w)), some (.int (nI lim))] [.int (nI w * nI lim), .ref a] (fun _ => rfl) ?_
    have e : (l, r, am_up (am_up h a 0 (nI w)) a 1 (nI lim), j) = (l ++ [], r, am_up (am_up h a 0 (nI w)) a 1 (nI lim), j) := by rw [List.append_nil]
    rw [e]
    refine g_nwI (n := w * lim) (N := a + 1) (T' := [(10, w * lim)]) 34 rfl rfl (pk_mul w lim) (by omega) (by rw [List.append_nil]; exact hl) rfl ?_
    refine g_putR 37 rfl rfl (lkL hk) ?_
    refine g_run 2 39 [some (.ref a), some (.int (nI w)), some (.int (nI lim))] [.int (0 : Int32), .ref a] (fun _ => rfl) ?_
    refine g_putI 42 rfl rfl (lkL hk) ?_
    exact g_ret rfl (fun _ _ => rfl)
  · rw [z_upr (by omega), nw_o (by omega)]
  · rw [z_upr (by omega), nw_o (by omega), z_upr (by omega), z_upr (by omega)]
  · rw [z_upo, nw_o (by omega), hr]
  · rw [z_ups, nw_o (by omega), z_ups, z_ups, hh]
  · rw [z_upr (by omega), nw_s]
  · rw [z_upr (by omega), nw_s]
end NEW
