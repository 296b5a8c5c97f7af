section SIM
variable {p : Program} {l : Launch} {e : Env} {R : Room} {s : State} {mi : MethodId} {args : Array Value} {below : List Frame} {meth : Method} {c : Code} {Q : State → Prop} {D : va_G} {tc : Nat → ClassId} {N0 : Nat} {ext xv : Nat → Nat} {X : Nat × (Nat → Int32)} {m c0 s0 : Nat}
/-- the ends of a run -/
def am_Rets (p : Program) (l : Launch) (e : Env) (R : Room) (s : State) (mi : MethodId) (args : Array Value) (below : List Frame) (meth : Method) (c : Code) (Q : State → Prop) (D : va_G) (tc : Nat → ClassId) (N0 : Nat) (ext : Nat → Nat) (m c0 s0 : Nat) (r : Option Value) (t' : am_S) : Prop :=
  ∀ (pc : Nat) (ls : Array Slot) (H : Heap) (locs : List Loc), am_Rep D tc N0 t' H → va_S (am_A N0) s.heap H locs → c0 ≤ t'.1.length → s0 ≤ am_sz t'.1 →
    (∀ x : Int32, decode (am_bytes m) pc = .ok (.ireturn, 1) → r = some (.int x) → (am_rt m = some .int ∨ (am_rt m = some .boolean ∧ (x = 0 ∨ x = 1))) → W p l e R s mi args below meth c H locs (t'.1.length - c0) (am_sz t'.1 - s0) Q (F0 mi pc ls [.int x])) ∧
    (∀ x : Int64, decode (am_bytes m) pc = .ok (.lreturn, 1) → r = some (.long x) → am_rt m = some .long → W p l e R s mi args below meth c H locs (t'.1.length - c0) (am_sz t'.1 - s0) Q (F0 mi pc ls [.long x])) ∧
    (∀ v : Value, decode (am_bytes m) pc = .ok (.areturn, 1) → r = some v → (am_tr N0 ext v = .null ∨ ∃ a, am_tr N0 ext v = .ref a) → (∃ C, am_rt m = some (.object C)) → W p l e R s mi args below meth c H locs (t'.1.length - c0) (am_sz t'.1 - s0) Q (F0 mi pc ls [am_tr N0 ext v])) ∧
    (decode (am_bytes m) pc = .ok (.return_, 1) → r = none → am_rt m = none → W p l e R s mi args below meth c H locs (t'.1.length - c0) (am_sz t'.1 - s0) Q (F0 mi pc ls []))
/-- writing a field, final or not -/
theorem am_rput (C : am_C p s mi args c D tc N0 ext xv X m c0) (hin : (am_y m).name = "<init>" → meth.name = "<init>") {pc idx ci k ft pos i : Nat} {t t2 : am_S} {n : Nat} {v : Value} {rest : List Value} {H : Heap} {locs : List Loc} {cl sl : Nat} {ls : Array Slot}
    (hl : am_lnk m pc (.putfield idx) [ci, k, ft, pos] = true) (hd : decode (am_bytes m) pc = .ok (.putfield idx, 3)) (hR : am_Rep D tc N0 t H) (hS : va_S (am_A N0) s.heap H locs) (hy : t.1[i]? = some (ci, n)) (hnar : narrow (am_ty ci k) v = v) (hfit : fits (am_ty ci k) v = true)
    (hv : am_tr N0 (fun _ => 0) (am_fv (am_ft ci k) t2 i k) = v) (hlay : t2.1 = t.1) (ho : ∀ j, j ≠ k → am_fv (am_ft ci j) t2 i j = am_fv (am_ft ci j) t i j) (ho2 : ∀ j q, j ≠ i → am_E tc N0 t2 j q = am_E tc N0 t j q)
    (kk : ∀ (H1 : Heap) (locs1 : List Loc), va_P D vwCl (am_ws tc N0 t2) H1 → va_S (am_A N0) s.heap H1 locs1 → W p l e R s mi args below meth c H1 locs1 cl sl Q (F0 mi (pc + 3) ls rest)) :
    W p l e R s mi args below meth c H locs cl sl Q (F0 mi pc ls (v :: .ref (N0 + i) :: rest)) := by
  obtain ⟨hx, hb, hml, hown, hts, hst, hold, hz⟩ := C
  simp only [am_lnk, Bool.and_eq_true, Nat.blt_eq, Bool.or_eq_true, Bool.not_eq_true', decide_eq_true_eq] at hl
  obtain ⟨⟨⟨⟨hci, hk⟩, hft⟩, hat⟩, hfin⟩ := hl
  have hn : n = am_nf ci := hR.2.2 i ci n hy hci
  obtain ⟨c1, c2, c3⟩ := am_cls ci hci
  have he := am_ws_at (tc := tc) (N0 := N0) hy
  rw [am_E_obj hci] at he
  have hset : (am_ws tc N0 t).set i (N0 + i, .inr (ci, ((List.range n).map fun k => am_tr N0 (fun _ => 0) (am_fv (am_ft ci k) t i k)).set k v)) = am_ws tc N0 t2 := by
    refine am_ws_set hy hlay ?_ ho2
    rw [am_E_obj hci, am_set_field (t := t) (t' := t2) (by omega) hv ho]
  have hlink := hts _ (am_at_s hat)
  cases hf : (am_T ci k).2.2.2 with
  | false =>
    exact va_put hx hb hts (am_uws ci hci) (am_ty ci) c2 c3 hown hst.1 hR.1 (am_ws_D tc N0 t) hS i he c1 k hk hlink (fun _ h => h) hf (c2 k hk) hnar hfit (by simp; omega) hd (fun H1 locs1 hP1 hD1 hS1 => kk H1 locs1 (by rw [← hset]; exact hP1) hS1)
  | true =>
    rcases hfin with hfin | hfin
    · rw [hf] at hfin; cases hfin
    · exact va_putF hx hb hts (am_uws ci hci) (am_ty ci) c2 c3 hown hst.1 hR.1 (am_ws_D tc N0 t) hS i he c1 k hk hlink (fun _ h => h) hf (hin hfin.1) hfin.2 (c2 k hk) hnar hfit (by simp; omega) hd (fun H1 locs1 hP1 hD1 hS1 => kk H1 locs1 (by rw [← hset]; exact hP1) hS1)
/-- a new array of ints, bytes or booleans -/
theorem am_rnewa (C : am_C p s mi args c D tc N0 ext xv X m c0) {pc ty : Nat} {at0 : ArrayType} {t : am_S} {n : Int32} {L : am_L} {S : List Value} (hty : ty < 3) (fty : FieldType) (hf : newarray.typeOf at0 = fty) (htys : (am_tys tc)[ty]? = some (tc ty, fty)) (harr : Jvm.Cond.arrayClass fty ∈ am_good) (hdef : defaultValue fty = .int 0) (hprim : va_RA s (tc ty) fty = (s.vm.findClass ("[" ++ fty.toString) = some (tc ty))) (hRA : ∀ cA, va_RA s cA fty → s.vm.findClass ("[" ++ fty.toString) = some cA) (hcb : componentBytes fty ≤ 4)
    (hd : decode (am_bytes m) pc = .ok (.newarray at0, 2)) (hn : ¬ n < 0) (hn2 : n.toNatClampNeg ≤ 100000) (hc : (am_new t (10 + ty) n.toNatClampNeg).1.length - c0 ≤ R.cells) (hs : am_sz (am_new t (10 + ty) n.toNatClampNeg).1 - s0 ≤ R.slots)
    (k : am_G p l e R s mi args below meth c Q D tc N0 ext c0 s0 (pc + 2) L (.ref t.1.length :: S) (am_new t (10 + ty) n.toNatClampNeg)) : am_G p l e R s mi args below meth c Q D tc N0 ext c0 s0 pc L (.int n :: S) t := by
  obtain ⟨hx, hb, hml, hown, hts, hst, hold, hz⟩ := C
  intro H locs ls hR hS hL h0 h1
  have e1 : (am_new t (10 + ty) n.toNatClampNeg).1.length = t.1.length + 1 := by simp [am_new]
  have e2 : am_sz (am_new t (10 + ty) n.toNatClampNeg).1 = am_sz t.1 + n.toNatClampNeg := by simp [am_new, am_sz]
  have hb2 : n.toNatClampNeg * componentBytes fty ≤ 536870912 := by
    have := Nat.mul_le_mul hn2 hcb
    omega
  refine va_newa hx hb (by rw [hf]; exact hts _ harr) hf hst.1 hR.1 (am_ws_D tc N0 t) hS (fun q h => by show N0 ≤ q; omega) (a0 := (n.toNatClampNeg, .inl fun _ => 0)) (fun cA => by rw [vp_cell_i, hdef]) hn rfl hb2 (by omega) (by omega) hd (fun qa cA H1 hK1 hP1 hD1 hS1 => ?_)
  have hcA : cA = tc ty := by
    have q1 := (hK1.2 6 (cA, fty) (by rw [List.getElem?_append_right (by simp [am_tys])]; simp [am_tys])).2
    have q2 := (hst.1.2 ty _ htys).2
    exact Option.some.inj ((hRA _ q1).symm.trans (hRA _ q2))
  subst hcA
  refine am_le fun hle => ?_
  have hqa := am_fresh hP1 hD1 (by omega)
  subst hqa
  have kk := k H1 locs ls ⟨?_, ?_, ?_⟩ hS1 hL (by omega) (by omega)
  · rw [e1, e2, show t.1.length + 1 - c0 = t.1.length - c0 + 1 by omega, show am_sz t.1 + n.toNatClampNeg - s0 = am_sz t.1 - s0 + n.toNatClampNeg by omega] at kk
    exact kk
  · rw [am_ws_new, am_E_int (by omega) (by omega)]
    have e3 : (am_new t (10 + ty) n.toNatClampNeg).2.2.1 t.1.length = fun _ => 0 := by funext b; simp [am_new, am_nw]
    rw [e3, show 10 + ty - 10 = ty by omega]
    exact hP1
  · intro i n' hi kk'
    by_cases e4 : i = t.1.length
    · subst e4
      simp [am_new, am_nw]
    · have hi' : t.1[i]? = some (11, n') := by
        have : (t.1 ++ [(10 + ty, n.toNatClampNeg)])[i]? = some (11, n') := hi
        rcases Nat.lt_or_ge i t.1.length with q | q
        · rwa [List.getElem?_append_left q] at this
        · have := (List.getElem?_eq_some_iff.mp this).1
          simp at this
          omega
      have := hR.2.1 i n' hi' kk'
      show ((am_nw t.2.2.1 t.1.length 0 i kk').toInt8.toInt32) = am_nw t.2.2.1 t.1.length 0 i kk'
      rw [am_nw_ne e4]
      exact this
  · intro i c' n' hi hc'
    rcases Nat.lt_or_ge i t.1.length with q | q
    · have hi' : t.1[i]? = some (c', n') := by
        have : (t.1 ++ [(10 + ty, n.toNatClampNeg)])[i]? = some (c', n') := hi
        rwa [List.getElem?_append_left q] at this
      exact hR.2.2 i c' n' hi' hc'
    · have : (t.1 ++ [(10 + ty, n.toNatClampNeg)])[i]? = some (c', n') := hi
      rw [List.getElem?_append_right q] at this
      have h3 := (List.getElem?_eq_some_iff.mp this).1
      simp at h3
      rw [show i - t.1.length = 0 by omega] at this
      simp at this
      omega
theorem am_rnewq (C : am_C p s mi args c D tc N0 ext xv X m c0) {pc ty idx pos : Nat} {t : am_S} {n : Int32} {L : am_L} {S : List Value} (hl : am_lnk m pc (.anewarray idx) [ty, pos] = true)
    (hd : decode (am_bytes m) pc = .ok (.anewarray idx, 3)) (hn : ¬ n < 0) (hn2 : n.toNatClampNeg ≤ 100000) (hc : (am_new t ty n.toNatClampNeg).1.length - c0 ≤ R.cells) (hs : am_sz (am_new t ty n.toNatClampNeg).1 - s0 ≤ R.slots)
    (k : am_G p l e R s mi args below meth c Q D tc N0 ext c0 s0 (pc + 3) L (.ref t.1.length :: S) (am_new t ty n.toNatClampNeg)) : am_G p l e R s mi args below meth c Q D tc N0 ext c0 s0 pc L (.int n :: S) t := by
  obtain ⟨hx, hb, hml, hown, hts, hst, hold, hz⟩ := C
  simp only [am_lnk, Bool.and_eq_true, Nat.ble_eq] at hl
  obtain ⟨⟨hl1, hl2⟩, hat⟩ := hl
  intro H locs ls hR hS hL h0 h1
  have e1 : (am_new t ty n.toNatClampNeg).1.length = t.1.length + 1 := by simp [am_new]
  have e2 : am_sz (am_new t ty n.toNatClampNeg).1 = am_sz t.1 + n.toNatClampNeg := by simp [am_new, am_sz]
  have hAO : va_AO (am_ac ty) s := by
    rcases (show ty = 13 ∨ ty = 14 ∨ ty = 15 by omega) with rfl | rfl | rfl
    · exact hst.2.2.1.1
    · exact hst.2.2.1.2.1
    · exact hst.2.2.1.2.2
  have htys : (am_tys tc)[ty - 10]? = some (tc (ty - 10), .object (am_ac ty)) := by
    rcases (show ty = 13 ∨ ty = 14 ∨ ty = 15 by omega) with rfl | rfl | rfl <;> rfl
  refine va_newq hx hb hown (hts _ (am_at_s hat)) hAO hst.1 hR.1 (am_ws_D tc N0 t) hS (fun q h => by show N0 ≤ q; omega) hn rfl (by omega) (by omega) (by omega) hd (fun qa cA H1 hK1 hP1 hD1 hS1 => ?_)
  have hcA : cA = tc (ty - 10) := by
    have q1 := (hK1.2 6 (cA, .object (am_ac ty)) (by rw [List.getElem?_append_right (by simp [am_tys])]; simp [am_tys])).2
    have q2 := (hst.1.2 (ty - 10) _ htys).2
    obtain ⟨_, _, _, _, _, g1⟩ := q1
    obtain ⟨_, _, _, _, _, g2⟩ := q2
    exact Option.some.inj (g1.symm.trans g2)
  subst hcA
  refine am_le fun hle => ?_
  have hqa := am_fresh hP1 hD1 (by omega)
  subst hqa
  have kk := k H1 locs ls ⟨?_, ?_, ?_⟩ hS1 hL (by omega) (by omega)
  · rw [e1, e2, show t.1.length + 1 - c0 = t.1.length - c0 + 1 by omega, show am_sz t.1 + n.toNatClampNeg - s0 = am_sz t.1 - s0 + n.toNatClampNeg by omega] at kk
    exact kk
  · rw [am_ws_new, am_E_ref (by omega)]
    have e3 : (fun k => ((am_new t ty n.toNatClampNeg).2.1 t.1.length k).map (fun a => N0 + a)) = fun _ => none := by funext b; simp [am_new, am_nw]
    rw [e3]
    exact hP1
  · intro i n' hi kk'
    by_cases e4 : i = t.1.length
    · subst e4
      simp [am_new, am_nw]
    · have hi' : t.1[i]? = some (11, n') := by
        have : (t.1 ++ [(ty, n.toNatClampNeg)])[i]? = some (11, n') := hi
        rcases Nat.lt_or_ge i t.1.length with q | q
        · rwa [List.getElem?_append_left q] at this
        · have := (List.getElem?_eq_some_iff.mp this).1
          simp at this
          omega
      have := hR.2.1 i n' hi' kk'
      show ((am_nw t.2.2.1 t.1.length 0 i kk').toInt8.toInt32) = am_nw t.2.2.1 t.1.length 0 i kk'
      rw [am_nw_ne e4]
      exact this
  · intro i c' n' hi hc'
    rcases Nat.lt_or_ge i t.1.length with q | q
    · have hi' : t.1[i]? = some (c', n') := by
        have : (t.1 ++ [(ty, n.toNatClampNeg)])[i]? = some (c', n') := hi
        rwa [List.getElem?_append_left q] at this
      exact hR.2.2 i c' n' hi' hc'
    · have : (t.1 ++ [(ty, n.toNatClampNeg)])[i]? = some (c', n') := hi
      rw [List.getElem?_append_right q] at this
      have h3 := (List.getElem?_eq_some_iff.mp this).1
      simp at h3
      rw [show i - t.1.length = 0 by omega] at this
      simp at this
      omega
theorem am_rnew (C : am_C p s mi args c D tc N0 ext xv X m c0) {pc idx ci n pos pos2 : Nat} {t : am_S} {L : am_L} {S : List Value} (hl : am_lnk m pc (.new idx) [ci, n, pos, pos2] = true)
    (hd : decode (am_bytes m) pc = .ok (.new idx, 3)) (hc : (am_new t ci n).1.length - c0 ≤ R.cells) (hs : am_sz (am_new t ci n).1 - s0 ≤ R.slots)
    (k : am_G p l e R s mi args below meth c Q D tc N0 ext c0 s0 (pc + 3) L (.ref t.1.length :: S) (am_new t ci n)) : am_G p l e R s mi args below meth c Q D tc N0 ext c0 s0 pc L S t := by
  obtain ⟨hx, hb, hml, hown, hts, hst, hold, hz⟩ := C
  simp only [am_lnk, Bool.and_eq_true, Nat.blt_eq] at hl
  obtain ⟨⟨⟨hci, hn⟩, hat⟩, hat2⟩ := hl
  have hn : n = am_nf ci := Nat.eq_of_beq_eq_true hn
  obtain ⟨c1, c2, c3⟩ := am_cls ci hci
  intro H locs ls hR hS hL h0 h1
  have e1 : (am_new t ci n).1.length = t.1.length + 1 := by simp [am_new]
  have e2 : am_sz (am_new t ci n).1 = am_sz t.1 + n := by simp [am_new, am_sz]
  subst hn
  refine va_new (ci := ci) (fs := (List.range (am_nf ci)).map fun k => am_tr N0 (fun _ => 0) (am_fv (am_ft ci k) (am_new t ci (am_nf ci)) t.1.length k)) hx hb hts (am_uws ci hci) (am_ty ci) c2 hown (hts _ (am_at_s hat)) (hts _ (am_at_s hat2)) (hts _ (am_at_s (am_inis ci hci))) hst.1 hR.1 (am_ws_D tc N0 t) hS (fun q h => by show N0 ≤ q; omega) c1 (fun j hj => ?_) (by omega) (by omega) hd (fun qa H1 hP1 hD1 hS1 => ?_)
  · simp only [vp_V, List.getD_eq_getElem?_getD, List.getElem?_map, List.getElem?_range hj, Option.map_some, Option.getD_some]
    rcases am_ftt ci hci j hj with ⟨a, b⟩ | ⟨a, b⟩ | ⟨a, b⟩ | ⟨a, ⟨C', b⟩ | ⟨y, b⟩⟩ <;> rw [a, b] <;> simp [am_fv, am_new, am_nw, am_tr, va_rf, defaultValue]
  refine am_le fun hle => ?_
  have hqa := am_fresh hP1 hD1 (by omega)
  subst hqa
  have kk := k H1 locs ls ⟨?_, ?_, ?_⟩ hS1 hL (by omega) (by omega)
  · rw [e1, e2, show t.1.length + 1 - c0 = t.1.length - c0 + 1 by omega, show am_sz t.1 + am_nf ci - s0 = am_sz t.1 - s0 + am_nf ci by omega] at kk
    exact kk
  · rw [am_ws_new, am_E_obj hci]
    exact hP1
  · intro i n' hi kk'
    by_cases e4 : i = t.1.length
    · subst e4
      simp [am_new, am_nw]
    · have hi' : t.1[i]? = some (11, n') := by
        have : (t.1 ++ [(ci, am_nf ci)])[i]? = some (11, n') := hi
        rcases Nat.lt_or_ge i t.1.length with q | q
        · rwa [List.getElem?_append_left q] at this
        · have := (List.getElem?_eq_some_iff.mp this).1
          simp at this
          omega
      have := hR.2.1 i n' hi' kk'
      show ((am_nw t.2.2.1 t.1.length 0 i kk').toInt8.toInt32) = am_nw t.2.2.1 t.1.length 0 i kk'
      rw [am_nw_ne e4]
      exact this
  · intro i c' n' hi hc'
    rcases Nat.lt_or_ge i t.1.length with q | q
    · have hi' : t.1[i]? = some (c', n') := by
        have : (t.1 ++ [(ci, am_nf ci)])[i]? = some (c', n') := hi
        rwa [List.getElem?_append_left q] at this
      exact hR.2.2 i c' n' hi' hc'
    · have : (t.1 ++ [(ci, am_nf ci)])[i]? = some (c', n') := hi
      rw [List.getElem?_append_right q] at this
      have h3 := (List.getElem?_eq_some_iff.mp this).1
      simp at h3
      rw [show i - t.1.length = 0 by omega] at this
      simp at this
      rw [← this.1, ← this.2]
end SIM
