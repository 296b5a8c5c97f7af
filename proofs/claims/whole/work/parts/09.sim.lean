/-! a run of the small machine is a run of the machine: instruction by instruction -/
section SIM
variable {p : Program} {l : Launch} {e : Env} {R : Room} {s : State} {mi : MethodId} {args : Array Value} {below : List Frame} {meth : Method} {c : Code} {Q : State → Prop} {D : va_G} {tc : Nat → ClassId} {N0 : Nat} {ext xv : Nat → Nat} {X : Nat × (Nat → Int32)} {m c0 s0 : Nat}
def am_Qc (D : va_G) (tc : Nat → ClassId) (N0 : Nat) (ext : Nat → Nat) (v : Option Value) (t2 : am_S) : Array Value → State → Outcome → State → Prop := fun _ st oc t => oc = .returned (v.map (am_tr N0 ext)) ∧ am_Rep D tc N0 t2 t.heap ∧ va_F (am_A N0) st t
def am_P (D : va_G) (tc : Nat → ClassId) (N0 : Nat) (ext xv : Nat → Nat) (X : Nat × (Nat → Int32)) (t : am_S) (U : State) : Prop := U.heap.size = N0 + t.1.length ∧ am_Rep D tc N0 t U.heap ∧ am_Stt D tc ext U ∧ am_Old N0 ext xv X U U.heap
/-- the contract of a run of method k -/
def am_Met (l : Launch) (D : va_G) (tc : Nat → ClassId) (N0 : Nat) (ext xv : Nat → Nat) (X : Nat × (Nat → Int32)) (k : Nat) (As : List Value) (t : am_S) (v : Option Value) (t2 : am_S) : Prop :=
  Met l (am_y k) (am_w k) { frames := am_fr k, cells := t2.1.length - t.1.length, slots := am_sz t2.1 - am_sz t.1, locals := am_lo k } (va_Pc (As.map (am_tr N0 ext)) (am_P D tc N0 ext xv X t)) (am_Qc D tc N0 ext v t2) (t2.1.length - t.1.length) (am_sz t2.1 - am_sz t.1) (am_A N0)
def am_wl : List Jvm.Cond := .code yJ0_length_8abf5 cJ0_length_8abf5 1 (some .int) :: am_good
def am_wc : List Jvm.Cond := .code yJ0_charAt_5068e cJ0_charAt_5068e 2 (some .char) :: am_good
/-- the two members of String -/
def am_Strs (l : Launch) (D : va_G) (tc : Nat → ClassId) (N0 : Nat) (ext xv : Nat → Nat) (X : Nat × (Nat → Int32)) : Prop :=
  (∀ e, e < 30 → ∀ t, Met l yJ0_length_8abf5 am_wl { frames := 1, cells := 0, slots := 0, locals := 20 } (va_Pc [.ref (ext e)] (am_P D tc N0 ext xv X t)) (am_Qc D tc N0 ext (some (.int (nI (am_str e).length))) t) 0 0 (am_A N0)) ∧
  ∀ e, e < 30 → ∀ t (j : Int32), vp_in j (am_str e).length → Met l yJ0_charAt_5068e am_wc { frames := 3, cells := 0, slots := 0, locals := 64 } (va_Pc [.ref (ext e), .int j] (am_P D tc N0 ext xv X t)) (am_Qc D tc N0 ext (some (.int (nI ((am_str e).getD j.toNatClampNeg 0)))) t) 0 0 (am_A N0)
theorem am_P_blind {As : List Value} {t : am_S} : FrameBlind (va_Pc As (am_P D tc N0 ext xv X t)) := by
  intro a U g mk h
  obtain ⟨h1, h2, h3, h4, h5⟩ := h
  exact ⟨h1, h2, h3, am_Stt.same (u := U) rfl h4, am_Old.moved (u := U) (Vm.Alike.refl U.vm) h5⟩
theorem am_P_at {As : List Value} {t : am_S} {H : Heap} {locs : List Loc} (hz : H.size = N0 + t.1.length) (hR : am_Rep D tc N0 t H) (hst : am_Stt D tc ext s) (hold : am_Old N0 ext xv X s s.heap) (hS : va_S (am_A N0) s.heap H locs) : ∀ U : State, U.heap = H → s.WarmedH U.vm → va_Pc As (am_P D tc N0 ext xv X t) As.toArray U := by
  intro U hU hW
  refine ⟨rfl, by rw [hU]; exact hz, by rw [hU]; exact hR, hst.warm hW, am_Old.moved hW.alike ?_⟩
  rw [hU]
  exact hold.kept hS.1 hS.2.1
theorem am_after {t t2 : am_S} {v : Option Value} {pc : Nat} {L : am_L} {rest : List Value} {H : Heap} {locs : List Loc} {ls : Array Slot} {st0 : List Value} {av : Array Value}
    (hr : va_Run p l e R s mi args below meth c H locs (t.1.length - c0) (am_sz t.1 - s0) (t2.1.length - t.1.length) (am_sz t2.1 - am_sz t.1) (F0 mi pc ls st0) (rest.map (am_tr N0 ext)) (am_Qc D tc N0 ext v t2 av) (am_A N0))
    (hpre : t.1 <+: t2.1) (hS : va_S (am_A N0) s.heap H locs) (hL : am_LR N0 ext ls L) (h0 : c0 ≤ t.1.length) (h1 : s0 ≤ am_sz t.1)
    (k : am_G p l e R s mi args below meth c Q D tc N0 ext c0 s0 (pc + 3) L (v.toList ++ rest) t2) : W p l e R s mi args below meth c H locs (t.1.length - c0) (am_sz t.1 - s0) Q (F0 mi pc ls st0) := by
  intro T hT X'
  obtain ⟨v', st₀, t', T', L', e0, X2, hL', e1, e2, ⟨q1, q2, q3⟩, st⟩ := hr T hT X'
  obtain ⟨g1, g2⟩ := am_pre_len hpre
  cases q1
  have hS2 : va_S (am_A N0) s.heap T'.heap (locs ++ L') := by
    refine ⟨Nat.le_trans hS.1 (by rw [e1, ← e0]; exact q3.1), fun q a b => ?_, fun q hq => ?_⟩
    · rw [e1, q3.2 q (by rw [e0]; exact Nat.lt_of_lt_of_le a hS.1) b, e0]
      exact hS.2.1 q a b
    · rcases List.mem_append.mp hq with h | h
      · exact hS.2.2 q h
      · exact hL' q h
  have kk := k T'.heap (locs ++ L') ls (by rw [e1]; exact q2) hS2 hL (by omega) (by omega)
  rw [show t2.1.length - c0 = t.1.length - c0 + (t2.1.length - t.1.length) by omega, show am_sz t2.1 - s0 = am_sz t.1 - s0 + (am_sz t2.1 - am_sz t.1) by omega] at kk
  obtain ⟨tt, a1, b1⟩ := kk T' rfl X2
  refine ⟨tt, st tt ?_, b1⟩
  have e3 : (v.toList ++ rest).map (am_tr N0 ext) = (v.map (am_tr N0 ext)).toList ++ rest.map (am_tr N0 ext) := by cases v <;> rfl
  rw [e3] at a1
  exact a1
end SIM
