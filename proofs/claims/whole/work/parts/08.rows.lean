/-! one instruction of the small machine is one of the machine -/
section SIM
variable {p : Program} {l : Launch} {e : Env} {R : Room} {s : State} {mi : MethodId} {args : Array Value} {below : List Frame} {meth : Method} {c : Code} {Q : State → Prop} {D : va_G} {tc : Nat → ClassId} {N0 : Nat} {ext xv : Nat → Nat} {X : Nat × (Nat → Int32)} {m c0 s0 : Nat}
def am_G (p : Program) (l : Launch) (e : Env) (R : Room) (s : State) (mi : MethodId) (args : Array Value) (below : List Frame) (meth : Method) (c : Code) (Q : State → Prop) (D : va_G) (tc : Nat → ClassId) (N0 : Nat) (ext : Nat → Nat) (c0 s0 : Nat) (pc : Nat) (L : am_L) (S : List Value) (t : am_S) : Prop :=
  ∀ (H : Heap) (locs : List Loc) (ls : Array Slot), am_Rep D tc N0 t H → va_S (am_A N0) s.heap H locs → am_LR N0 ext ls L → c0 ≤ t.1.length → s0 ≤ am_sz t.1 → W p l e R s mi args below meth c H locs (t.1.length - c0) (am_sz t.1 - s0) Q (F0 mi pc ls (S.map (am_tr N0 ext)))
/-- what a method's body knows -/
def am_C (p : Program) (s : State) (mi : MethodId) (args : Array Value) (c : Code) (D : va_G) (tc : Nat → ClassId) (N0 : Nat) (ext xv : Nat → Nat) (X : Nat × (Nat → Int32)) (m c0 : Nat) : Prop :=
  p.tables.exec = Jvm.exec ∧ c.code = am_bytes m ∧ c.maxLocals = am_maxL m ∧ s.vm.findClass (am_cn (am_own m)) = some mi.cls ∧ (∀ w ∈ am_good, w.before args s = true) ∧ am_Stt D tc ext s ∧ am_Old N0 ext xv X s s.heap ∧ s.heap.size = N0 + c0
theorem am_step {pc pc2 : Nat} {L : am_L} {S S2 : List Value} {t : am_S} (h : ∀ (H : Heap) (locs : List Loc) (cl sl : Nat) (ls : Array Slot), W p l e R s mi args below meth c H locs cl sl Q (F0 mi pc2 ls (S2.map (am_tr N0 ext))) → W p l e R s mi args below meth c H locs cl sl Q (F0 mi pc ls (S.map (am_tr N0 ext))))
    (k : am_G p l e R s mi args below meth c Q D tc N0 ext c0 s0 pc2 L S2 t) : am_G p l e R s mi args below meth c Q D tc N0 ext c0 s0 pc L S t := fun H locs ls a b c d f => h _ _ _ _ _ (k H locs ls a b c d f)
theorem am_stepL {pc pc2 : Nat} {L : am_L} {S S2 : List Value} {t : am_S} (h : ∀ (H : Heap) (locs : List Loc) (cl sl : Nat) (ls : Array Slot), am_LR N0 ext ls L → W p l e R s mi args below meth c H locs cl sl Q (F0 mi pc2 ls (S2.map (am_tr N0 ext))) → W p l e R s mi args below meth c H locs cl sl Q (F0 mi pc ls (S.map (am_tr N0 ext))))
    (k : am_G p l e R s mi args below meth c Q D tc N0 ext c0 s0 pc2 L S2 t) : am_G p l e R s mi args below meth c Q D tc N0 ext c0 s0 pc L S t := fun H locs ls a b c d f => h _ _ _ _ _ c (k H locs ls a b c d f)
theorem am_stepS {pc pc2 : Nat} {L L2 : am_L} {S S2 : List Value} {t : am_S} (h : ∀ (H : Heap) (locs : List Loc) (cl sl : Nat) (ls : Array Slot), am_LR N0 ext ls L → (∀ ls', am_LR N0 ext ls' L2 → W p l e R s mi args below meth c H locs cl sl Q (F0 mi pc2 ls' (S2.map (am_tr N0 ext)))) → W p l e R s mi args below meth c H locs cl sl Q (F0 mi pc ls (S.map (am_tr N0 ext))))
    (k : am_G p l e R s mi args below meth c Q D tc N0 ext c0 s0 pc2 L2 S2 t) : am_G p l e R s mi args below meth c Q D tc N0 ext c0 s0 pc L S t := fun H locs ls a b c d f => h _ _ _ _ _ c (fun ls' c' => k H locs ls' a b c' d f)
theorem am_stepR {pc pc2 : Nat} {L : am_L} {S S2 : List Value} {t : am_S} (h : ∀ (H : Heap) (locs : List Loc) (cl sl : Nat) (ls : Array Slot), am_LR N0 ext ls L → am_Rep D tc N0 t H → va_S (am_A N0) s.heap H locs → W p l e R s mi args below meth c H locs cl sl Q (F0 mi pc2 ls (S2.map (am_tr N0 ext))) → W p l e R s mi args below meth c H locs cl sl Q (F0 mi pc ls (S.map (am_tr N0 ext))))
    (k : am_G p l e R s mi args below meth c Q D tc N0 ext c0 s0 pc2 L S2 t) : am_G p l e R s mi args below meth c Q D tc N0 ext c0 s0 pc L S t := fun H locs ls a b c d f => h _ _ _ _ _ c a b (k H locs ls a b c d f)
/-- a write: the same layout -/
theorem am_stepW {pc pc2 : Nat} {L : am_L} {S S2 : List Value} {t t2 : am_S} (hy : t2.1 = t.1) (h : ∀ (H : Heap) (locs : List Loc) (cl sl : Nat) (ls : Array Slot), am_LR N0 ext ls L → am_Rep D tc N0 t H → va_S (am_A N0) s.heap H locs → (∀ (H1 : Heap) (locs1 : List Loc), va_P D vwCl (am_ws tc N0 t2) H1 → va_S (am_A N0) s.heap H1 locs1 → W p l e R s mi args below meth c H1 locs1 cl sl Q (F0 mi pc2 ls (S2.map (am_tr N0 ext)))) → W p l e R s mi args below meth c H locs cl sl Q (F0 mi pc ls (S.map (am_tr N0 ext))))
    (hB : am_B t → am_B t2) (k : am_G p l e R s mi args below meth c Q D tc N0 ext c0 s0 pc2 L S2 t2) : am_G p l e R s mi args below meth c Q D tc N0 ext c0 s0 pc L S t := by
  intro H locs ls a b c d f
  refine h _ _ _ _ _ c a b (fun H1 locs1 hP hS => ?_)
  have q := k H1 locs1 ls ⟨hP, hB a.2.1, by rw [hy]; exact a.2.2⟩ hS c (by rw [hy]; exact d) (by rw [hy]; exact f)
  rw [hy] at q
  exact q
/-- how large the heap is -/
theorem am_le {H : Heap} {locs : List Loc} {cl sl : Nat} {g : JFrame} (k : H.size ≤ s.heap.size + cl → W p l e R s mi args below meth c H locs cl sl Q g) : W p l e R s mi args below meth c H locs cl sl Q g := by
  intro T hT X'
  refine k ?_ T hT X'
  have q := X'.same.2.2.1
  rw [← hT]
  exact q
theorem am_len_ge {t : am_S} {H : Heap} (hP : va_P D vwCl (am_ws tc N0 t) H) (h0 : N0 ≤ H.size) : N0 + t.1.length ≤ H.size := by
  cases hq : t.1.length with
  | zero => exact h0
  | succ k =>
    obtain ⟨q, hq'⟩ : ∃ q, t.1[k]? = some q := ⟨t.1[k], List.getElem?_eq_getElem (by omega)⟩
    have := (hP k _ (am_ws_at hq')).lt
    simp only at this
    omega
theorem am_size {t : am_S} {H : Heap} {locs : List Loc} {sl : Nat} {g : JFrame} (hP : va_P D vwCl (am_ws tc N0 t) H) (hS : va_S (am_A N0) s.heap H locs) (hz : s.heap.size = N0 + c0) (h0 : c0 ≤ t.1.length) (k : H.size = N0 + t.1.length → W p l e R s mi args below meth c H locs (t.1.length - c0) sl Q g) : W p l e R s mi args below meth c H locs (t.1.length - c0) sl Q g := by
  refine am_le fun h => k ?_
  have h1 := am_len_ge hP (by have := hS.1; omega)
  omega
theorem am_at_s {pos : Nat} {w : Jvm.Cond} (h : am_at pos w = true) : w ∈ am_good := by
  simp only [am_at, Bool.and_eq_true, decide_eq_true_eq] at h
  exact List.mem_filter.mpr ⟨List.mem_of_getElem? h.1, h.2⟩
theorem am_atN_s {pos : Nat} {w : Jvm.Cond} (h : am_atN pos w = true) : w ∈ lw_tbl := by
  simp only [am_atN, decide_eq_true_eq] at h
  exact List.mem_of_getElem? h
theorem am_good_in : GoodIn am_good am_good := fun w h => ⟨h, good_of_word (List.mem_filter.mp h).2⟩
theorem am_tgt {pc : Nat} {off : Int} (h : 0 ≤ (pc : Int) + off) : (pc : Int) + off = (am_tg pc off : Int) := by
  unfold am_tg
  omega
end SIM
/-- the tables of each class -/
theorem am_cls : ∀ c, c < 10 → vwCl[c]? = some (am_cn c, am_T c, am_nf c) ∧ (∀ k, k < am_nf c → parseFieldDescriptor (am_T c k).2.2.1 = some (am_ty c k)) ∧ (∀ a, a < am_nf c → ∀ b, b < am_nf c → a ≠ b → (am_T c a).2.1 ≠ (am_T c b).2.1) := by
  intro c hc
  match c, hc with
  | 0, _ => exact ⟨rfl, tyX0_ok, nmX0⟩
  | 1, _ => exact ⟨rfl, tyX1_ok, nmX1⟩
  | 2, _ => exact ⟨rfl, tyX2_ok, nmX2⟩
  | 3, _ => exact ⟨rfl, tyX3_ok, nmX3⟩
  | 4, _ => exact ⟨rfl, tyX4_ok, nmX4⟩
  | 5, _ => exact ⟨rfl, tyX5_ok, nmX5⟩
  | 6, _ => exact ⟨rfl, tyX6_ok, nmX6⟩
  | 7, _ => exact ⟨rfl, tyX7_ok, nmX7⟩
  | 8, _ => exact ⟨rfl, tyX8_ok, nmX8⟩
  | 9, _ => exact ⟨rfl, tyX9_ok, nmX9⟩
  | k + 10, h => omega
theorem am_ftt : ∀ c, c < 10 → ∀ k, k < am_nf c → (am_ft c k = 0 ∧ am_ty c k = .int) ∨ (am_ft c k = 1 ∧ am_ty c k = .boolean) ∨ (am_ft c k = 2 ∧ am_ty c k = .long) ∨ (am_ft c k = 3 ∧ ((∃ C, am_ty c k = .object C) ∨ ∃ y, am_ty c k = .array y)) := by
  have key : ∀ c, c < 10 → ∀ k, k < am_nf c → (match am_ft c k, am_ty c k with | 0, .int => true | 1, .boolean => true | 2, .long => true | 3, .object _ => true | 3, .array _ => true | _, _ => false) = true := by decide +kernel
  intro c hc k hk
  have q := key c hc k hk
  split at q <;> simp_all
set_option maxRecDepth 100000 in
theorem am_uwsB : ∀ c, c < 10 → (u_ws (am_cn c) (am_T c) (am_nf c)).all (fun w => decide (w ∈ lw_tbl) && goodWord w) = true := by decide +kernel
theorem am_uws (c : Nat) (hc : c < 10) : ∀ w ∈ u_ws (am_cn c) (am_T c) (am_nf c), w ∈ am_good := by
  intro w hw
  have h := List.all_eq_true.mp (am_uwsB c hc) w hw
  simp only [Bool.and_eq_true, decide_eq_true_eq] at h
  exact List.mem_filter.mpr h
theorem am_tr_fv (N0 : Nat) (ext : Nat → Nat) (ft : Nat) (t : am_S) (i k : Nat) : am_tr N0 ext (am_fv ft t i k) = am_tr N0 (fun _ => 0) (am_fv ft t i k) := by
  unfold am_fv
  split
  · rfl
  · rw [am_tr_rf, am_tr_rf]
  · rfl
theorem am_ws_new (tc : Nat → ClassId) (N0 : Nat) (t : am_S) (c n : Nat) : am_ws tc N0 (am_new t c n) = am_ws tc N0 t ++ [(N0 + t.1.length, am_E tc N0 (am_new t c n) t.1.length (c, n))] := by
  apply List.ext_getElem?
  intro j
  have hlen : (am_ws tc N0 t).length = t.1.length := by simp [am_ws]
  by_cases hj : j < t.1.length
  · rw [List.getElem?_append_left (by omega)]
    obtain ⟨q, hq⟩ : ∃ q, t.1[j]? = some q := ⟨t.1[j], List.getElem?_eq_getElem hj⟩
    have hq' : (am_new t c n).1[j]? = some q := by
      show (t.1 ++ [(c, n)])[j]? = some q
      rw [List.getElem?_append_left hj]; exact hq
    rw [am_ws_at hq, am_ws_at hq']
    have hne : j ≠ t.1.length := by omega
    rw [am_E_congr (t' := am_new t c n) (t := t) (fun k => am_nw_ne hne) (fun k => am_nw_ne hne) (fun k => am_nw_ne hne) q]
  · by_cases hj2 : j = t.1.length
    · subst hj2
      rw [List.getElem?_append_right (by omega), hlen, Nat.sub_self]
      have hq' : (am_new t c n).1[t.1.length]? = some (c, n) := by
        show (t.1 ++ [(c, n)])[t.1.length]? = some (c, n)
        simp
      rw [am_ws_at hq']
      rfl
    · rw [List.getElem?_eq_none (by simp [am_ws, am_new]; omega), List.getElem?_eq_none (by simp [am_ws]; omega)]
theorem am_fresh {tc : Nat → ClassId} {N0 : Nat} {t : am_S} {D : va_G} {q : Nat} {E : va_E} {H1 : Heap} (hP : va_P D vwCl (am_ws tc N0 t ++ [(q, E)]) H1) (hD : va_D (am_A N0) (am_ws tc N0 t ++ [(q, E)])) (hz : H1.size ≤ N0 + t.1.length + 1) : q = N0 + t.1.length := by
  have hlen : (am_ws tc N0 t).length = t.1.length := by simp [am_ws]
  have hq : (am_ws tc N0 t ++ [(q, E)])[t.1.length]? = some (q, E) := by
    rw [List.getElem?_append_right (by omega), hlen, Nat.sub_self]
    rfl
  have h1 : q < H1.size := (hP _ _ hq).lt
  have h2 : N0 ≤ q := hD.2 _ _ hq
  by_cases h : q = N0 + t.1.length
  · exact h
  · exfalso
    obtain ⟨i, hi⟩ : ∃ i, q = N0 + i := ⟨q - N0, by omega⟩
    have hi2 : i < t.1.length := by omega
    obtain ⟨q', hq'⟩ : ∃ q', t.1[i]? = some q' := ⟨t.1[i], List.getElem?_eq_getElem hi2⟩
    have h3 : (am_ws tc N0 t ++ [(q, E)])[i]? = some (N0 + i, am_E tc N0 t i q') := by
      rw [List.getElem?_append_left (by omega)]
      exact am_ws_at hq'
    have := hD.1 _ _ _ _ hq h3 hi
    omega
