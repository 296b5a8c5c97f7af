/-! The small machine's runs, and what its state says of the machine's heap. -/
def am_L0 (m : Nat) (As : List Value) : am_L := am_la As ++ List.replicate (am_maxL m - (am_la As).length) none
def am_ev (X : Nat × (Nat → Int32)) : Nat → Nat → am_K
  | 0, _ => fun _ _ _ _ => none
  | n + 1, m => fun pc L S s => match am_code m pc with
    | none => none
    | some (i, _, a) => am_ins am_str X (fun k As s => bif Nat.ble (am_la As).length (am_maxL k) then am_ev X n k 0 (am_L0 k As) [] s else none) (am_ev X n m) pc i a L S s
def am_good : List Jvm.Cond := lw_tbl.filter goodWord
def am_w (m : Nat) : List Jvm.Cond := .code (am_y m) (am_bytes m) (am_maxL m) (am_rt m) :: am_good
def am_isN (w : Jvm.Cond) : Bool := match w with
  | .methodLinkNest _ _ _ _ => true
  | _ => false
def am_tys (tc : Nat → ClassId) : List (ClassId × FieldType) := [(tc 0, .int), (tc 1, .byte), (tc 2, .boolean), (tc 3, .object RX3), (tc 4, .object RX5), (tc 5, .object RX6)]
def am_sln : List Nat := (List.range 30).map fun e => (am_str e).length
def am_sby : List (List Int32) := (List.range 30).map fun e => (am_str e).map fun c => (nI c).toInt8.toInt32
def am_A (N0 : Nat) : Nat → Prop := fun q => N0 ≤ q
/-- the String constants -/
def am_SK (N0 : Nat) (ext xv : Nat → Nat) (U : State) (H : Heap) : Prop := ∀ i : Nat, i < 30 → va_O "java/lang/String" (ext i) (am_A N0) U H ∧ va_OF "java/lang/String" "coder" "B" (.int 0) (ext i) (am_A N0) U H ∧ va_OF "java/lang/String" "value" "[B" (.ref (xv i)) (ext i) (am_A N0) U H ∧ va_T .byte (xv i) (am_sln.getD i 0) (fun j => .int ((am_sby.getD i []).getD j 0)) (am_A N0) U H
theorem am_SK.moved {N0 : Nat} {ext xv : Nat → Nat} {u U : State} {H : Heap} (hvm : u.vm.Alike U.vm) (h : am_SK N0 ext xv u H) : am_SK N0 ext xv U H := fun i hi => ⟨va_O.moved hvm (h i hi).1, va_OF.moved hvm (h i hi).2.1, va_OF.moved hvm (h i hi).2.2.1, va_T.moved hvm (h i hi).2.2.2⟩
theorem am_SK.kept {N0 : Nat} {ext xv : Nat → Nat} {U : State} {H H1 : Heap} (h : am_SK N0 ext xv U H) (hq : ∀ a : Nat, a < H.size → ¬ am_A N0 a → H1[a]? = H[a]?) : am_SK N0 ext xv U H1 := fun i hi => ⟨(h i hi).1.kept hq, (h i hi).2.1.kept hq, (h i hi).2.2.1.kept hq, (h i hi).2.2.2.kept hq⟩
theorem am_SK.recv {N0 : Nat} {ext xv : Nat → Nat} {s : State} {H : Heap} {locs : List Loc} {i : Nat} (h : am_SK N0 ext xv s s.heap) (hi : i < 30) (hS : va_S (am_A N0) s.heap H locs) : ∃ cell : Cell, H[ext i]? = some cell ∧ cell.vm.isStatics = false ∧ s.vm.findClass "java/lang/String" = some cell.cls := by
  obtain ⟨cell, h1, h2, h3, -⟩ := (h i hi).1.kept hS.2.1
  exact ⟨cell, h1, h2, h3⟩
/-- what stays as it is: the tables, and cells that lie ahead of the law's start -/
def am_Old (N0 : Nat) (ext xv : Nat → Nat) (X : Nat × (Nat → Int32)) (U : State) (H : Heap) : Prop :=
  am_SK N0 ext xv U H ∧ va_Z "java/lang/String" "COMPACT_STRINGS" "Z" (.int 1) (am_A N0) U H ∧ va_Zq "jdk/internal/util/Preconditions" "SIOOBE_FORMATTER" "Ljava/util/function/BiFunction;" (am_A N0) U H ∧ va_X (ext 1000) X.1 X.2 U H ∧ ext 1000 < N0 ∧ N0 ≤ H.size
def am_Stt (D : va_G) (tc : Nat → ClassId) (ext : Nat → Nat) (U : State) : Prop :=
  va_K D vwCl (am_tys tc) U ∧ (∀ w ∈ lw_tbl, am_isN w = true → va_Nw w U) ∧ (va_AO RX3 U ∧ va_AO RX5 U ∧ va_AO RX6 U) ∧ ∀ e, e < 30 → vk_R RX4 (am_six e) (am_stx e) (ext e) U
theorem am_Old.kept {N0 : Nat} {ext xv : Nat → Nat} {X : Nat × (Nat → Int32)} {U : State} {H H1 : Heap} (h : am_Old N0 ext xv X U H) (hz : H.size ≤ H1.size) (hq : ∀ a : Nat, a < H.size → ¬ am_A N0 a → H1[a]? = H[a]?) : am_Old N0 ext xv X U H1 := by
  obtain ⟨h1, h2, h3, h4, h5, h6⟩ := h
  exact ⟨h1.kept hq, h2.kept hq, h3.kept hq, h4.kept (hq _ (Nat.lt_of_lt_of_le h5 h6) (Nat.not_le.mpr h5)), h5, Nat.le_trans h6 hz⟩
theorem am_Old.moved {N0 : Nat} {ext xv : Nat → Nat} {X : Nat × (Nat → Int32)} {u U : State} {H : Heap} (hvm : u.vm.Alike U.vm) (h : am_Old N0 ext xv X u H) : am_Old N0 ext xv X U H := by
  obtain ⟨h1, h2, h3, h4, h5, h6⟩ := h
  exact ⟨am_SK.moved hvm h1, va_Z.moved hvm h2, va_Zq.moved hvm h3, va_X.moved hvm h4, h5, h6⟩
theorem am_Stt.warm {D : va_G} {tc : Nat → ClassId} {ext : Nat → Nat} {s U : State} (hW : s.WarmedH U.vm) (h : am_Stt D tc ext s) : am_Stt D tc ext U := by
  obtain ⟨h1, h2, ⟨h3, h4, h5⟩, h6⟩ := h
  refine ⟨va_K.moved hW.alike h1, fun w hw hn => ?_, ⟨va_AO.moved hW.alike h3, va_AO.moved hW.alike h4, va_AO.moved hW.alike h5⟩, fun e he => vk_R.warm hW (h6 e he)⟩
  have q := h2 w hw hn
  cases w <;> first | exact va_Nw.warmM hW q | (simp [am_isN] at hn; done)
theorem am_Stt.same {D : va_G} {tc : Nat → ClassId} {ext : Nat → Nat} {u U : State} (hv : U.vm = u.vm) (h : am_Stt D tc ext u) : am_Stt D tc ext U := by
  obtain ⟨h1, h2, ⟨h3, h4, h5⟩, h6⟩ := h
  have hA : u.vm.Alike U.vm := by rw [hv]; exact Vm.Alike.refl _
  refine ⟨va_K.moved hA h1, fun w hw hn => ?_, ⟨va_AO.moved hA h3, va_AO.moved hA h4, va_AO.moved hA h5⟩, fun e he => vk_R.same hv (h6 e he)⟩
  have q := h2 w hw hn
  cases w <;> first | exact va_Nw.same rfl hv.symm q | (simp [am_isN] at hn; done)
def am_tr (N0 : Nat) (ext : Nat → Nat) (v : Value) : Value := match v with
  | .ref i => .ref (N0 + i)
  | .retAddr e => .ref (ext e)
  | v => v
theorem am_tr_rf (N0 : Nat) (ext : Nat → Nat) (o : Option Nat) : am_tr N0 ext (va_rf o) = va_rf (o.map (fun a => N0 + a)) := by cases o <;> rfl
theorem am_tr_cat (N0 : Nat) (ext : Nat → Nat) (v : Value) : (am_tr N0 ext v).category = v.category := by cases v <;> rfl
/-- a cell's content as the kit has it -/
def am_E (tc : Nat → ClassId) (N0 : Nat) (t : am_S) (i : Nat) (q : Nat × Nat) : va_E :=
  if q.1 < 10 then .inr (q.1, (List.range q.2).map fun k => am_tr N0 (fun _ => 0) (am_fv (am_ft q.1 k) t i k))
  else if q.1 < 13 then .inl (tc (q.1 - 10), q.2, .inl (t.2.2.1 i))
  else .inl (tc (q.1 - 10), q.2, .inr (.inr (.inr (.inr fun k => (t.2.1 i k).map (fun a => N0 + a)))))
def am_ws (tc : Nat → ClassId) (N0 : Nat) (t : am_S) : va_W := t.1.mapIdx fun i q => (N0 + i, am_E tc N0 t i q)
/-- rows of bytes hold bytes -/
def am_B (t : am_S) : Prop := ∀ i n, t.1[i]? = some (11, n) → ∀ k, (t.2.2.1 i k).toInt8.toInt32 = t.2.2.1 i k
/-- objects have all their fields -/
def am_Y (y : List (Nat × Nat)) : Prop := ∀ (i c n : Nat), y[i]? = some (c, n) → c < 10 → n = am_nf c
def am_Rep (D : va_G) (tc : Nat → ClassId) (N0 : Nat) (t : am_S) (H : Heap) : Prop := va_P D vwCl (am_ws tc N0 t) H ∧ am_B t ∧ am_Y t.1
theorem am_ws_at {tc : Nat → ClassId} {N0 : Nat} {t : am_S} {i : Nat} {q : Nat × Nat} (h : t.1[i]? = some q) : (am_ws tc N0 t)[i]? = some (N0 + i, am_E tc N0 t i q) := by
  simp [am_ws, List.getElem?_mapIdx, h]
theorem am_ws_D (tc : Nat → ClassId) (N0 : Nat) (t : am_S) : va_D (am_A N0) (am_ws tc N0 t) := by
  refine ⟨fun i j p q hp hq e => ?_, fun k q hq => ?_⟩
  · simp only [am_ws, List.getElem?_mapIdx, Option.map_eq_some_iff] at hp hq
    obtain ⟨_, _, rfl⟩ := hp
    obtain ⟨_, _, rfl⟩ := hq
    simp only at e
    omega
  · simp only [am_ws, List.getElem?_mapIdx, Option.map_eq_some_iff] at hq
    obtain ⟨_, _, rfl⟩ := hq
    exact Nat.le_add_right _ _
theorem am_ws_set {tc : Nat → ClassId} {N0 : Nat} {t t' : am_S} {i : Nat} {q : Nat × Nat} {E : va_E} (h : t.1[i]? = some q) (hl : t'.1 = t.1) (hE : am_E tc N0 t' i q = E) (ho : ∀ j q, j ≠ i → am_E tc N0 t' j q = am_E tc N0 t j q) : (am_ws tc N0 t).set i (N0 + i, E) = am_ws tc N0 t' := by
  apply List.ext_getElem?
  intro j
  by_cases hj : j = i
  · subst hj
    have hlt : j < (am_ws tc N0 t).length := by
      have := (List.getElem?_eq_some_iff.mp h).1
      simpa [am_ws] using this
    rw [List.getElem?_set_self hlt, am_ws_at (t := t') (q := q) (by rw [hl]; exact h), hE]
  · rw [List.getElem?_set_ne (Ne.symm hj)]
    cases hq : t.1[j]? with
    | none => simp [am_ws, List.getElem?_mapIdx, hq, hl]
    | some q' => rw [am_ws_at hq, am_ws_at (t := t') (by rw [hl]; exact hq), ho j q' hj]
theorem am_E_obj {tc : Nat → ClassId} {N0 : Nat} {t : am_S} {i c n : Nat} (h : c < 10) : am_E tc N0 t i (c, n) = .inr (c, (List.range n).map fun k => am_tr N0 (fun _ => 0) (am_fv (am_ft c k) t i k)) := by simp [am_E, h]
theorem am_E_int {tc : Nat → ClassId} {N0 : Nat} {t : am_S} {i c n : Nat} (h : 10 ≤ c) (h2 : c < 13) : am_E tc N0 t i (c, n) = .inl (tc (c - 10), n, .inl (t.2.2.1 i)) := by
  simp only [am_E]
  rw [if_neg (by omega), if_pos h2]
theorem am_E_ref {tc : Nat → ClassId} {N0 : Nat} {t : am_S} {i c n : Nat} (h : 13 ≤ c) : am_E tc N0 t i (c, n) = .inl (tc (c - 10), n, .inr (.inr (.inr (.inr fun k => (t.2.1 i k).map (fun a => N0 + a))))) := by
  simp only [am_E]
  rw [if_neg (by omega), if_neg (by omega)]
/-- another cell isn't touched -/
theorem am_E_congr {tc : Nat → ClassId} {N0 : Nat} {t t' : am_S} {j : Nat} (h1 : ∀ k, t'.2.1 j k = t.2.1 j k) (h2 : ∀ k, t'.2.2.1 j k = t.2.2.1 j k) (h3 : ∀ k, t'.2.2.2 j k = t.2.2.2 j k) (q : Nat × Nat) : am_E tc N0 t' j q = am_E tc N0 t j q := by
  have e1 : t'.2.1 j = t.2.1 j := funext h1
  have e2 : t'.2.2.1 j = t.2.2.1 j := funext h2
  have e3 : t'.2.2.2 j = t.2.2.2 j := funext h3
  simp [am_E, am_fv, e1, e2, e3]
theorem am_up_ne {α : Type} {f : Nat → Nat → α} {i k a b : Nat} {v : α} (h : a ≠ i) : am_up f i k v a b = f a b := by simp [am_up, h]
theorem am_row_ne {α : Type} {f : Nat → Nat → α} {i a b : Nat} {g : Nat → α} (h : a ≠ i) : am_row f i g a b = f a b := by simp [am_row, h]
theorem am_nw_ne {α : Type} {f : Nat → Nat → α} {i a b : Nat} {v : α} (h : a ≠ i) : am_nw f i v a b = f a b := by simp [am_nw, h]
theorem am_up_row {α : Type} (f : Nat → Nat → α) (i k : Nat) (v : α) : am_up f i k v i = fun b => if b = k then v else f i b := by funext b; simp [am_up]
/-- writing a field -/
theorem am_set_field {N0 : Nat} {t t' : am_S} {i c n k : Nat} {v : Value} (hk : k < n) (hv : am_tr N0 (fun _ => 0) (am_fv (am_ft c k) t' i k) = v) (ho : ∀ j, j ≠ k → am_fv (am_ft c j) t' i j = am_fv (am_ft c j) t i j) :
    ((List.range n).map fun k => am_tr N0 (fun _ => 0) (am_fv (am_ft c k) t i k)).set k v = (List.range n).map fun k => am_tr N0 (fun _ => 0) (am_fv (am_ft c k) t' i k) := by
  apply List.ext_getElem?
  intro j
  by_cases hj : j = k
  · subst hj
    rw [List.getElem?_set_self (by simpa using hk)]
    simp [hk, hv]
  · rw [List.getElem?_set_ne (Ne.symm hj)]
    by_cases hl : j < n
    · simp [hl, ho j hj]
    · simp [hl]
/-- locals -/
def am_LR (N0 : Nat) (ext : Nat → Nat) (ls : Array Slot) (L : am_L) : Prop := ls.size = L.length ∧ lv_wf ls ∧ ∀ (i : Nat) (v : Value), L[i]? = some (some v) → ls[i]? = some (Slot.val (am_tr N0 ext v))
def am_lvs (N0 : Nat) (ext : Nat → Nat) (L : am_L) : List (Nat × Value) := (L.mapIdx fun i o => o.map fun v => (i, am_tr N0 ext v)).filterMap id
theorem am_lvs_mem {N0 : Nat} {ext : Nat → Nat} {L : am_L} {q : Nat × Value} : q ∈ am_lvs N0 ext L ↔ ∃ v, L[q.1]? = some (some v) ∧ q.2 = am_tr N0 ext v := by
  simp only [am_lvs, List.mem_filterMap, id]
  constructor
  · rintro ⟨o, ho, rfl⟩
    obtain ⟨i, hi⟩ := List.getElem?_of_mem ho
    rw [List.getElem?_mapIdx, Option.map_eq_some_iff] at hi
    obtain ⟨o', h1, h2⟩ := hi
    cases o' with
    | none => cases h2
    | some v => cases h2; exact ⟨v, h1, rfl⟩
  · rintro ⟨v, h1, h2⟩
    refine ⟨some q, ?_, rfl⟩
    refine List.mem_of_getElem? (i := q.1) ?_
    rw [List.getElem?_mapIdx, h1]
    simp [← h2]
theorem am_LR.has {N0 : Nat} {ext : Nat → Nat} {ls : Array Slot} {L : am_L} (h : am_LR N0 ext ls L) : lv_has ls L.length (am_lvs N0 ext L) :=
  ⟨h.1, h.2.1, fun q hq => by obtain ⟨v, h1, h2⟩ := am_lvs_mem.mp hq; rw [h2]; exact h.2.2 q.1 v h1⟩
theorem am_LR.of {N0 : Nat} {ext : Nat → Nat} {ls : Array Slot} {L : am_L} {lv : List (Nat × Value)} (h : lv_has ls L.length lv) (hm : ∀ i v, L[i]? = some (some v) → (i, am_tr N0 ext v) ∈ lv) : am_LR N0 ext ls L :=
  ⟨h.1, h.2.1, fun i v hi => h.2.2 _ (hm i v hi)⟩
theorem am_nl_spec {L : am_L} {n j : Nat} {v : Value} (h : am_nl L n = true) (hj : j + 1 = n) (hv : L[j]? = some (some v)) (hc : v.category = 2) : False := by
  subst hj
  simp [am_nl, hv, hc] at h
theorem am_LR_set {N0 : Nat} {ext : Nat → Nat} {ls : Array Slot} {L : am_L} {n : Nat} {v : Value} (hnl : am_nl L n = true) (h : lv_has ls L.length ((n, am_tr N0 ext v) :: (am_lvs N0 ext L).filter (fun q => !(q.1 == n) && !(q.1 + 1 == n && q.2.category == 2)))) : am_LR N0 ext ls (L.set n (some v)) := by
  refine am_LR.of (lv := _) (by rw [List.length_set]; exact h) (fun i w hi => ?_)
  by_cases e : i = n
  · subst e
    have : i < L.length := by
      have := (List.getElem?_eq_some_iff.mp hi).1
      simpa using this
    rw [List.getElem?_set_self this] at hi
    cases hi
    exact List.mem_cons_self
  · rw [List.getElem?_set_ne (Ne.symm e)] at hi
    refine List.mem_cons_of_mem _ (List.mem_filter.mpr ⟨am_lvs_mem.mpr ⟨w, hi, rfl⟩, ?_⟩)
    simp only [Bool.and_eq_true, Bool.not_eq_true', beq_eq_false_iff_ne, ne_eq, e, not_false_eq_true, true_and, Bool.and_eq_false_iff, am_tr_cat]
    by_cases e2 : i + 1 = n
    · right
      intro hc
      exact am_nl_spec hnl e2 hi hc
    · left; exact e2
theorem am_LR_setj {N0 : Nat} {ext : Nat → Nat} {ls : Array Slot} {L : am_L} {n : Nat} {v : Int64} (hnl : am_nl L n = true) (h : lv_has ls L.length ((n, Value.long v) :: (am_lvs N0 ext L).filter (fun q => !(q.1 == n) && (!(q.1 == n + 1) && !(q.1 + 1 == n && q.2.category == 2))))) : am_LR N0 ext ls ((L.set n (some (.long v))).set (n + 1) none) := by
  refine am_LR.of (lv := _) (by rw [List.length_set, List.length_set]; exact h) (fun i w hi => ?_)
  by_cases e1 : i = n + 1
  · subst e1
    have hl : n + 1 < (L.set n (some (Value.long v))).length := by
      have := (List.getElem?_eq_some_iff.mp hi).1
      simpa using this
    rw [List.getElem?_set_self hl] at hi
    cases hi
  · rw [List.getElem?_set_ne (Ne.symm e1)] at hi
    by_cases e : i = n
    · subst e
      have : i < L.length := by
        have := (List.getElem?_eq_some_iff.mp hi).1
        simpa using this
      rw [List.getElem?_set_self this] at hi
      cases hi
      exact List.mem_cons_self
    · rw [List.getElem?_set_ne (Ne.symm e)] at hi
      refine List.mem_cons_of_mem _ (List.mem_filter.mpr ⟨am_lvs_mem.mpr ⟨w, hi, rfl⟩, ?_⟩)
      simp only [Bool.and_eq_true, Bool.not_eq_true', beq_eq_false_iff_ne, ne_eq, e, e1, not_false_eq_true, true_and, Bool.and_eq_false_iff, am_tr_cat]
      by_cases e2 : i + 1 = n
      · right
        intro hc
        exact am_nl_spec hnl e2 hi hc
      · left; exact e2
