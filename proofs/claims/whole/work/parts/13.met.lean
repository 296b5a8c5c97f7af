/-! every run of a method of the small machine is a contract of the machine's -/
set_option maxHeartbeats 4000000 in
set_option maxRecDepth 100000 in
theorem am_preI {str : Nat → List Nat} {X : Nat × (Nat → Int32)} {r : Option Value} {t' : am_S} {call : Nat → List Value → am_S → am_O} {K : am_K}
    (hK : ∀ pc L S t, K pc L S t = some (r, t') → t.1 <+: t'.1) (hcall : ∀ k As t v t2, call k As t = some (v, t2) → t.1 <+: t2.1) {pc : Nat} {i : Instr} {a : List Nat} {L : am_L} {S : List Value} {t : am_S}
    (h : am_ins str X call K pc i a L S t = some (r, t')) : t.1 <+: t'.1 := by
  cases i <;> first
    | exact (nomatch (show (none : am_O) = some _ from h))
    | exact hK _ _ _ _ h
    | (simp only [am_ins, am_i1, am_i2, am_j1, am_j2, am_ji, am_ai, am_aii, am_aia, am_a1, am_ldi, am_ldj, am_lda, am_st, am_stj, am_is, am_ix, am_get, am_ipi, am_ipj, am_ipr, am_put, am_nwa, am_rr, am_dr, am_cpy, am_inv, Bool.cond_eq_ite] at h
       repeat' split at h
       all_goals first
         | (have q := hK _ _ _ _ h; exact q)
         | (have q := hK _ _ _ _ h; exact List.IsPrefix.trans (List.prefix_append _ _) q)
         | (have q := hK _ _ _ _ h; exact List.IsPrefix.trans (hcall _ _ _ _ _ (by assumption)) q)
         | (cases h; exact List.prefix_rfl)
         | cases h)
theorem am_mono {X : Nat × (Nat → Int32)} : ∀ (n m pc : Nat) (L : am_L) (S : List Value) (t : am_S) (r : Option Value) (t' : am_S), am_ev X n m pc L S t = some (r, t') → t.1 <+: t'.1
  | 0, _, _, _, _, _, _, _, h => by cases h
  | n + 1, m, pc, L, S, t, r, t', h => by
    unfold am_ev at h
    split at h
    · cases h
    · refine am_preI (fun pc L S t h => am_mono n m pc L S t r t' h) (fun k As t v t2 h => ?_) h
      exact am_mono n k 0 _ _ _ _ _ (am_cond_s h).2
theorem am_la_args {N0 : Nat} {ext : Nat → Nat} : ∀ (As : List Value) (i0 i : Nat) (v : Value), (am_la As)[i]? = some (some v) → (i0 + i, am_tr N0 ext v) ∈ lv_args i0 (As.map (am_tr N0 ext))
  | [], i0, i, v, h => by simp [am_la] at h
  | w :: As, i0, i, v, h => by
    have key : (am_la (w :: As) = some w :: none :: am_la As ∧ w.category = 2) ∨ (am_la (w :: As) = some w :: am_la As ∧ w.category = 1) := by cases w <;> first | exact Or.inl ⟨rfl, rfl⟩ | exact Or.inr ⟨rfl, rfl⟩
    rcases key with ⟨e, hc⟩ | ⟨e, hc⟩
    · rw [e] at h
      match i, h with
      | 0, h => cases h; exact List.mem_cons_self
      | 1, h => cases h
      | k + 2, h =>
        have := am_la_args (N0 := N0) (ext := ext) As (i0 + 2) k v h
        refine List.mem_cons_of_mem _ ?_
        show (i0 + (k + 2), am_tr N0 ext v) ∈ lv_args (if (am_tr N0 ext w).category = 2 then i0 + 2 else i0 + 1) (As.map (am_tr N0 ext))
        rw [if_pos (by rw [am_tr_cat]; exact hc), show i0 + (k + 2) = i0 + 2 + k by omega]
        exact this
    · rw [e] at h
      match i, h with
      | 0, h => cases h; exact List.mem_cons_self
      | k + 1, h =>
        have := am_la_args (N0 := N0) (ext := ext) As (i0 + 1) k v h
        refine List.mem_cons_of_mem _ ?_
        have e2 : ¬ (am_tr N0 ext w).category = 2 := by rw [am_tr_cat]; omega
        show (i0 + (k + 1), am_tr N0 ext v) ∈ lv_args (if (am_tr N0 ext w).category = 2 then i0 + 2 else i0 + 1) (As.map (am_tr N0 ext))
        rw [if_neg e2, show i0 + (k + 1) = i0 + 1 + k by omega]
        exact this
theorem am_la_len {N0 : Nat} {ext : Nat → Nat} : ∀ As : List Value, (lg_sl (As.map (am_tr N0 ext))).length = (am_la As).length
  | [] => rfl
  | w :: As => by
    have ih := am_la_len (N0 := N0) (ext := ext) As
    have e0 : lg_sl ((w :: As).map (am_tr N0 ext)) = (if (am_tr N0 ext w).category = 2 then [.val (am_tr N0 ext w), .second] else [.val (am_tr N0 ext w)]) ++ lg_sl (As.map (am_tr N0 ext)) := rfl
    rw [e0, List.length_append, ih, am_tr_cat]
    cases w <;> simp [am_la, Value.category] <;> omega
section SIM
variable {p : Program} {l : Launch} {e : Env} {R : Room} {s : State} {mi : MethodId} {args : Array Value} {below : List Frame} {meth : Method} {c : Code} {Q : State → Prop} {D : va_G} {tc : Nat → ClassId} {N0 : Nat} {ext xv : Nat → Nat} {X : Nat × (Nat → Int32)} {m c0 s0 : Nat}
theorem am_simW (hF : am_Fact) (C : am_C p s mi args c D tc N0 ext xv X m c0) (hin : (am_y m).name = "<init>" → meth.name = "<init>") (hRf : am_fr m ≤ R.frames ∧ am_lo m ≤ R.locals) (hstr : am_Strs l D tc N0 ext xv X) {r : Option Value} {t' : am_S} (hrets : am_Rets p l e R s mi args below meth c Q D tc N0 ext m c0 s0 r t') (hc : t'.1.length - c0 ≤ R.cells) (hs : am_sz t'.1 - s0 ≤ R.slots) :
    ∀ n, (∀ j, j < n → ∀ k As t v t2, k < 272 → (am_la As).length ≤ am_maxL k → am_ev X j k 0 (am_L0 k As) [] t = some (v, t2) → am_Met l D tc N0 ext xv X k As t v t2) →
      ∀ pc L S t, L.length = am_maxL m → am_ev X n m pc L S t = some (r, t') → t.1 <+: t'.1 ∧ am_G p l e R s mi args below meth c Q D tc N0 ext c0 s0 pc L S t
  | 0, _, _, _, _, _, _, h => by cases h
  | n + 1, hM, pc, L, S, t, hlen, h => by
    unfold am_ev at h
    split at h
    · cases h
    · rename_i i len a hcode
      obtain ⟨f1, f2, f3, f4⟩ := hF _ _ _ _ _ hcode
      refine am_simI C hin hRf hstr hrets hc hs (fun pc L S t hl h => am_simW hF C hin hRf hstr hrets hc hs n (fun j hj => hM j (by omega)) pc L S t hl h) (fun k As t v t2 h => ?_) hlen f2 f3 f4 h
      obtain ⟨g1, g2⟩ := am_cond_s h
      exact ⟨am_mono n k 0 _ _ _ _ _ g2, fun hk => hM n (by omega) k As t v t2 hk (by simpa using g1) g2⟩
/-- a method's end -/
theorem am_rets (hx : p.tables.exec = Jvm.exec) (hb : c.code = am_bytes m) (hr : meth.sig.returnType = am_rt m) (hlocks : meth.locks = false) {r : Option Value} {t' : am_S} :
    am_Rets p l e R s mi args below meth c (MQ below (am_Qc D tc N0 ext r t') args s (t'.1.length - c0) (am_sz t'.1 - s0) (am_A N0)) D tc N0 ext m c0 s0 r t' := by
  intro pc ls H locs hR hS h0 h1
  have hq : ∀ (v : Option Value), v = r.map (am_tr N0 ext) → ∀ t : State, t.heap = H → s.WarmedH t.vm → am_Qc D tc N0 ext r t' args s (.returned v) t := fun v hv t ht _ => ⟨by rw [hv], by rw [ht]; exact hR, hS.F ht⟩
  have hf : ∀ q ∈ locs, am_A N0 q.base := hS.2.2
  refine ⟨fun x hd e1 e2 => ?_, fun x hd e1 e2 => ?_, fun v hd e1 e2 e3 => ?_, fun hd e1 e2 => ?_⟩
  · rcases e2 with e2 | ⟨e2, e3⟩
    · exact W.iret hx hb (by rw [hr, e2]) (hq _ (by rw [e1]; rfl)) hf hd hlocks
    · exact W.zret (ty := .boolean) hx hb (by rw [hr, e2]) (by rcases e3 with rfl | rfl <;> rfl) (hq _ (by rw [e1]; rfl)) hf hd hlocks
  · exact W.lret hx hb (by rw [hr, e2]) (hq _ (by rw [e1]; rfl)) hf hd hlocks
  · obtain ⟨C', e3⟩ := e3
    exact W.aret (rt := .object C') hx hb (by rw [hr, e3]) (Or.inl ⟨_, rfl⟩) e2 (hq _ (by rw [e1]; rfl)) hf hd hlocks
  · exact W.vret hx hb (by rw [hr, e2]) (hq _ (by rw [e1]; rfl)) hf hd hlocks
theorem am_L0_len {k : Nat} {As : List Value} (h : (am_la As).length ≤ am_maxL k) : (am_L0 k As).length = am_maxL k := by
  simp [am_L0]
  omega
theorem am_L0_LR {k : Nat} {As : List Value} (h : (am_la As).length ≤ am_maxL k) : am_LR N0 ext ((lg_sl (As.map (am_tr N0 ext)) ++ List.replicate (am_maxL k - (lg_sl (As.map (am_tr N0 ext))).length) Slot.unset).toArray) (am_L0 k As) := by
  refine am_LR.of (lv := _) (by rw [am_L0_len h]; exact lv_entry _ (by rw [am_la_len]; exact h)) (fun i v hi => ?_)
  have hi' : (am_la As)[i]? = some (some v) := by
    unfold am_L0 at hi
    rcases Nat.lt_or_ge i (am_la As).length with q | q
    · rwa [List.getElem?_append_left q] at hi
    · rw [List.getElem?_append_right q] at hi
      have := List.mem_of_getElem? hi
      simp at this
  have := am_la_args (N0 := N0) (ext := ext) As 0 i v hi'
  rwa [Nat.zero_add] at this
theorem am_mets (hF : am_Fact) (hstr : am_Strs l D tc N0 ext xv X) : ∀ n, ∀ k As t v t2, k < 272 → (am_la As).length ≤ am_maxL k → am_ev X n k 0 (am_L0 k As) [] t = some (v, t2) → am_Met l D tc N0 ext xv X k As t v t2 := by
  intro n
  induction n using Nat.strongRecOn with
  | _ n ih =>
    intro k As t v t2 hk hla h
    obtain ⟨k1, k2, k3, k4⟩ := am_mk_s hk
    refine Met.ofW (cc := am_bytes k) (maxL := am_maxL k) (ret := am_rt k) k3 rfl ?_
    intro p e s m args below meth c s₁ B hml hv
    obtain ⟨rfl, hz, hR, hst, hold⟩ := hv
    have hts0 := atoms_spec (ws := am_w k) B.pre
    have hown : s.vm.findClass (am_cn (am_own k)) = some m.cls := by rw [k4]; exact findClass_of_methodNamed B.named
    have C : am_C p s m (As.map (am_tr N0 ext)).toArray c D tc N0 ext xv X k t.1.length := ⟨B.exec, B.bytes, hml, hown, fun w hw => hts0 w (List.mem_cons_of_mem _ hw), hst, hold, hz⟩
    have hsim := am_simW (e := e) (below := below) (meth := meth) (s0 := am_sz t.1) (R := { frames := am_fr k, cells := t2.1.length - t.1.length, slots := am_sz t2.1 - am_sz t.1, locals := am_lo k }) hF C (fun q => (name_of_methodNamed B.named B.method).1.trans q) ⟨Nat.le_refl _, Nat.le_refl _⟩ hstr (am_rets (e := e) (below := below) (l := l) (c0 := t.1.length) (s0 := am_sz t.1) (ext := ext) B.exec B.bytes B.returns B.notSynchronized) (Nat.le_refl _) (Nat.le_refl _) n (fun j hj k As t v t2 a b c => ih j hj k As t v t2 a b c) 0 (am_L0 k As) [] t (am_L0_len hla) h
    have key := hsim.2 s.heap [] _ hR va_S.rf (am_L0_LR hla) (Nat.le_refl _) (Nat.le_refl _)
    rw [lg_entry_eq]
    rw [Nat.sub_self, Nat.sub_self] at key
    exact key
end SIM
