section SIM
variable {p : Program} {l : Launch} {e : Env} {R : Room} {s : State} {mi : MethodId} {args : Array Value} {below : List Frame} {meth : Method} {c : Code} {Q : State → Prop} {D : va_G} {tc : Nat → ClassId} {N0 : Nat} {ext xv : Nat → Nat} {X : Nat × (Nat → Int32)} {m c0 s0 : Nat}
theorem am_pre_trans {a b c : List (Nat × Nat)} (h1 : a <+: b) (h2 : b <+: c) : a <+: c := List.IsPrefix.trans h1 h2
theorem am_new_pre (t : am_S) (c n : Nat) : t.1 <+: (am_new t c n).1 := List.prefix_append _ _
theorem am_up_B {t : am_S} {i k ci n : Nat} {v : Int32} (hy : t.1[i]? = some (ci, n)) (h : ci ≠ 11 ∨ v.toInt8.toInt32 = v) (hB : am_B t) : am_B (t.1, t.2.1, am_up t.2.2.1 i k v, t.2.2.2) := by
  intro j n' hj b
  show (am_up t.2.2.1 i k v j b).toInt8.toInt32 = am_up t.2.2.1 i k v j b
  have hj' : t.1[j]? = some (11, n') := hj
  by_cases e : j = i ∧ b = k
  · obtain ⟨rfl, rfl⟩ := e
    rw [hy] at hj'
    cases hj'
    simp only [am_up, and_self, if_true]
    rcases h with h | h
    · exact absurd rfl h
    · exact h
  · simp only [am_up, if_neg e]
    exact hB j n' hj b
theorem am_up_E {tc : Nat → ClassId} {t : am_S} {i k : Nat} {v : Int32} : ∀ j q, j ≠ i → am_E tc N0 (t.1, t.2.1, am_up t.2.2.1 i k v, t.2.2.2) j q = am_E tc N0 t j q := fun j q hj => by refine am_E_congr (fun _ => ?_) (fun _ => ?_) (fun _ => ?_) q <;> first | rfl | exact am_up_ne hj
theorem am_up_Er {tc : Nat → ClassId} {t : am_S} {i k : Nat} {v : Option Nat} : ∀ j q, j ≠ i → am_E tc N0 (t.1, am_up t.2.1 i k v, t.2.2.1, t.2.2.2) j q = am_E tc N0 t j q := fun j q hj => by refine am_E_congr (fun _ => ?_) (fun _ => ?_) (fun _ => ?_) q <;> first | rfl | exact am_up_ne hj
theorem am_up_Ej {tc : Nat → ClassId} {t : am_S} {i k : Nat} {v : Int64} : ∀ j q, j ≠ i → am_E tc N0 (t.1, t.2.1, t.2.2.1, am_up t.2.2.2 i k v) j q = am_E tc N0 t j q := fun j q hj => by refine am_E_congr (fun _ => ?_) (fun _ => ?_) (fun _ => ?_) q <;> first | rfl | exact am_up_ne hj
set_option maxHeartbeats 4000000 in
set_option maxRecDepth 100000 in
theorem am_simI (C : am_C p s mi args c D tc N0 ext xv X m c0) (hin : (am_y m).name = "<init>" → meth.name = "<init>") (hRf : am_fr m ≤ R.frames ∧ am_lo m ≤ R.locals) (hstr : am_Strs l D tc N0 ext xv X) {r : Option Value} {t' : am_S} (hrets : am_Rets p l e R s mi args below meth c Q D tc N0 ext m c0 s0 r t') (hc : t'.1.length - c0 ≤ R.cells) (hs : am_sz t'.1 - s0 ≤ R.slots)
    {call : Nat → List Value → am_S → am_O} {K : am_K}
    (hK : ∀ pc L S t, L.length = am_maxL m → K pc L S t = some (r, t') → t.1 <+: t'.1 ∧ am_G p l e R s mi args below meth c Q D tc N0 ext c0 s0 pc L S t)
    (hcall : ∀ k As t v t2, call k As t = some (v, t2) → t.1 <+: t2.1 ∧ (k < 272 → am_Met l D tc N0 ext xv X k As t v t2))
    {pc len : Nat} {i : Instr} {a : List Nat} {L : am_L} {S : List Value} {t : am_S} (hlen : L.length = am_maxL m) (hd' : decode (am_bytes m) pc = .ok (i, len)) (hl' : am_isw i = true ∨ len = am_len i) (hl : am_lnk m pc i a = true)
    (h : am_ins am_str X call K pc i a L S t = some (r, t')) : t.1 <+: t'.1 ∧ am_G p l e R s mi args below meth c Q D tc N0 ext c0 s0 pc L S t := by
  have hd : am_isw i = false → decode (am_bytes m) pc = .ok (i, am_len i) := by
    intro q
    rcases hl' with h1 | h1
    · rw [q] at h1; cases h1
    · rw [← h1]; exact hd'
  have C0 := C
  obtain ⟨hx, hb, hml, hown, hts, hst, hold, hz⟩ := C
  cases i
  case iconst n => have q := hK _ _ _ _ hlen h; exact ⟨q.1, am_step (fun _ _ _ _ _ k => lv_iconst hx hb (hd rfl) rfl k) q.2⟩
  case bipush n => have q := hK _ _ _ _ hlen h; exact ⟨q.1, am_step (fun _ _ _ _ _ k => lv_bipush hx hb (hd rfl) rfl k) q.2⟩
  case sipush n => have q := hK _ _ _ _ hlen h; exact ⟨q.1, am_step (fun _ _ _ _ _ k => lv_sipush hx hb (hd rfl) rfl k) q.2⟩
  case lconst n => have q := hK _ _ _ _ hlen h; exact ⟨q.1, am_step (fun _ _ _ _ _ k => lv_lconst hx hb (hd rfl) rfl k) q.2⟩
  case aconst_null => have q := hK _ _ _ _ hlen h; exact ⟨q.1, am_step (fun _ _ _ _ _ k => lv_null hx hb (hd rfl) k) q.2⟩
  case iload n =>
    obtain ⟨x, e1, h⟩ := am_ldi_s h
    have q := hK _ _ _ _ hlen h
    exact ⟨q.1, am_stepL (fun _ _ _ _ ls hL k => lv_iload hx hb (hd rfl) (hL.2.2 _ _ e1) k) q.2⟩
  case iload_n n =>
    obtain ⟨x, e1, h⟩ := am_ldi_s h
    have q := hK _ _ _ _ hlen h
    exact ⟨q.1, am_stepL (fun _ _ _ _ ls hL k => lv_iload_n hx hb (hd rfl) rfl (hL.2.2 _ _ e1) k) q.2⟩
  case lload n =>
    obtain ⟨x, e1, h⟩ := am_ldj_s h
    have q := hK _ _ _ _ hlen h
    exact ⟨q.1, am_stepL (fun _ _ _ _ ls hL k => lv_lload hx hb (hd rfl) (hL.2.2 _ _ e1) k) q.2⟩
  case lload_n n =>
    obtain ⟨x, e1, h⟩ := am_ldj_s h
    have q := hK _ _ _ _ hlen h
    exact ⟨q.1, am_stepL (fun _ _ _ _ ls hL k => lv_lload_n hx hb (hd rfl) rfl (hL.2.2 _ _ e1) k) q.2⟩
  case aload n =>
    dsimp only [am_ins] at h
    rcases am_lda_s h with ⟨x, e1, h⟩ | ⟨x, e1, h⟩ | ⟨e1, h⟩
    · have q := hK _ _ _ _ hlen h
      exact ⟨q.1, am_stepL (fun _ _ _ _ ls hL k => lv_aload hx hb (hd rfl) (hL.2.2 _ _ e1) k) q.2⟩
    · have q := hK _ _ _ _ hlen h
      exact ⟨q.1, am_stepL (fun _ _ _ _ ls hL k => lv_aload hx hb (hd rfl) (hL.2.2 _ _ e1) k) q.2⟩
    · have q := hK _ _ _ _ hlen h
      exact ⟨q.1, am_stepL (fun _ _ _ _ ls hL k => lv_aloadN hx hb (hd rfl) (hL.2.2 _ _ e1) k) q.2⟩
  case aload_n n =>
    dsimp only [am_ins] at h
    rcases am_lda_s h with ⟨x, e1, h⟩ | ⟨x, e1, h⟩ | ⟨e1, h⟩
    · have q := hK _ _ _ _ hlen h
      exact ⟨q.1, am_stepL (fun _ _ _ _ ls hL k => lv_aload_n hx hb (hd rfl) rfl (hL.2.2 _ _ e1) k) q.2⟩
    · have q := hK _ _ _ _ hlen h
      exact ⟨q.1, am_stepL (fun _ _ _ _ ls hL k => lv_aload_n hx hb (hd rfl) rfl (hL.2.2 _ _ e1) k) q.2⟩
    · have q := hK _ _ _ _ hlen h
      exact ⟨q.1, am_stepL (fun _ _ _ _ ls hL k => lv_aload_nN hx hb (hd rfl) rfl (hL.2.2 _ _ e1) k) q.2⟩
  case istore n =>
    dsimp only [am_ins] at h
    obtain ⟨x, S', rfl, h2⟩ := am_i1_s h
    obtain ⟨g1, g2, h3⟩ := am_st_s h2
    have q := hK _ _ _ _ (by simpa using hlen) h3
    exact ⟨q.1, am_stepS (fun _ _ _ _ ls hL k => lv_istore hx hb (hd rfl) hL.has g1 rfl (fun ls' h' => k ls' (am_LR_set (v := .int x) g2 h'))) q.2⟩
  case istore_n n =>
    dsimp only [am_ins] at h
    obtain ⟨x, S', rfl, h2⟩ := am_i1_s h
    obtain ⟨g1, g2, h3⟩ := am_st_s h2
    have q := hK _ _ _ _ (by simpa using hlen) h3
    exact ⟨q.1, am_stepS (fun _ _ _ _ ls hL k => lv_istore_n hx hb (hd rfl) rfl hL.has g1 rfl (fun ls' h' => k ls' (am_LR_set (v := .int x) g2 h'))) q.2⟩
  case lstore n =>
    dsimp only [am_ins] at h
    obtain ⟨x, S', rfl, h2⟩ := am_j1_s h
    obtain ⟨g1, g2, h3⟩ := am_stj_s h2
    have q := hK _ _ _ _ (by simpa using hlen) h3
    exact ⟨q.1, am_stepS (fun _ _ _ _ ls hL k => lv_lstore hx hb (hd rfl) hL.has g1 rfl (fun ls' h' => k ls' (am_LR_setj g2 h'))) q.2⟩
  case lstore_n n =>
    dsimp only [am_ins] at h
    obtain ⟨x, S', rfl, h2⟩ := am_j1_s h
    obtain ⟨g1, g2, h3⟩ := am_stj_s h2
    have q := hK _ _ _ _ (by simpa using hlen) h3
    exact ⟨q.1, am_stepS (fun _ _ _ _ ls hL k => lv_lstore_n hx hb (hd rfl) rfl hL.has g1 rfl (fun ls' h' => k ls' (am_LR_setj g2 h'))) q.2⟩
  case astore n =>
    dsimp only [am_ins] at h
    rcases am_a1_s h with ⟨x, S', rfl, h2⟩ | ⟨x, S', rfl, h2⟩ | ⟨S', rfl, h2⟩
    · obtain ⟨g1, g2, h3⟩ := am_st_s h2
      have q := hK _ _ _ _ (by simpa using hlen) h3
      exact ⟨q.1, am_stepS (fun _ _ _ _ ls hL k => lv_astore hx hb (hd rfl) hL.has g1 rfl (fun ls' h' => k ls' (am_LR_set (v := .ref x) g2 h'))) q.2⟩
    · obtain ⟨g1, g2, h3⟩ := am_st_s h2
      have q := hK _ _ _ _ (by simpa using hlen) h3
      exact ⟨q.1, am_stepS (fun _ _ _ _ ls hL k => lv_astore hx hb (hd rfl) hL.has g1 rfl (fun ls' h' => k ls' (am_LR_set (v := .retAddr x) g2 h'))) q.2⟩
    · obtain ⟨g1, g2, h3⟩ := am_st_s h2
      have q := hK _ _ _ _ (by simpa using hlen) h3
      exact ⟨q.1, am_stepS (fun _ _ _ _ ls hL k => lv_astoreN hx hb (hd rfl) hL.has g1 rfl (fun ls' h' => k ls' (am_LR_set (v := .null) g2 h'))) q.2⟩
  case astore_n n =>
    dsimp only [am_ins] at h
    rcases am_a1_s h with ⟨x, S', rfl, h2⟩ | ⟨x, S', rfl, h2⟩ | ⟨S', rfl, h2⟩
    · obtain ⟨g1, g2, h3⟩ := am_st_s h2
      have q := hK _ _ _ _ (by simpa using hlen) h3
      exact ⟨q.1, am_stepS (fun _ _ _ _ ls hL k => lv_astore_n hx hb (hd rfl) rfl hL.has g1 rfl (fun ls' h' => k ls' (am_LR_set (v := .ref x) g2 h'))) q.2⟩
    · obtain ⟨g1, g2, h3⟩ := am_st_s h2
      have q := hK _ _ _ _ (by simpa using hlen) h3
      exact ⟨q.1, am_stepS (fun _ _ _ _ ls hL k => lv_astore_n hx hb (hd rfl) rfl hL.has g1 rfl (fun ls' h' => k ls' (am_LR_set (v := .retAddr x) g2 h'))) q.2⟩
    · obtain ⟨g1, g2, h3⟩ := am_st_s h2
      have q := hK _ _ _ _ (by simpa using hlen) h3
      exact ⟨q.1, am_stepS (fun _ _ _ _ ls hL k => lv_astore_nN hx hb (hd rfl) rfl hL.has g1 rfl (fun ls' h' => k ls' (am_LR_set (v := .null) g2 h'))) q.2⟩
  case iinc n z =>
    dsimp only [am_ins] at h
    obtain ⟨x, e1, h⟩ := am_ldi_s h
    obtain ⟨g1, g2, h⟩ := am_st_s h
    have q := hK _ _ _ _ (by simpa using hlen) h
    refine ⟨q.1, am_stepS (fun _ _ _ _ ls hL k => ?_) q.2⟩
    obtain ⟨kk, hkk⟩ := List.getElem?_of_mem (am_lvs_mem (N0 := N0) (ext := ext) (q := (n, .int x)).mpr ⟨_, e1, rfl⟩)
    exact lv_iinc hx hb (hd rfl) hL.has hkk rfl g1 rfl (fun ls' h' => k ls' (am_LR_set g2 h'))
  case iadd => obtain ⟨x, y, S', rfl, h⟩ := am_i2_s h; have q := hK _ _ _ _ hlen h; exact ⟨q.1, am_step (fun _ _ _ _ _ k => lv_iadd hx hb (hd rfl) k) q.2⟩
  case isub => obtain ⟨x, y, S', rfl, h⟩ := am_i2_s h; have q := hK _ _ _ _ hlen h; exact ⟨q.1, am_step (fun _ _ _ _ _ k => lv_isub hx hb (hd rfl) k) q.2⟩
  case imul => obtain ⟨x, y, S', rfl, h⟩ := am_i2_s h; have q := hK _ _ _ _ hlen h; exact ⟨q.1, am_step (fun _ _ _ _ _ k => lv_imul hx hb (hd rfl) k) q.2⟩
  case iand => obtain ⟨x, y, S', rfl, h⟩ := am_i2_s h; have q := hK _ _ _ _ hlen h; exact ⟨q.1, am_step (fun _ _ _ _ _ k => lv_iand hx hb (hd rfl) k) q.2⟩
  case ior => obtain ⟨x, y, S', rfl, h⟩ := am_i2_s h; have q := hK _ _ _ _ hlen h; exact ⟨q.1, am_step (fun _ _ _ _ _ k => lv_ior hx hb (hd rfl) k) q.2⟩
  case idiv =>
    dsimp only [am_ins] at h
    obtain ⟨x, y, S', rfl, h2⟩ := am_i2_s h
    split at h2
    · cases h2
    · rename_i hy; have q := hK _ _ _ _ hlen h2; exact ⟨q.1, am_step (fun _ _ _ _ _ k => lv_idiv hx hb (hd rfl) hy k) q.2⟩
  case irem =>
    dsimp only [am_ins] at h
    obtain ⟨x, y, S', rfl, h2⟩ := am_i2_s h
    split at h2
    · cases h2
    · rename_i hy; have q := hK _ _ _ _ hlen h2; exact ⟨q.1, am_step (fun _ _ _ _ _ k => lv_irem hx hb (hd rfl) hy k) q.2⟩
  case ineg => obtain ⟨x, S', rfl, h⟩ := am_i1_s h; have q := hK _ _ _ _ hlen h; exact ⟨q.1, am_step (fun _ _ _ _ _ k => lv_ineg hx hb (hd rfl) k) q.2⟩
  case ishl => obtain ⟨x, y, S', rfl, h⟩ := am_i2_s h; have q := hK _ _ _ _ hlen h; exact ⟨q.1, am_step (fun _ _ _ _ _ k => lv_ishl hx hb (hd rfl) k) q.2⟩
  case ishr => obtain ⟨x, y, S', rfl, h⟩ := am_i2_s h; have q := hK _ _ _ _ hlen h; exact ⟨q.1, am_step (fun _ _ _ _ _ k => lv_ishr hx hb (hd rfl) k) q.2⟩
  case iushr => obtain ⟨x, y, S', rfl, h⟩ := am_i2_s h; have q := hK _ _ _ _ hlen h; exact ⟨q.1, am_step (fun _ _ _ _ _ k => lv_iushr hx hb (hd rfl) rfl k) q.2⟩
  case i2b => obtain ⟨x, S', rfl, h⟩ := am_i1_s h; have q := hK _ _ _ _ hlen h; exact ⟨q.1, am_step (fun _ _ _ _ _ k => lv_i2b hx hb (hd rfl) rfl k) q.2⟩
  case i2l => obtain ⟨x, S', rfl, h⟩ := am_i1_s h; have q := hK _ _ _ _ hlen h; exact ⟨q.1, am_step (fun _ _ _ _ _ k => lv_i2l hx hb (hd rfl) rfl k) q.2⟩
  case l2i => obtain ⟨x, S', rfl, h⟩ := am_j1_s h; have q := hK _ _ _ _ hlen h; exact ⟨q.1, am_step (fun _ _ _ _ _ k => lv_l2i hx hb (hd rfl) rfl k) q.2⟩
  case lor => obtain ⟨x, y, S', rfl, h⟩ := am_j2_s h; have q := hK _ _ _ _ hlen h; exact ⟨q.1, am_step (fun _ _ _ _ _ k => lv_lor hx hb (hd rfl) k) q.2⟩
  case lneg => obtain ⟨x, S', rfl, h⟩ := am_j1_s h; have q := hK _ _ _ _ hlen h; exact ⟨q.1, am_step (fun _ _ _ _ _ k => lv_lneg hx hb (hd rfl) k) q.2⟩
  case ldiv =>
    dsimp only [am_ins] at h
    obtain ⟨x, y, S', rfl, h2⟩ := am_j2_s h
    split at h2
    · cases h2
    · rename_i hy; have q := hK _ _ _ _ hlen h2; exact ⟨q.1, am_step (fun _ _ _ _ _ k => lv_ldiv hx hb (hd rfl) hy k) q.2⟩
  case lrem =>
    dsimp only [am_ins] at h
    obtain ⟨x, y, S', rfl, h2⟩ := am_j2_s h
    split at h2
    · cases h2
    · rename_i hy; have q := hK _ _ _ _ hlen h2; exact ⟨q.1, am_step (fun _ _ _ _ _ k => lv_lrem hx hb (hd rfl) hy k) q.2⟩
  case lshl => obtain ⟨x, y, S', rfl, h⟩ := am_ji_s h; have q := hK _ _ _ _ hlen h; exact ⟨q.1, am_step (fun _ _ _ _ _ k => lv_lshl hx hb (hd rfl) rfl k) q.2⟩
  case lcmp => obtain ⟨x, y, S', rfl, h⟩ := am_j2_s h; have q := hK _ _ _ _ hlen h; exact ⟨q.1, am_step (fun _ _ _ _ _ k => W.lcmp hx hb (hd rfl) k) q.2⟩
  case dup =>
    change (match S with | v :: S => _ | _ => none) = _ at h
    split at h
    · obtain ⟨g1, h⟩ := am_cond_s h
      have q := hK _ _ _ _ hlen h
      exact ⟨q.1, am_step (fun _ _ _ _ _ k => lv_dup hx hb (hd rfl) (by rw [am_tr_cat]; exact Nat.eq_of_beq_eq_true g1) k) q.2⟩
    · cases h
  case pop =>
    change (match S with | v :: S => _ | _ => none) = _ at h
    split at h
    · obtain ⟨g1, h⟩ := am_cond_s h
      have q := hK _ _ _ _ hlen h
      exact ⟨q.1, am_step (fun _ _ _ _ _ k => lv_pop hx hb (hd rfl) (by rw [am_tr_cat]; exact Nat.eq_of_beq_eq_true g1) k) q.2⟩
    · cases h
  case dup2 =>
    change (match S with | va :: vb :: S => _ | _ => none) = _ at h
    split at h
    · obtain ⟨g1, h⟩ := am_cond_s h
      simp only [Bool.and_eq_true] at g1
      have q := hK _ _ _ _ hlen h
      exact ⟨q.1, am_step (fun _ _ _ _ _ k => lv_dup2_11 hx hb (hd rfl) (by rw [am_tr_cat]; exact Nat.eq_of_beq_eq_true g1.1) (by rw [am_tr_cat]; exact Nat.eq_of_beq_eq_true g1.2) k) q.2⟩
    · cases h
  case goto off =>
    have hl0 : 0 ≤ (pc : Int) + off := by simpa [am_lnk] using hl
    have q := hK _ _ _ _ hlen h; exact ⟨q.1, am_step (fun _ _ _ _ _ k => lv_goto hx hb (hd rfl) (am_tgt hl0) k) q.2⟩
  case ifCond cc off =>
    have hl0 : 0 ≤ (pc : Int) + off := by simpa [am_lnk] using hl
    dsimp only [am_ins] at h
    obtain ⟨x, S', rfl, h2⟩ := am_i1_s h
    clear h
    cases cc <;> dsimp only at h2 <;> split at h2 <;> rename_i hq <;> have q := hK _ _ _ _ hlen h2 <;> refine ⟨q.1, ?_⟩
    · exact am_step (fun _ _ _ _ _ k => lv_if_eq hx hb (hd rfl) (am_tgt hl0) (fun _ => k) (fun z => absurd hq z)) q.2
    · exact am_step (fun _ _ _ _ _ k => lv_if_eq hx hb (hd rfl) (am_tgt hl0) (fun z => absurd z hq) (fun _ => k)) q.2
    · exact am_step (fun _ _ _ _ _ k => lv_if_ne hx hb (hd rfl) (am_tgt hl0) (fun z => absurd hq z) (fun _ => k)) q.2
    · exact am_step (fun _ _ _ _ _ k => lv_if_ne hx hb (hd rfl) (am_tgt hl0) (fun _ => k) (fun z => absurd z hq)) q.2
    · exact am_step (fun _ _ _ _ _ k => lv_if_lt hx hb (hd rfl) (am_tgt hl0) (fun _ => k) (fun z => absurd hq z)) q.2
    · exact am_step (fun _ _ _ _ _ k => lv_if_lt hx hb (hd rfl) (am_tgt hl0) (fun z => absurd z hq) (fun _ => k)) q.2
    · exact am_step (fun _ _ _ _ _ k => lv_if_ge hx hb (hd rfl) (am_tgt hl0) (fun _ => k) (fun z => absurd hq z)) q.2
    · exact am_step (fun _ _ _ _ _ k => lv_if_ge hx hb (hd rfl) (am_tgt hl0) (fun z => absurd z hq) (fun _ => k)) q.2
    · exact am_step (fun _ _ _ _ _ k => lv_if_gt hx hb (hd rfl) (am_tgt hl0) (fun _ => k) (fun z => absurd hq z)) q.2
    · exact am_step (fun _ _ _ _ _ k => lv_if_gt hx hb (hd rfl) (am_tgt hl0) (fun z => absurd z hq) (fun _ => k)) q.2
    · exact am_step (fun _ _ _ _ _ k => lv_if_le hx hb (hd rfl) (am_tgt hl0) (fun _ => k) (fun z => absurd hq z)) q.2
    · exact am_step (fun _ _ _ _ _ k => lv_if_le hx hb (hd rfl) (am_tgt hl0) (fun z => absurd z hq) (fun _ => k)) q.2
  case if_icmp cc off =>
    have hl0 : 0 ≤ (pc : Int) + off := by simpa [am_lnk] using hl
    dsimp only [am_ins] at h
    obtain ⟨x, y, S', rfl, h2⟩ := am_i2_s h
    clear h
    cases cc <;> dsimp only at h2 <;> split at h2 <;> rename_i hq <;> have q := hK _ _ _ _ hlen h2 <;> refine ⟨q.1, ?_⟩
    · exact am_step (fun _ _ _ _ _ k => lv_icmp_eq hx hb (hd rfl) (am_tgt hl0) (fun _ => k) (fun z => absurd hq z)) q.2
    · exact am_step (fun _ _ _ _ _ k => lv_icmp_eq hx hb (hd rfl) (am_tgt hl0) (fun z => absurd z hq) (fun _ => k)) q.2
    · exact am_step (fun _ _ _ _ _ k => lv_icmp_ne hx hb (hd rfl) (am_tgt hl0) (fun z => absurd hq z) (fun _ => k)) q.2
    · exact am_step (fun _ _ _ _ _ k => lv_icmp_ne hx hb (hd rfl) (am_tgt hl0) (fun _ => k) (fun z => absurd z hq)) q.2
    · exact am_step (fun _ _ _ _ _ k => lv_icmp_lt hx hb (hd rfl) (am_tgt hl0) (fun _ => k) (fun z => absurd hq z)) q.2
    · exact am_step (fun _ _ _ _ _ k => lv_icmp_lt hx hb (hd rfl) (am_tgt hl0) (fun z => absurd z hq) (fun _ => k)) q.2
    · exact am_step (fun _ _ _ _ _ k => lv_icmp_ge hx hb (hd rfl) (am_tgt hl0) (fun _ => k) (fun z => absurd hq z)) q.2
    · exact am_step (fun _ _ _ _ _ k => lv_icmp_ge hx hb (hd rfl) (am_tgt hl0) (fun z => absurd z hq) (fun _ => k)) q.2
    · exact am_step (fun _ _ _ _ _ k => lv_icmp_gt hx hb (hd rfl) (am_tgt hl0) (fun _ => k) (fun z => absurd hq z)) q.2
    · exact am_step (fun _ _ _ _ _ k => lv_icmp_gt hx hb (hd rfl) (am_tgt hl0) (fun z => absurd z hq) (fun _ => k)) q.2
    · exact am_step (fun _ _ _ _ _ k => lv_icmp_le hx hb (hd rfl) (am_tgt hl0) (fun _ => k) (fun z => absurd hq z)) q.2
    · exact am_step (fun _ _ _ _ _ k => lv_icmp_le hx hb (hd rfl) (am_tgt hl0) (fun z => absurd z hq) (fun _ => k)) q.2
  case ifnull off =>
    have hl0 : 0 ≤ (pc : Int) + off := by simpa [am_lnk] using hl
    dsimp only [am_ins] at h
    rcases am_a1_s h with ⟨x, S', rfl, h2⟩ | ⟨x, S', rfl, h2⟩ | ⟨S', rfl, h2⟩
    · have q := hK _ _ _ _ hlen h2; exact ⟨q.1, am_step (fun _ _ _ _ _ k => lv_ifnull hx hb (hd rfl) k) q.2⟩
    · have q := hK _ _ _ _ hlen h2; exact ⟨q.1, am_step (fun _ _ _ _ _ k => lv_ifnull hx hb (hd rfl) k) q.2⟩
    · have q := hK _ _ _ _ hlen h2; exact ⟨q.1, am_step (fun _ _ _ _ _ k => lv_ifnullN hx hb (hd rfl) (am_tgt hl0) k) q.2⟩
  case ifnonnull off =>
    have hl0 : 0 ≤ (pc : Int) + off := by simpa [am_lnk] using hl
    dsimp only [am_ins] at h
    rcases am_a1_s h with ⟨x, S', rfl, h2⟩ | ⟨x, S', rfl, h2⟩ | ⟨S', rfl, h2⟩
    · have q := hK _ _ _ _ hlen h2; exact ⟨q.1, am_step (fun _ _ _ _ _ k => lv_ifnonnull hx hb (hd rfl) (am_tgt hl0) k) q.2⟩
    · have q := hK _ _ _ _ hlen h2; exact ⟨q.1, am_step (fun _ _ _ _ _ k => lv_ifnonnull hx hb (hd rfl) (am_tgt hl0) k) q.2⟩
    · have q := hK _ _ _ _ hlen h2; exact ⟨q.1, am_step (fun _ _ _ _ _ k => lv_ifnonnullN hx hb (hd rfl) k) q.2⟩
  case tableswitch dd lo hi offs =>
    simp only [am_lnk, Bool.and_eq_true, decide_eq_true_eq, List.all_eq_true] at hl
    dsimp only [am_ins] at h
    obtain ⟨x, S', rfl, h2⟩ := am_i1_s h
    clear h
    split at h2
    · rename_i hq
      have q := hK _ _ _ _ hlen h2
      exact ⟨q.1, am_step (fun _ _ _ _ _ k => lv_tableOut hx hb hd' hq (am_tgt hl.1) k) q.2⟩
    · rename_i hq
      split at h2
      · rename_i off ho
        have q := hK _ _ _ _ hlen h2
        have hmem : off ∈ offs.toList := by
          rw [← Array.getElem?_toList] at ho
          exact List.mem_of_getElem? ho
        exact ⟨q.1, am_step (fun _ _ _ _ _ k => lv_tableIn hx hb hd' (fun z => hq (Or.inl z)) (fun z => hq (Or.inr z)) ho (am_tgt (hl.2 off hmem)) k) q.2⟩
      · cases h2
  case ldc idx =>
    dsimp only [am_ins] at h
    split at h
    · rename_i v pos
      have hat : am_at pos (.constant (am_cn (am_own m)) idx (Int32.ofNat v)) = true := hl
      have q := hK _ _ _ _ hlen h
      exact ⟨q.1, am_step (fun _ _ _ _ _ k => lv_ldc hx hb hown (hts _ (am_at_s hat)) (hd rfl) k) q.2⟩
    · rename_i e'
      obtain ⟨g1, h⟩ := am_cond_s h
      simp only [am_lnk, Bool.and_eq_true] at hl
      have ho : am_own m = 4 := Nat.eq_of_beq_eq_true hl.1
      have hi : am_six e' = idx := Nat.eq_of_beq_eq_true hl.2
      have hZ := hst.2.2.2 e' (by simpa using g1)
      rw [hi] at hZ
      have q := hK _ _ _ _ hlen h
      exact ⟨q.1, am_step (fun _ _ _ _ _ k => va_ldcS hx hb (own := RX4) (by rw [← hown, ho]; rfl) hZ (hd rfl) k) q.2⟩
    · cases h
  case ldc_w idx =>
    dsimp only [am_ins] at h
    split at h
    · rename_i v pos
      have hat : am_at pos (.constant (am_cn (am_own m)) idx (Int32.ofNat v)) = true := hl
      have q := hK _ _ _ _ hlen h
      exact ⟨q.1, am_step (fun _ _ _ _ _ k => lv_ldcw hx hb hown (hts _ (am_at_s hat)) (hd rfl) k) q.2⟩
    · cases h
  case ldc2_w idx =>
    dsimp only [am_ins] at h
    split at h
    · rename_i v pos
      have hat : am_at pos (.constantLong (am_cn (am_own m)) idx (Int64.ofNat v)) = true := hl
      have q := hK _ _ _ _ hlen h
      exact ⟨q.1, am_step (fun _ _ _ _ _ k => lv_ldc2 hx hb hown (hts _ (am_at_s hat)) (hd rfl) k) q.2⟩
    · cases h
  case getfield idx =>
    dsimp only [am_ins, am_get] at h
    split at h
    · rename_i ci k ft pos
      simp only [am_lnk, Bool.and_eq_true, Nat.blt_eq] at hl
      obtain ⟨⟨⟨hci, hk⟩, hft⟩, hat⟩ := hl
      have hft : ft = am_ft ci k := Nat.eq_of_beq_eq_true hft
      rcases am_a1_s h with ⟨x, S', rfl, h2⟩ | ⟨x, S', rfl, h2⟩ | ⟨S', rfl, h2⟩
      · obtain ⟨n, hy, h3⟩ := am_is_s h2
        have q := hK _ _ _ _ hlen h3
        refine ⟨q.1, am_stepR (fun H locs cl sl ls _ hR hS kk => ?_) q.2⟩
        have hn : n = am_nf ci := hR.2.2 x ci n hy hci
        have he := am_ws_at (tc := tc) (N0 := N0) hy
        rw [am_E_obj hci] at he
        refine va_get hx hb hts (am_uws ci hci) hown hst.1 hR.1 x he (am_cls ci hci).1 k hk (hts _ (am_at_s hat)) (fun _ z => z) ?_ (hd rfl) kk
        rw [am_tr_fv, hft]
        simp [hn, hk]
      · cases h2
      · cases h2
    · cases h
  case putfield idx =>
    dsimp only [am_ins, am_put] at h
    split at h
    · rename_i ci k pos
      have hl2 := hl
      simp only [am_lnk, Bool.and_eq_true, Nat.blt_eq] at hl2
      obtain ⟨⟨⟨⟨hci, hk⟩, hft⟩, -⟩, -⟩ := hl2
      have hft : 0 = am_ft ci k := Nat.eq_of_beq_eq_true hft
      obtain ⟨i, v, S', rfl, h2⟩ := am_ipi_s h
      obtain ⟨n, hy, h3⟩ := am_is_s h2
      have q := hK _ _ _ _ hlen h3
      have hty : am_ty ci k = .int := by rcases am_ftt ci hci k hk with ⟨a, b⟩ | ⟨a, b⟩ | ⟨a, b⟩ | ⟨a, b⟩ <;> first | exact b | omega
      refine ⟨q.1, am_stepW (t2 := (t.1, t.2.1, am_up t.2.2.1 i k v, t.2.2.2)) rfl (fun H locs cl sl ls _ hR hS kk => ?_) (fun hB => am_up_B hy (Or.inl (by omega)) hB) q.2⟩
      refine am_rput (t2 := (t.1, t.2.1, am_up t.2.2.1 i k v, t.2.2.2)) C0 hin hl (hd rfl) hR hS hy (by rw [hty]; rfl) (by rw [hty]; rfl) ?_ rfl ?_ am_up_E kk
      · rw [← hft]; simp [am_fv, am_up, am_tr]
      · intro j hj; unfold am_fv; split <;> simp [am_up, hj]
    · rename_i ci k pos
      have hl2 := hl
      simp only [am_lnk, Bool.and_eq_true, Nat.blt_eq] at hl2
      obtain ⟨⟨⟨⟨hci, hk⟩, hft⟩, -⟩, -⟩ := hl2
      have hft : 1 = am_ft ci k := Nat.eq_of_beq_eq_true hft
      obtain ⟨i, v, S', rfl, h2⟩ := am_ipi_s h
      obtain ⟨n, hy, h3⟩ := am_is_s h2
      split at h3
      · rename_i hv
        have q := hK _ _ _ _ hlen h3
        have hty : am_ty ci k = .boolean := by rcases am_ftt ci hci k hk with ⟨a, b⟩ | ⟨a, b⟩ | ⟨a, b⟩ | ⟨a, b⟩ <;> first | exact b | omega
        refine ⟨q.1, am_stepW (t2 := (t.1, t.2.1, am_up t.2.2.1 i k v, t.2.2.2)) rfl (fun H locs cl sl ls _ hR hS kk => ?_) (fun hB => am_up_B hy (Or.inl (by omega)) hB) q.2⟩
        refine am_rput (t2 := (t.1, t.2.1, am_up t.2.2.1 i k v, t.2.2.2)) C0 hin hl (hd rfl) hR hS hy (by rw [hty]; rcases hv with rfl | rfl <;> rfl) (by rw [hty]; rcases hv with rfl | rfl <;> rfl) ?_ rfl ?_ am_up_E kk
        · rw [← hft]; simp [am_fv, am_up, am_tr]
        · intro j hj; unfold am_fv; split <;> simp [am_up, hj]
      · cases h3
    · rename_i ci k pos
      have hl2 := hl
      simp only [am_lnk, Bool.and_eq_true, Nat.blt_eq] at hl2
      obtain ⟨⟨⟨⟨hci, hk⟩, hft⟩, -⟩, -⟩ := hl2
      have hft : 2 = am_ft ci k := Nat.eq_of_beq_eq_true hft
      obtain ⟨i, v, S', rfl, h2⟩ := am_ipj_s h
      obtain ⟨n, hy, h3⟩ := am_is_s h2
      have q := hK _ _ _ _ hlen h3
      have hty : am_ty ci k = .long := by rcases am_ftt ci hci k hk with ⟨a, b⟩ | ⟨a, b⟩ | ⟨a, b⟩ | ⟨a, b⟩ <;> first | exact b | omega
      refine ⟨q.1, am_stepW (t2 := (t.1, t.2.1, t.2.2.1, am_up t.2.2.2 i k v)) rfl (fun H locs cl sl ls _ hR hS kk => ?_) (fun hB => hB) q.2⟩
      refine am_rput (t2 := (t.1, t.2.1, t.2.2.1, am_up t.2.2.2 i k v)) C0 hin hl (hd rfl) hR hS hy (by rw [hty]; rfl) (by rw [hty]; rfl) ?_ rfl ?_ am_up_Ej kk
      · rw [← hft]; simp [am_fv, am_up, am_tr]
      · intro j hj; unfold am_fv; split <;> simp [am_up, hj]
    · rename_i ci k pos
      have hl2 := hl
      simp only [am_lnk, Bool.and_eq_true, Nat.blt_eq] at hl2
      obtain ⟨⟨⟨⟨hci, hk⟩, hft⟩, -⟩, -⟩ := hl2
      have hft : 3 = am_ft ci k := Nat.eq_of_beq_eq_true hft
      obtain ⟨i, v, S', rfl, h2⟩ := am_ipr_s h
      obtain ⟨n, hy, h3⟩ := am_is_s h2
      have q := hK _ _ _ _ hlen h3
      have hty : (∃ C', am_ty ci k = .object C') ∨ ∃ y, am_ty ci k = .array y := by rcases am_ftt ci hci k hk with ⟨a, b⟩ | ⟨a, b⟩ | ⟨a, b⟩ | ⟨a, b⟩ <;> first | exact b | omega
      refine ⟨q.1, am_stepW (t2 := (t.1, am_up t.2.1 i k v, t.2.2.1, t.2.2.2)) rfl (fun H locs cl sl ls _ hR hS kk => ?_) (fun hB => hB) q.2⟩
      refine am_rput (v := am_tr N0 ext (va_rf v)) (t2 := (t.1, am_up t.2.1 i k v, t.2.2.1, t.2.2.2)) C0 hin hl (hd rfl) hR hS hy (by rcases hty with ⟨C', b⟩ | ⟨y, b⟩ <;> rw [b] <;> cases v <;> rfl) (by rcases hty with ⟨C', b⟩ | ⟨y, b⟩ <;> rw [b] <;> cases v <;> rfl) ?_ rfl ?_ am_up_Er kk
      · rw [← hft, am_tr_rf]; simp [am_fv, am_up, am_tr_rf]
      · intro j hj; unfold am_fv; split <;> simp [am_up, hj]
    · cases h
  case new idx =>
    dsimp only [am_ins] at h
    split at h
    · have q := hK _ _ _ _ hlen h
      obtain ⟨g1, g2⟩ := am_pre_len q.1
      exact ⟨am_pre_trans (am_new_pre t _ _) q.1, am_rnew C0 hl (hd rfl) (by omega) (by omega) q.2⟩
    · cases h
  case newarray at0 =>
    have gl := am_glob
    simp only [Bool.and_eq_true] at gl
    dsimp only [am_ins] at h
    split at h
    · obtain ⟨n, S', rfl, h2⟩ := am_i1_s h
      split at h2
      · cases h2
      · rename_i hn
        have q := hK _ _ _ _ hlen h2
        obtain ⟨g1, g2⟩ := am_pre_len q.1
        exact ⟨am_pre_trans (am_new_pre t _ _) q.1, am_rnewa (ty := 0) C0 (by omega) .int rfl rfl (am_at_s gl.1.1.2) rfl rfl (fun _ z => z) (by decide) (hd rfl) (fun z => hn (Or.inl z)) (by omega) (Nat.le_trans (Nat.sub_le_sub_right g1 c0) hc) (Nat.le_trans (Nat.sub_le_sub_right g2 s0) hs) q.2⟩
    · obtain ⟨n, S', rfl, h2⟩ := am_i1_s h
      split at h2
      · cases h2
      · rename_i hn
        have q := hK _ _ _ _ hlen h2
        obtain ⟨g1, g2⟩ := am_pre_len q.1
        exact ⟨am_pre_trans (am_new_pre t _ _) q.1, am_rnewa (ty := 1) C0 (by omega) .byte rfl rfl (am_at_s gl.1.2) rfl rfl (fun _ z => z) (by decide) (hd rfl) (fun z => hn (Or.inl z)) (by omega) (Nat.le_trans (Nat.sub_le_sub_right g1 c0) hc) (Nat.le_trans (Nat.sub_le_sub_right g2 s0) hs) q.2⟩
    · obtain ⟨n, S', rfl, h2⟩ := am_i1_s h
      split at h2
      · cases h2
      · rename_i hn
        have q := hK _ _ _ _ hlen h2
        obtain ⟨g1, g2⟩ := am_pre_len q.1
        exact ⟨am_pre_trans (am_new_pre t _ _) q.1, am_rnewa (ty := 2) C0 (by omega) .boolean rfl rfl (am_at_s (of_decide_eq_true gl.2)) rfl rfl (fun _ z => z) (by decide) (hd rfl) (fun z => hn (Or.inl z)) (by omega) (Nat.le_trans (Nat.sub_le_sub_right g1 c0) hc) (Nat.le_trans (Nat.sub_le_sub_right g2 s0) hs) q.2⟩
    · cases h
  case anewarray idx =>
    dsimp only [am_ins] at h
    split at h
    · obtain ⟨n, S', rfl, h2⟩ := am_i1_s h
      split at h2
      · cases h2
      · rename_i hn
        have q := hK _ _ _ _ hlen h2
        obtain ⟨g1, g2⟩ := am_pre_len q.1
        exact ⟨am_pre_trans (am_new_pre t _ _) q.1, am_rnewq C0 hl (hd rfl) (fun z => hn (Or.inl z)) (by omega) (by omega) (by omega) q.2⟩
    · cases h
  case arraylength =>
    dsimp only [am_ins] at h
    rcases am_a1_s h with ⟨x, S', rfl, h2⟩ | ⟨x, S', rfl, h2⟩ | ⟨S', rfl, h2⟩
    · split at h2
      · rename_i qq hy
        obtain ⟨g1, h3⟩ := am_cond_s h2
        simp only [Bool.and_eq_true, Nat.ble_eq] at g1
        have q := hK _ _ _ _ hlen h3
        refine ⟨q.1, am_stepR (fun H locs cl sl ls _ hR hS kk => ?_) q.2⟩
        have he := am_ws_at (tc := tc) (N0 := N0) hy
        obtain ⟨ty, n⟩ := qq
        simp only at g1 hy he kk
        rcases Nat.lt_or_ge ty 13 with h13 | h13
        · rw [am_E_int g1.1 h13] at he
          have htys : ∃ fty, (am_tys tc)[ty - 10]? = some (tc (ty - 10), fty) := by
            rcases (show ty = 10 ∨ ty = 11 ∨ ty = 12 by omega) with rfl | rfl | rfl <;> exact ⟨_, rfl⟩
          obtain ⟨fty, htys⟩ := htys
          exact va_alen hx hb hst.1 hR.1 x (ty - 10) he htys rfl (hd rfl) kk
        · rw [am_E_ref h13] at he
          have htys : ∃ fty, (am_tys tc)[ty - 10]? = some (tc (ty - 10), fty) := by
            rcases (show ty = 13 ∨ ty = 14 ∨ ty = 15 by omega) with rfl | rfl | rfl <;> exact ⟨_, rfl⟩
          obtain ⟨fty, htys⟩ := htys
          exact va_alen hx hb hst.1 hR.1 x (ty - 10) he htys rfl (hd rfl) kk
      · cases h2
    · obtain ⟨g1, h3⟩ := am_cond_s h2
      have g1 : x = 1000 := Nat.eq_of_beq_eq_true g1
      subst g1
      have q := hK _ _ _ _ hlen h3
      exact ⟨q.1, am_stepR (fun H locs cl sl ls _ hR hS kk => va_slen hx hb hold.2.2.2.1 (Nat.lt_of_lt_of_le hold.2.2.2.2.1 hold.2.2.2.2.2) (Nat.not_le.mpr hold.2.2.2.2.1) hS (hd rfl) kk) q.2⟩
    · cases h2
  case iaload =>
    dsimp only [am_ins] at h
    rcases am_ai_s h with ⟨i, j, S', rfl, h2⟩ | ⟨i, j, S', rfl, h2⟩
    · obtain ⟨n, hy, h3⟩ := am_is_s h2
      obtain ⟨hj, h4⟩ := am_ix_s h3
      have q := hK _ _ _ _ hlen h4
      refine ⟨q.1, am_stepR (fun H locs cl sl ls _ hR hS kk => ?_) q.2⟩
      have he := am_ws_at (tc := tc) (N0 := N0) hy
      rw [am_E_int (by omega) (by omega)] at he
      exact va_iald hx hb hst.1 hR.1 i 0 he rfl hj (hd rfl) kk
    · obtain ⟨g1, h3⟩ := am_cond_s h2
      have g1 : i = 1000 := Nat.eq_of_beq_eq_true g1
      subst g1
      obtain ⟨hj, h4⟩ := am_ix_s h3
      have q := hK _ _ _ _ hlen h4
      exact ⟨q.1, am_stepR (fun H locs cl sl ls _ hR hS kk => va_sld hx hb hold.2.2.2.1 (Nat.lt_of_lt_of_le hold.2.2.2.2.1 hold.2.2.2.2.2) (Nat.not_le.mpr hold.2.2.2.2.1) hS hj (hd rfl) kk) q.2⟩
  case baload =>
    dsimp only [am_ins] at h
    rcases am_ai_s h with ⟨i, j, S', rfl, h2⟩ | ⟨i, j, S', rfl, h2⟩
    · split at h2
      · rename_i qq hy
        obtain ⟨g1, h3⟩ := am_cond_s h2
        obtain ⟨hj, h4⟩ := am_ix_s h3
        have q := hK _ _ _ _ hlen h4
        refine ⟨q.1, am_stepR (fun H locs cl sl ls _ hR hS kk => ?_) q.2⟩
        have he := am_ws_at (tc := tc) (N0 := N0) hy
        obtain ⟨ty, n⟩ := qq
        simp only [Bool.or_eq_true] at g1
        rcases g1 with g1 | g1
        · have g1 : ty = 11 := Nat.eq_of_beq_eq_true g1
          subst g1
          rw [am_E_int (by omega) (by omega)] at he
          exact va_bald hx hb hst.1 hR.1 i 1 he rfl hj (hd rfl) kk
        · have g1 : ty = 12 := Nat.eq_of_beq_eq_true g1
          subst g1
          rw [am_E_int (by omega) (by omega)] at he
          exact va_zald hx hb hst.1 hR.1 i 2 he rfl hj (hd rfl) kk
      · cases h2
    · cases h2
  case aaload =>
    dsimp only [am_ins] at h
    rcases am_ai_s h with ⟨i, j, S', rfl, h2⟩ | ⟨i, j, S', rfl, h2⟩
    · split at h2
      · rename_i qq hy
        obtain ⟨g1, h3⟩ := am_cond_s h2
        obtain ⟨hj, h4⟩ := am_ix_s h3
        have q := hK _ _ _ _ hlen h4
        refine ⟨q.1, am_stepR (fun H locs cl sl ls _ hR hS kk => ?_) q.2⟩
        have he := am_ws_at (tc := tc) (N0 := N0) hy
        obtain ⟨ty, n⟩ := qq
        simp only [Bool.and_eq_true, Nat.ble_eq] at g1
        rw [am_E_ref g1.1] at he
        have htys : ∃ C', (am_tys tc)[ty - 10]? = some (tc (ty - 10), .object C') := by
          rcases (show ty = 13 ∨ ty = 14 ∨ ty = 15 by omega) with rfl | rfl | rfl <;> exact ⟨_, rfl⟩
        obtain ⟨C', htys⟩ := htys
        refine va_aldq hx hb hst.1 hR.1 i (ty - 10) he htys hj (hd rfl) ?_
        rw [← am_tr_rf N0 ext]
        exact kk
      · cases h2
    · cases h2
  case iastore =>
    dsimp only [am_ins] at h
    obtain ⟨i, j, v, S', rfl, h2⟩ := am_aii_s h
    obtain ⟨n, hy, h3⟩ := am_is_s h2
    obtain ⟨hj, h4⟩ := am_ix_s h3
    have q := hK _ _ _ _ hlen h4
    refine ⟨q.1, am_stepW (t2 := (t.1, t.2.1, am_up t.2.2.1 i j.toNatClampNeg v, t.2.2.2)) rfl (fun H locs cl sl ls _ hR hS kk => ?_) (fun hB => am_up_B hy (Or.inl (by omega)) hB) q.2⟩
    have he := am_ws_at (tc := tc) (N0 := N0) hy
    rw [am_E_int (by omega) (by omega)] at he
    have hset := am_ws_set (tc := tc) (N0 := N0) (t' := (t.1, t.2.1, am_up t.2.2.1 i j.toNatClampNeg v, t.2.2.2)) hy rfl (am_E_int (by omega) (by omega)) am_up_E
    refine va_iast hx hb hst.1 hR.1 (am_ws_D tc N0 t) hS i 0 he rfl hj (hd rfl) (fun H1 locs1 hP1 _ hS1 => kk H1 locs1 ?_ hS1)
    rw [← hset]
    have e3 : am_up t.2.2.1 i j.toNatClampNeg v i = upd (t.2.2.1 i) j.toNatClampNeg v := by rw [am_up_row]; rfl
    simp only [e3]
    exact hP1
  case bastore =>
    dsimp only [am_ins] at h
    obtain ⟨i, j, v, S', rfl, h2⟩ := am_aii_s h
    split at h2
    · rename_i qq hy
      obtain ⟨ty, n⟩ := qq
      cases g1 : Nat.beq ty 11 with
      | true =>
        simp only [g1, cond_true] at h2
        have g1 : ty = 11 := Nat.eq_of_beq_eq_true g1
        subst g1
        obtain ⟨hj, h4⟩ := am_ix_s h2
        have q := hK _ _ _ _ hlen h4
        refine ⟨q.1, am_stepW (t2 := (t.1, t.2.1, am_up t.2.2.1 i j.toNatClampNeg v.toInt8.toInt32, t.2.2.2)) rfl (fun H locs cl sl ls _ hR hS kk => ?_) (fun hB => am_up_B hy (Or.inr (by simp)) hB) q.2⟩
        have he := am_ws_at (tc := tc) (N0 := N0) hy
        rw [am_E_int (by omega) (by omega)] at he
        have hset := am_ws_set (tc := tc) (N0 := N0) (t' := (t.1, t.2.1, am_up t.2.2.1 i j.toNatClampNeg v.toInt8.toInt32, t.2.2.2)) hy rfl (am_E_int (by omega) (by omega)) am_up_E
        refine va_bast hx hb hst.1 hR.1 (am_ws_D tc N0 t) hS i 1 he rfl hj (hd rfl) (fun H1 locs1 hP1 _ hS1 => kk H1 locs1 ?_ hS1)
        rw [← hset]
        have e3 : am_up t.2.2.1 i j.toNatClampNeg v.toInt8.toInt32 i = upd (t.2.2.1 i) j.toNatClampNeg (vp_nar .byte v) := by rw [am_up_row, vp_nar_byte]; rfl
        simp only [e3]
        exact hP1
      | false =>
        simp only [g1, cond_false] at h2
        obtain ⟨g2, h3⟩ := am_cond_s h2
        have g2 : ty = 12 := Nat.eq_of_beq_eq_true g2
        subst g2
        obtain ⟨hj, h4⟩ := am_ix_s h3
        have q := hK _ _ _ _ hlen h4
        refine ⟨q.1, am_stepW (t2 := (t.1, t.2.1, am_up t.2.2.1 i j.toNatClampNeg (vp_nar .boolean v), t.2.2.2)) rfl (fun H locs cl sl ls _ hR hS kk => ?_) (fun hB => am_up_B hy (Or.inl (by omega)) hB) q.2⟩
        have he := am_ws_at (tc := tc) (N0 := N0) hy
        rw [am_E_int (by omega) (by omega)] at he
        have hset := am_ws_set (tc := tc) (N0 := N0) (t' := (t.1, t.2.1, am_up t.2.2.1 i j.toNatClampNeg (vp_nar .boolean v), t.2.2.2)) hy rfl (am_E_int (by omega) (by omega)) am_up_E
        refine va_zast hx hb hst.1 hR.1 (am_ws_D tc N0 t) hS i 2 he rfl hj (hd rfl) (fun H1 locs1 hP1 _ hS1 => kk H1 locs1 ?_ hS1)
        rw [← hset]
        have e3 : am_up t.2.2.1 i j.toNatClampNeg (vp_nar .boolean v) i = upd (t.2.2.1 i) j.toNatClampNeg (vp_nar .boolean v) := by rw [am_up_row]; rfl
        simp only [e3]
        exact hP1
    · cases h2
  case aastore =>
    dsimp only [am_ins] at h
    obtain ⟨i, j, v, S', rfl, h2⟩ := am_aia_s h
    split at h2
    · rename_i qq qq' hy hy'
      obtain ⟨ty, n⟩ := qq
      obtain ⟨ty', n'⟩ := qq'
      obtain ⟨g1, h3⟩ := am_cond_s h2
      obtain ⟨hj, h4⟩ := am_ix_s h3
      have q := hK _ _ _ _ hlen h4
      have g2 : (ty = 13 ∧ ty' = 3) ∨ (ty = 14 ∧ ty' = 5) ∨ (ty = 15 ∧ ty' = 6) := by
        simp only [Bool.or_eq_true, Bool.and_eq_true] at g1
        rcases g1 with (g | g) | g
        · exact Or.inl ⟨Nat.eq_of_beq_eq_true g.1, Nat.eq_of_beq_eq_true g.2⟩
        · exact Or.inr (Or.inl ⟨Nat.eq_of_beq_eq_true g.1, Nat.eq_of_beq_eq_true g.2⟩)
        · exact Or.inr (Or.inr ⟨Nat.eq_of_beq_eq_true g.1, Nat.eq_of_beq_eq_true g.2⟩)
      refine ⟨q.1, am_stepW (t2 := (t.1, am_up t.2.1 i j.toNatClampNeg (some v), t.2.2.1, t.2.2.2)) rfl (fun H locs cl sl ls _ hR hS kk => ?_) (fun hB => hB) q.2⟩
      have he := am_ws_at (tc := tc) (N0 := N0) hy
      rw [am_E_ref (by omega)] at he
      have he' := am_ws_at (tc := tc) (N0 := N0) hy'
      rw [am_E_obj (by omega)] at he'
      have hset := am_ws_set (tc := tc) (N0 := N0) (t' := (t.1, am_up t.2.1 i j.toNatClampNeg (some v), t.2.2.1, t.2.2.2)) hy rfl (am_E_ref (by omega)) am_up_Er
      have e3 : (fun k => (am_up t.2.1 i j.toNatClampNeg (some v) i k).map (fun a => N0 + a)) = va_up (fun k => (t.2.1 i k).map (fun a => N0 + a)) j.toNatClampNeg (some (N0 + v)) := by
        funext b
        rw [am_up_row]
        simp only [va_up]
        split <;> rfl
      have key : ∃ r' : vw_C, (am_tys tc)[ty - 10]? = some (tc (ty - 10), .object r'.1) ∧ vwCl[ty']? = some r' := by
        rcases g2 with ⟨rfl, rfl⟩ | ⟨rfl, rfl⟩ | ⟨rfl, rfl⟩ <;> exact ⟨_, rfl, rfl⟩
      obtain ⟨r', k1, k2⟩ := key
      refine va_astq hx hb hst.1 hR.1 (am_ws_D tc N0 t) hS i (ty - 10) v ty' he k1 he' k2 hj (hd rfl) (fun H1 locs1 hP1 _ hS1 => kk H1 locs1 ?_ hS1)
      rw [← hset]
      simp only [e3]
      exact hP1
    · cases h2
  case invokevirtual idx =>
    dsimp only [am_ins, am_inv] at h
    split at h <;> try (simp [am_lnk] at hl; done)
    · obtain ⟨b, rest, g1, g2, g3, g4, h2⟩ := am_dr_s h
      obtain ⟨n, hy, h3⟩ := am_is_s h2
      obtain ⟨v, t2, h4, h5⟩ := am_rr_s h3
      have hk := hl
      simp only [am_lnk, Bool.and_eq_true, Nat.blt_eq] at hk
      obtain ⟨w1, w2⟩ := hcall _ _ _ _ _ h4
      have q := hK _ _ _ _ hlen h5
      obtain ⟨z1, z2⟩ := am_pre_len q.1
      exact ⟨am_pre_trans w1 q.1, am_rcallV C0 hRf hl (hd rfl) g1 g3 g4 hy hlen w1 (w2 hk.1.1.1.1.1.1) (by omega) (by omega) q.2⟩
    · rcases am_a1_s h with ⟨x, S', rfl, h2⟩ | ⟨x, S', rfl, h2⟩ | ⟨S', rfl, h2⟩
      · cases h2
      · obtain ⟨g1, h3⟩ := am_cond_s h2
        simp only [Bool.and_eq_true, Nat.ble_eq, Nat.blt_eq] at g1
        have q := hK _ _ _ _ hlen h3
        obtain ⟨z1, z2⟩ := am_pre_len q.1
        exact ⟨q.1, am_rlen C0 hRf hstr (Nat.le_refl _) hl (hd rfl) hlen g1.2 g1.1 (by omega) (by omega) q.2⟩
      · cases h2
    · rcases am_ai_s h with ⟨i, j, S', rfl, h2⟩ | ⟨i, j, S', rfl, h2⟩
      · cases h2
      · obtain ⟨g1, h3⟩ := am_cond_s h2
        simp only [Bool.and_eq_true, Nat.ble_eq, Nat.blt_eq] at g1
        obtain ⟨hj, h4⟩ := am_ix_s h3
        have q := hK _ _ _ _ hlen h4
        obtain ⟨z1, z2⟩ := am_pre_len q.1
        exact ⟨q.1, am_rchr C0 hRf hstr hl (hd rfl) hlen g1.2 g1.1 hj (by omega) (by omega) q.2⟩
  case invokestatic idx =>
    dsimp only [am_ins, am_inv] at h
    split at h <;> try (simp [am_lnk] at hl; done)
    · obtain ⟨g1, h2⟩ := am_cond_s h
      simp only [Bool.and_eq_true, Nat.ble_eq] at g1
      obtain ⟨v, t2, h4, h5⟩ := am_rr_s h2
      have hk := hl
      simp only [am_lnk, Bool.and_eq_true, Nat.blt_eq] at hk
      obtain ⟨w1, w2⟩ := hcall _ _ _ _ _ h4
      have q := hK _ _ _ _ hlen h5
      obtain ⟨z1, z2⟩ := am_pre_len q.1
      exact ⟨am_pre_trans w1 q.1, am_rcallS C0 hRf hl (Or.inl rfl) (hd rfl) g1.1 g1.2 hlen w1 (w2 hk.1.1.1.1) (by omega) (by omega) q.2⟩
    · obtain ⟨g1, h2⟩ := am_cond_s h
      simp only [Bool.and_eq_true, Nat.ble_eq] at g1
      obtain ⟨v, t2, h4, h5⟩ := am_rr_s h2
      have hk := hl
      simp only [am_lnk, Bool.and_eq_true, Nat.blt_eq] at hk
      obtain ⟨w1, w2⟩ := hcall _ _ _ _ _ h4
      have q := hK _ _ _ _ hlen h5
      obtain ⟨z1, z2⟩ := am_pre_len q.1
      exact ⟨am_pre_trans w1 q.1, am_rcallS C0 hRf hl (Or.inr rfl) (hd rfl) g1.1 g1.2 hlen w1 (w2 hk.1.1.1.1) (by omega) (by omega) q.2⟩
    · have hk := hl
      simp only [am_lnk, Bool.and_eq_true, Nat.ble_eq] at hk
      have gl := am_glob
      simp only [Bool.and_eq_true] at gl
      obtain ⟨x, y, S', rfl, h2⟩ := am_i2_s h
      obtain ⟨g1, h3⟩ := am_cond_s h2
      have q := hK _ _ _ _ hlen h3
      obtain ⟨z1, z2⟩ := am_pre_len q.1
      refine ⟨q.1, fun H locs ls hR hS hL h0 h1 => ?_⟩
      have hcat := am_cats_tr (N0 := N0) (ext := ext) (show S'.length ≤ 4 by simpa using g1)
      exact va_mmax hx hb (by rw [hml, ← hlen]; exact hL.1.symm) hown (hts _ (am_at_s hk.1.1)) (hts _ (am_at_s gl.1.1.1.1.1.1.1.1.1.1.1.2)) (hts _ (am_at_s gl.1.1.1.1.1.1.1.1.1.1.1.1.2)) (hts _ (am_at_s gl.1.1.1.1.1.1.1.1.2)) (by omega) (by omega) (by omega) (by omega) (hd rfl) (q.2 H locs ls hR hS hL h0 h1)
    · have hk := hl
      simp only [am_lnk, Bool.and_eq_true, Nat.ble_eq] at hk
      have gl := am_glob
      simp only [Bool.and_eq_true] at gl
      obtain ⟨x, y, S', rfl, h2⟩ := am_i2_s h
      obtain ⟨g1, h3⟩ := am_cond_s h2
      have q := hK _ _ _ _ hlen h3
      obtain ⟨z1, z2⟩ := am_pre_len q.1
      refine ⟨q.1, fun H locs ls hR hS hL h0 h1 => ?_⟩
      have hcat := am_cats_tr (N0 := N0) (ext := ext) (show S'.length ≤ 4 by simpa using g1)
      exact va_mmin hx hb (by rw [hml, ← hlen]; exact hL.1.symm) hown (hts _ (am_at_s hk.1.1)) (hts _ (am_at_s gl.1.1.1.1.1.1.1.1.1.1.2)) (hts _ (am_at_s gl.1.1.1.1.1.1.1.1.1.1.1.1.2)) (hts _ (am_at_s gl.1.1.1.1.1.1.1.2)) (by omega) (by omega) (by omega) (by omega) (hd rfl) (q.2 H locs ls hR hS hL h0 h1)
    · have hk := hl
      simp only [am_lnk, Bool.and_eq_true, Nat.ble_eq] at hk
      have gl := am_glob
      simp only [Bool.and_eq_true] at gl
      obtain ⟨x, S', rfl, h2⟩ := am_i1_s h
      obtain ⟨g1, h3⟩ := am_cond_s h2
      have q := hK _ _ _ _ hlen h3
      obtain ⟨z1, z2⟩ := am_pre_len q.1
      refine ⟨q.1, fun H locs ls hR hS hL h0 h1 => ?_⟩
      have hcat := am_cats_tr (N0 := N0) (ext := ext) (show S'.length ≤ 4 by simpa using g1)
      exact va_mabs hx hb (by rw [hml, ← hlen]; exact hL.1.symm) hown (hts _ (am_at_s hk.1.1)) (hts _ (am_at_s gl.1.1.1.1.1.1.1.1.1.2)) (hts _ (am_at_s gl.1.1.1.1.1.1.1.1.1.1.1.1.2)) (hts _ (am_at_s gl.1.1.1.1.1.1.2)) (by omega) (by omega) (by omega) (by omega) (hd rfl) (q.2 H locs ls hR hS hL h0 h1)
    · unfold am_cpy at h
      split at h
      · split at h
        · rename_i qq qq' hy hy'
          obtain ⟨g1, h3⟩ := am_cond_s h
          split at h3
          · cases h3
          · rename_i hn
            simp only [Bool.and_eq_true, Bool.or_eq_true, Nat.ble_eq] at g1
            obtain ⟨ty, n1⟩ := qq
            obtain ⟨ty', n2⟩ := qq'
            have e1 : ty = ty' := Nat.eq_of_beq_eq_true g1.1.1
            subst e1
            have q := hK _ _ _ _ hlen h3
            simp only [not_or, Nat.not_lt] at hn
            obtain ⟨w1, w2, w3, w4, w5⟩ := hn
            exact ⟨q.1, am_rcpy C0 hRf hl (hd rfl) hlen g1.2 hy hy' (g1.1.2.elim (fun z => Or.inl (Nat.eq_of_beq_eq_true z)) (fun z => Or.inr (Nat.eq_of_beq_eq_true z))) w1 w2 w3 w4 w5 q.2⟩
        · cases h
      · cases h
  case invokespecial idx =>
    dsimp only [am_ins, am_inv] at h
    split at h <;> try (simp [am_lnk] at hl; done)
    · obtain ⟨b, rest, g1, g2, g3, g4, h2⟩ := am_dr_s h
      obtain ⟨v, t2, h4, h5⟩ := am_rr_s h2
      have hk := hl
      simp only [am_lnk, Bool.and_eq_true, Nat.blt_eq] at hk
      obtain ⟨w1, w2⟩ := hcall _ _ _ _ _ h4
      have q := hK _ _ _ _ hlen h5
      obtain ⟨z1, z2⟩ := am_pre_len q.1
      exact ⟨am_pre_trans w1 q.1, am_rcallI C0 hRf hl (Or.inl rfl) (hd rfl) g1 g3 g4 hlen w1 (w2 hk.1.1.1.1.1.1) (by omega) (by omega) q.2⟩
    · obtain ⟨b, rest, g1, g2, g3, g4, h2⟩ := am_dr_s h
      obtain ⟨v, t2, h4, h5⟩ := am_rr_s h2
      have hk := hl
      simp only [am_lnk, Bool.and_eq_true, Nat.blt_eq] at hk
      obtain ⟨w1, w2⟩ := hcall _ _ _ _ _ h4
      have q := hK _ _ _ _ hlen h5
      obtain ⟨z1, z2⟩ := am_pre_len q.1
      exact ⟨am_pre_trans w1 q.1, am_rcallI C0 hRf hl (Or.inr rfl) (hd rfl) g1 g3 g4 hlen w1 (w2 hk.1.1.1.1.1.1) (by omega) (by omega) q.2⟩
    · have hk := hl
      simp only [am_lnk, Bool.and_eq_true, Nat.ble_eq] at hk
      have gl := am_glob
      simp only [Bool.and_eq_true] at gl
      obtain ⟨b, rest, g1, g2, g3, g4, h2⟩ := am_dr_s h
      have q := hK _ _ _ _ hlen h2
      simp only [List.drop_zero] at g2
      subst g2
      refine ⟨q.1, am_stepR (fun H locs cl sl ls hL hR hS kk => ?_) q.2⟩
      have hcat := am_cats_tr (N0 := N0) (ext := ext) g4
      exact W.objInit hx hb hown (hts _ (am_at_s hk.1.1)) (hts _ (am_at_s gl.1.1.1.1.1.1.1.1.1.1.1.1.1.1)) (hts _ (am_at_s gl.1.1.1.1.1.1.1.1.1.1.1.1.1.2)) rfl (by rw [hml, ← hlen]; exact hL.1) rfl (hd rfl) (by omega) (by show 2 * 0 + _ + 12 ≤ _; omega) kk
  case ireturn =>
    dsimp only [am_ins] at h
    split at h
    · cases h
      exact ⟨List.prefix_rfl, fun H locs ls hR hS hL h0 h1 => (hrets pc ls H locs hR hS h0 h1).1 _ (hd rfl) rfl (Or.inl (by simpa [am_lnk] using hl))⟩
    · split at h
      · rename_i hv
        cases h
        exact ⟨List.prefix_rfl, fun H locs ls hR hS hL h0 h1 => (hrets pc ls H locs hR hS h0 h1).1 _ (hd rfl) rfl (Or.inr ⟨by simpa [am_lnk] using hl, hv⟩)⟩
      · cases h
    · cases h
  case lreturn =>
    dsimp only [am_ins] at h
    split at h
    · cases h
      exact ⟨List.prefix_rfl, fun H locs ls hR hS hL h0 h1 => (hrets pc ls H locs hR hS h0 h1).2.1 _ (hd rfl) rfl (by simpa [am_lnk] using hl)⟩
    · cases h
  case areturn =>
    have hrt : ∃ C', am_rt m = some (.object C') := by
      simp only [am_lnk] at hl
      split at hl
      · rename_i e2; exact ⟨_, e2⟩
      · cases hl
    dsimp only [am_ins] at h
    split at h
    · cases h
      exact ⟨List.prefix_rfl, fun H locs ls hR hS hL h0 h1 => (hrets pc ls H locs hR hS h0 h1).2.2.1 _ (hd rfl) rfl (Or.inr ⟨_, rfl⟩) hrt⟩
    · cases h
      exact ⟨List.prefix_rfl, fun H locs ls hR hS hL h0 h1 => (hrets pc ls H locs hR hS h0 h1).2.2.1 _ (hd rfl) rfl (Or.inr ⟨_, rfl⟩) hrt⟩
    · cases h
      exact ⟨List.prefix_rfl, fun H locs ls hR hS hL h0 h1 => (hrets pc ls H locs hR hS h0 h1).2.2.1 _ (hd rfl) rfl (Or.inl rfl) hrt⟩
    · cases h
  case return_ =>
    dsimp only [am_ins] at h
    split at h
    · cases h
      exact ⟨List.prefix_rfl, fun H locs ls hR hS hL h0 h1 => (hrets pc ls H locs hR hS h0 h1).2.2.2 (hd rfl) rfl (by simpa [am_lnk] using hl)⟩
    · cases h
  all_goals exact (nomatch (show (none : am_O) = some _ from h))
end SIM
