section SIM
variable {p : Program} {l : Launch} {e : Env} {R : Room} {s : State} {mi : MethodId} {args : Array Value} {below : List Frame} {meth : Method} {c : Code} {Q : State → Prop} {D : va_G} {tc : Nat → ClassId} {N0 : Nat} {ext xv : Nat → Nat} {X : Nat × (Nat → Int32)} {m c0 s0 : Nat}
theorem am_mk_s {k : Nat} (hk : k < 272) : (Jvm.Cond.initialized (am_y k).cls ∈ am_good) ∧ ((am_y k).cls ≠ "java/lang/invoke/MethodHandle" ∧ (am_y k).cls ≠ "java/lang/invoke/VarHandle") ∧ plainName (am_y k).cls = true ∧ am_cn (am_own k) = (am_y k).cls := by
  have h := am_moks k hk
  simp only [am_mok, Bool.and_eq_true, decide_eq_true_eq] at h
  obtain ⟨⟨⟨⟨h1, h2⟩, h3⟩, h4⟩, h5⟩ := h
  refine ⟨?_, h2, h3, h5⟩
  split at h1
  · exact am_at_s h1
  · cases h1
theorem am_w_in {k : Nat} (hk : k < 272) : GoodIn am_good (am_w k) := by
  intro w hw
  rcases List.mem_cons.mp hw with rfl | h
  · exact ⟨List.mem_filter.mpr ⟨am_cw k hk, rfl⟩, Or.inl rfl⟩
  · exact am_good_in w h
theorem am_gi {w : Jvm.Cond} (h : w ∈ am_good) : w ∈ am_good ∧ ((w.onTables && w.keeps) = true ∨ ∃ ty, w = .arrayClass ty) := ⟨h, good_of_word (List.mem_filter.mp h).2⟩
theorem am_npar_s {y : MethodName} {n : Nat} (h : am_npar y n = true) : (parseMethodDescriptor y.desc).map (fun d => d.parameters.length) = some n := by simpa [am_npar] using h
theorem am_rm_s {m k : Nat} (h : am_rm m k = true) : am_fr k + 1 ≤ am_fr m ∧ 8 + (am_maxL k + 11) + am_lo k ≤ am_lo m := by simpa [am_rm] using h
/-- a call on an object -/
theorem am_rcallV (C : am_C p s mi args c D tc N0 ext xv X m c0) (hRf : am_fr m ≤ R.frames ∧ am_lo m ≤ R.locals) {pc idx k na pos ci b n : Nat} {t t2 : am_S} {v : Option Value} {L : am_L} {S rest : List Value} (hl : am_lnk m pc (.invokevirtual idx) [0, k, na, pos, ci] = true) (hd : decode (am_bytes m) pc = .ok (.invokevirtual idx, 3))
    (hS0 : S = S.take na ++ .ref b :: rest) (hna : na < S.length) (hrest : rest.length ≤ 4) (hy : t.1[b]? = some (ci, n)) (hlen : L.length = am_maxL m) (hpre : t.1 <+: t2.1) (hM : am_Met l D tc N0 ext xv X k (.ref b :: (S.take na).reverse) t v t2) (hc : t2.1.length - c0 ≤ R.cells) (hs : am_sz t2.1 - s0 ≤ R.slots)
    (kk : am_G p l e R s mi args below meth c Q D tc N0 ext c0 s0 (pc + 3) L (v.toList ++ rest) t2) : am_G p l e R s mi args below meth c Q D tc N0 ext c0 s0 pc L S t := by
  obtain ⟨hx, hb, hml, hown, hts, hst, hold, hz⟩ := C
  simp only [am_lnk, Bool.and_eq_true, Nat.blt_eq, decide_eq_true_eq] at hl
  obtain ⟨⟨⟨⟨⟨⟨hk, hci⟩, hat⟩, hcls⟩, hnp⟩, hrm⟩, hmp⟩ := hl
  have hmp2 : Jvm.Cond.instanceMethod (am_y k) ∈ am_good ∧ Jvm.Cond.selects (am_cn ci) (am_y k) (am_y k) ∈ am_good := by
    split at hmp
    · simp only [Bool.and_eq_true] at hmp
      exact ⟨am_at_s hmp.1, am_at_s hmp.2⟩
    · cases hmp
  obtain ⟨k1, k2, k3, k4⟩ := am_mk_s hk
  obtain ⟨r1, r2⟩ := am_rm_s hrm
  obtain ⟨g1, g2⟩ := am_pre_len hpre
  intro H locs ls hR hS hL h0 h1
  refine am_size hR.1 hS hz h0 fun hsz => ?_
  have hgi : GoodIn am_good (wsV (am_cn (am_own m)) idx (am_cn ci) (am_y k) (am_w k)) := by
    intro w hw
    rcases List.mem_append.mp hw with h | h
    · simp only [List.mem_cons, List.not_mem_nil, or_false] at h
      rcases h with rfl | rfl | rfl | rfl
      · exact am_gi (am_at_s hat)
      · exact am_gi hmp2.1
      · exact am_gi hmp2.2
      · exact am_gi (am_at_s (am_inis ci hci))
    · exact am_w_in hk w h
  have he := am_ws_at (tc := tc) (N0 := N0) hy
  rw [am_E_obj hci] at he
  have hrecv := va_recv hst.1 hR.1 (am_cls ci hci).1 he
  have hstk : (S.map (am_tr N0 ext)) = (((S.take na).reverse).map (am_tr N0 ext)).reverse ++ .ref (N0 + b) :: rest.map (am_tr N0 ext) := by
    conv => lhs; rw [hS0]
    simp [am_tr]
  refine am_after (rest := rest) (va_runV (As := (S.take na).reverse.map (am_tr N0 ext)) (b := N0 + b) (rest := rest.map (am_tr N0 ext)) (C := am_cn ci) (Ts := am_good) (ret := am_rt k) (bytes := am_bytes k) (maxL := am_maxL k) ⟨hx, hb, hml, hown, hts⟩ hM (cwV na hts hgi rfl rfl rfl ⟨hcls, k2.1, k2.2, am_npar_s hnp⟩ ⟨Nat.le_trans r1 hRf.1, Nat.le_trans r2 hRf.2⟩) ⟨am_P_blind, hrecv, am_P_at (As := .ref (N0 + b) :: (S.take na).reverse.map (am_tr N0 ext)) hsz hR hst hold hS⟩ rfl (by simp; omega) (by rw [← hlen]; exact hL.1) hstk (lv_room (am_cats_tr hrest)) hd ⟨by omega, by omega⟩) hpre hS hL h0 h1 kk
theorem am_rcallS (C : am_C p s mi args c D tc N0 ext xv X m c0) (hRf : am_fr m ≤ R.frames ∧ am_lo m ≤ R.locals) {pc idx k na pos ci kd : Nat} {t t2 : am_S} {v : Option Value} {L : am_L} {S : List Value} (hl : am_lnk m pc (.invokestatic idx) [kd, k, na, pos, ci] = true) (hkd : kd = 1 ∨ kd = 2) (hd : decode (am_bytes m) pc = .ok (.invokestatic idx, 3))
    (hna : na ≤ S.length) (hrest : (S.drop na).length ≤ 4) (hlen : L.length = am_maxL m) (hpre : t.1 <+: t2.1) (hM : am_Met l D tc N0 ext xv X k (S.take na).reverse t v t2) (hc : t2.1.length - c0 ≤ R.cells) (hs : am_sz t2.1 - s0 ≤ R.slots)
    (kk : am_G p l e R s mi args below meth c Q D tc N0 ext c0 s0 (pc + 3) L (v.toList ++ S.drop na) t2) : am_G p l e R s mi args below meth c Q D tc N0 ext c0 s0 pc L S t := by
  obtain ⟨hx, hb, hml, hown, hts, hst, hold, hz⟩ := C
  have hstk : (S.map (am_tr N0 ext)) = (((S.take na).reverse).map (am_tr N0 ext)).reverse ++ (S.drop na).map (am_tr N0 ext) := by
    conv => lhs; rw [← List.take_append_drop na S]
    simp
  obtain ⟨g1, g2⟩ := am_pre_len hpre
  intro H locs ls hR hS hL h0 h1
  refine am_size hR.1 hS hz h0 fun hsz => ?_
  rcases hkd with rfl | rfl
  · simp only [am_lnk, Bool.and_eq_true, Nat.blt_eq] at hl
    obtain ⟨⟨⟨⟨hk, hat⟩, hnp⟩, hrm⟩, hmp⟩ := hl
    have hmp2 : Jvm.Cond.static (am_y k) ∈ am_good := by
      split at hmp
      · exact am_at_s hmp
      · cases hmp
    obtain ⟨k1, k2, k3, k4⟩ := am_mk_s hk
    obtain ⟨r1, r2⟩ := am_rm_s hrm
    have hgi : GoodIn am_good (va_wsS (am_cn (am_own m)) idx (am_y k) (am_w k)) := by
      intro w hw
      rcases List.mem_append.mp hw with h | h
      · simp only [List.mem_cons, List.not_mem_nil, or_false] at h
        rcases h with rfl | rfl | rfl
        · exact am_gi (am_at_s hat)
        · exact am_gi hmp2
        · exact am_gi k1
      · exact am_w_in hk w h
    refine am_after (rest := S.drop na) (va_runS (As := (S.take na).reverse.map (am_tr N0 ext)) (rest := (S.drop na).map (am_tr N0 ext)) (Ts := am_good) (ret := am_rt k) (bytes := am_bytes k) (maxL := am_maxL k) ⟨hx, hb, hml, hown, hts⟩ hM (va_cwS na hts hgi rfl rfl rfl ⟨k2.1, k2.2, am_npar_s hnp⟩ ⟨Nat.le_trans r1 hRf.1, Nat.le_trans r2 hRf.2⟩) ⟨am_P_blind, am_P_at (As := (S.take na).reverse.map (am_tr N0 ext)) hsz hR hst hold hS⟩ rfl (by simp; omega) (by rw [← hlen]; exact hL.1) hstk (lv_room (am_cats_tr hrest)) hd ⟨by omega, by omega⟩) hpre hS hL h0 h1 kk
  · simp only [am_lnk, Bool.and_eq_true, Nat.blt_eq] at hl
    obtain ⟨⟨⟨⟨hk, hat⟩, hnp⟩, hrm⟩, hmp⟩ := hl
    have hmp2 : Jvm.Cond.static (am_y k) ∈ am_good := by
      split at hmp
      · exact am_at_s hmp
      · cases hmp
    obtain ⟨k1, k2, k3, k4⟩ := am_mk_s hk
    obtain ⟨r1, r2⟩ := am_rm_s hrm
    refine am_after (rest := S.drop na) (va_runSN (host := "WetPaint") (As := (S.take na).reverse.map (am_tr N0 ext)) (rest := (S.drop na).map (am_tr N0 ext)) (Ts := am_good) (ret := am_rt k) (bytes := am_bytes k) (maxL := am_maxL k) ⟨hx, hb, hml, hown, hts⟩ hM ⟨va_cnB na hts (am_w_in hk) rfl rfl rfl (hst.2.1 _ (am_atN_s hat) rfl) (hts _ k1) ⟨k2.1, k2.2, am_npar_s hnp⟩ ⟨Nat.le_trans r1 hRf.1, Nat.le_trans r2 hRf.2⟩, hts _ hmp2, trivial⟩ ⟨am_P_blind, am_P_at (As := (S.take na).reverse.map (am_tr N0 ext)) hsz hR hst hold hS⟩ rfl (by simp; omega) (by rw [← hlen]; exact hL.1) hstk (lv_room (am_cats_tr hrest)) hd ⟨by omega, by omega⟩) hpre hS hL h0 h1 kk
theorem am_rcallI (C : am_C p s mi args c D tc N0 ext xv X m c0) (hRf : am_fr m ≤ R.frames ∧ am_lo m ≤ R.locals) {pc idx k na pos ci b kd : Nat} {t t2 : am_S} {v : Option Value} {L : am_L} {S rest : List Value} (hl : am_lnk m pc (.invokespecial idx) [kd, k, na, pos, ci] = true) (hkd : kd = 3 ∨ kd = 4) (hd : decode (am_bytes m) pc = .ok (.invokespecial idx, 3))
    (hS0 : S = S.take na ++ .ref b :: rest) (hna : na < S.length) (hrest : rest.length ≤ 4) (hlen : L.length = am_maxL m) (hpre : t.1 <+: t2.1) (hM : am_Met l D tc N0 ext xv X k (.ref b :: (S.take na).reverse) t v t2) (hc : t2.1.length - c0 ≤ R.cells) (hs : am_sz t2.1 - s0 ≤ R.slots)
    (kk : am_G p l e R s mi args below meth c Q D tc N0 ext c0 s0 (pc + 3) L (v.toList ++ rest) t2) : am_G p l e R s mi args below meth c Q D tc N0 ext c0 s0 pc L S t := by
  obtain ⟨hx, hb, hml, hown, hts, hst, hold, hz⟩ := C
  have hstk : (S.map (am_tr N0 ext)) = (((S.take na).reverse).map (am_tr N0 ext)).reverse ++ .ref (N0 + b) :: rest.map (am_tr N0 ext) := by
    conv => lhs; rw [hS0]
    simp [am_tr]
  obtain ⟨g1, g2⟩ := am_pre_len hpre
  intro H locs ls hR hS hL h0 h1
  refine am_size hR.1 hS hz h0 fun hsz => ?_
  rcases hkd with rfl | rfl
  · simp only [am_lnk, Bool.and_eq_true, Nat.blt_eq, decide_eq_true_eq] at hl
    obtain ⟨⟨⟨⟨⟨⟨hk, hat⟩, hnm⟩, hrt⟩, hnp⟩, hrm⟩, hmp⟩ := hl
    have hmp2 : Jvm.Cond.instanceMethod (am_y k) ∈ am_good := by
      split at hmp
      · exact am_at_s hmp
      · cases hmp
    obtain ⟨k1, k2, k3, k4⟩ := am_mk_s hk
    obtain ⟨r1, r2⟩ := am_rm_s hrm
    have hw : am_w k = Jvm.Cond.code (am_y k) (am_bytes k) (am_maxL k) none :: am_good := by unfold am_w; rw [hrt]
    refine am_after (rest := rest) (va_runI (As := (S.take na).reverse.map (am_tr N0 ext)) (b := N0 + b) (rest := rest.map (am_tr N0 ext)) (Ts := am_good) (bytes := am_bytes k) (maxL := am_maxL k) ⟨hx, hb, hml, hown, hts⟩ hM ⟨callB_of na hts (am_w_in hk) hw rfl rfl (hts _ k1) (hts _ (am_at_s hat)) ⟨k2.1, k2.2, am_npar_s hnp⟩ ⟨Nat.le_trans r1 hRf.1, Nat.le_trans r2 hRf.2⟩, hnm, hts _ hmp2⟩ ⟨am_P_blind, am_P_at (As := .ref (N0 + b) :: (S.take na).reverse.map (am_tr N0 ext)) hsz hR hst hold hS⟩ rfl (by simp; omega) (by rw [← hlen]; exact hL.1) hstk (lv_room (am_cats_tr hrest)) hd ⟨by omega, by omega⟩) hpre hS hL h0 h1 kk
  · simp only [am_lnk, Bool.and_eq_true, Nat.blt_eq, decide_eq_true_eq] at hl
    obtain ⟨⟨⟨⟨⟨⟨hk, hat⟩, hnm⟩, hrt⟩, hnp⟩, hrm⟩, hmp⟩ := hl
    have hmp2 : Jvm.Cond.instanceMethod (am_y k) ∈ am_good := by
      split at hmp
      · exact am_at_s hmp
      · cases hmp
    obtain ⟨k1, k2, k3, k4⟩ := am_mk_s hk
    obtain ⟨r1, r2⟩ := am_rm_s hrm
    have hw : am_w k = Jvm.Cond.code (am_y k) (am_bytes k) (am_maxL k) none :: am_good := by unfold am_w; rw [hrt]
    refine am_after (rest := rest) (va_runIN (host := "WetPaint") (As := (S.take na).reverse.map (am_tr N0 ext)) (b := N0 + b) (rest := rest.map (am_tr N0 ext)) (Ts := am_good) (bytes := am_bytes k) (maxL := am_maxL k) ⟨hx, hb, hml, hown, hts⟩ hM ⟨va_cnB na hts (am_w_in hk) hw rfl rfl (hst.2.1 _ (am_atN_s hat) rfl) (hts _ k1) ⟨k2.1, k2.2, am_npar_s hnp⟩ ⟨Nat.le_trans r1 hRf.1, Nat.le_trans r2 hRf.2⟩, hnm, hts _ hmp2⟩ ⟨am_P_blind, am_P_at (As := .ref (N0 + b) :: (S.take na).reverse.map (am_tr N0 ext)) hsz hR hst hold hS⟩ rfl (by simp; omega) (by rw [← hlen]; exact hL.1) hstk (lv_room (am_cats_tr hrest)) hd ⟨by omega, by omega⟩) hpre hS hL h0 h1 kk
/-- a copy of a stretch -/
theorem am_rcpy (C : am_C p s mi args c D tc N0 ext xv X m c0) (hRf : am_fr m ≤ R.frames ∧ am_lo m ≤ R.locals) {pc idx x1 x2 pos x3 a d ty n1 n2 : Nat} {sp dp n : Int32} {t : am_S} {L : am_L} {S : List Value} (hl : am_lnk m pc (.invokestatic idx) [9, x1, x2, pos, x3] = true) (hd : decode (am_bytes m) pc = .ok (.invokestatic idx, 3))
    (hlen : L.length = am_maxL m) (hrest : S.length ≤ 4) (ha : t.1[a]? = some (ty, n1)) (hdd : t.1[d]? = some (ty, n2)) (hty : ty = 10 ∨ ty = 11) (h1 : ¬ sp < 0) (h2 : ¬ dp < 0) (h3 : ¬ n < 0) (h4 : sp.toNatClampNeg + n.toNatClampNeg ≤ n1) (h5 : dp.toNatClampNeg + n.toNatClampNeg ≤ n2)
    (kk : am_G p l e R s mi args below meth c Q D tc N0 ext c0 s0 (pc + 3) L S (t.1, t.2.1, am_row t.2.2.1 d (va_cpy (t.2.2.1 a) (t.2.2.1 d) sp.toNatClampNeg dp.toNatClampNeg n.toNatClampNeg), t.2.2.2)) : am_G p l e R s mi args below meth c Q D tc N0 ext c0 s0 pc L (.int n :: .int dp :: .ref d :: .int sp :: .ref a :: S) t := by
  obtain ⟨hx, hb, hml, hown, hts, hst, hold, hz⟩ := C
  simp only [am_lnk, Bool.and_eq_true, Nat.ble_eq] at hl
  obtain ⟨⟨hat, hfr⟩, hlo⟩ := hl
  have gl := am_glob
  simp only [Bool.and_eq_true] at gl
  refine am_stepW (t2 := (t.1, t.2.1, am_row t.2.2.1 d (va_cpy (t.2.2.1 a) (t.2.2.1 d) sp.toNatClampNeg dp.toNatClampNeg n.toNatClampNeg), t.2.2.2)) rfl (fun H locs cl sl ls hL hR hS kk => ?_) (fun hB => ?_) kk
  · have ea := am_ws_at (tc := tc) (N0 := N0) ha
    have ed := am_ws_at (tc := tc) (N0 := N0) hdd
    rw [am_E_int (by omega) (by omega)] at ea ed
    have hset : (am_ws tc N0 t).set d (N0 + d, .inl (tc (ty - 10), n2, .inl (va_cpy (t.2.2.1 a) (t.2.2.1 d) sp.toNatClampNeg dp.toNatClampNeg n.toNatClampNeg))) = am_ws tc N0 (t.1, t.2.1, am_row t.2.2.1 d (va_cpy (t.2.2.1 a) (t.2.2.1 d) sp.toNatClampNeg dp.toNatClampNeg n.toNatClampNeg), t.2.2.2) := by
      refine am_ws_set hdd rfl ?_ (fun j q hj => by refine am_E_congr (fun _ => ?_) (fun _ => ?_) (fun _ => ?_) q <;> first | rfl | exact am_row_ne hj)
      rw [am_E_int (by omega) (by omega)]
      congr 4
      funext b
      simp [am_row]
    have hwords : nativeFrameWords "java/lang/System" "arraycopy" 5 + 11 = 18 := by decide
    have hcat := am_cats_tr (N0 := N0) (ext := ext) hrest
    rcases hty with rfl | rfl
    · exact va_copyi hx hb (by rw [hml, ← hlen]; exact hL.1.symm) hown (hts _ (am_at_s hat)) (hts _ (am_at_s gl.1.1.1.1.1.2)) (hts _ (am_at_s gl.1.1.1.1.2)) (hts _ (am_at_s gl.1.1.1.2)) hst.1 hR.1 (am_ws_D tc N0 t) hS a d 0 0 (ty := .int) ea ed rfl rfl rfl h1 h2 h3 h4 h5 (fun _ _ => rfl) (by omega) (by rw [hwords]; omega) hd (fun H1 locs1 hP1 _ hS1 => kk H1 locs1 (by rw [← hset]; exact hP1) hS1)
    · exact va_copyi hx hb (by rw [hml, ← hlen]; exact hL.1.symm) hown (hts _ (am_at_s hat)) (hts _ (am_at_s gl.1.1.1.1.1.2)) (hts _ (am_at_s gl.1.1.1.1.2)) (hts _ (am_at_s gl.1.1.1.2)) hst.1 hR.1 (am_ws_D tc N0 t) hS a d 1 1 (ty := .byte) ea ed rfl rfl rfl h1 h2 h3 h4 h5 (fun i _ => by
        have q := hR.2.1 a n1 ha (sp.toNatClampNeg + i)
        rw [← q]
        exact pk_fb _) (by omega) (by rw [hwords]; omega) hd (fun H1 locs1 hP1 _ hS1 => kk H1 locs1 (by rw [← hset]; exact hP1) hS1)
  · intro i n' hi k
    show (am_row t.2.2.1 d _ i k).toInt8.toInt32 = am_row t.2.2.1 d _ i k
    by_cases e1 : i = d
    · subst e1
      have e2 : ty = 11 := by
        have hi' : t.1[i]? = some (11, n') := hi
        rw [hdd] at hi'
        cases hi'; rfl
      subst e2
      simp only [am_row, va_cpy, if_true]
      split
      · exact hB a n1 ha _
      · exact hB i n2 hdd _
    · rw [am_row_ne e1]
      exact hB i n' hi k
/-- String.length(), String.charAt(j) of a literal -/
theorem am_rlen (C : am_C p s mi args c D tc N0 ext xv X m c0) (hRf : am_fr m ≤ R.frames ∧ am_lo m ≤ R.locals) (hstr : am_Strs l D tc N0 ext xv X) (hc : c0 ≤ c0) {pc idx x1 x2 pos x3 e' : Nat} {t : am_S} {L : am_L} {S : List Value} (hl : am_lnk m pc (.invokevirtual idx) [10, x1, x2, pos, x3] = true) (hd : decode (am_bytes m) pc = .ok (.invokevirtual idx, 3))
    (hlen : L.length = am_maxL m) (hrest : S.length ≤ 4) (he : e' < 30) (hcc : t.1.length - c0 ≤ R.cells) (hss : am_sz t.1 - s0 ≤ R.slots)
    (kk : am_G p l e R s mi args below meth c Q D tc N0 ext c0 s0 (pc + 3) L (.int (nI (am_str e').length) :: S) t) : am_G p l e R s mi args below meth c Q D tc N0 ext c0 s0 pc L (.retAddr e' :: S) t := by
  obtain ⟨hx, hb, hml, hown, hts, hst, hold, hz⟩ := C
  simp only [am_lnk, Bool.and_eq_true, Nat.ble_eq] at hl
  obtain ⟨⟨hat, hfr⟩, hlo⟩ := hl
  intro H locs ls hR hS hL h0 h1
  refine am_size hR.1 hS hz h0 fun hsz => ?_
  have hgi : GoodIn am_good (wsV (am_cn (am_own m)) idx RJ0 yJ0_length_8abf5 am_wl) := by
    intro w hw
    rcases List.mem_append.mp hw with h | h
    · simp only [List.mem_cons, List.not_mem_nil, or_false] at h
      rcases h with rfl | rfl | rfl | rfl
      · exact am_gi (am_at_s hat)
      · exact am_gi ji_J0_length_8abf5
      · exact am_gi jl_J0_length_8abf5
      · exact am_gi jn_RJ0
    · rcases List.mem_cons.mp h with rfl | h
      · exact am_gi jc_J0_length_8abf5
      · exact am_gi h
  have hrecv := hold.1.recv he hS
  have hrun := va_runV (g := F0 mi pc ls ((Value.retAddr e' :: S).map (am_tr N0 ext))) (locs := locs) (cells := t.1.length - c0) (slots := am_sz t.1 - s0) (p := p) (l := l) (e := e) (R := R) (below := below) (meth := meth) (As := []) (b := ext e') (rest := S.map (am_tr N0 ext)) (C := RJ0) (Ts := am_good) ⟨hx, hb, hml, hown, hts⟩ (hstr.1 e' he t) (cwV 0 hts hgi rfl rfl rfl (by decide +kernel) ⟨by show 1 + 1 ≤ _; omega, by show 8 + (1 + 11) + 20 ≤ _; omega⟩) ⟨am_P_blind, hrecv, am_P_at (As := [.ref (ext e')]) hsz hR hst hold hS⟩ rfl rfl (by rw [← hlen]; exact hL.1) rfl (lv_room (am_cats_tr hrest)) hd ⟨by omega, by omega⟩
  have e1 : t.1.length - t.1.length = 0 := Nat.sub_self _
  have e2 : am_sz t.1 - am_sz t.1 = 0 := Nat.sub_self _
  exact am_after (t := t) (t2 := t) (v := some (.int (nI (am_str e').length))) (rest := S) (by rw [e1, e2]; exact hrun) (List.prefix_rfl) hS hL h0 h1 kk
theorem am_rchr (C : am_C p s mi args c D tc N0 ext xv X m c0) (hRf : am_fr m ≤ R.frames ∧ am_lo m ≤ R.locals) (hstr : am_Strs l D tc N0 ext xv X) {pc idx x1 x2 pos x3 e' : Nat} {j : Int32} {t : am_S} {L : am_L} {S : List Value} (hl : am_lnk m pc (.invokevirtual idx) [11, x1, x2, pos, x3] = true) (hd : decode (am_bytes m) pc = .ok (.invokevirtual idx, 3))
    (hlen : L.length = am_maxL m) (hrest : S.length ≤ 4) (he : e' < 30) (hj : vp_in j (am_str e').length) (hcc : t.1.length - c0 ≤ R.cells) (hss : am_sz t.1 - s0 ≤ R.slots)
    (kk : am_G p l e R s mi args below meth c Q D tc N0 ext c0 s0 (pc + 3) L (.int (nI ((am_str e').getD j.toNatClampNeg 0)) :: S) t) : am_G p l e R s mi args below meth c Q D tc N0 ext c0 s0 pc L (.int j :: .retAddr e' :: S) t := by
  obtain ⟨hx, hb, hml, hown, hts, hst, hold, hz⟩ := C
  simp only [am_lnk, Bool.and_eq_true, Nat.ble_eq] at hl
  obtain ⟨⟨hat, hfr⟩, hlo⟩ := hl
  intro H locs ls hR hS hL h0 h1
  refine am_size hR.1 hS hz h0 fun hsz => ?_
  have hgi : GoodIn am_good (wsV (am_cn (am_own m)) idx RJ0 yJ0_charAt_5068e am_wc) := by
    intro w hw
    rcases List.mem_append.mp hw with h | h
    · simp only [List.mem_cons, List.not_mem_nil, or_false] at h
      rcases h with rfl | rfl | rfl | rfl
      · exact am_gi (am_at_s hat)
      · exact am_gi ji_J0_charAt_5068e
      · exact am_gi jl_J0_charAt_5068e
      · exact am_gi jn_RJ0
    · rcases List.mem_cons.mp h with rfl | h
      · exact am_gi jc_J0_charAt_5068e
      · exact am_gi h
  have hrecv := hold.1.recv he hS
  have hrun := va_runV (g := F0 mi pc ls ((Value.int j :: Value.retAddr e' :: S).map (am_tr N0 ext))) (locs := locs) (cells := t.1.length - c0) (slots := am_sz t.1 - s0) (p := p) (l := l) (e := e) (R := R) (below := below) (meth := meth) (As := [.int j]) (b := ext e') (rest := S.map (am_tr N0 ext)) (C := RJ0) (Ts := am_good) ⟨hx, hb, hml, hown, hts⟩ (hstr.2 e' he t j hj) (cwV 1 hts hgi rfl rfl rfl (by decide +kernel) ⟨by show 3 + 1 ≤ _; omega, by show 8 + (2 + 11) + 64 ≤ _; omega⟩) ⟨am_P_blind, hrecv, am_P_at (As := [.ref (ext e'), .int j]) hsz hR hst hold hS⟩ rfl rfl (by rw [← hlen]; exact hL.1) rfl (lv_room (am_cats_tr hrest)) hd ⟨by omega, by omega⟩
  have e1 : t.1.length - t.1.length = 0 := Nat.sub_self _
  have e2 : am_sz t.1 - am_sz t.1 = 0 := Nat.sub_self _
  exact am_after (t := t) (t2 := t) (v := some (.int (nI ((am_str e').getD j.toNatClampNeg 0)))) (rest := S) (by rw [e1, e2]; exact hrun) (List.prefix_rfl) hS hL h0 h1 kk
end SIM
