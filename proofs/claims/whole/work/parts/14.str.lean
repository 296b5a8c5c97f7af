theorem dJ0_length_8abf5_0 : decode cJ0_length_8abf5 0 = .ok (.aload_n 0, 1) := by decide +kernel
theorem dJ0_length_8abf5_1 : decode cJ0_length_8abf5 1 = .ok (.getfield 9, 3) := by decide +kernel
theorem dJ0_length_8abf5_4 : decode cJ0_length_8abf5 4 = .ok (.arraylength, 1) := by decide +kernel
theorem dJ0_length_8abf5_5 : decode cJ0_length_8abf5 5 = .ok (.aload_n 0, 1) := by decide +kernel
theorem dJ0_length_8abf5_6 : decode cJ0_length_8abf5 6 = .ok (.invokevirtual 335, 3) := by decide +kernel
theorem dJ0_length_8abf5_9 : decode cJ0_length_8abf5 9 = .ok (.ishr, 1) := by decide +kernel
theorem dJ0_length_8abf5_10 : decode cJ0_length_8abf5 10 = .ok (.ireturn, 1) := by decide +kernel
theorem dJ0_charAt_5068e_0 : decode cJ0_charAt_5068e 0 = .ok (.aload_n 0, 1) := by decide +kernel
theorem dJ0_charAt_5068e_1 : decode cJ0_charAt_5068e 1 = .ok (.invokevirtual 492, 3) := by decide +kernel
theorem dJ0_charAt_5068e_4 : decode cJ0_charAt_5068e 4 = .ok (.ifCond .eq 12, 3) := by decide +kernel
theorem dJ0_charAt_5068e_7 : decode cJ0_charAt_5068e 7 = .ok (.aload_n 0, 1) := by decide +kernel
theorem dJ0_charAt_5068e_8 : decode cJ0_charAt_5068e 8 = .ok (.getfield 9, 3) := by decide +kernel
theorem dJ0_charAt_5068e_11 : decode cJ0_charAt_5068e 11 = .ok (.iload_n 1, 1) := by decide +kernel
theorem dJ0_charAt_5068e_12 : decode cJ0_charAt_5068e 12 = .ok (.invokestatic 495, 3) := by decide +kernel
theorem dJ0_charAt_5068e_15 : decode cJ0_charAt_5068e 15 = .ok (.ireturn, 1) := by decide +kernel
theorem dJ0_charAt_5068e_16 : decode cJ0_charAt_5068e 16 = .ok (.aload_n 0, 1) := by decide +kernel
theorem dJ0_charAt_5068e_17 : decode cJ0_charAt_5068e 17 = .ok (.getfield 9, 3) := by decide +kernel
theorem dJ0_charAt_5068e_20 : decode cJ0_charAt_5068e 20 = .ok (.iload_n 1, 1) := by decide +kernel
theorem dJ0_charAt_5068e_21 : decode cJ0_charAt_5068e 21 = .ok (.invokestatic 498, 3) := by decide +kernel
theorem dJ0_charAt_5068e_24 : decode cJ0_charAt_5068e 24 = .ok (.ireturn, 1) := by decide +kernel
theorem dJ0_coder_7d493_0 : decode cJ0_coder_7d493 0 = .ok (.getstatic 38, 3) := by decide +kernel
theorem dJ0_coder_7d493_3 : decode cJ0_coder_7d493 3 = .ok (.ifCond .eq 10, 3) := by decide +kernel
theorem dJ0_coder_7d493_6 : decode cJ0_coder_7d493 6 = .ok (.aload_n 0, 1) := by decide +kernel
theorem dJ0_coder_7d493_7 : decode cJ0_coder_7d493 7 = .ok (.getfield 15, 3) := by decide +kernel
theorem dJ0_coder_7d493_10 : decode cJ0_coder_7d493 10 = .ok (.goto 4, 3) := by decide +kernel
theorem dJ0_coder_7d493_13 : decode cJ0_coder_7d493 13 = .ok (.iconst 1, 1) := by decide +kernel
theorem dJ0_coder_7d493_14 : decode cJ0_coder_7d493 14 = .ok (.ireturn, 1) := by decide +kernel
theorem dJ0_isLatin1_aae02_0 : decode cJ0_isLatin1_aae02 0 = .ok (.getstatic 38, 3) := by decide +kernel
theorem dJ0_isLatin1_aae02_3 : decode cJ0_isLatin1_aae02 3 = .ok (.ifCond .eq 14, 3) := by decide +kernel
theorem dJ0_isLatin1_aae02_6 : decode cJ0_isLatin1_aae02 6 = .ok (.aload_n 0, 1) := by decide +kernel
theorem dJ0_isLatin1_aae02_7 : decode cJ0_isLatin1_aae02 7 = .ok (.getfield 15, 3) := by decide +kernel
theorem dJ0_isLatin1_aae02_10 : decode cJ0_isLatin1_aae02 10 = .ok (.ifCond .ne 7, 3) := by decide +kernel
theorem dJ0_isLatin1_aae02_13 : decode cJ0_isLatin1_aae02 13 = .ok (.iconst 1, 1) := by decide +kernel
theorem dJ0_isLatin1_aae02_14 : decode cJ0_isLatin1_aae02 14 = .ok (.goto 4, 3) := by decide +kernel
theorem dJ0_isLatin1_aae02_17 : decode cJ0_isLatin1_aae02 17 = .ok (.iconst 0, 1) := by decide +kernel
theorem dJ0_isLatin1_aae02_18 : decode cJ0_isLatin1_aae02 18 = .ok (.ireturn, 1) := by decide +kernel
theorem dJ0_checkIndex_df160_0 : decode cJ0_checkIndex_df160 0 = .ok (.iload_n 0, 1) := by decide +kernel
theorem dJ0_checkIndex_df160_1 : decode cJ0_checkIndex_df160 1 = .ok (.iload_n 1, 1) := by decide +kernel
theorem dJ0_checkIndex_df160_2 : decode cJ0_checkIndex_df160 2 = .ok (.getstatic 1053, 3) := by decide +kernel
theorem dJ0_checkIndex_df160_5 : decode cJ0_checkIndex_df160 5 = .ok (.invokestatic 1059, 3) := by decide +kernel
theorem dJ0_checkIndex_df160_8 : decode cJ0_checkIndex_df160 8 = .ok (.pop, 1) := by decide +kernel
theorem dJ0_checkIndex_df160_9 : decode cJ0_checkIndex_df160 9 = .ok (.return_, 1) := by decide +kernel
theorem dJ1_charAt_3b067_0 : decode cJ1_charAt_3b067 0 = .ok (.iload_n 1, 1) := by decide +kernel
theorem dJ1_charAt_3b067_1 : decode cJ1_charAt_3b067 1 = .ok (.aload_n 0, 1) := by decide +kernel
theorem dJ1_charAt_3b067_2 : decode cJ1_charAt_3b067 2 = .ok (.arraylength, 1) := by decide +kernel
theorem dJ1_charAt_3b067_3 : decode cJ1_charAt_3b067 3 = .ok (.invokestatic 9, 3) := by decide +kernel
theorem dJ1_charAt_3b067_6 : decode cJ1_charAt_3b067 6 = .ok (.aload_n 0, 1) := by decide +kernel
theorem dJ1_charAt_3b067_7 : decode cJ1_charAt_3b067 7 = .ok (.iload_n 1, 1) := by decide +kernel
theorem dJ1_charAt_3b067_8 : decode cJ1_charAt_3b067 8 = .ok (.baload, 1) := by decide +kernel
theorem dJ1_charAt_3b067_9 : decode cJ1_charAt_3b067 9 = .ok (.sipush 255, 3) := by decide +kernel
theorem dJ1_charAt_3b067_12 : decode cJ1_charAt_3b067 12 = .ok (.iand, 1) := by decide +kernel
theorem dJ1_charAt_3b067_13 : decode cJ1_charAt_3b067 13 = .ok (.i2c, 1) := by decide +kernel
theorem dJ1_charAt_3b067_14 : decode cJ1_charAt_3b067 14 = .ok (.ireturn, 1) := by decide +kernel
theorem dJ3_checkIndex_8e157_0 : decode cJ3_checkIndex_8e157 0 = .ok (.iload_n 0, 1) := by decide +kernel
theorem dJ3_checkIndex_8e157_1 : decode cJ3_checkIndex_8e157 1 = .ok (.ifCond .lt 8, 3) := by decide +kernel
theorem dJ3_checkIndex_8e157_4 : decode cJ3_checkIndex_8e157 4 = .ok (.iload_n 0, 1) := by decide +kernel
theorem dJ3_checkIndex_8e157_5 : decode cJ3_checkIndex_8e157 5 = .ok (.iload_n 1, 1) := by decide +kernel
theorem dJ3_checkIndex_8e157_6 : decode cJ3_checkIndex_8e157 6 = .ok (.if_icmp .lt 10, 3) := by decide +kernel
theorem dJ3_checkIndex_8e157_9 : decode cJ3_checkIndex_8e157 9 = .ok (.aload_n 2, 1) := by decide +kernel
theorem dJ3_checkIndex_8e157_10 : decode cJ3_checkIndex_8e157 10 = .ok (.iload_n 0, 1) := by decide +kernel
theorem dJ3_checkIndex_8e157_11 : decode cJ3_checkIndex_8e157 11 = .ok (.iload_n 1, 1) := by decide +kernel
theorem dJ3_checkIndex_8e157_12 : decode cJ3_checkIndex_8e157 12 = .ok (.invokestatic 95, 3) := by decide +kernel
theorem dJ3_checkIndex_8e157_15 : decode cJ3_checkIndex_8e157 15 = .ok (.athrow, 1) := by decide +kernel
theorem dJ3_checkIndex_8e157_16 : decode cJ3_checkIndex_8e157 16 = .ok (.iload_n 0, 1) := by decide +kernel
theorem dJ3_checkIndex_8e157_17 : decode cJ3_checkIndex_8e157 17 = .ok (.ireturn, 1) := by decide +kernel
section SIM
variable {p : Program} {l : Launch} {e : Env} {R : Room} {s : State} {mi : MethodId} {args : Array Value} {below : List Frame} {meth : Method} {c : Code} {Q : State → Prop} {D : va_G} {tc : Nat → ClassId} {N0 : Nat} {ext xv : Nat → Nat} {X : Nat × (Nat → Int32)} {m c0 s0 : Nat}
def am_MJ (l : Launch) (D : va_G) (tc : Nat → ClassId) (N0 : Nat) (ext xv : Nat → Nat) (X : Nat × (Nat → Int32)) (t : am_S) (y : MethodName) (cc : ByteArray) (maxL : Nat) (ret : Option FieldType) (fr lo : Nat) (As : List Value) (v : Option Value) : Prop :=
  Met l y (.code y cc maxL ret :: am_good) { frames := fr, cells := 0, slots := 0, locals := lo } (va_Pc As (am_P D tc N0 ext xv X t)) (am_Qc D tc N0 ext v t) 0 0 (am_A N0)
theorem am_afterJ {t : am_S} {v : Option Value} {pc : Nat} {rest st0 : List Value} {H : Heap} {locs : List Loc} {ls : Array Slot} {av : Array Value} {cl sl : Nat}
    (hr : va_Run p l e R s mi args below meth c H locs cl sl 0 0 (F0 mi pc ls st0) rest (am_Qc D tc N0 ext v t av) (am_A N0)) (hS : va_S (am_A N0) s.heap H locs)
    (k : ∀ (H1 : Heap) (locs1 : List Loc), am_Rep D tc N0 t H1 → va_S (am_A N0) s.heap H1 locs1 → W p l e R s mi args below meth c H1 locs1 cl sl Q (F0 mi (pc + 3) ls ((v.map (am_tr N0 ext)).toList ++ rest))) : W p l e R s mi args below meth c H locs cl sl Q (F0 mi pc ls st0) := by
  intro T hT X'
  obtain ⟨v', st₀, t', T', L', e0, X2, hL', e1, e2, ⟨q1, q2, q3⟩, st⟩ := hr T hT X'
  cases q1
  have hS2 : va_S (am_A N0) s.heap T'.heap (locs ++ L') := by
    refine ⟨Nat.le_trans hS.1 (by rw [e1, ← e0]; exact q3.1), fun q a b => ?_, fun q hq => ?_⟩
    · rw [e1, q3.2 q (by rw [e0]; exact Nat.lt_of_lt_of_le a hS.1) b, e0]
      exact hS.2.1 q a b
    · rcases List.mem_append.mp hq with h | h
      · exact hS.2.2 q h
      · exact hL' q h
  obtain ⟨tt, a1, b1⟩ := k T'.heap (locs ++ L') (by rw [e1]; exact q2) hS2 T' rfl X2
  exact ⟨tt, st tt a1, b1⟩
theorem am_szJ {H : Heap} {locs : List Loc} {sl : Nat} {g : JFrame} {t : am_S} (hS : va_S (am_A N0) s.heap H locs) (hz : s.heap.size = N0 + t.1.length) (k : H.size = N0 + t.1.length → W p l e R s mi args below meth c H locs 0 sl Q g) : W p l e R s mi args below meth c H locs 0 sl Q g := by
  refine am_le fun h => k ?_
  have := hS.1
  omega
theorem am_giJ {y : MethodName} {cc : ByteArray} {n : Nat} {r : Option FieldType} (h : Jvm.Cond.code y cc n r ∈ am_good) : GoodIn am_good (Jvm.Cond.code y cc n r :: am_good) := by
  intro w hw
  rcases List.mem_cons.mp hw with rfl | h2
  · exact am_gi h
  · exact am_gi h2
set_option maxHeartbeats 4000000 in
theorem am_coder {t : am_S} {e' : Nat} (he : e' < 30) : am_MJ l D tc N0 ext xv X t yJ0_coder_7d493 cJ0_coder_7d493 1 (some .byte) 0 0 [.ref (ext e')] (some (.int 0)) := by
  refine Met.ofW (cc := cJ0_coder_7d493) (maxL := 1) (ret := some .byte) (by decide) rfl ?_
  intro p e s m args below meth c s₁ B hml hv
  obtain ⟨rfl, hz, hR, hst, hold⟩ := hv
  have hx := B.exec
  have hb := B.bytes
  have hr := B.returns
  have hlocks := B.notSynchronized
  have hts : ∀ w ∈ am_good, w.before _ s = true := fun w hw => atoms_spec (ws := _) B.pre w (List.mem_cons_of_mem _ hw)
  have hown : s.vm.findClass RJ0 = some m.cls := findClass_of_methodNamed B.named
  have hS : va_S (am_A N0) s.heap s.heap [] := va_S.rf
  have hl := lv_entry ([.ref (ext e')]) (n := 1) (Nat.le_of_ble_eq_true rfl)
  rw [lg_entry_eq]
  generalize (lg_sl ([.ref (ext e')]) ++ List.replicate (1 - (lg_sl ([.ref (ext e')])).length) Slot.unset).toArray = ls at hl ⊢
  have hl : lv_has ls 1 [(0, .ref (ext e'))] := hl
  refine va_gets hx hb hold.2.1 hS hown (hts _ jf_RJ0_38) (fun _ h => h) dJ0_coder_7d493_0 ?_
  refine lv_if_eq (tgt := 13) hx hb dJ0_coder_7d493_3 (by decide) (fun z => absurd z (by decide)) (fun _ => ?_)
  refine lv_aload_n hx hb dJ0_coder_7d493_6 rfl (lv_at hl 0 rfl) ?_
  refine vk_getf hx hb (hold.1 e' he).2.1 hS hown (hts _ jf_RJ0_15) (fun _ h => h) dJ0_coder_7d493_7 ?_
  refine lv_goto (tgt := 14) hx hb dJ0_coder_7d493_10 (by decide) ?_
  exact W.zret (ty := .byte) hx hb hr rfl (fun t' ht _ => ⟨rfl, by rw [ht]; exact hR, hS.F ht⟩) hS.2.2 dJ0_coder_7d493_14 hlocks
set_option maxHeartbeats 4000000 in
theorem am_isLatin1 {t : am_S} {e' : Nat} (he : e' < 30) : am_MJ l D tc N0 ext xv X t yJ0_isLatin1_aae02 cJ0_isLatin1_aae02 1 (some .boolean) 0 0 [.ref (ext e')] (some (.int 1)) := by
  refine Met.ofW (cc := cJ0_isLatin1_aae02) (maxL := 1) (ret := some .boolean) (by decide) rfl ?_
  intro p e s m args below meth c s₁ B hml hv
  obtain ⟨rfl, hz, hR, hst, hold⟩ := hv
  have hx := B.exec
  have hb := B.bytes
  have hr := B.returns
  have hlocks := B.notSynchronized
  have hts : ∀ w ∈ am_good, w.before _ s = true := fun w hw => atoms_spec (ws := _) B.pre w (List.mem_cons_of_mem _ hw)
  have hown : s.vm.findClass RJ0 = some m.cls := findClass_of_methodNamed B.named
  have hS : va_S (am_A N0) s.heap s.heap [] := va_S.rf
  have hl := lv_entry ([.ref (ext e')]) (n := 1) (Nat.le_of_ble_eq_true rfl)
  rw [lg_entry_eq]
  generalize (lg_sl ([.ref (ext e')]) ++ List.replicate (1 - (lg_sl ([.ref (ext e')])).length) Slot.unset).toArray = ls at hl ⊢
  have hl : lv_has ls 1 [(0, .ref (ext e'))] := hl
  refine va_gets hx hb hold.2.1 hS hown (hts _ jf_RJ0_38) (fun _ h => h) dJ0_isLatin1_aae02_0 ?_
  refine lv_if_eq (tgt := 17) hx hb dJ0_isLatin1_aae02_3 (by decide) (fun z => absurd z (by decide)) (fun _ => ?_)
  refine lv_aload_n hx hb dJ0_isLatin1_aae02_6 rfl (lv_at hl 0 rfl) ?_
  refine vk_getf hx hb (hold.1 e' he).2.1 hS hown (hts _ jf_RJ0_15) (fun _ h => h) dJ0_isLatin1_aae02_7 ?_
  refine lv_if_ne (tgt := 17) hx hb dJ0_isLatin1_aae02_10 (by decide) (fun z => absurd rfl z) (fun _ => ?_)
  refine lv_iconst (v := 1) hx hb dJ0_isLatin1_aae02_13 (by decide) ?_
  refine lv_goto (tgt := 18) hx hb dJ0_isLatin1_aae02_14 (by decide) ?_
  exact W.zret (ty := .boolean) hx hb hr rfl (fun t' ht _ => ⟨rfl, by rw [ht]; exact hR, hS.F ht⟩) hS.2.2 dJ0_isLatin1_aae02_18 hlocks
theorem am_sln_at {e' : Nat} (he : e' < 30) : am_sln.getD e' 0 = (am_str e').length := by simp [am_sln, he]
theorem am_sby_at {e' : Nat} (he : e' < 30) : am_sby.getD e' [] = (am_str e').map fun c => (nI c).toInt8.toInt32 := by simp [am_sby, he]
theorem am_str_small : ∀ e', e' < 30 → (am_str e').length < 10 ∧ ∀ k, k < 10 → (am_str e').getD k 0 < 128 := by decide +kernel
set_option maxHeartbeats 4000000 in
theorem am_length {t : am_S} {e' : Nat} (he : e' < 30) : am_MJ l D tc N0 ext xv X t yJ0_length_8abf5 cJ0_length_8abf5 1 (some .int) 1 20 [.ref (ext e')] (some (.int (nI (am_str e').length))) := by
  refine Met.ofW (cc := cJ0_length_8abf5) (maxL := 1) (ret := some .int) (by decide) rfl ?_
  intro p e s m args below meth c s₁ B hml hv
  obtain ⟨rfl, hz, hR, hst, hold⟩ := hv
  have hx := B.exec
  have hb := B.bytes
  have hr := B.returns
  have hlocks := B.notSynchronized
  have hts : ∀ w ∈ am_good, w.before _ s = true := fun w hw => atoms_spec (ws := _) B.pre w (List.mem_cons_of_mem _ hw)
  have hown : s.vm.findClass RJ0 = some m.cls := findClass_of_methodNamed B.named
  have hS : va_S (am_A N0) s.heap s.heap [] := va_S.rf
  have hl := lv_entry ([.ref (ext e')]) (n := 1) (Nat.le_of_ble_eq_true rfl)
  rw [lg_entry_eq]
  generalize (lg_sl ([.ref (ext e')]) ++ List.replicate (1 - (lg_sl ([.ref (ext e')])).length) Slot.unset).toArray = ls at hl ⊢
  have hl : lv_has ls 1 [(0, .ref (ext e'))] := hl
  have hV := (hold.1 e' he).2.2.2
  refine lv_aload_n hx hb dJ0_length_8abf5_0 rfl (lv_at hl 0 rfl) ?_
  refine vk_getf hx hb (hold.1 e' he).2.2.1 hS hown (hts _ jf_RJ0_9) (fun _ h => h) dJ0_length_8abf5_1 ?_
  refine va_tlen hx hb hV hS rfl dJ0_length_8abf5_4 ?_
  refine lv_aload_n hx hb dJ0_length_8abf5_5 rfl (lv_at hl 0 rfl) ?_
  refine am_szJ hS hz fun hsz => ?_
  have hgi : GoodIn am_good (wsV RJ0 335 RJ0 yJ0_coder_7d493 (.code yJ0_coder_7d493 cJ0_coder_7d493 1 (some .byte) :: am_good)) := by
    intro w hw
    rcases List.mem_append.mp hw with h | h
    · simp only [List.mem_cons, List.not_mem_nil, or_false] at h
      rcases h with rfl | rfl | rfl | rfl
      · exact am_gi jm_RJ0_335
      · exact am_gi ji_J0_coder_7d493
      · exact am_gi jl_J0_coder_7d493
      · exact am_gi jn_RJ0
    · exact am_giJ jc_J0_coder_7d493 w h
  refine am_afterJ (va_runV (As := []) (b := ext e') (C := RJ0) (Ts := am_good) (nL := 1) ⟨hx, hb, hml, hown, hts⟩ (am_coder (t := t) he) (cwV 0 hts hgi rfl rfl rfl (by decide +kernel) ⟨Nat.le_of_ble_eq_true rfl, Nat.le_of_ble_eq_true rfl⟩) ⟨am_P_blind, hold.1.recv he hS, am_P_at (As := [.ref (ext e')]) hsz hR hst hold hS⟩ rfl rfl hl.1 rfl (lv_room (by simp [Value.category])) dJ0_length_8abf5_6 ⟨Nat.le_refl _, Nat.le_refl _⟩) hS (fun H1 locs1 hR1 hS1 => ?_)
  refine lv_ishr hx hb dJ0_length_8abf5_9 ?_
  rw [sb_shr0, am_sln_at he]
  exact W.iret hx hb hr (fun t' ht _ => ⟨rfl, by rw [ht]; exact hR1, hS1.F ht⟩) hS1.2.2 dJ0_length_8abf5_10 hlocks
set_option maxHeartbeats 4000000 in
theorem am_chk3 {t : am_S} {j n : Int32} {v : Value} (hv3 : v = .null ∨ ∃ q, v = .ref q) (h1 : ¬ j < 0) (h2 : j < n) : am_MJ l D tc N0 ext xv X t yJ3_checkIndex_8e157 cJ3_checkIndex_8e157 3 (some .int) 0 0 [.int j, .int n, v] (some (.int j)) := by
  refine Met.ofW (cc := cJ3_checkIndex_8e157) (maxL := 3) (ret := some .int) (by decide) rfl ?_
  intro p e s m args below meth c s₁ B hml hv
  obtain ⟨rfl, hz, hR, hst, hold⟩ := hv
  have hx := B.exec
  have hb := B.bytes
  have hr := B.returns
  have hlocks := B.notSynchronized
  have hts : ∀ w ∈ am_good, w.before _ s = true := fun w hw => atoms_spec (ws := _) B.pre w (List.mem_cons_of_mem _ hw)
  have hown : s.vm.findClass RJ3 = some m.cls := findClass_of_methodNamed B.named
  have hS : va_S (am_A N0) s.heap s.heap [] := va_S.rf
  have hl := lv_entry ([.int j, .int n, v]) (n := 3) (by rcases hv3 with rfl | ⟨q, rfl⟩ <;> exact Nat.le_of_ble_eq_true rfl)
  rw [lg_entry_eq]
  generalize (lg_sl ([.int j, .int n, v]) ++ List.replicate (3 - (lg_sl ([.int j, .int n, v])).length) Slot.unset).toArray = ls at hl ⊢
  have hl : lv_has ls 3 [(0, .int j), (1, .int n)] := lv_sub hl [0, 1] (by rcases hv3 with rfl | ⟨q, rfl⟩ <;> rfl)
  refine lv_iload_n hx hb dJ3_checkIndex_8e157_0 rfl (lv_at hl 0 rfl) ?_
  refine lv_if_lt (tgt := 9) hx hb dJ3_checkIndex_8e157_1 (by decide) (fun z => absurd z h1) (fun _ => ?_)
  refine lv_iload_n hx hb dJ3_checkIndex_8e157_4 rfl (lv_at hl 0 rfl) ?_
  refine lv_iload_n hx hb dJ3_checkIndex_8e157_5 rfl (lv_at hl 1 rfl) ?_
  refine lv_icmp_lt (tgt := 16) hx hb dJ3_checkIndex_8e157_6 (by decide) (fun _ => ?_) (fun z => absurd h2 z)
  refine lv_iload_n hx hb dJ3_checkIndex_8e157_16 rfl (lv_at hl 0 rfl) ?_
  exact W.iret hx hb hr (fun t' ht _ => ⟨rfl, by rw [ht]; exact hR, hS.F ht⟩) hS.2.2 dJ3_checkIndex_8e157_17 hlocks
theorem am_wsJ {own : String} {idx : Nat} {y : MethodName} {cc : ByteArray} {n : Nat} {r : Option FieldType} (h1 : Jvm.Cond.methodLink own idx y ∈ am_good) (h2 : Jvm.Cond.static y ∈ am_good) (h3 : Jvm.Cond.initialized y.cls ∈ am_good) (h4 : Jvm.Cond.code y cc n r ∈ am_good) : GoodIn am_good (va_wsS own idx y (.code y cc n r :: am_good)) := by
  intro w hw
  rcases List.mem_append.mp hw with h | h
  · simp only [List.mem_cons, List.not_mem_nil, or_false] at h
    rcases h with rfl | rfl | rfl
    · exact am_gi h1
    · exact am_gi h2
    · exact am_gi h3
  · exact am_giJ h4 w h
theorem am_wvJ {own C : String} {idx : Nat} {y : MethodName} {cc : ByteArray} {n : Nat} {r : Option FieldType} (h1 : Jvm.Cond.methodLink own idx y ∈ am_good) (h2 : Jvm.Cond.instanceMethod y ∈ am_good) (h5 : Jvm.Cond.selects C y y ∈ am_good) (h3 : Jvm.Cond.initialized C ∈ am_good) (h4 : Jvm.Cond.code y cc n r ∈ am_good) : GoodIn am_good (wsV own idx C y (.code y cc n r :: am_good)) := by
  intro w hw
  rcases List.mem_append.mp hw with h | h
  · simp only [List.mem_cons, List.not_mem_nil, or_false] at h
    rcases h with rfl | rfl | rfl | rfl
    · exact am_gi h1
    · exact am_gi h2
    · exact am_gi h5
    · exact am_gi h3
  · exact am_giJ h4 w h
set_option maxHeartbeats 4000000 in
theorem am_chk0 {t : am_S} {j n : Int32} (h1 : ¬ j < 0) (h2 : j < n) : am_MJ l D tc N0 ext xv X t yJ0_checkIndex_df160 cJ0_checkIndex_df160 2 none 1 22 [.int j, .int n] none := by
  refine Met.ofW (cc := cJ0_checkIndex_df160) (maxL := 2) (ret := none) (by decide) rfl ?_
  intro p e s m args below meth c s₁ B hml hv
  obtain ⟨rfl, hz, hR, hst, hold⟩ := hv
  have hx := B.exec
  have hb := B.bytes
  have hr := B.returns
  have hlocks := B.notSynchronized
  have hts : ∀ w ∈ am_good, w.before _ s = true := fun w hw => atoms_spec (ws := _) B.pre w (List.mem_cons_of_mem _ hw)
  have hown : s.vm.findClass RJ0 = some m.cls := findClass_of_methodNamed B.named
  have hS : va_S (am_A N0) s.heap s.heap [] := va_S.rf
  have hl := lv_entry ([.int j, .int n]) (n := 2) (Nat.le_of_ble_eq_true rfl)
  rw [lg_entry_eq]
  generalize (lg_sl ([.int j, .int n]) ++ List.replicate (2 - (lg_sl ([.int j, .int n])).length) Slot.unset).toArray = ls at hl ⊢
  have hl : lv_has ls 2 [(0, .int j), (1, .int n)] := hl
  refine lv_iload_n hx hb dJ0_checkIndex_df160_0 rfl (lv_at hl 0 rfl) ?_
  refine lv_iload_n hx hb dJ0_checkIndex_df160_1 rfl (lv_at hl 1 rfl) ?_
  have key : ∀ v : Value, (v = .null ∨ ∃ q, v = .ref q) → W p l e { frames := 1, cells := 0, slots := 0, locals := 22 } s m [.int j, .int n].toArray below meth c s.heap [] 0 0 (MQ below (am_Qc D tc N0 ext none t) [.int j, .int n].toArray s 0 0 (am_A N0)) (F0 m 5 ls (v :: .int n :: .int j :: [])) := by
    intro v hv3
    refine am_szJ hS hz fun hsz => ?_
    refine am_afterJ (va_runS (As := [.int j, .int n, v]) (rest := []) (Ts := am_good) (nL := 2) ⟨hx, hb, hml, hown, hts⟩ (am_chk3 (t := t) hv3 h1 h2) (va_cwS 3 hts (am_wsJ jm_RJ0_1059 js_J3_checkIndex_8e157 jn_RJ3 jc_J3_checkIndex_8e157) rfl rfl rfl (by decide +kernel) ⟨Nat.le_of_ble_eq_true rfl, Nat.le_of_ble_eq_true rfl⟩) ⟨am_P_blind, am_P_at (As := [.int j, .int n, v]) hsz hR hst hold hS⟩ rfl rfl hl.1 rfl (lv_room (by simp)) dJ0_checkIndex_df160_5 ⟨Nat.le_refl _, Nat.le_refl _⟩) hS (fun H1 locs1 hR1 hS1 => ?_)
    refine lv_pop hx hb dJ0_checkIndex_df160_8 rfl ?_
    exact W.vret hx hb hr (fun t' ht _ => ⟨rfl, by rw [ht]; exact hR1, hS1.F ht⟩) hS1.2.2 dJ0_checkIndex_df160_9 hlocks
  rcases hold.2.2.1 with hZ | ⟨q, hZ⟩
  · exact va_gets hx hb hZ hS hown (hts _ jf_RJ0_1053) (fun _ h => h) dJ0_checkIndex_df160_2 (key _ (Or.inl rfl))
  · exact va_gets hx hb hZ hS hown (hts _ jf_RJ0_1053) (fun _ h => h) dJ0_checkIndex_df160_2 (key _ (Or.inr ⟨_, rfl⟩))
set_option maxHeartbeats 4000000 in
theorem am_chr1 {t : am_S} {e' : Nat} (he : e' < 30) {j : Int32} (hj : vp_in j (am_str e').length) : am_MJ l D tc N0 ext xv X t yJ1_charAt_3b067 cJ1_charAt_3b067 2 (some .char) 2 43 [.ref (xv e'), .int j] (some (.int (nI ((am_str e').getD j.toNatClampNeg 0)))) := by
  obtain ⟨hsm, hch⟩ := am_str_small e' he
  obtain ⟨k, hk, rfl⟩ := vp_in_of hj (by omega)
  refine Met.ofW (cc := cJ1_charAt_3b067) (maxL := 2) (ret := some .char) (by decide) rfl ?_
  intro p e s m args below meth c s₁ B hml hv
  obtain ⟨rfl, hz, hR, hst, hold⟩ := hv
  have hx := B.exec
  have hb := B.bytes
  have hr := B.returns
  have hlocks := B.notSynchronized
  have hts : ∀ w ∈ am_good, w.before _ s = true := fun w hw => atoms_spec (ws := _) B.pre w (List.mem_cons_of_mem _ hw)
  have hown : s.vm.findClass RJ1 = some m.cls := findClass_of_methodNamed B.named
  have hS : va_S (am_A N0) s.heap s.heap [] := va_S.rf
  have hl := lv_entry ([.ref (xv e'), .int (nI k)]) (n := 2) (Nat.le_of_ble_eq_true rfl)
  rw [lg_entry_eq]
  generalize (lg_sl ([.ref (xv e'), .int (nI k)]) ++ List.replicate (2 - (lg_sl ([.ref (xv e'), .int (nI k)])).length) Slot.unset).toArray = ls at hl ⊢
  have hl : lv_has ls 2 [(0, .ref (xv e')), (1, .int (nI k))] := hl
  have hV := (hold.1 e' he).2.2.2
  rw [am_sln_at he, am_sby_at he] at hV
  refine lv_iload_n hx hb dJ1_charAt_3b067_0 rfl (lv_at hl 1 rfl) ?_
  refine lv_aload_n hx hb dJ1_charAt_3b067_1 rfl (lv_at hl 0 rfl) ?_
  refine va_tlen hx hb hV hS rfl dJ1_charAt_3b067_2 ?_
  refine am_szJ hS hz fun hsz => ?_
  refine am_afterJ (va_runS (As := [.int (nI k), .int (Int32.ofNat (am_str e').length)]) (rest := []) (Ts := am_good) (nL := 2) ⟨hx, hb, hml, hown, hts⟩ (am_chk0 (t := t) (nI_pos (by omega)) (nI_lt hk (by omega))) (va_cwS 2 hts (am_wsJ jm_RJ1_9 js_J0_checkIndex_df160 jn_RJ0 jc_J0_checkIndex_df160) rfl rfl rfl (by decide +kernel) ⟨Nat.le_of_ble_eq_true rfl, Nat.le_of_ble_eq_true rfl⟩) ⟨am_P_blind, am_P_at (As := [.int (nI k), .int (Int32.ofNat (am_str e').length)]) hsz hR hst hold hS⟩ rfl rfl hl.1 rfl (lv_room (by simp)) dJ1_charAt_3b067_3 ⟨Nat.le_refl _, Nat.le_refl _⟩) hS (fun H1 locs1 hR1 hS1 => ?_)
  refine lv_aload_n hx hb dJ1_charAt_3b067_6 rfl (lv_at hl 0 rfl) ?_
  refine lv_iload_n hx hb dJ1_charAt_3b067_7 rfl (lv_at hl 1 rfl) ?_
  have hkk : (nI k).toNatClampNeg = k := nI_clamp (by omega)
  have hv : (fun j => Value.int (((am_str e').map fun c => (nI c).toInt8.toInt32).getD j 0)) (nI k).toNatClampNeg = .int (nI ((am_str e').getD k 0)).toInt8.toInt32 := by
    rw [hkk]
    simp [List.getD_eq_getElem?_getD, hk]
  refine va_tb hx hb hV hS1 hj hv dJ1_charAt_3b067_8 ?_
  refine lv_sipush (v := 255) hx hb dJ1_charAt_3b067_9 (by decide) ?_
  refine lv_iand hx hb dJ1_charAt_3b067_12 ?_
  have hc : (am_str e').getD k 0 < 128 := hch k (by omega)
  refine lv_i2c (v := nI ((am_str e').getD k 0)) hx hb dJ1_charAt_3b067_13 ?_ ?_
  · rw [sc_c2, sc_k8 _ (by omega)]
  · rw [hkk]
    exact W.zret (ty := .char) hx hb hr (pk_charN (by omega)).1 (fun t' ht _ => ⟨rfl, by rw [ht]; exact hR1, hS1.F ht⟩) hS1.2.2 dJ1_charAt_3b067_14 hlocks
set_option maxHeartbeats 4000000 in
theorem am_chr0 {t : am_S} {e' : Nat} (he : e' < 30) {j : Int32} (hj : vp_in j (am_str e').length) : am_MJ l D tc N0 ext xv X t yJ0_charAt_5068e cJ0_charAt_5068e 2 (some .char) 3 64 [.ref (ext e'), .int j] (some (.int (nI ((am_str e').getD j.toNatClampNeg 0)))) := by
  obtain ⟨hsm, hch⟩ := am_str_small e' he
  refine Met.ofW (cc := cJ0_charAt_5068e) (maxL := 2) (ret := some .char) (by decide) rfl ?_
  intro p e s m args below meth c s₁ B hml hv
  obtain ⟨rfl, hz, hR, hst, hold⟩ := hv
  have hx := B.exec
  have hb := B.bytes
  have hr := B.returns
  have hlocks := B.notSynchronized
  have hts : ∀ w ∈ am_good, w.before _ s = true := fun w hw => atoms_spec (ws := _) B.pre w (List.mem_cons_of_mem _ hw)
  have hown : s.vm.findClass RJ0 = some m.cls := findClass_of_methodNamed B.named
  have hS : va_S (am_A N0) s.heap s.heap [] := va_S.rf
  have hl := lv_entry ([.ref (ext e'), .int j]) (n := 2) (Nat.le_of_ble_eq_true rfl)
  rw [lg_entry_eq]
  generalize (lg_sl ([.ref (ext e'), .int j]) ++ List.replicate (2 - (lg_sl ([.ref (ext e'), .int j])).length) Slot.unset).toArray = ls at hl ⊢
  have hl : lv_has ls 2 [(0, .ref (ext e')), (1, .int j)] := hl
  refine lv_aload_n hx hb dJ0_charAt_5068e_0 rfl (lv_at hl 0 rfl) ?_
  refine am_szJ hS hz fun hsz => ?_
  refine am_afterJ (va_runV (As := []) (b := ext e') (C := RJ0) (Ts := am_good) (nL := 2) ⟨hx, hb, hml, hown, hts⟩ (am_isLatin1 (t := t) he) (cwV 0 hts (am_wvJ jm_RJ0_492 ji_J0_isLatin1_aae02 jl_J0_isLatin1_aae02 jn_RJ0 jc_J0_isLatin1_aae02) rfl rfl rfl (by decide +kernel) ⟨Nat.le_of_ble_eq_true rfl, Nat.le_of_ble_eq_true rfl⟩) ⟨am_P_blind, hold.1.recv he hS, am_P_at (As := [.ref (ext e')]) hsz hR hst hold hS⟩ rfl rfl hl.1 rfl (lv_room (by simp)) dJ0_charAt_5068e_1 ⟨Nat.le_refl _, Nat.le_refl _⟩) hS (fun H1 locs1 hR1 hS1 => ?_)
  refine lv_if_eq (tgt := 16) hx hb dJ0_charAt_5068e_4 (by decide) (fun z => absurd z (by decide)) (fun _ => ?_)
  refine lv_aload_n hx hb dJ0_charAt_5068e_7 rfl (lv_at hl 0 rfl) ?_
  refine vk_getf hx hb (hold.1 e' he).2.2.1 hS1 hown (hts _ jf_RJ0_9) (fun _ h => h) dJ0_charAt_5068e_8 ?_
  refine lv_iload_n hx hb dJ0_charAt_5068e_11 rfl (lv_at hl 1 rfl) ?_
  refine am_szJ hS1 hz fun hsz1 => ?_
  refine am_afterJ (va_runS (As := [.ref (xv e'), .int j]) (rest := []) (Ts := am_good) (nL := 2) ⟨hx, hb, hml, hown, hts⟩ (am_chr1 (t := t) he hj) (va_cwS 2 hts (am_wsJ jm_RJ0_495 js_J1_charAt_3b067 jn_RJ1 jc_J1_charAt_3b067) rfl rfl rfl (by decide +kernel) ⟨Nat.le_of_ble_eq_true rfl, Nat.le_of_ble_eq_true rfl⟩) ⟨am_P_blind, am_P_at (As := [.ref (xv e'), .int j]) hsz1 hR1 hst hold hS1⟩ rfl rfl hl.1 rfl (lv_room (by simp)) dJ0_charAt_5068e_12 ⟨Nat.le_refl _, Nat.le_refl _⟩) hS1 (fun H2 locs2 hR2 hS2 => ?_)
  have hc : (am_str e').getD j.toNatClampNeg 0 < 128 := by
    obtain ⟨k, hk, e1⟩ := vp_in_of hj (by omega)
    rw [e1, nI_clamp (by omega)]
    exact hch k (by omega)
  exact W.zret (ty := .char) hx hb hr (pk_charN (by omega)).1 (fun t' ht _ => ⟨rfl, by rw [ht]; exact hR2, hS2.F ht⟩) hS2.2.2 dJ0_charAt_5068e_15 hlocks
theorem am_strs : am_Strs l D tc N0 ext xv X := ⟨fun e he t => am_length he, fun e he t j hj => am_chr0 he hj⟩
end SIM
