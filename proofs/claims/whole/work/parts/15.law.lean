def R_law : String := "WetPaintLaw"
def lw_P (b : Addr) (xs : List Int32) (args : Array Value) (s : State) : Prop := args = #[.ref b] ∧ s.IntsAt b xs ∧ xs.length ≤ 3584 ∧ (Jvm.Cond.and given_1 narrow_1).before args s = true
def lw_Q (_ : Array Value) (s : State) (o : Outcome) (t : State) : Prop := o = .returned (some (.int 1)) ∧ Framed s o t [] 600000 7302250
def lw_Z (below : List Frame) (a : Array Value) (s : State) : State → Prop := fun t => ∃ o, t.status = .running ∧ Ended t below o ∧ lw_Q a s o t
/-- the law's own end, with 1 on the stack, nothing written that was there before, its room as the claim has it -/
theorem lw_ret {p : Program} {l : Launch} {e : Env} {s : State} {m : MethodId} {below : List Frame} {meth : Method} {c : Code} {b : Nat} (hx : p.tables.exec = Jvm.exec) (hb : c.code = code) (hr : meth.sig.returnType = ret) (hlocks : meth.locks = false) {pc : Nat} {H : Heap} {ls : Array Slot} (hdg : decode code pc = .ok (.ireturn, 1)) : W p l e room_1 s m #[Value.ref b] below meth c H [] 600000 7302250 (lw_Z below #[Value.ref b] s) (F0 m pc ls [.int 1]) := by
  intro T hT X
  obtain ⟨fs, hret, hrun, hended, hW, hframe⟩ := X.leave (v := some (.int 1)) (hlocks := hlocks) (fun h => by rw [hr] at h; cases h)
  have hmeth' : T.vm.method? m = some meth := X.method'
  refine ⟨T.setFrames fs, ?_, .returned (some (.int 1)), hrun, hended, rfl, ⟨_, rfl⟩, hW, hframe⟩
  jvm_step X.here [X.here.top, hx, hb, hdg, hmeth', hr, ret, narrow_b1]
  (try refine ⟨rfl, ?_⟩); (try refine ⟨rfl, ?_⟩)
  first | (intro acts; rw [hret _ acts rfl rfl rfl]) | rw [hret _ _ rfl rfl rfl]
  exact Steps.refl _
/-- what holds at the law's entry: the machine, the code, the tables' words (any of lw_tbl by 'hts w (by decide +kernel)'), the script of L ints xs at the cell b, what the Statement gives of the start (any of its parts by flat_of_before) -/
def lw_At (p : Program) (s : State) (m : MethodId) (meth : Method) (c : Code) (b L : Nat) (xs : Nat → Int32) : Prop :=
  p.tables.exec = Jvm.exec ∧ c.code = code ∧ meth.sig.returnType = ret ∧ c.maxLocals = 4 ∧ s.vm.findClass R_law = some m.cls ∧ (∀ w ∈ lw_tbl, w.before #[Value.ref b] s = true) ∧ va_X b L xs s s.heap ∧ b < s.heap.size ∧ meth.locks = false ∧ (Jvm.Cond.and given_1 narrow_1).before #[Value.ref b] s = true
def am_tm (e : Nat) : Term := .string RX4 (am_six e)
def am_vl (e : Nat) : Term := .field (am_tm e) "java/lang/String" "value" "[B"
def am_nar : List Jvm.Cond := flatC (Jvm.Cond.and given_1 narrow_1)
def am_np (pos : Nat) (w : Jvm.Cond) : Bool := decide (am_nar[pos]? = some w)
def am_scC (e : Nat) (ps : List Nat) : Bool := am_np (ps.getD 0 0) (.exactly (am_tm e) "java/lang/String") && am_np (ps.getD 1 0) (.eq (.field (am_tm e) "java/lang/String" "coder" "B") (.int 0)) && am_np (ps.getD 2 0) (.arrayOf (am_vl e) .byte) && am_np (ps.getD 3 0) (.eq (.length (am_vl e)) (.int (Int32.ofNat (am_sln.getD e 0)))) && (List.range (am_sln.getD e 0)).all (fun j => am_np (ps.getD (4 + j) 0) (.eq (.elem (am_vl e) (.int (Int32.ofNat j))) (.int ((am_sby.getD e []).getD j 0))))
set_option maxRecDepth 100000 in
theorem am_sc_0 : am_scC 0 [39, 40, 41, 42, 43, 44, 45, 46] = true := by decide +kernel
set_option maxRecDepth 100000 in
theorem am_sc_1 : am_scC 1 [47, 48, 49, 50, 51, 52, 53, 54, 55] = true := by decide +kernel
set_option maxRecDepth 100000 in
theorem am_sc_2 : am_scC 2 [56, 57, 58, 59, 60, 61, 62, 63, 64, 65] = true := by decide +kernel
set_option maxRecDepth 100000 in
theorem am_sc_3 : am_scC 3 [66, 67, 68, 69, 70, 71, 72, 73, 74, 75] = true := by decide +kernel
set_option maxRecDepth 100000 in
theorem am_sc_4 : am_scC 4 [76, 77, 78, 79, 80, 81, 82, 83, 84] = true := by decide +kernel
set_option maxRecDepth 100000 in
theorem am_sc_5 : am_scC 5 [85, 86, 87, 88, 89, 90, 91, 92, 93, 94, 95] = true := by decide +kernel
set_option maxRecDepth 100000 in
theorem am_sc_6 : am_scC 6 [96, 97, 98, 99, 100, 101, 102, 103] = true := by decide +kernel
set_option maxRecDepth 100000 in
theorem am_sc_7 : am_scC 7 [104, 105, 106, 107, 108, 109, 110, 111, 112] = true := by decide +kernel
set_option maxRecDepth 100000 in
theorem am_sc_8 : am_scC 8 [113, 114, 115, 116, 117, 118, 119, 120, 121, 122] = true := by decide +kernel
set_option maxRecDepth 100000 in
theorem am_sc_9 : am_scC 9 [123, 124, 125, 126, 127, 128, 129, 130, 131] = true := by decide +kernel
set_option maxRecDepth 100000 in
theorem am_sc_10 : am_scC 10 [132, 133, 134, 135, 136, 137, 138, 139] = true := by decide +kernel
set_option maxRecDepth 100000 in
theorem am_sc_11 : am_scC 11 [140, 141, 142, 143, 144, 145, 146, 147, 148] = true := by decide +kernel
set_option maxRecDepth 100000 in
theorem am_sc_12 : am_scC 12 [149, 150, 151, 152, 153, 154, 155, 156] = true := by decide +kernel
set_option maxRecDepth 100000 in
theorem am_sc_13 : am_scC 13 [157, 158, 159, 160, 161, 162, 163, 164, 165] = true := by decide +kernel
set_option maxRecDepth 100000 in
theorem am_sc_14 : am_scC 14 [166, 167, 168, 169, 170, 171, 172, 173, 174, 175] = true := by decide +kernel
set_option maxRecDepth 100000 in
theorem am_sc_15 : am_scC 15 [176, 177, 178, 179, 180, 181, 182] = true := by decide +kernel
set_option maxRecDepth 100000 in
theorem am_sc_16 : am_scC 16 [183, 184, 185, 186, 187] = true := by decide +kernel
set_option maxRecDepth 100000 in
theorem am_sc_17 : am_scC 17 [188, 189, 190, 191, 192] = true := by decide +kernel
set_option maxRecDepth 100000 in
theorem am_sc_18 : am_scC 18 [193, 194, 195, 196, 197] = true := by decide +kernel
set_option maxRecDepth 100000 in
theorem am_sc_19 : am_scC 19 [198, 199, 200, 201, 202] = true := by decide +kernel
set_option maxRecDepth 100000 in
theorem am_sc_20 : am_scC 20 [203, 204, 205, 206, 207, 208] = true := by decide +kernel
set_option maxRecDepth 100000 in
theorem am_sc_21 : am_scC 21 [209, 210, 211, 212, 213, 214, 215] = true := by decide +kernel
set_option maxRecDepth 100000 in
theorem am_sc_22 : am_scC 22 [216, 217, 218, 219, 220, 221, 222] = true := by decide +kernel
set_option maxRecDepth 100000 in
theorem am_sc_23 : am_scC 23 [223, 224, 225, 226, 227, 228, 229, 230, 231, 232] = true := by decide +kernel
set_option maxRecDepth 100000 in
theorem am_sc_24 : am_scC 24 [233, 234, 235, 236, 237, 238, 239, 240] = true := by decide +kernel
set_option maxRecDepth 100000 in
theorem am_sc_25 : am_scC 25 [241, 242, 243, 244, 245, 246, 247] = true := by decide +kernel
set_option maxRecDepth 100000 in
theorem am_sc_26 : am_scC 26 [248, 249, 250, 251, 252, 253, 254, 255, 256] = true := by decide +kernel
set_option maxRecDepth 100000 in
theorem am_sc_27 : am_scC 27 [257, 258, 259, 260, 261, 262, 263, 264, 265] = true := by decide +kernel
set_option maxRecDepth 100000 in
theorem am_sc_28 : am_scC 28 [266, 267, 268, 269, 270, 271, 272, 273, 274] = true := by decide +kernel
set_option maxRecDepth 100000 in
theorem am_sc_29 : am_scC 29 [275, 276, 277, 278, 279, 280, 281, 282] = true := by decide +kernel
theorem am_scA : ∀ e, e < 30 → ∃ ps, am_scC e ps = true := lt_s (i := 29) (lt_s (i := 28) (lt_s (i := 27) (lt_s (i := 26) (lt_s (i := 25) (lt_s (i := 24) (lt_s (i := 23) (lt_s (i := 22) (lt_s (i := 21) (lt_s (i := 20) (lt_s (i := 19) (lt_s (i := 18) (lt_s (i := 17) (lt_s (i := 16) (lt_s (i := 15) (lt_s (i := 14) (lt_s (i := 13) (lt_s (i := 12) (lt_s (i := 11) (lt_s (i := 10) (lt_s (i := 9) (lt_s (i := 8) (lt_s (i := 7) (lt_s (i := 6) (lt_s (i := 5) (lt_s (i := 4) (lt_s (i := 3) (lt_s (i := 2) (lt_s (i := 1) (lt_s (i := 0) (lt_0) ⟨_, am_sc_0⟩) ⟨_, am_sc_1⟩) ⟨_, am_sc_2⟩) ⟨_, am_sc_3⟩) ⟨_, am_sc_4⟩) ⟨_, am_sc_5⟩) ⟨_, am_sc_6⟩) ⟨_, am_sc_7⟩) ⟨_, am_sc_8⟩) ⟨_, am_sc_9⟩) ⟨_, am_sc_10⟩) ⟨_, am_sc_11⟩) ⟨_, am_sc_12⟩) ⟨_, am_sc_13⟩) ⟨_, am_sc_14⟩) ⟨_, am_sc_15⟩) ⟨_, am_sc_16⟩) ⟨_, am_sc_17⟩) ⟨_, am_sc_18⟩) ⟨_, am_sc_19⟩) ⟨_, am_sc_20⟩) ⟨_, am_sc_21⟩) ⟨_, am_sc_22⟩) ⟨_, am_sc_23⟩) ⟨_, am_sc_24⟩) ⟨_, am_sc_25⟩) ⟨_, am_sc_26⟩) ⟨_, am_sc_27⟩) ⟨_, am_sc_28⟩) ⟨_, am_sc_29⟩
theorem am_np_s {pos : Nat} {w : Jvm.Cond} (h : am_np pos w = true) : w ∈ am_nar := List.mem_of_getElem? (by simpa [am_np] using h)
def am_srp (e : Nat) : Nat := (bif Nat.ble 15 e then (bif Nat.ble 22 e then (bif Nat.ble 26 e then (bif Nat.ble 28 e then (bif Nat.ble 29 e then 679 else 678) else (bif Nat.ble 27 e then 677 else 676)) else (bif Nat.ble 24 e then (bif Nat.ble 25 e then 664 else 663) else (bif Nat.ble 23 e then 662 else 661))) else (bif Nat.ble 18 e then (bif Nat.ble 20 e then (bif Nat.ble 21 e then 660 else 659) else (bif Nat.ble 19 e then 658 else 657)) else (bif Nat.ble 16 e then (bif Nat.ble 17 e then 656 else 655) else 654))) else (bif Nat.ble 7 e then (bif Nat.ble 11 e then (bif Nat.ble 13 e then (bif Nat.ble 14 e then 582 else 581) else (bif Nat.ble 12 e then 580 else 579)) else (bif Nat.ble 9 e then (bif Nat.ble 10 e then 578 else 577) else (bif Nat.ble 8 e then 576 else 575))) else (bif Nat.ble 3 e then (bif Nat.ble 5 e then (bif Nat.ble 6 e then 574 else 573) else (bif Nat.ble 4 e then 572 else 571)) else (bif Nat.ble 1 e then (bif Nat.ble 2 e then 570 else 569) else 568))))
set_option maxRecDepth 100000 in
theorem am_srA : ∀ e, e < 30 → decide (lw_tbl[am_srp e]? = some (Jvm.Cond.stringRef RX4 (am_six e) (am_stx e))) = true := by decide +kernel
theorem am_srB (e : Nat) (he : e < 30) : Jvm.Cond.stringRef RX4 (am_six e) (am_stx e) ∈ lw_tbl := List.mem_of_getElem? (of_decide_eq_true (am_srA e he))
theorem am_sk {args : Array Value} {s : State} (hgv : (Jvm.Cond.and given_1 narrow_1).before args s = true) : ∃ ext xv : Nat → Nat, am_SK s.heap.size ext xv s s.heap ∧ ∀ i, i < 30 → (am_tm i).eval args s none [] s = some (.ref (ext i)) := by
  have hs := flat_of_before _ hgv
  have key : ∀ i, ∃ q : Nat × Nat, i < 30 → (va_O "java/lang/String" q.1 (am_A s.heap.size) s s.heap ∧ va_OF "java/lang/String" "coder" "B" (.int 0) q.1 (am_A s.heap.size) s s.heap ∧ va_OF "java/lang/String" "value" "[B" (.ref q.2) q.1 (am_A s.heap.size) s s.heap ∧ va_T .byte q.2 (am_sln.getD i 0) (fun j => .int ((am_sby.getD i []).getD j 0)) (am_A s.heap.size) s s.heap) ∧ (am_tm i).eval args s none [] s = some (.ref q.1) := by
    intro i
    by_cases hi : i < 30
    · obtain ⟨ps, hB⟩ := am_scA i hi
      simp only [am_scC, Bool.and_eq_true, List.all_eq_true, List.mem_range] at hB
      obtain ⟨⟨⟨⟨b1, b2⟩, b3⟩, b4⟩, b5⟩ := hB
      have b1 := am_np_s b1
      have b2 := am_np_s b2
      have b3 := am_np_s b3
      have b4 := am_np_s b4
      have b5 := fun j hj => am_np_s (b5 j hj)
      obtain ⟨adK, adV, h1, h2⟩ := vk_Sof (args := args) (s := s) (N := 1) (tm := fun _ => am_tm i) (len := [am_sln.getD i 0]) (byt := [am_sby.getD i []]) (A := am_A s.heap.size) (fun k hk => by
        have : k = 0 := by omega
        subst this
        show am_sln.getD i 0 < _
        rw [am_sln_at hi]
        have := (am_str_small i hi).1
        omega) (fun k _ => hs _ b1) (fun k _ => hs _ b2) (fun k _ => hs _ b3) (fun k hk => by
        have : k = 0 := by omega
        subst this
        exact hs _ b4) (fun k hk j hj => by
        have : k = 0 := by omega
        subst this
        exact hs _ (b5 j hj)) (fun a b ha hb hne => absurd (show a = b by omega) hne) (fun a ha => Nat.not_le.mpr ha)
      exact ⟨(adK 0, adV 0), fun _ => ⟨h1.1 0 (by omega), h2 0 (by omega)⟩⟩
    · exact ⟨(0, 0), fun h => absurd h hi⟩
  obtain ⟨q, hq⟩ := Classical.axiomOfChoice key
  exact ⟨fun i => (q i).1, fun i => (q i).2, fun i hi => (hq i hi).1, fun i hi => (hq i hi).2⟩
def am_s0 : am_S := ([], fun _ _ => none, fun _ _ => 0, fun _ _ => 0)
theorem am_arr0 {args : Array Value} {s : State} {ty : FieldType} (h : (Jvm.Cond.arrayClass ty).before args s = true) (hp : ∀ C, ty ≠ .object C) : ∃ cA, ArrOfT s cA ty ∧ va_RA s cA ty := by
  obtain ⟨cA, k, comp, h1, h2, h3⟩ := Cond.arrayClass_spec h
  refine ⟨cA, fun n z => ⟨fun k h => (by cases h), k, h2, comp, h3⟩, ?_⟩
  cases ty <;> first | exact h1 | exact absurd rfl (hp _)
theorem am_arr1 {s : State} {C : String} (h : va_AO C s) : ∃ cA, ArrOfT s cA (.object C) ∧ va_RA s cA (.object C) := by
  obtain ⟨comp, cA, k, h1, h2, h3, h4, h5⟩ := Cond.arrayOver_spec h
  exact ⟨cA, fun n z => ⟨fun k h => (by cases h), k, h3, comp, h4⟩, k, comp, h3, h4, h1, h5⟩
set_option maxRecDepth 100000 in
theorem am_instB : ∀ c, c < 10 → Jvm.Cond.instantiable (am_cn c) (am_nf c) ∈ lw_tbl := by decide +kernel
set_option maxRecDepth 100000 in
theorem am_aoB : Jvm.Cond.arrayOver (.object RX3) ∈ lw_tbl ∧ Jvm.Cond.arrayOver (.object RX5) ∈ lw_tbl ∧ Jvm.Cond.arrayOver (.object RX6) ∈ lw_tbl ∧ Jvm.Cond.laysStatic "java/lang/String" "COMPACT_STRINGS" "Z" ∈ lw_tbl ∧ Jvm.Cond.laysStatic "jdk/internal/util/Preconditions" "SIOOBE_FORMATTER" "Ljava/util/function/BiFunction;" ∈ lw_tbl := by decide +kernel
set_option maxRecDepth 100000 in
theorem am_narB : Jvm.Cond.eq (.static "java/lang/String" "COMPACT_STRINGS" "Z") (.int 1) ∈ am_nar ∧ Jvm.Cond.isRef (.static "jdk/internal/util/Preconditions" "SIOOBE_FORMATTER" "Ljava/util/function/BiFunction;") ∈ am_nar := by decide +kernel
set_option maxHeartbeats 4000000 in
theorem am_whole (hF : am_Fact) (hrun : ∀ X : Nat × (Nat → Int32), X.1 ≤ 3584 → ∃ n t', am_ev X n 272 0 (am_L0 272 [.retAddr 1000]) [] am_s0 = some (some (.int 1), t') ∧ t'.1.length ≤ 600000 ∧ am_sz t'.1 ≤ 7302250)
    {p : Program} {e : Env} {s : State} {m : MethodId} {below : List Frame} {meth : Method} {c : Code} (l : Launch) {b L : Nat} {xs : Nat → Int32} (hL : L ≤ 3584) (C0 : lw_At p s m meth c b L xs) : W p l e room_1 s m #[Value.ref b] below meth c s.heap [] 0 0 (lw_Z below #[Value.ref b] s) (entryFrame m ([Value.ref b] : List Value).toArray 4) := by
  obtain ⟨hx, hb, hr, hml, hown, hts, hX, hbl, hlocks, hgv⟩ := id C0
  obtain ⟨n, t', hev, hc1, hc2⟩ := hrun (L, xs) hL
  obtain ⟨ext0, xv, hsk, hev0⟩ := am_sk hgv
  obtain ⟨ext, hx0, hx1⟩ : ∃ ext : Nat → Nat, (∀ i, i < 30 → ext i = ext0 i) ∧ ext 1000 = b := ⟨fun i => if i = 1000 then b else ext0 i, fun i hi => if_neg (by omega), if_pos rfl⟩
  have htg : ∀ w ∈ am_good, w.before #[Value.ref b] s = true := fun w hw => hts w (List.mem_filter.mp hw).1
  have gl := am_glob
  simp only [Bool.and_eq_true] at gl
  have hAO : va_AO RX3 s ∧ va_AO RX5 s ∧ va_AO RX6 s := ⟨hts _ am_aoB.1, hts _ am_aoB.2.1, hts _ am_aoB.2.2.1⟩
  have hnar := flat_of_before _ hgv
  have hA : ∀ a : Nat, a < s.heap.size → ¬ am_A s.heap.size a := fun a ha => Nat.not_le.mpr ha
  have hZ := va_Zof (A := am_A s.heap.size) (hts _ am_aoB.2.2.2.1) (htg _ jn_RJ0) (va_eqi (hnar _ am_narB.1)) hA
  have hZq := va_Zqof (A := am_A s.heap.size) (hts _ am_aoB.2.2.2.2) (htg _ jn_RJ3) (hnar _ am_narB.2) hA
  have hkn : ∀ k, ∃ q : ClassId × (Nat → Nat), k < 10 → u_Kn s (am_cn k) (am_T k) (am_nf k) q.1 q.2 := by
    intro k
    by_cases hk : k < 10
    · obtain ⟨cC, iS, h⟩ := u_known (C := am_cn k) (T := am_T k) (N := am_nf k) (n := am_nf k) htg (am_uws k hk) (hts _ (am_instB k hk))
      exact ⟨(cC, iS), fun _ => h⟩
    · exact ⟨(0, fun _ => 0), fun h => absurd h hk⟩
  obtain ⟨q, hq⟩ := Classical.axiomOfChoice hkn
  obtain ⟨a0, w0⟩ := am_arr0 (ty := .int) (htg _ (am_at_s gl.1.1.2)) (fun C h => by cases h)
  obtain ⟨a1, w1⟩ := am_arr0 (ty := .byte) (htg _ (am_at_s gl.1.2)) (fun C h => by cases h)
  obtain ⟨a2, w2⟩ := am_arr0 (ty := .boolean) (htg _ (am_at_s (of_decide_eq_true gl.2))) (fun C h => by cases h)
  obtain ⟨a3, w3⟩ := am_arr1 hAO.1
  obtain ⟨a4, w4⟩ := am_arr1 hAO.2.1
  obtain ⟨a5, w5⟩ := am_arr1 hAO.2.2
  obtain ⟨tc, t0, t1, t2, t3, t4, t5⟩ : ∃ tc : Nat → ClassId, tc 0 = a0 ∧ tc 1 = a1 ∧ tc 2 = a2 ∧ tc 3 = a3 ∧ tc 4 = a4 ∧ tc 5 = a5 := ⟨fun k => match k with | 0 => a0 | 1 => a1 | 2 => a2 | 3 => a3 | 4 => a4 | _ => a5, rfl, rfl, rfl, rfl, rfl, rfl⟩
  subst t0; subst t1; subst t2; subst t3; subst t4; subst t5
  have hK : va_K (fun k => (q k).1, fun k => (q k).2) vwCl (am_tys tc) s := by
    refine ⟨fun k r hk => ?_, fun k r hk => ?_⟩
    · have hk10 : k < 10 := (List.getElem?_eq_some_iff.mp hk).1
      have := (am_cls k hk10).1.symm.trans hk
      cases this
      exact hq k hk10
    · match k, hk with
      | 0, hk => cases hk; exact w0
      | 1, hk => cases hk; exact w1
      | 2, hk => cases hk; exact w2
      | 3, hk => cases hk; exact w3
      | 4, hk => cases hk; exact w4
      | 5, hk => cases hk; exact w5
      | k + 6, hk => simp [am_tys] at hk
  have hst : am_Stt (fun k => (q k).1, fun k => (q k).2) tc ext s := by
    refine ⟨hK, fun w hw hn => ?_, hAO, fun i hi => ?_⟩
    · have := hts w hw
      cases w <;> first | exact va_Nw.of rfl this | (simp [am_isN] at hn; done)
    · rw [hx0 i hi]
      have h1 := hts _ (am_srB i hi)
      have h2 := hev0 i hi
      exact vk_R.of h1 h2
  have hold : am_Old s.heap.size ext xv (L, xs) s s.heap := by
    refine ⟨fun i hi => ?_, hZ, hZq, ?_, ?_, Nat.le_refl _⟩
    · have := hsk i hi
      rw [hx0 i hi]
      exact this
    · rw [hx1]; exact hX
    · rw [hx1]; exact hbl
  have C : am_C p s m #[Value.ref b] c (fun k => (q k).1, fun k => (q k).2) tc s.heap.size ext xv (L, xs) 272 0 := ⟨hx, hb, hml, hown, htg, hst, hold, rfl⟩
  have hrets : am_Rets p l e room_1 s m #[Value.ref b] below meth c (lw_Z below #[Value.ref b] s) (fun k => (q k).1, fun k => (q k).2) tc s.heap.size ext 272 0 0 (some (.int 1)) t' := by
    intro pc ls H locs hR hS h0 h1
    refine ⟨?_, ?_, ?_, ?_⟩
    · intro x hd e1 e2
      cases e1
      refine va_forget (fun q hq => hS.2.2 q hq) ?_
      refine W.widen (k := 600000) (n := 7302250) (by omega) (by omega) ?_
      exact lw_ret hx hb hr hlocks hd
    · intro x hd e1 e2
      cases e1
    · intro v hd e1 e2 e3
      cases e1
      rcases e2 with e2 | ⟨a, e2⟩ <;> cases e2
    · intro hd e1 e2
      cases e1
  have hsim := am_simW (s0 := 0) hF C (fun h => absurd h (by decide +kernel)) ⟨by decide +kernel, by decide +kernel⟩ am_strs hrets (by show t'.1.length - 0 ≤ 600000; omega) (by show am_sz t'.1 - 0 ≤ 7302250; omega) n (fun j hj k As t v t2 a b c => am_mets hF am_strs j k As t v t2 a b c) 0 (am_L0 272 [.retAddr 1000]) [] am_s0 (am_L0_len (by decide +kernel)) hev
  have hR0 : am_Rep (fun k => (q k).1, fun k => (q k).2) tc s.heap.size am_s0 s.heap := ⟨fun k q h => by simp [am_ws, am_s0] at h, fun i n h => by simp [am_s0] at h, fun i c n h => by simp [am_s0] at h⟩
  have hLR := am_L0_LR (N0 := s.heap.size) (ext := ext) (k := 272) (As := [.retAddr 1000]) (by decide +kernel)
  have key := hsim.2 s.heap [] _ hR0 va_S.rf hLR (Nat.le_refl _) (Nat.le_refl _)
  have e5 : List.map (am_tr s.heap.size ext) [Value.retAddr 1000] = [Value.ref b] := by simp [am_tr, hx1]
  rw [e5] at key
  rw [lg_entry_eq]
  exact key
