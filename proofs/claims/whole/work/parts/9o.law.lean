/-! the law, case by case -/
section LAW
variable {X : Nat × (Nat → Int32)} {m pc len t : Nat} {L : am_L} {S : List Value} {R : Option Value × am_S} {s : am_S} {l : List (Nat × Nat)} {r : am_R} {h : am_F} {j : am_J}
theorem g_eqT {v : Int32} {off : Int} {a : List Nat} (p1 : Nat) (hp : am_tg pc off = p1) (hc : am_code m pc = some (.if_icmp .eq off, len, a)) (k : Ev X m p1 L S s R) : Ev X m pc L (.int v :: .int v :: S) s R := by
  subst hp
  exact ev_go (P := True) hc (fun _ K => show (if v = v then K (am_tg pc off) L S s else K (pc + 3) L S s) = K (am_tg pc off) L S s from if_pos rfl) (fun _ => k) trivial
theorem g_bool {x : Int32} {p3 p4 p7 n1 n2 n3 n4 : Nat} {o1 o2 : Int} {a1 a2 a3 a4 : List Nat} (p8 : Nat) (hc1 : am_code m pc = some (.ifCond .eq o1, n1, a1)) (h3 : pc + 3 = p3) (h7 : am_tg pc o1 = p7) (hc2 : am_code m p3 = some (.iconst 1, n2, a2)) (h4 : p3 + 1 = p4) (hc3 : am_code m p4 = some (.goto o2, n3, a3)) (h8 : am_tg p4 o2 = p8) (hc4 : am_code m p7 = some (.iconst 0, n4, a4)) (h9 : p7 + 1 = p8) (k : Ev X m p8 L (.int (if x = 0 then 0 else 1) :: S) s R) : Ev X m pc L (.int x :: S) s R := by
  by_cases c : x = 0
  · rw [if_pos c] at k
    subst h7; subst h9
    exact ev_go (P := True) hc1 (fun _ K => show (if x = 0 then K (am_tg pc o1) L S s else K (pc + 3) L S s) = K (am_tg pc o1) L S s from if_pos c) (fun _ => ev_go (P := True) hc4 (fun _ _ => rfl) (fun _ => k) trivial) trivial
  · rw [if_neg c] at k
    subst h3; subst h4; subst h8
    exact ev_go (P := True) hc1 (fun _ K => show (if x = 0 then K (am_tg pc o1) L S s else K (pc + 3) L S s) = K (pc + 3) L S s from if_neg c) (fun _ => ev_go (P := True) hc2 (fun _ _ => rfl) (fun _ => ev_go (P := True) hc3 (fun _ _ => rfl) (fun _ => k) trivial) trivial) trivial
theorem ixX (ht : 7 * t + 7 ≤ X.1) (hX : X.1 ≤ 3584) (c : Nat) (hc : c < 7) : g_ix (nI (7 * t) + nI c) X.1 = some (7 * t + c) := by
  rw [nI_add, z_ix (by omega) (by omega)]
/-- the law goes on from its next turn, in a state of the relation -/
def lwG (X : Nat × (Nat → Int32)) (t p : Nat) (l : List (Nat × Nat)) (r : am_R) (h : am_F) (j : am_J) : Prop := ∃ l' r' h2 j2, wR l' r' h2 h2 3 ∧ l'.length ≤ l.length + 43 ∧ am_sz l' ≤ am_sz l + 2000 ∧ ∀ R, Ev X 272 1443 [some (.retAddr 1000), some (.ref 0), some (.ref 105), some (.int (nI (7 * t)))] [] (l', r', h2, j2) R → Ev X 272 p [some (.retAddr 1000), some (.ref 0), some (.ref 105), some (.int (nI (7 * t)))] [] (l, r, h, j) R
theorem lw_feed (ht : 7 * t + 7 ≤ X.1) (hX : X.1 ≤ 3584) (K1 : Wp_K l r 0) (H : stp X 111 161 [.int (X.2 (7 * t + 1)), .int (X.2 (7 * t + 2)), .int (X.2 (7 * t + 3)), .int (X.2 (7 * t + 4)), .int (X.2 (7 * t + 5))] l r h j) : lwG X t 164 l r h j := by
  obtain ⟨v, l', r', h1, h2, j1, j2, c1, c2, w, s1, s2⟩ := H
  refine ⟨l', r', h2, j2, w, s1, s2, fun R kk => ?_⟩
  refine g_run 5 169 [some (.retAddr 1000), some (.ref 0), some (.ref 105), some (.int (nI (7 * t)))] [.int (nI (7 * t) + (1 : Int32)), .retAddr 1000, .ref 0] (fun _ => rfl) ?_
  refine g_iaX 170 rfl rfl (ixX ht hX 1 (by decide)) ?_
  refine g_run 4 174 [some (.retAddr 1000), some (.ref 0), some (.ref 105), some (.int (nI (7 * t)))] [.int (nI (7 * t) + (2 : Int32)), .retAddr 1000, .int (X.2 (7 * t + 1)), .ref 0] (fun _ => rfl) ?_
  refine g_iaX 175 rfl rfl (ixX ht hX 2 (by decide)) ?_
  refine g_run 4 179 [some (.retAddr 1000), some (.ref 0), some (.ref 105), some (.int (nI (7 * t)))] [.int (nI (7 * t) + (3 : Int32)), .retAddr 1000, .int (X.2 (7 * t + 2)), .int (X.2 (7 * t + 1)), .ref 0] (fun _ => rfl) ?_
  refine g_iaX 180 rfl rfl (ixX ht hX 3 (by decide)) ?_
  refine g_run 4 184 [some (.retAddr 1000), some (.ref 0), some (.ref 105), some (.int (nI (7 * t)))] [.int (nI (7 * t) + (4 : Int32)), .retAddr 1000, .int (X.2 (7 * t + 3)), .int (X.2 (7 * t + 2)), .int (X.2 (7 * t + 1)), .ref 0] (fun _ => rfl) ?_
  refine g_iaX 185 rfl rfl (ixX ht hX 4 (by decide)) ?_
  refine g_run 4 189 [some (.retAddr 1000), some (.ref 0), some (.ref 105), some (.int (nI (7 * t)))] [.int (nI (7 * t) + (5 : Int32)), .retAddr 1000, .int (X.2 (7 * t + 4)), .int (X.2 (7 * t + 3)), .int (X.2 (7 * t + 2)), .int (X.2 (7 * t + 1)), .ref 0] (fun _ => rfl) ?_
  refine g_iaX 190 rfl rfl (ixX ht hX 5 (by decide)) ?_
  refine g_cV 193 rfl rfl rfl rfl rfl (Wp_l K1) c1 ?_
  refine g_run 5 198 [some (.retAddr 1000), some (.ref 0), some (.ref 105), some (.int (nI (7 * t)))] [.int (nI (7 * t) + (1 : Int32)), .retAddr 1000, .ref 105, .int v] (fun _ => rfl) ?_
  refine g_iaX 199 rfl rfl (ixX ht hX 1 (by decide)) ?_
  refine g_run 4 203 [some (.retAddr 1000), some (.ref 0), some (.ref 105), some (.int (nI (7 * t)))] [.int (nI (7 * t) + (2 : Int32)), .retAddr 1000, .int (X.2 (7 * t + 1)), .ref 105, .int v] (fun _ => rfl) ?_
  refine g_iaX 204 rfl rfl (ixX ht hX 2 (by decide)) ?_
  refine g_run 4 208 [some (.retAddr 1000), some (.ref 0), some (.ref 105), some (.int (nI (7 * t)))] [.int (nI (7 * t) + (3 : Int32)), .retAddr 1000, .int (X.2 (7 * t + 2)), .int (X.2 (7 * t + 1)), .ref 105, .int v] (fun _ => rfl) ?_
  refine g_iaX 209 rfl rfl (ixX ht hX 3 (by decide)) ?_
  refine g_run 4 213 [some (.retAddr 1000), some (.ref 0), some (.ref 105), some (.int (nI (7 * t)))] [.int (nI (7 * t) + (4 : Int32)), .retAddr 1000, .int (X.2 (7 * t + 3)), .int (X.2 (7 * t + 2)), .int (X.2 (7 * t + 1)), .ref 105, .int v] (fun _ => rfl) ?_
  refine g_iaX 214 rfl rfl (ixX ht hX 4 (by decide)) ?_
  refine g_run 4 218 [some (.retAddr 1000), some (.ref 0), some (.ref 105), some (.int (nI (7 * t)))] [.int (nI (7 * t) + (5 : Int32)), .retAddr 1000, .int (X.2 (7 * t + 4)), .int (X.2 (7 * t + 3)), .int (X.2 (7 * t + 2)), .int (X.2 (7 * t + 1)), .ref 105, .int v] (fun _ => rfl) ?_
  refine g_iaX 219 rfl rfl (ixX ht hX 5 (by decide)) ?_
  refine g_cV 222 rfl rfl rfl rfl rfl (Md_l w.2.1) c2 ?_
  exact g_eqT 1443 rfl rfl kk
theorem lw_end (ht : 7 * t + 7 ≤ X.1) (hX : X.1 ≤ 3584) (K1 : Wp_K l r 0) (H : stp X 112 163 [.int (X.2 (7 * t + 1))] l r h j) : lwG X t 227 l r h j := by
  obtain ⟨v, l', r', h1, h2, j1, j2, c1, c2, w, s1, s2⟩ := H
  refine ⟨l', r', h2, j2, w, s1, s2, fun R kk => ?_⟩
  refine g_run 5 232 [some (.retAddr 1000), some (.ref 0), some (.ref 105), some (.int (nI (7 * t)))] [.int (nI (7 * t) + (1 : Int32)), .retAddr 1000, .ref 0] (fun _ => rfl) ?_
  refine g_iaX 233 rfl rfl (ixX ht hX 1 (by decide)) ?_
  refine g_cV 236 rfl rfl rfl rfl rfl (Wp_l K1) c1 ?_
  refine g_run 5 241 [some (.retAddr 1000), some (.ref 0), some (.ref 105), some (.int (nI (7 * t)))] [.int (nI (7 * t) + (1 : Int32)), .retAddr 1000, .ref 105, .int v] (fun _ => rfl) ?_
  refine g_iaX 242 rfl rfl (ixX ht hX 1 (by decide)) ?_
  refine g_cV 245 rfl rfl rfl rfl rfl (Md_l w.2.1) c2 ?_
  exact g_eqT 1443 rfl rfl kk
theorem lw_text (ht : 7 * t + 7 ≤ X.1) (hX : X.1 ≤ 3584) (K1 : Wp_K l r 0) (H : stp X 113 191 [.int (X.2 (7 * t + 1)), .int (X.2 (7 * t + 2))] l r h j) : lwG X t 250 l r h j := by
  obtain ⟨v, l', r', h1, h2, j1, j2, c1, c2, w, s1, s2⟩ := H
  refine ⟨l', r', h2, j2, w, s1, s2, fun R kk => ?_⟩
  refine g_run 5 255 [some (.retAddr 1000), some (.ref 0), some (.ref 105), some (.int (nI (7 * t)))] [.int (nI (7 * t) + (1 : Int32)), .retAddr 1000, .ref 0] (fun _ => rfl) ?_
  refine g_iaX 256 rfl rfl (ixX ht hX 1 (by decide)) ?_
  refine g_run 4 260 [some (.retAddr 1000), some (.ref 0), some (.ref 105), some (.int (nI (7 * t)))] [.int (nI (7 * t) + (2 : Int32)), .retAddr 1000, .int (X.2 (7 * t + 1)), .ref 0] (fun _ => rfl) ?_
  refine g_iaX 261 rfl rfl (ixX ht hX 2 (by decide)) ?_
  refine g_cV 264 rfl rfl rfl rfl rfl (Wp_l K1) c1 ?_
  refine g_run 5 269 [some (.retAddr 1000), some (.ref 0), some (.ref 105), some (.int (nI (7 * t)))] [.int (nI (7 * t) + (1 : Int32)), .retAddr 1000, .ref 105, .int v] (fun _ => rfl) ?_
  refine g_iaX 270 rfl rfl (ixX ht hX 1 (by decide)) ?_
  refine g_run 4 274 [some (.retAddr 1000), some (.ref 0), some (.ref 105), some (.int (nI (7 * t)))] [.int (nI (7 * t) + (2 : Int32)), .retAddr 1000, .int (X.2 (7 * t + 1)), .ref 105, .int v] (fun _ => rfl) ?_
  refine g_iaX 275 rfl rfl (ixX ht hX 2 (by decide)) ?_
  refine g_cV 278 rfl rfl rfl rfl rfl (Md_l w.2.1) c2 ?_
  exact g_eqT 1443 rfl rfl kk
theorem lw_fault (ht : 7 * t + 7 ≤ X.1) (hX : X.1 ≤ 3584) (K1 : Wp_K l r 0) (H : stp X 114 192 [.int (X.2 (7 * t + 1))] l r h j) : lwG X t 283 l r h j := by
  obtain ⟨v, l', r', h1, h2, j1, j2, c1, c2, w, s1, s2⟩ := H
  refine ⟨l', r', h2, j2, w, s1, s2, fun R kk => ?_⟩
  refine g_run 5 288 [some (.retAddr 1000), some (.ref 0), some (.ref 105), some (.int (nI (7 * t)))] [.int (nI (7 * t) + (1 : Int32)), .retAddr 1000, .ref 0] (fun _ => rfl) ?_
  refine g_iaX 289 rfl rfl (ixX ht hX 1 (by decide)) ?_
  refine g_cV 292 rfl rfl rfl rfl rfl (Wp_l K1) c1 ?_
  refine g_run 5 297 [some (.retAddr 1000), some (.ref 0), some (.ref 105), some (.int (nI (7 * t)))] [.int (nI (7 * t) + (1 : Int32)), .retAddr 1000, .ref 105, .int v] (fun _ => rfl) ?_
  refine g_iaX 298 rfl rfl (ixX ht hX 1 (by decide)) ?_
  refine g_cV 301 rfl rfl rfl rfl rfl (Md_l w.2.1) c2 ?_
  exact g_eqT 1443 rfl rfl kk
theorem lw_park (ht : 7 * t + 7 ≤ X.1) (hX : X.1 ≤ 3584) (K1 : Wp_K l r 0) (H : stp X 115 198 [.int (X.2 (7 * t + 1)), .int (X.2 (7 * t + 2))] l r h j) : lwG X t 306 l r h j := by
  obtain ⟨v, l', r', h1, h2, j1, j2, c1, c2, w, s1, s2⟩ := H
  refine ⟨l', r', h2, j2, w, s1, s2, fun R kk => ?_⟩
  refine g_run 5 311 [some (.retAddr 1000), some (.ref 0), some (.ref 105), some (.int (nI (7 * t)))] [.int (nI (7 * t) + (1 : Int32)), .retAddr 1000, .ref 0] (fun _ => rfl) ?_
  refine g_iaX 312 rfl rfl (ixX ht hX 1 (by decide)) ?_
  refine g_run 4 316 [some (.retAddr 1000), some (.ref 0), some (.ref 105), some (.int (nI (7 * t)))] [.int (nI (7 * t) + (2 : Int32)), .retAddr 1000, .int (X.2 (7 * t + 1)), .ref 0] (fun _ => rfl) ?_
  refine g_iaX 317 rfl rfl (ixX ht hX 2 (by decide)) ?_
  refine g_cV 320 rfl rfl rfl rfl rfl (Wp_l K1) c1 ?_
  refine g_run 5 325 [some (.retAddr 1000), some (.ref 0), some (.ref 105), some (.int (nI (7 * t)))] [.int (nI (7 * t) + (1 : Int32)), .retAddr 1000, .ref 105, .int v] (fun _ => rfl) ?_
  refine g_iaX 326 rfl rfl (ixX ht hX 1 (by decide)) ?_
  refine g_run 4 330 [some (.retAddr 1000), some (.ref 0), some (.ref 105), some (.int (nI (7 * t)))] [.int (nI (7 * t) + (2 : Int32)), .retAddr 1000, .int (X.2 (7 * t + 1)), .ref 105, .int v] (fun _ => rfl) ?_
  refine g_iaX 331 rfl rfl (ixX ht hX 2 (by decide)) ?_
  refine g_cV 334 rfl rfl rfl rfl rfl (Md_l w.2.1) c2 ?_
  exact g_eqT 1443 rfl rfl kk
theorem lw_bench (ht : 7 * t + 7 ≤ X.1) (hX : X.1 ≤ 3584) (K1 : Wp_K l r 0) (H : stp X 116 199 [.int (X.2 (7 * t + 1)), .int (X.2 (7 * t + 2)), .int (X.2 (7 * t + 3))] l r h j) : lwG X t 339 l r h j := by
  obtain ⟨v, l', r', h1, h2, j1, j2, c1, c2, w, s1, s2⟩ := H
  refine ⟨l', r', h2, j2, w, s1, s2, fun R kk => ?_⟩
  refine g_run 5 344 [some (.retAddr 1000), some (.ref 0), some (.ref 105), some (.int (nI (7 * t)))] [.int (nI (7 * t) + (1 : Int32)), .retAddr 1000, .ref 0] (fun _ => rfl) ?_
  refine g_iaX 345 rfl rfl (ixX ht hX 1 (by decide)) ?_
  refine g_run 4 349 [some (.retAddr 1000), some (.ref 0), some (.ref 105), some (.int (nI (7 * t)))] [.int (nI (7 * t) + (2 : Int32)), .retAddr 1000, .int (X.2 (7 * t + 1)), .ref 0] (fun _ => rfl) ?_
  refine g_iaX 350 rfl rfl (ixX ht hX 2 (by decide)) ?_
  refine g_run 4 354 [some (.retAddr 1000), some (.ref 0), some (.ref 105), some (.int (nI (7 * t)))] [.int (nI (7 * t) + (3 : Int32)), .retAddr 1000, .int (X.2 (7 * t + 2)), .int (X.2 (7 * t + 1)), .ref 0] (fun _ => rfl) ?_
  refine g_iaX 355 rfl rfl (ixX ht hX 3 (by decide)) ?_
  refine g_cV 358 rfl rfl rfl rfl rfl (Wp_l K1) c1 ?_
  refine g_run 5 363 [some (.retAddr 1000), some (.ref 0), some (.ref 105), some (.int (nI (7 * t)))] [.int (nI (7 * t) + (1 : Int32)), .retAddr 1000, .ref 105, .int v] (fun _ => rfl) ?_
  refine g_iaX 364 rfl rfl (ixX ht hX 1 (by decide)) ?_
  refine g_run 4 368 [some (.retAddr 1000), some (.ref 0), some (.ref 105), some (.int (nI (7 * t)))] [.int (nI (7 * t) + (2 : Int32)), .retAddr 1000, .int (X.2 (7 * t + 1)), .ref 105, .int v] (fun _ => rfl) ?_
  refine g_iaX 369 rfl rfl (ixX ht hX 2 (by decide)) ?_
  refine g_run 4 373 [some (.retAddr 1000), some (.ref 0), some (.ref 105), some (.int (nI (7 * t)))] [.int (nI (7 * t) + (3 : Int32)), .retAddr 1000, .int (X.2 (7 * t + 2)), .int (X.2 (7 * t + 1)), .ref 105, .int v] (fun _ => rfl) ?_
  refine g_iaX 374 rfl rfl (ixX ht hX 3 (by decide)) ?_
  refine g_cV 377 rfl rfl rfl rfl rfl (Md_l w.2.1) c2 ?_
  exact g_eqT 1443 rfl rfl kk
theorem lw_told (ht : 7 * t + 7 ≤ X.1) (hX : X.1 ≤ 3584) (K1 : Wp_K l r 0) (H : stp X 117 200 [.int (X.2 (7 * t + 1)), .int (X.2 (7 * t + 2)), .int (X.2 (7 * t + 3)), .int (X.2 (7 * t + 4))] l r h j) : lwG X t 382 l r h j := by
  obtain ⟨v, l', r', h1, h2, j1, j2, c1, c2, w, s1, s2⟩ := H
  refine ⟨l', r', h2, j2, w, s1, s2, fun R kk => ?_⟩
  refine g_run 5 387 [some (.retAddr 1000), some (.ref 0), some (.ref 105), some (.int (nI (7 * t)))] [.int (nI (7 * t) + (1 : Int32)), .retAddr 1000, .ref 0] (fun _ => rfl) ?_
  refine g_iaX 388 rfl rfl (ixX ht hX 1 (by decide)) ?_
  refine g_run 4 392 [some (.retAddr 1000), some (.ref 0), some (.ref 105), some (.int (nI (7 * t)))] [.int (nI (7 * t) + (2 : Int32)), .retAddr 1000, .int (X.2 (7 * t + 1)), .ref 0] (fun _ => rfl) ?_
  refine g_iaX 393 rfl rfl (ixX ht hX 2 (by decide)) ?_
  refine g_run 4 397 [some (.retAddr 1000), some (.ref 0), some (.ref 105), some (.int (nI (7 * t)))] [.int (nI (7 * t) + (3 : Int32)), .retAddr 1000, .int (X.2 (7 * t + 2)), .int (X.2 (7 * t + 1)), .ref 0] (fun _ => rfl) ?_
  refine g_iaX 398 rfl rfl (ixX ht hX 3 (by decide)) ?_
  refine g_run 4 402 [some (.retAddr 1000), some (.ref 0), some (.ref 105), some (.int (nI (7 * t)))] [.int (nI (7 * t) + (4 : Int32)), .retAddr 1000, .int (X.2 (7 * t + 3)), .int (X.2 (7 * t + 2)), .int (X.2 (7 * t + 1)), .ref 0] (fun _ => rfl) ?_
  refine g_iaX 403 rfl rfl (ixX ht hX 4 (by decide)) ?_
  refine g_cV 406 rfl rfl rfl rfl rfl (Wp_l K1) c1 ?_
  refine g_run 5 411 [some (.retAddr 1000), some (.ref 0), some (.ref 105), some (.int (nI (7 * t)))] [.int (nI (7 * t) + (1 : Int32)), .retAddr 1000, .ref 105, .int v] (fun _ => rfl) ?_
  refine g_iaX 412 rfl rfl (ixX ht hX 1 (by decide)) ?_
  refine g_run 4 416 [some (.retAddr 1000), some (.ref 0), some (.ref 105), some (.int (nI (7 * t)))] [.int (nI (7 * t) + (2 : Int32)), .retAddr 1000, .int (X.2 (7 * t + 1)), .ref 105, .int v] (fun _ => rfl) ?_
  refine g_iaX 417 rfl rfl (ixX ht hX 2 (by decide)) ?_
  refine g_run 4 421 [some (.retAddr 1000), some (.ref 0), some (.ref 105), some (.int (nI (7 * t)))] [.int (nI (7 * t) + (3 : Int32)), .retAddr 1000, .int (X.2 (7 * t + 2)), .int (X.2 (7 * t + 1)), .ref 105, .int v] (fun _ => rfl) ?_
  refine g_iaX 422 rfl rfl (ixX ht hX 3 (by decide)) ?_
  refine g_run 4 426 [some (.retAddr 1000), some (.ref 0), some (.ref 105), some (.int (nI (7 * t)))] [.int (nI (7 * t) + (4 : Int32)), .retAddr 1000, .int (X.2 (7 * t + 3)), .int (X.2 (7 * t + 2)), .int (X.2 (7 * t + 1)), .ref 105, .int v] (fun _ => rfl) ?_
  refine g_iaX 427 rfl rfl (ixX ht hX 4 (by decide)) ?_
  refine g_cV 430 rfl rfl rfl rfl rfl (Md_l w.2.1) c2 ?_
  exact g_eqT 1443 rfl rfl kk
theorem lw_wet (ht : 7 * t + 7 ≤ X.1) (hX : X.1 ≤ 3584) (K1 : Wp_K l r 0) (H : stp X 118 205 [.int (X.2 (7 * t + 1)), .int (X.2 (7 * t + 2)), .int (X.2 (7 * t + 3)), .int (X.2 (7 * t + 4))] l r h j) : lwG X t 435 l r h j := by
  obtain ⟨v, l', r', h1, h2, j1, j2, c1, c2, w, s1, s2⟩ := H
  refine ⟨l', r', h2, j2, w, s1, s2, fun R kk => ?_⟩
  refine g_run 5 440 [some (.retAddr 1000), some (.ref 0), some (.ref 105), some (.int (nI (7 * t)))] [.int (nI (7 * t) + (1 : Int32)), .retAddr 1000, .ref 0] (fun _ => rfl) ?_
  refine g_iaX 441 rfl rfl (ixX ht hX 1 (by decide)) ?_
  refine g_run 4 445 [some (.retAddr 1000), some (.ref 0), some (.ref 105), some (.int (nI (7 * t)))] [.int (nI (7 * t) + (2 : Int32)), .retAddr 1000, .int (X.2 (7 * t + 1)), .ref 0] (fun _ => rfl) ?_
  refine g_iaX 446 rfl rfl (ixX ht hX 2 (by decide)) ?_
  refine g_run 4 450 [some (.retAddr 1000), some (.ref 0), some (.ref 105), some (.int (nI (7 * t)))] [.int (nI (7 * t) + (3 : Int32)), .retAddr 1000, .int (X.2 (7 * t + 2)), .int (X.2 (7 * t + 1)), .ref 0] (fun _ => rfl) ?_
  refine g_iaX 451 rfl rfl (ixX ht hX 3 (by decide)) ?_
  refine g_run 4 455 [some (.retAddr 1000), some (.ref 0), some (.ref 105), some (.int (nI (7 * t)))] [.int (nI (7 * t) + (4 : Int32)), .retAddr 1000, .int (X.2 (7 * t + 3)), .int (X.2 (7 * t + 2)), .int (X.2 (7 * t + 1)), .ref 0] (fun _ => rfl) ?_
  refine g_iaX 456 rfl rfl (ixX ht hX 4 (by decide)) ?_
  refine g_cV 459 rfl rfl rfl rfl rfl (Wp_l K1) c1 ?_
  refine g_run 5 464 [some (.retAddr 1000), some (.ref 0), some (.ref 105), some (.int (nI (7 * t)))] [.int (nI (7 * t) + (1 : Int32)), .retAddr 1000, .ref 105, .int v] (fun _ => rfl) ?_
  refine g_iaX 465 rfl rfl (ixX ht hX 1 (by decide)) ?_
  refine g_run 4 469 [some (.retAddr 1000), some (.ref 0), some (.ref 105), some (.int (nI (7 * t)))] [.int (nI (7 * t) + (2 : Int32)), .retAddr 1000, .int (X.2 (7 * t + 1)), .ref 105, .int v] (fun _ => rfl) ?_
  refine g_iaX 470 rfl rfl (ixX ht hX 2 (by decide)) ?_
  refine g_run 4 474 [some (.retAddr 1000), some (.ref 0), some (.ref 105), some (.int (nI (7 * t)))] [.int (nI (7 * t) + (3 : Int32)), .retAddr 1000, .int (X.2 (7 * t + 2)), .int (X.2 (7 * t + 1)), .ref 105, .int v] (fun _ => rfl) ?_
  refine g_iaX 475 rfl rfl (ixX ht hX 3 (by decide)) ?_
  refine g_run 4 479 [some (.retAddr 1000), some (.ref 0), some (.ref 105), some (.int (nI (7 * t)))] [.int (nI (7 * t) + (4 : Int32)), .retAddr 1000, .int (X.2 (7 * t + 3)), .int (X.2 (7 * t + 2)), .int (X.2 (7 * t + 1)), .ref 105, .int v] (fun _ => rfl) ?_
  refine g_iaX 480 rfl rfl (ixX ht hX 4 (by decide)) ?_
  refine g_cV 483 rfl rfl rfl rfl rfl (Md_l w.2.1) c2 ?_
  exact g_eqT 1443 rfl rfl kk
theorem lw_did (ht : 7 * t + 7 ≤ X.1) (hX : X.1 ≤ 3584) (K1 : Wp_K l r 0) (H : stp X 119 215 [.int (X.2 (7 * t + 1)), .int (X.2 (7 * t + 2)), .int (X.2 (7 * t + 3))] l r h j) : lwG X t 488 l r h j := by
  obtain ⟨v, l', r', h1, h2, j1, j2, c1, c2, w, s1, s2⟩ := H
  refine ⟨l', r', h2, j2, w, s1, s2, fun R kk => ?_⟩
  refine g_run 5 493 [some (.retAddr 1000), some (.ref 0), some (.ref 105), some (.int (nI (7 * t)))] [.int (nI (7 * t) + (1 : Int32)), .retAddr 1000, .ref 0] (fun _ => rfl) ?_
  refine g_iaX 494 rfl rfl (ixX ht hX 1 (by decide)) ?_
  refine g_run 4 498 [some (.retAddr 1000), some (.ref 0), some (.ref 105), some (.int (nI (7 * t)))] [.int (nI (7 * t) + (2 : Int32)), .retAddr 1000, .int (X.2 (7 * t + 1)), .ref 0] (fun _ => rfl) ?_
  refine g_iaX 499 rfl rfl (ixX ht hX 2 (by decide)) ?_
  refine g_run 4 503 [some (.retAddr 1000), some (.ref 0), some (.ref 105), some (.int (nI (7 * t)))] [.int (nI (7 * t) + (3 : Int32)), .retAddr 1000, .int (X.2 (7 * t + 2)), .int (X.2 (7 * t + 1)), .ref 0] (fun _ => rfl) ?_
  refine g_iaX 504 rfl rfl (ixX ht hX 3 (by decide)) ?_
  refine g_cV 507 rfl rfl rfl rfl rfl (Wp_l K1) c1 ?_
  refine g_run 5 512 [some (.retAddr 1000), some (.ref 0), some (.ref 105), some (.int (nI (7 * t)))] [.int (nI (7 * t) + (1 : Int32)), .retAddr 1000, .ref 105, .int v] (fun _ => rfl) ?_
  refine g_iaX 513 rfl rfl (ixX ht hX 1 (by decide)) ?_
  refine g_run 4 517 [some (.retAddr 1000), some (.ref 0), some (.ref 105), some (.int (nI (7 * t)))] [.int (nI (7 * t) + (2 : Int32)), .retAddr 1000, .int (X.2 (7 * t + 1)), .ref 105, .int v] (fun _ => rfl) ?_
  refine g_iaX 518 rfl rfl (ixX ht hX 2 (by decide)) ?_
  refine g_run 4 522 [some (.retAddr 1000), some (.ref 0), some (.ref 105), some (.int (nI (7 * t)))] [.int (nI (7 * t) + (3 : Int32)), .retAddr 1000, .int (X.2 (7 * t + 2)), .int (X.2 (7 * t + 1)), .ref 105, .int v] (fun _ => rfl) ?_
  refine g_iaX 523 rfl rfl (ixX ht hX 3 (by decide)) ?_
  refine g_cV 526 rfl rfl rfl rfl rfl (Md_l w.2.1) c2 ?_
  exact g_eqT 1443 rfl rfl kk
theorem lw_day (ht : 7 * t + 7 ≤ X.1) (hX : X.1 ≤ 3584) (K1 : Wp_K l r 0) (H : stp X 120 218 [.int (X.2 (7 * t + 1)), .int (X.2 (7 * t + 2))] l r h j) : lwG X t 531 l r h j := by
  obtain ⟨v, l', r', h1, h2, j1, j2, c1, c2, w, s1, s2⟩ := H
  refine ⟨l', r', h2, j2, w, s1, s2, fun R kk => ?_⟩
  refine g_run 5 536 [some (.retAddr 1000), some (.ref 0), some (.ref 105), some (.int (nI (7 * t)))] [.int (nI (7 * t) + (1 : Int32)), .retAddr 1000, .ref 0] (fun _ => rfl) ?_
  refine g_iaX 537 rfl rfl (ixX ht hX 1 (by decide)) ?_
  refine g_run 4 541 [some (.retAddr 1000), some (.ref 0), some (.ref 105), some (.int (nI (7 * t)))] [.int (nI (7 * t) + (2 : Int32)), .retAddr 1000, .int (X.2 (7 * t + 1)), .ref 0] (fun _ => rfl) ?_
  refine g_iaX 542 rfl rfl (ixX ht hX 2 (by decide)) ?_
  refine g_cV 545 rfl rfl rfl rfl rfl (Wp_l K1) c1 ?_
  refine g_run 5 550 [some (.retAddr 1000), some (.ref 0), some (.ref 105), some (.int (nI (7 * t)))] [.int (nI (7 * t) + (1 : Int32)), .retAddr 1000, .ref 105, .int v] (fun _ => rfl) ?_
  refine g_iaX 551 rfl rfl (ixX ht hX 1 (by decide)) ?_
  refine g_run 4 555 [some (.retAddr 1000), some (.ref 0), some (.ref 105), some (.int (nI (7 * t)))] [.int (nI (7 * t) + (2 : Int32)), .retAddr 1000, .int (X.2 (7 * t + 1)), .ref 105, .int v] (fun _ => rfl) ?_
  refine g_iaX 556 rfl rfl (ixX ht hX 2 (by decide)) ?_
  refine g_cV 559 rfl rfl rfl rfl rfl (Md_l w.2.1) c2 ?_
  exact g_eqT 1443 rfl rfl kk
theorem lw_hang (ht : 7 * t + 7 ≤ X.1) (hX : X.1 ≤ 3584) (K1 : Wp_K l r 0) (H : stp X 121 219 [.int (X.2 (7 * t + 1)), .int (X.2 (7 * t + 2)), .int (if X.2 (7 * t + 3) = 0 then 0 else 1)] l r h j) : lwG X t 564 l r h j := by
  obtain ⟨v, l', r', h1, h2, j1, j2, c1, c2, w, s1, s2⟩ := H
  refine ⟨l', r', h2, j2, w, s1, s2, fun R kk => ?_⟩
  refine g_run 5 569 [some (.retAddr 1000), some (.ref 0), some (.ref 105), some (.int (nI (7 * t)))] [.int (nI (7 * t) + (1 : Int32)), .retAddr 1000, .ref 0] (fun _ => rfl) ?_
  refine g_iaX 570 rfl rfl (ixX ht hX 1 (by decide)) ?_
  refine g_run 4 574 [some (.retAddr 1000), some (.ref 0), some (.ref 105), some (.int (nI (7 * t)))] [.int (nI (7 * t) + (2 : Int32)), .retAddr 1000, .int (X.2 (7 * t + 1)), .ref 0] (fun _ => rfl) ?_
  refine g_iaX 575 rfl rfl (ixX ht hX 2 (by decide)) ?_
  refine g_run 4 579 [some (.retAddr 1000), some (.ref 0), some (.ref 105), some (.int (nI (7 * t)))] [.int (nI (7 * t) + (3 : Int32)), .retAddr 1000, .int (X.2 (7 * t + 2)), .int (X.2 (7 * t + 1)), .ref 0] (fun _ => rfl) ?_
  refine g_iaX 580 rfl rfl (ixX ht hX 3 (by decide)) ?_
  refine g_bool 588 rfl rfl rfl rfl rfl rfl rfl rfl rfl ?_
  refine g_cV 591 rfl rfl rfl rfl rfl (Wp_l K1) c1 ?_
  refine g_run 5 596 [some (.retAddr 1000), some (.ref 0), some (.ref 105), some (.int (nI (7 * t)))] [.int (nI (7 * t) + (1 : Int32)), .retAddr 1000, .ref 105, .int v] (fun _ => rfl) ?_
  refine g_iaX 597 rfl rfl (ixX ht hX 1 (by decide)) ?_
  refine g_run 4 601 [some (.retAddr 1000), some (.ref 0), some (.ref 105), some (.int (nI (7 * t)))] [.int (nI (7 * t) + (2 : Int32)), .retAddr 1000, .int (X.2 (7 * t + 1)), .ref 105, .int v] (fun _ => rfl) ?_
  refine g_iaX 602 rfl rfl (ixX ht hX 2 (by decide)) ?_
  refine g_run 4 606 [some (.retAddr 1000), some (.ref 0), some (.ref 105), some (.int (nI (7 * t)))] [.int (nI (7 * t) + (3 : Int32)), .retAddr 1000, .int (X.2 (7 * t + 2)), .int (X.2 (7 * t + 1)), .ref 105, .int v] (fun _ => rfl) ?_
  refine g_iaX 607 rfl rfl (ixX ht hX 3 (by decide)) ?_
  refine g_bool 615 rfl rfl rfl rfl rfl rfl rfl rfl rfl ?_
  refine g_cV 618 rfl rfl rfl rfl rfl (Md_l w.2.1) c2 ?_
  exact g_eqT 1443 rfl rfl kk
theorem lw_rule (ht : 7 * t + 7 ≤ X.1) (hX : X.1 ≤ 3584) (K1 : Wp_K l r 0) (H : stp X 122 221 [.int (X.2 (7 * t + 1)), .int (X.2 (7 * t + 2))] l r h j) : lwG X t 623 l r h j := by
  obtain ⟨v, l', r', h1, h2, j1, j2, c1, c2, w, s1, s2⟩ := H
  refine ⟨l', r', h2, j2, w, s1, s2, fun R kk => ?_⟩
  refine g_run 5 628 [some (.retAddr 1000), some (.ref 0), some (.ref 105), some (.int (nI (7 * t)))] [.int (nI (7 * t) + (1 : Int32)), .retAddr 1000, .ref 0] (fun _ => rfl) ?_
  refine g_iaX 629 rfl rfl (ixX ht hX 1 (by decide)) ?_
  refine g_run 4 633 [some (.retAddr 1000), some (.ref 0), some (.ref 105), some (.int (nI (7 * t)))] [.int (nI (7 * t) + (2 : Int32)), .retAddr 1000, .int (X.2 (7 * t + 1)), .ref 0] (fun _ => rfl) ?_
  refine g_iaX 634 rfl rfl (ixX ht hX 2 (by decide)) ?_
  refine g_cV 637 rfl rfl rfl rfl rfl (Wp_l K1) c1 ?_
  refine g_run 5 642 [some (.retAddr 1000), some (.ref 0), some (.ref 105), some (.int (nI (7 * t)))] [.int (nI (7 * t) + (1 : Int32)), .retAddr 1000, .ref 105, .int v] (fun _ => rfl) ?_
  refine g_iaX 643 rfl rfl (ixX ht hX 1 (by decide)) ?_
  refine g_run 4 647 [some (.retAddr 1000), some (.ref 0), some (.ref 105), some (.int (nI (7 * t)))] [.int (nI (7 * t) + (2 : Int32)), .retAddr 1000, .int (X.2 (7 * t + 1)), .ref 105, .int v] (fun _ => rfl) ?_
  refine g_iaX 648 rfl rfl (ixX ht hX 2 (by decide)) ?_
  refine g_cV 651 rfl rfl rfl rfl rfl (Md_l w.2.1) c2 ?_
  exact g_eqT 1443 rfl rfl kk
theorem lw_card (ht : 7 * t + 7 ≤ X.1) (hX : X.1 ≤ 3584) (K1 : Wp_K l r 0) (H : stp X 123 224 [.int (X.2 (7 * t + 1)), .int (X.2 (7 * t + 2)), .int (X.2 (7 * t + 3))] l r h j) : lwG X t 656 l r h j := by
  obtain ⟨v, l', r', h1, h2, j1, j2, c1, c2, w, s1, s2⟩ := H
  refine ⟨l', r', h2, j2, w, s1, s2, fun R kk => ?_⟩
  refine g_run 5 661 [some (.retAddr 1000), some (.ref 0), some (.ref 105), some (.int (nI (7 * t)))] [.int (nI (7 * t) + (1 : Int32)), .retAddr 1000, .ref 0] (fun _ => rfl) ?_
  refine g_iaX 662 rfl rfl (ixX ht hX 1 (by decide)) ?_
  refine g_run 4 666 [some (.retAddr 1000), some (.ref 0), some (.ref 105), some (.int (nI (7 * t)))] [.int (nI (7 * t) + (2 : Int32)), .retAddr 1000, .int (X.2 (7 * t + 1)), .ref 0] (fun _ => rfl) ?_
  refine g_iaX 667 rfl rfl (ixX ht hX 2 (by decide)) ?_
  refine g_run 4 671 [some (.retAddr 1000), some (.ref 0), some (.ref 105), some (.int (nI (7 * t)))] [.int (nI (7 * t) + (3 : Int32)), .retAddr 1000, .int (X.2 (7 * t + 2)), .int (X.2 (7 * t + 1)), .ref 0] (fun _ => rfl) ?_
  refine g_iaX 672 rfl rfl (ixX ht hX 3 (by decide)) ?_
  refine g_cV 675 rfl rfl rfl rfl rfl (Wp_l K1) c1 ?_
  refine g_run 5 680 [some (.retAddr 1000), some (.ref 0), some (.ref 105), some (.int (nI (7 * t)))] [.int (nI (7 * t) + (1 : Int32)), .retAddr 1000, .ref 105, .int v] (fun _ => rfl) ?_
  refine g_iaX 681 rfl rfl (ixX ht hX 1 (by decide)) ?_
  refine g_run 4 685 [some (.retAddr 1000), some (.ref 0), some (.ref 105), some (.int (nI (7 * t)))] [.int (nI (7 * t) + (2 : Int32)), .retAddr 1000, .int (X.2 (7 * t + 1)), .ref 105, .int v] (fun _ => rfl) ?_
  refine g_iaX 686 rfl rfl (ixX ht hX 2 (by decide)) ?_
  refine g_run 4 690 [some (.retAddr 1000), some (.ref 0), some (.ref 105), some (.int (nI (7 * t)))] [.int (nI (7 * t) + (3 : Int32)), .retAddr 1000, .int (X.2 (7 * t + 2)), .int (X.2 (7 * t + 1)), .ref 105, .int v] (fun _ => rfl) ?_
  refine g_iaX 691 rfl rfl (ixX ht hX 3 (by decide)) ?_
  refine g_cV 694 rfl rfl rfl rfl rfl (Md_l w.2.1) c2 ?_
  exact g_eqT 1443 rfl rfl kk
theorem lw_days (ht : 7 * t + 7 ≤ X.1) (hX : X.1 ≤ 3584) (K1 : Wp_K l r 0) (H : stp X 124 227 [.int (X.2 (7 * t + 1)), .int (X.2 (7 * t + 2)), .int (X.2 (7 * t + 3))] l r h j) : lwG X t 699 l r h j := by
  obtain ⟨v, l', r', h1, h2, j1, j2, c1, c2, w, s1, s2⟩ := H
  refine ⟨l', r', h2, j2, w, s1, s2, fun R kk => ?_⟩
  refine g_run 5 704 [some (.retAddr 1000), some (.ref 0), some (.ref 105), some (.int (nI (7 * t)))] [.int (nI (7 * t) + (1 : Int32)), .retAddr 1000, .ref 0] (fun _ => rfl) ?_
  refine g_iaX 705 rfl rfl (ixX ht hX 1 (by decide)) ?_
  refine g_run 4 709 [some (.retAddr 1000), some (.ref 0), some (.ref 105), some (.int (nI (7 * t)))] [.int (nI (7 * t) + (2 : Int32)), .retAddr 1000, .int (X.2 (7 * t + 1)), .ref 0] (fun _ => rfl) ?_
  refine g_iaX 710 rfl rfl (ixX ht hX 2 (by decide)) ?_
  refine g_run 4 714 [some (.retAddr 1000), some (.ref 0), some (.ref 105), some (.int (nI (7 * t)))] [.int (nI (7 * t) + (3 : Int32)), .retAddr 1000, .int (X.2 (7 * t + 2)), .int (X.2 (7 * t + 1)), .ref 0] (fun _ => rfl) ?_
  refine g_iaX 715 rfl rfl (ixX ht hX 3 (by decide)) ?_
  refine g_cV 718 rfl rfl rfl rfl rfl (Wp_l K1) c1 ?_
  refine g_run 5 723 [some (.retAddr 1000), some (.ref 0), some (.ref 105), some (.int (nI (7 * t)))] [.int (nI (7 * t) + (1 : Int32)), .retAddr 1000, .ref 105, .int v] (fun _ => rfl) ?_
  refine g_iaX 724 rfl rfl (ixX ht hX 1 (by decide)) ?_
  refine g_run 4 728 [some (.retAddr 1000), some (.ref 0), some (.ref 105), some (.int (nI (7 * t)))] [.int (nI (7 * t) + (2 : Int32)), .retAddr 1000, .int (X.2 (7 * t + 1)), .ref 105, .int v] (fun _ => rfl) ?_
  refine g_iaX 729 rfl rfl (ixX ht hX 2 (by decide)) ?_
  refine g_run 4 733 [some (.retAddr 1000), some (.ref 0), some (.ref 105), some (.int (nI (7 * t)))] [.int (nI (7 * t) + (3 : Int32)), .retAddr 1000, .int (X.2 (7 * t + 2)), .int (X.2 (7 * t + 1)), .ref 105, .int v] (fun _ => rfl) ?_
  refine g_iaX 734 rfl rfl (ixX ht hX 3 (by decide)) ?_
  refine g_cV 737 rfl rfl rfl rfl rfl (Md_l w.2.1) c2 ?_
  exact g_eqT 1443 rfl rfl kk
theorem lw_order (ht : 7 * t + 7 ≤ X.1) (hX : X.1 ≤ 3584) (K1 : Wp_K l r 0) (H : stp X 125 231 [.int (X.2 (7 * t + 1)), .int (X.2 (7 * t + 2)), .int (X.2 (7 * t + 3))] l r h j) : lwG X t 742 l r h j := by
  obtain ⟨v, l', r', h1, h2, j1, j2, c1, c2, w, s1, s2⟩ := H
  refine ⟨l', r', h2, j2, w, s1, s2, fun R kk => ?_⟩
  refine g_run 5 747 [some (.retAddr 1000), some (.ref 0), some (.ref 105), some (.int (nI (7 * t)))] [.int (nI (7 * t) + (1 : Int32)), .retAddr 1000, .ref 0] (fun _ => rfl) ?_
  refine g_iaX 748 rfl rfl (ixX ht hX 1 (by decide)) ?_
  refine g_run 4 752 [some (.retAddr 1000), some (.ref 0), some (.ref 105), some (.int (nI (7 * t)))] [.int (nI (7 * t) + (2 : Int32)), .retAddr 1000, .int (X.2 (7 * t + 1)), .ref 0] (fun _ => rfl) ?_
  refine g_iaX 753 rfl rfl (ixX ht hX 2 (by decide)) ?_
  refine g_run 4 757 [some (.retAddr 1000), some (.ref 0), some (.ref 105), some (.int (nI (7 * t)))] [.int (nI (7 * t) + (3 : Int32)), .retAddr 1000, .int (X.2 (7 * t + 2)), .int (X.2 (7 * t + 1)), .ref 0] (fun _ => rfl) ?_
  refine g_iaX 758 rfl rfl (ixX ht hX 3 (by decide)) ?_
  refine g_cV 761 rfl rfl rfl rfl rfl (Wp_l K1) c1 ?_
  refine g_run 5 766 [some (.retAddr 1000), some (.ref 0), some (.ref 105), some (.int (nI (7 * t)))] [.int (nI (7 * t) + (1 : Int32)), .retAddr 1000, .ref 105, .int v] (fun _ => rfl) ?_
  refine g_iaX 767 rfl rfl (ixX ht hX 1 (by decide)) ?_
  refine g_run 4 771 [some (.retAddr 1000), some (.ref 0), some (.ref 105), some (.int (nI (7 * t)))] [.int (nI (7 * t) + (2 : Int32)), .retAddr 1000, .int (X.2 (7 * t + 1)), .ref 105, .int v] (fun _ => rfl) ?_
  refine g_iaX 772 rfl rfl (ixX ht hX 2 (by decide)) ?_
  refine g_run 4 776 [some (.retAddr 1000), some (.ref 0), some (.ref 105), some (.int (nI (7 * t)))] [.int (nI (7 * t) + (3 : Int32)), .retAddr 1000, .int (X.2 (7 * t + 2)), .int (X.2 (7 * t + 1)), .ref 105, .int v] (fun _ => rfl) ?_
  refine g_iaX 777 rfl rfl (ixX ht hX 3 (by decide)) ?_
  refine g_cV 780 rfl rfl rfl rfl rfl (Md_l w.2.1) c2 ?_
  exact g_eqT 1443 rfl rfl kk
theorem lw_sight (ht : 7 * t + 7 ≤ X.1) (hX : X.1 ≤ 3584) (K1 : Wp_K l r 0) (H : stp X 126 235 [.int (X.2 (7 * t + 1)), .int (X.2 (7 * t + 2)), .int (X.2 (7 * t + 3))] l r h j) : lwG X t 785 l r h j := by
  obtain ⟨v, l', r', h1, h2, j1, j2, c1, c2, w, s1, s2⟩ := H
  refine ⟨l', r', h2, j2, w, s1, s2, fun R kk => ?_⟩
  refine g_run 5 790 [some (.retAddr 1000), some (.ref 0), some (.ref 105), some (.int (nI (7 * t)))] [.int (nI (7 * t) + (1 : Int32)), .retAddr 1000, .ref 0] (fun _ => rfl) ?_
  refine g_iaX 791 rfl rfl (ixX ht hX 1 (by decide)) ?_
  refine g_run 4 795 [some (.retAddr 1000), some (.ref 0), some (.ref 105), some (.int (nI (7 * t)))] [.int (nI (7 * t) + (2 : Int32)), .retAddr 1000, .int (X.2 (7 * t + 1)), .ref 0] (fun _ => rfl) ?_
  refine g_iaX 796 rfl rfl (ixX ht hX 2 (by decide)) ?_
  refine g_run 4 800 [some (.retAddr 1000), some (.ref 0), some (.ref 105), some (.int (nI (7 * t)))] [.int (nI (7 * t) + (3 : Int32)), .retAddr 1000, .int (X.2 (7 * t + 2)), .int (X.2 (7 * t + 1)), .ref 0] (fun _ => rfl) ?_
  refine g_iaX 801 rfl rfl (ixX ht hX 3 (by decide)) ?_
  refine g_cV 804 rfl rfl rfl rfl rfl (Wp_l K1) c1 ?_
  refine g_run 5 809 [some (.retAddr 1000), some (.ref 0), some (.ref 105), some (.int (nI (7 * t)))] [.int (nI (7 * t) + (1 : Int32)), .retAddr 1000, .ref 105, .int v] (fun _ => rfl) ?_
  refine g_iaX 810 rfl rfl (ixX ht hX 1 (by decide)) ?_
  refine g_run 4 814 [some (.retAddr 1000), some (.ref 0), some (.ref 105), some (.int (nI (7 * t)))] [.int (nI (7 * t) + (2 : Int32)), .retAddr 1000, .int (X.2 (7 * t + 1)), .ref 105, .int v] (fun _ => rfl) ?_
  refine g_iaX 815 rfl rfl (ixX ht hX 2 (by decide)) ?_
  refine g_run 4 819 [some (.retAddr 1000), some (.ref 0), some (.ref 105), some (.int (nI (7 * t)))] [.int (nI (7 * t) + (3 : Int32)), .retAddr 1000, .int (X.2 (7 * t + 2)), .int (X.2 (7 * t + 1)), .ref 105, .int v] (fun _ => rfl) ?_
  refine g_iaX 820 rfl rfl (ixX ht hX 3 (by decide)) ?_
  refine g_cV 823 rfl rfl rfl rfl rfl (Md_l w.2.1) c2 ?_
  exact g_eqT 1443 rfl rfl kk
theorem lw_likely (ht : 7 * t + 7 ≤ X.1) (hX : X.1 ≤ 3584) (K1 : Wp_K l r 0) (H : stp X 127 240 [.int (X.2 (7 * t + 1)), .int (X.2 (7 * t + 2)), .int (X.2 (7 * t + 3)), .int (X.2 (7 * t + 4)), .int (X.2 (7 * t + 5)), .int (if X.2 (7 * t + 6) = 0 then 0 else 1)] l r h j) : lwG X t 828 l r h j := by
  obtain ⟨v, l', r', h1, h2, j1, j2, c1, c2, w, s1, s2⟩ := H
  refine ⟨l', r', h2, j2, w, s1, s2, fun R kk => ?_⟩
  refine g_run 5 833 [some (.retAddr 1000), some (.ref 0), some (.ref 105), some (.int (nI (7 * t)))] [.int (nI (7 * t) + (1 : Int32)), .retAddr 1000, .ref 0] (fun _ => rfl) ?_
  refine g_iaX 834 rfl rfl (ixX ht hX 1 (by decide)) ?_
  refine g_run 4 838 [some (.retAddr 1000), some (.ref 0), some (.ref 105), some (.int (nI (7 * t)))] [.int (nI (7 * t) + (2 : Int32)), .retAddr 1000, .int (X.2 (7 * t + 1)), .ref 0] (fun _ => rfl) ?_
  refine g_iaX 839 rfl rfl (ixX ht hX 2 (by decide)) ?_
  refine g_run 4 843 [some (.retAddr 1000), some (.ref 0), some (.ref 105), some (.int (nI (7 * t)))] [.int (nI (7 * t) + (3 : Int32)), .retAddr 1000, .int (X.2 (7 * t + 2)), .int (X.2 (7 * t + 1)), .ref 0] (fun _ => rfl) ?_
  refine g_iaX 844 rfl rfl (ixX ht hX 3 (by decide)) ?_
  refine g_run 4 848 [some (.retAddr 1000), some (.ref 0), some (.ref 105), some (.int (nI (7 * t)))] [.int (nI (7 * t) + (4 : Int32)), .retAddr 1000, .int (X.2 (7 * t + 3)), .int (X.2 (7 * t + 2)), .int (X.2 (7 * t + 1)), .ref 0] (fun _ => rfl) ?_
  refine g_iaX 849 rfl rfl (ixX ht hX 4 (by decide)) ?_
  refine g_run 4 853 [some (.retAddr 1000), some (.ref 0), some (.ref 105), some (.int (nI (7 * t)))] [.int (nI (7 * t) + (5 : Int32)), .retAddr 1000, .int (X.2 (7 * t + 4)), .int (X.2 (7 * t + 3)), .int (X.2 (7 * t + 2)), .int (X.2 (7 * t + 1)), .ref 0] (fun _ => rfl) ?_
  refine g_iaX 854 rfl rfl (ixX ht hX 5 (by decide)) ?_
  refine g_run 4 859 [some (.retAddr 1000), some (.ref 0), some (.ref 105), some (.int (nI (7 * t)))] [.int (nI (7 * t) + (6 : Int32)), .retAddr 1000, .int (X.2 (7 * t + 5)), .int (X.2 (7 * t + 4)), .int (X.2 (7 * t + 3)), .int (X.2 (7 * t + 2)), .int (X.2 (7 * t + 1)), .ref 0] (fun _ => rfl) ?_
  refine g_iaX 860 rfl rfl (ixX ht hX 6 (by decide)) ?_
  refine g_bool 868 rfl rfl rfl rfl rfl rfl rfl rfl rfl ?_
  refine g_cV 871 rfl rfl rfl rfl rfl (Wp_l K1) c1 ?_
  refine g_run 5 876 [some (.retAddr 1000), some (.ref 0), some (.ref 105), some (.int (nI (7 * t)))] [.int (nI (7 * t) + (1 : Int32)), .retAddr 1000, .ref 105, .int v] (fun _ => rfl) ?_
  refine g_iaX 877 rfl rfl (ixX ht hX 1 (by decide)) ?_
  refine g_run 4 881 [some (.retAddr 1000), some (.ref 0), some (.ref 105), some (.int (nI (7 * t)))] [.int (nI (7 * t) + (2 : Int32)), .retAddr 1000, .int (X.2 (7 * t + 1)), .ref 105, .int v] (fun _ => rfl) ?_
  refine g_iaX 882 rfl rfl (ixX ht hX 2 (by decide)) ?_
  refine g_run 4 886 [some (.retAddr 1000), some (.ref 0), some (.ref 105), some (.int (nI (7 * t)))] [.int (nI (7 * t) + (3 : Int32)), .retAddr 1000, .int (X.2 (7 * t + 2)), .int (X.2 (7 * t + 1)), .ref 105, .int v] (fun _ => rfl) ?_
  refine g_iaX 887 rfl rfl (ixX ht hX 3 (by decide)) ?_
  refine g_run 4 891 [some (.retAddr 1000), some (.ref 0), some (.ref 105), some (.int (nI (7 * t)))] [.int (nI (7 * t) + (4 : Int32)), .retAddr 1000, .int (X.2 (7 * t + 3)), .int (X.2 (7 * t + 2)), .int (X.2 (7 * t + 1)), .ref 105, .int v] (fun _ => rfl) ?_
  refine g_iaX 892 rfl rfl (ixX ht hX 4 (by decide)) ?_
  refine g_run 4 896 [some (.retAddr 1000), some (.ref 0), some (.ref 105), some (.int (nI (7 * t)))] [.int (nI (7 * t) + (5 : Int32)), .retAddr 1000, .int (X.2 (7 * t + 4)), .int (X.2 (7 * t + 3)), .int (X.2 (7 * t + 2)), .int (X.2 (7 * t + 1)), .ref 105, .int v] (fun _ => rfl) ?_
  refine g_iaX 897 rfl rfl (ixX ht hX 5 (by decide)) ?_
  refine g_run 4 902 [some (.retAddr 1000), some (.ref 0), some (.ref 105), some (.int (nI (7 * t)))] [.int (nI (7 * t) + (6 : Int32)), .retAddr 1000, .int (X.2 (7 * t + 5)), .int (X.2 (7 * t + 4)), .int (X.2 (7 * t + 3)), .int (X.2 (7 * t + 2)), .int (X.2 (7 * t + 1)), .ref 105, .int v] (fun _ => rfl) ?_
  refine g_iaX 903 rfl rfl (ixX ht hX 6 (by decide)) ?_
  refine g_bool 911 rfl rfl rfl rfl rfl rfl rfl rfl rfl ?_
  refine g_cV 914 rfl rfl rfl rfl rfl (Md_l w.2.1) c2 ?_
  exact g_eqT 1443 rfl rfl kk
theorem lw_act (ht : 7 * t + 7 ≤ X.1) (hX : X.1 ≤ 3584) (K1 : Wp_K l r 0) (H : stp X 128 242 [.int (X.2 (7 * t + 1)), .int (X.2 (7 * t + 2)), .int (X.2 (7 * t + 3)), .int (X.2 (7 * t + 4)), .int (X.2 (7 * t + 5)), .int (X.2 (7 * t + 6))] l r h j) : lwG X t 919 l r h j := by
  obtain ⟨v, l', r', h1, h2, j1, j2, c1, c2, w, s1, s2⟩ := H
  refine ⟨l', r', h2, j2, w, s1, s2, fun R kk => ?_⟩
  refine g_run 5 924 [some (.retAddr 1000), some (.ref 0), some (.ref 105), some (.int (nI (7 * t)))] [.int (nI (7 * t) + (1 : Int32)), .retAddr 1000, .ref 0] (fun _ => rfl) ?_
  refine g_iaX 925 rfl rfl (ixX ht hX 1 (by decide)) ?_
  refine g_run 4 929 [some (.retAddr 1000), some (.ref 0), some (.ref 105), some (.int (nI (7 * t)))] [.int (nI (7 * t) + (2 : Int32)), .retAddr 1000, .int (X.2 (7 * t + 1)), .ref 0] (fun _ => rfl) ?_
  refine g_iaX 930 rfl rfl (ixX ht hX 2 (by decide)) ?_
  refine g_run 4 934 [some (.retAddr 1000), some (.ref 0), some (.ref 105), some (.int (nI (7 * t)))] [.int (nI (7 * t) + (3 : Int32)), .retAddr 1000, .int (X.2 (7 * t + 2)), .int (X.2 (7 * t + 1)), .ref 0] (fun _ => rfl) ?_
  refine g_iaX 935 rfl rfl (ixX ht hX 3 (by decide)) ?_
  refine g_run 4 939 [some (.retAddr 1000), some (.ref 0), some (.ref 105), some (.int (nI (7 * t)))] [.int (nI (7 * t) + (4 : Int32)), .retAddr 1000, .int (X.2 (7 * t + 3)), .int (X.2 (7 * t + 2)), .int (X.2 (7 * t + 1)), .ref 0] (fun _ => rfl) ?_
  refine g_iaX 940 rfl rfl (ixX ht hX 4 (by decide)) ?_
  refine g_run 4 944 [some (.retAddr 1000), some (.ref 0), some (.ref 105), some (.int (nI (7 * t)))] [.int (nI (7 * t) + (5 : Int32)), .retAddr 1000, .int (X.2 (7 * t + 4)), .int (X.2 (7 * t + 3)), .int (X.2 (7 * t + 2)), .int (X.2 (7 * t + 1)), .ref 0] (fun _ => rfl) ?_
  refine g_iaX 945 rfl rfl (ixX ht hX 5 (by decide)) ?_
  refine g_run 4 950 [some (.retAddr 1000), some (.ref 0), some (.ref 105), some (.int (nI (7 * t)))] [.int (nI (7 * t) + (6 : Int32)), .retAddr 1000, .int (X.2 (7 * t + 5)), .int (X.2 (7 * t + 4)), .int (X.2 (7 * t + 3)), .int (X.2 (7 * t + 2)), .int (X.2 (7 * t + 1)), .ref 0] (fun _ => rfl) ?_
  refine g_iaX 951 rfl rfl (ixX ht hX 6 (by decide)) ?_
  refine g_cV 954 rfl rfl rfl rfl rfl (Wp_l K1) c1 ?_
  refine g_run 5 959 [some (.retAddr 1000), some (.ref 0), some (.ref 105), some (.int (nI (7 * t)))] [.int (nI (7 * t) + (1 : Int32)), .retAddr 1000, .ref 105, .int v] (fun _ => rfl) ?_
  refine g_iaX 960 rfl rfl (ixX ht hX 1 (by decide)) ?_
  refine g_run 4 964 [some (.retAddr 1000), some (.ref 0), some (.ref 105), some (.int (nI (7 * t)))] [.int (nI (7 * t) + (2 : Int32)), .retAddr 1000, .int (X.2 (7 * t + 1)), .ref 105, .int v] (fun _ => rfl) ?_
  refine g_iaX 965 rfl rfl (ixX ht hX 2 (by decide)) ?_
  refine g_run 4 969 [some (.retAddr 1000), some (.ref 0), some (.ref 105), some (.int (nI (7 * t)))] [.int (nI (7 * t) + (3 : Int32)), .retAddr 1000, .int (X.2 (7 * t + 2)), .int (X.2 (7 * t + 1)), .ref 105, .int v] (fun _ => rfl) ?_
  refine g_iaX 970 rfl rfl (ixX ht hX 3 (by decide)) ?_
  refine g_run 4 974 [some (.retAddr 1000), some (.ref 0), some (.ref 105), some (.int (nI (7 * t)))] [.int (nI (7 * t) + (4 : Int32)), .retAddr 1000, .int (X.2 (7 * t + 3)), .int (X.2 (7 * t + 2)), .int (X.2 (7 * t + 1)), .ref 105, .int v] (fun _ => rfl) ?_
  refine g_iaX 975 rfl rfl (ixX ht hX 4 (by decide)) ?_
  refine g_run 4 979 [some (.retAddr 1000), some (.ref 0), some (.ref 105), some (.int (nI (7 * t)))] [.int (nI (7 * t) + (5 : Int32)), .retAddr 1000, .int (X.2 (7 * t + 4)), .int (X.2 (7 * t + 3)), .int (X.2 (7 * t + 2)), .int (X.2 (7 * t + 1)), .ref 105, .int v] (fun _ => rfl) ?_
  refine g_iaX 980 rfl rfl (ixX ht hX 5 (by decide)) ?_
  refine g_run 4 985 [some (.retAddr 1000), some (.ref 0), some (.ref 105), some (.int (nI (7 * t)))] [.int (nI (7 * t) + (6 : Int32)), .retAddr 1000, .int (X.2 (7 * t + 5)), .int (X.2 (7 * t + 4)), .int (X.2 (7 * t + 3)), .int (X.2 (7 * t + 2)), .int (X.2 (7 * t + 1)), .ref 105, .int v] (fun _ => rfl) ?_
  refine g_iaX 986 rfl rfl (ixX ht hX 6 (by decide)) ?_
  refine g_cV 989 rfl rfl rfl rfl rfl (Md_l w.2.1) c2 ?_
  exact g_eqT 1443 rfl rfl kk
theorem lw_read (ht : 7 * t + 7 ≤ X.1) (hX : X.1 ≤ 3584) (K1 : Wp_K l r 0) (H : stp X 129 244 [.int (X.2 (7 * t + 1)), .int (X.2 (7 * t + 2)), .int (X.2 (7 * t + 3)), .int (X.2 (7 * t + 4))] l r h j) : lwG X t 994 l r h j := by
  obtain ⟨v, l', r', h1, h2, j1, j2, c1, c2, w, s1, s2⟩ := H
  refine ⟨l', r', h2, j2, w, s1, s2, fun R kk => ?_⟩
  refine g_run 5 999 [some (.retAddr 1000), some (.ref 0), some (.ref 105), some (.int (nI (7 * t)))] [.int (nI (7 * t) + (1 : Int32)), .retAddr 1000, .ref 0] (fun _ => rfl) ?_
  refine g_iaX 1000 rfl rfl (ixX ht hX 1 (by decide)) ?_
  refine g_run 4 1004 [some (.retAddr 1000), some (.ref 0), some (.ref 105), some (.int (nI (7 * t)))] [.int (nI (7 * t) + (2 : Int32)), .retAddr 1000, .int (X.2 (7 * t + 1)), .ref 0] (fun _ => rfl) ?_
  refine g_iaX 1005 rfl rfl (ixX ht hX 2 (by decide)) ?_
  refine g_run 4 1009 [some (.retAddr 1000), some (.ref 0), some (.ref 105), some (.int (nI (7 * t)))] [.int (nI (7 * t) + (3 : Int32)), .retAddr 1000, .int (X.2 (7 * t + 2)), .int (X.2 (7 * t + 1)), .ref 0] (fun _ => rfl) ?_
  refine g_iaX 1010 rfl rfl (ixX ht hX 3 (by decide)) ?_
  refine g_run 4 1014 [some (.retAddr 1000), some (.ref 0), some (.ref 105), some (.int (nI (7 * t)))] [.int (nI (7 * t) + (4 : Int32)), .retAddr 1000, .int (X.2 (7 * t + 3)), .int (X.2 (7 * t + 2)), .int (X.2 (7 * t + 1)), .ref 0] (fun _ => rfl) ?_
  refine g_iaX 1015 rfl rfl (ixX ht hX 4 (by decide)) ?_
  refine g_cV 1018 rfl rfl rfl rfl rfl (Wp_l K1) c1 ?_
  refine g_run 5 1023 [some (.retAddr 1000), some (.ref 0), some (.ref 105), some (.int (nI (7 * t)))] [.int (nI (7 * t) + (1 : Int32)), .retAddr 1000, .ref 105, .int v] (fun _ => rfl) ?_
  refine g_iaX 1024 rfl rfl (ixX ht hX 1 (by decide)) ?_
  refine g_run 4 1028 [some (.retAddr 1000), some (.ref 0), some (.ref 105), some (.int (nI (7 * t)))] [.int (nI (7 * t) + (2 : Int32)), .retAddr 1000, .int (X.2 (7 * t + 1)), .ref 105, .int v] (fun _ => rfl) ?_
  refine g_iaX 1029 rfl rfl (ixX ht hX 2 (by decide)) ?_
  refine g_run 4 1033 [some (.retAddr 1000), some (.ref 0), some (.ref 105), some (.int (nI (7 * t)))] [.int (nI (7 * t) + (3 : Int32)), .retAddr 1000, .int (X.2 (7 * t + 2)), .int (X.2 (7 * t + 1)), .ref 105, .int v] (fun _ => rfl) ?_
  refine g_iaX 1034 rfl rfl (ixX ht hX 3 (by decide)) ?_
  refine g_run 4 1038 [some (.retAddr 1000), some (.ref 0), some (.ref 105), some (.int (nI (7 * t)))] [.int (nI (7 * t) + (4 : Int32)), .retAddr 1000, .int (X.2 (7 * t + 3)), .int (X.2 (7 * t + 2)), .int (X.2 (7 * t + 1)), .ref 105, .int v] (fun _ => rfl) ?_
  refine g_iaX 1039 rfl rfl (ixX ht hX 4 (by decide)) ?_
  refine g_cV 1042 rfl rfl rfl rfl rfl (Md_l w.2.1) c2 ?_
  exact g_eqT 1443 rfl rfl kk
theorem lw_alarm (ht : 7 * t + 7 ≤ X.1) (hX : X.1 ≤ 3584) (K1 : Wp_K l r 0) (H : stp X 130 250 [.int (X.2 (7 * t + 1)), .int (X.2 (7 * t + 2)), .int (X.2 (7 * t + 3))] l r h j) : lwG X t 1047 l r h j := by
  obtain ⟨v, l', r', h1, h2, j1, j2, c1, c2, w, s1, s2⟩ := H
  refine ⟨l', r', h2, j2, w, s1, s2, fun R kk => ?_⟩
  refine g_run 5 1052 [some (.retAddr 1000), some (.ref 0), some (.ref 105), some (.int (nI (7 * t)))] [.int (nI (7 * t) + (1 : Int32)), .retAddr 1000, .ref 0] (fun _ => rfl) ?_
  refine g_iaX 1053 rfl rfl (ixX ht hX 1 (by decide)) ?_
  refine g_run 4 1057 [some (.retAddr 1000), some (.ref 0), some (.ref 105), some (.int (nI (7 * t)))] [.int (nI (7 * t) + (2 : Int32)), .retAddr 1000, .int (X.2 (7 * t + 1)), .ref 0] (fun _ => rfl) ?_
  refine g_iaX 1058 rfl rfl (ixX ht hX 2 (by decide)) ?_
  refine g_run 4 1062 [some (.retAddr 1000), some (.ref 0), some (.ref 105), some (.int (nI (7 * t)))] [.int (nI (7 * t) + (3 : Int32)), .retAddr 1000, .int (X.2 (7 * t + 2)), .int (X.2 (7 * t + 1)), .ref 0] (fun _ => rfl) ?_
  refine g_iaX 1063 rfl rfl (ixX ht hX 3 (by decide)) ?_
  refine g_cV 1066 rfl rfl rfl rfl rfl (Wp_l K1) c1 ?_
  refine g_run 5 1071 [some (.retAddr 1000), some (.ref 0), some (.ref 105), some (.int (nI (7 * t)))] [.int (nI (7 * t) + (1 : Int32)), .retAddr 1000, .ref 105, .int v] (fun _ => rfl) ?_
  refine g_iaX 1072 rfl rfl (ixX ht hX 1 (by decide)) ?_
  refine g_run 4 1076 [some (.retAddr 1000), some (.ref 0), some (.ref 105), some (.int (nI (7 * t)))] [.int (nI (7 * t) + (2 : Int32)), .retAddr 1000, .int (X.2 (7 * t + 1)), .ref 105, .int v] (fun _ => rfl) ?_
  refine g_iaX 1077 rfl rfl (ixX ht hX 2 (by decide)) ?_
  refine g_run 4 1081 [some (.retAddr 1000), some (.ref 0), some (.ref 105), some (.int (nI (7 * t)))] [.int (nI (7 * t) + (3 : Int32)), .retAddr 1000, .int (X.2 (7 * t + 2)), .int (X.2 (7 * t + 1)), .ref 105, .int v] (fun _ => rfl) ?_
  refine g_iaX 1082 rfl rfl (ixX ht hX 3 (by decide)) ?_
  refine g_cV 1085 rfl rfl rfl rfl rfl (Md_l w.2.1) c2 ?_
  exact g_eqT 1443 rfl rfl kk
theorem lw_plan (ht : 7 * t + 7 ≤ X.1) (hX : X.1 ≤ 3584) (K1 : Wp_K l r 0) (H : stp X 131 254 [.int (X.2 (7 * t + 1)), .int (X.2 (7 * t + 2)), .int (X.2 (7 * t + 3))] l r h j) : lwG X t 1090 l r h j := by
  obtain ⟨v, l', r', h1, h2, j1, j2, c1, c2, w, s1, s2⟩ := H
  refine ⟨l', r', h2, j2, w, s1, s2, fun R kk => ?_⟩
  refine g_run 5 1095 [some (.retAddr 1000), some (.ref 0), some (.ref 105), some (.int (nI (7 * t)))] [.int (nI (7 * t) + (1 : Int32)), .retAddr 1000, .ref 0] (fun _ => rfl) ?_
  refine g_iaX 1096 rfl rfl (ixX ht hX 1 (by decide)) ?_
  refine g_run 4 1100 [some (.retAddr 1000), some (.ref 0), some (.ref 105), some (.int (nI (7 * t)))] [.int (nI (7 * t) + (2 : Int32)), .retAddr 1000, .int (X.2 (7 * t + 1)), .ref 0] (fun _ => rfl) ?_
  refine g_iaX 1101 rfl rfl (ixX ht hX 2 (by decide)) ?_
  refine g_run 4 1105 [some (.retAddr 1000), some (.ref 0), some (.ref 105), some (.int (nI (7 * t)))] [.int (nI (7 * t) + (3 : Int32)), .retAddr 1000, .int (X.2 (7 * t + 2)), .int (X.2 (7 * t + 1)), .ref 0] (fun _ => rfl) ?_
  refine g_iaX 1106 rfl rfl (ixX ht hX 3 (by decide)) ?_
  refine g_cV 1109 rfl rfl rfl rfl rfl (Wp_l K1) c1 ?_
  refine g_run 5 1114 [some (.retAddr 1000), some (.ref 0), some (.ref 105), some (.int (nI (7 * t)))] [.int (nI (7 * t) + (1 : Int32)), .retAddr 1000, .ref 105, .int v] (fun _ => rfl) ?_
  refine g_iaX 1115 rfl rfl (ixX ht hX 1 (by decide)) ?_
  refine g_run 4 1119 [some (.retAddr 1000), some (.ref 0), some (.ref 105), some (.int (nI (7 * t)))] [.int (nI (7 * t) + (2 : Int32)), .retAddr 1000, .int (X.2 (7 * t + 1)), .ref 105, .int v] (fun _ => rfl) ?_
  refine g_iaX 1120 rfl rfl (ixX ht hX 2 (by decide)) ?_
  refine g_run 4 1124 [some (.retAddr 1000), some (.ref 0), some (.ref 105), some (.int (nI (7 * t)))] [.int (nI (7 * t) + (3 : Int32)), .retAddr 1000, .int (X.2 (7 * t + 2)), .int (X.2 (7 * t + 1)), .ref 105, .int v] (fun _ => rfl) ?_
  refine g_iaX 1125 rfl rfl (ixX ht hX 3 (by decide)) ?_
  refine g_cV 1128 rfl rfl rfl rfl rfl (Md_l w.2.1) c2 ?_
  exact g_eqT 1443 rfl rfl kk
theorem lw_halves (ht : 7 * t + 7 ≤ X.1) (hX : X.1 ≤ 3584) (K1 : Wp_K l r 0) (H : stp X 132 259 [.int (X.2 (7 * t + 1)), .int (X.2 (7 * t + 2)), .int (X.2 (7 * t + 3)), .int (X.2 (7 * t + 4))] l r h j) : lwG X t 1133 l r h j := by
  obtain ⟨v, l', r', h1, h2, j1, j2, c1, c2, w, s1, s2⟩ := H
  refine ⟨l', r', h2, j2, w, s1, s2, fun R kk => ?_⟩
  refine g_run 5 1138 [some (.retAddr 1000), some (.ref 0), some (.ref 105), some (.int (nI (7 * t)))] [.int (nI (7 * t) + (1 : Int32)), .retAddr 1000, .ref 0] (fun _ => rfl) ?_
  refine g_iaX 1139 rfl rfl (ixX ht hX 1 (by decide)) ?_
  refine g_run 4 1143 [some (.retAddr 1000), some (.ref 0), some (.ref 105), some (.int (nI (7 * t)))] [.int (nI (7 * t) + (2 : Int32)), .retAddr 1000, .int (X.2 (7 * t + 1)), .ref 0] (fun _ => rfl) ?_
  refine g_iaX 1144 rfl rfl (ixX ht hX 2 (by decide)) ?_
  refine g_run 4 1148 [some (.retAddr 1000), some (.ref 0), some (.ref 105), some (.int (nI (7 * t)))] [.int (nI (7 * t) + (3 : Int32)), .retAddr 1000, .int (X.2 (7 * t + 2)), .int (X.2 (7 * t + 1)), .ref 0] (fun _ => rfl) ?_
  refine g_iaX 1149 rfl rfl (ixX ht hX 3 (by decide)) ?_
  refine g_run 4 1153 [some (.retAddr 1000), some (.ref 0), some (.ref 105), some (.int (nI (7 * t)))] [.int (nI (7 * t) + (4 : Int32)), .retAddr 1000, .int (X.2 (7 * t + 3)), .int (X.2 (7 * t + 2)), .int (X.2 (7 * t + 1)), .ref 0] (fun _ => rfl) ?_
  refine g_iaX 1154 rfl rfl (ixX ht hX 4 (by decide)) ?_
  refine g_cV 1157 rfl rfl rfl rfl rfl (Wp_l K1) c1 ?_
  refine g_run 5 1162 [some (.retAddr 1000), some (.ref 0), some (.ref 105), some (.int (nI (7 * t)))] [.int (nI (7 * t) + (1 : Int32)), .retAddr 1000, .ref 105, .int v] (fun _ => rfl) ?_
  refine g_iaX 1163 rfl rfl (ixX ht hX 1 (by decide)) ?_
  refine g_run 4 1167 [some (.retAddr 1000), some (.ref 0), some (.ref 105), some (.int (nI (7 * t)))] [.int (nI (7 * t) + (2 : Int32)), .retAddr 1000, .int (X.2 (7 * t + 1)), .ref 105, .int v] (fun _ => rfl) ?_
  refine g_iaX 1168 rfl rfl (ixX ht hX 2 (by decide)) ?_
  refine g_run 4 1172 [some (.retAddr 1000), some (.ref 0), some (.ref 105), some (.int (nI (7 * t)))] [.int (nI (7 * t) + (3 : Int32)), .retAddr 1000, .int (X.2 (7 * t + 2)), .int (X.2 (7 * t + 1)), .ref 105, .int v] (fun _ => rfl) ?_
  refine g_iaX 1173 rfl rfl (ixX ht hX 3 (by decide)) ?_
  refine g_run 4 1177 [some (.retAddr 1000), some (.ref 0), some (.ref 105), some (.int (nI (7 * t)))] [.int (nI (7 * t) + (4 : Int32)), .retAddr 1000, .int (X.2 (7 * t + 3)), .int (X.2 (7 * t + 2)), .int (X.2 (7 * t + 1)), .ref 105, .int v] (fun _ => rfl) ?_
  refine g_iaX 1178 rfl rfl (ixX ht hX 4 (by decide)) ?_
  refine g_cV 1181 rfl rfl rfl rfl rfl (Md_l w.2.1) c2 ?_
  exact g_eqT 1443 rfl rfl kk
theorem lw_drawn (ht : 7 * t + 7 ≤ X.1) (hX : X.1 ≤ 3584) (K1 : Wp_K l r 0) (H : stp X 133 261 [.int (X.2 (7 * t + 1)), .int (X.2 (7 * t + 2)), .int (X.2 (7 * t + 3)), .int (X.2 (7 * t + 4))] l r h j) : lwG X t 1186 l r h j := by
  obtain ⟨v, l', r', h1, h2, j1, j2, c1, c2, w, s1, s2⟩ := H
  refine ⟨l', r', h2, j2, w, s1, s2, fun R kk => ?_⟩
  refine g_run 5 1191 [some (.retAddr 1000), some (.ref 0), some (.ref 105), some (.int (nI (7 * t)))] [.int (nI (7 * t) + (1 : Int32)), .retAddr 1000, .ref 0] (fun _ => rfl) ?_
  refine g_iaX 1192 rfl rfl (ixX ht hX 1 (by decide)) ?_
  refine g_run 4 1196 [some (.retAddr 1000), some (.ref 0), some (.ref 105), some (.int (nI (7 * t)))] [.int (nI (7 * t) + (2 : Int32)), .retAddr 1000, .int (X.2 (7 * t + 1)), .ref 0] (fun _ => rfl) ?_
  refine g_iaX 1197 rfl rfl (ixX ht hX 2 (by decide)) ?_
  refine g_run 4 1201 [some (.retAddr 1000), some (.ref 0), some (.ref 105), some (.int (nI (7 * t)))] [.int (nI (7 * t) + (3 : Int32)), .retAddr 1000, .int (X.2 (7 * t + 2)), .int (X.2 (7 * t + 1)), .ref 0] (fun _ => rfl) ?_
  refine g_iaX 1202 rfl rfl (ixX ht hX 3 (by decide)) ?_
  refine g_run 4 1206 [some (.retAddr 1000), some (.ref 0), some (.ref 105), some (.int (nI (7 * t)))] [.int (nI (7 * t) + (4 : Int32)), .retAddr 1000, .int (X.2 (7 * t + 3)), .int (X.2 (7 * t + 2)), .int (X.2 (7 * t + 1)), .ref 0] (fun _ => rfl) ?_
  refine g_iaX 1207 rfl rfl (ixX ht hX 4 (by decide)) ?_
  refine g_cV 1210 rfl rfl rfl rfl rfl (Wp_l K1) c1 ?_
  refine g_run 5 1215 [some (.retAddr 1000), some (.ref 0), some (.ref 105), some (.int (nI (7 * t)))] [.int (nI (7 * t) + (1 : Int32)), .retAddr 1000, .ref 105, .int v] (fun _ => rfl) ?_
  refine g_iaX 1216 rfl rfl (ixX ht hX 1 (by decide)) ?_
  refine g_run 4 1220 [some (.retAddr 1000), some (.ref 0), some (.ref 105), some (.int (nI (7 * t)))] [.int (nI (7 * t) + (2 : Int32)), .retAddr 1000, .int (X.2 (7 * t + 1)), .ref 105, .int v] (fun _ => rfl) ?_
  refine g_iaX 1221 rfl rfl (ixX ht hX 2 (by decide)) ?_
  refine g_run 4 1225 [some (.retAddr 1000), some (.ref 0), some (.ref 105), some (.int (nI (7 * t)))] [.int (nI (7 * t) + (3 : Int32)), .retAddr 1000, .int (X.2 (7 * t + 2)), .int (X.2 (7 * t + 1)), .ref 105, .int v] (fun _ => rfl) ?_
  refine g_iaX 1226 rfl rfl (ixX ht hX 3 (by decide)) ?_
  refine g_run 4 1230 [some (.retAddr 1000), some (.ref 0), some (.ref 105), some (.int (nI (7 * t)))] [.int (nI (7 * t) + (4 : Int32)), .retAddr 1000, .int (X.2 (7 * t + 3)), .int (X.2 (7 * t + 2)), .int (X.2 (7 * t + 1)), .ref 105, .int v] (fun _ => rfl) ?_
  refine g_iaX 1231 rfl rfl (ixX ht hX 4 (by decide)) ?_
  refine g_cV 1234 rfl rfl rfl rfl rfl (Md_l w.2.1) c2 ?_
  exact g_eqT 1443 rfl rfl kk
theorem lw_otherwise (ht : 7 * t + 7 ≤ X.1) (hX : X.1 ≤ 3584) (K1 : Wp_K l r 0) (H : stp X 134 264 [.int (X.2 (7 * t + 1)), .int (X.2 (7 * t + 2)), .int (X.2 (7 * t + 3))] l r h j) : lwG X t 1239 l r h j := by
  obtain ⟨v, l', r', h1, h2, j1, j2, c1, c2, w, s1, s2⟩ := H
  refine ⟨l', r', h2, j2, w, s1, s2, fun R kk => ?_⟩
  refine g_run 5 1244 [some (.retAddr 1000), some (.ref 0), some (.ref 105), some (.int (nI (7 * t)))] [.int (nI (7 * t) + (1 : Int32)), .retAddr 1000, .ref 0] (fun _ => rfl) ?_
  refine g_iaX 1245 rfl rfl (ixX ht hX 1 (by decide)) ?_
  refine g_run 4 1249 [some (.retAddr 1000), some (.ref 0), some (.ref 105), some (.int (nI (7 * t)))] [.int (nI (7 * t) + (2 : Int32)), .retAddr 1000, .int (X.2 (7 * t + 1)), .ref 0] (fun _ => rfl) ?_
  refine g_iaX 1250 rfl rfl (ixX ht hX 2 (by decide)) ?_
  refine g_run 4 1254 [some (.retAddr 1000), some (.ref 0), some (.ref 105), some (.int (nI (7 * t)))] [.int (nI (7 * t) + (3 : Int32)), .retAddr 1000, .int (X.2 (7 * t + 2)), .int (X.2 (7 * t + 1)), .ref 0] (fun _ => rfl) ?_
  refine g_iaX 1255 rfl rfl (ixX ht hX 3 (by decide)) ?_
  refine g_cV 1258 rfl rfl rfl rfl rfl (Wp_l K1) c1 ?_
  refine g_run 5 1263 [some (.retAddr 1000), some (.ref 0), some (.ref 105), some (.int (nI (7 * t)))] [.int (nI (7 * t) + (1 : Int32)), .retAddr 1000, .ref 105, .int v] (fun _ => rfl) ?_
  refine g_iaX 1264 rfl rfl (ixX ht hX 1 (by decide)) ?_
  refine g_run 4 1268 [some (.retAddr 1000), some (.ref 0), some (.ref 105), some (.int (nI (7 * t)))] [.int (nI (7 * t) + (2 : Int32)), .retAddr 1000, .int (X.2 (7 * t + 1)), .ref 105, .int v] (fun _ => rfl) ?_
  refine g_iaX 1269 rfl rfl (ixX ht hX 2 (by decide)) ?_
  refine g_run 4 1273 [some (.retAddr 1000), some (.ref 0), some (.ref 105), some (.int (nI (7 * t)))] [.int (nI (7 * t) + (3 : Int32)), .retAddr 1000, .int (X.2 (7 * t + 2)), .int (X.2 (7 * t + 1)), .ref 105, .int v] (fun _ => rfl) ?_
  refine g_iaX 1274 rfl rfl (ixX ht hX 3 (by decide)) ?_
  refine g_cV 1277 rfl rfl rfl rfl rfl (Md_l w.2.1) c2 ?_
  exact g_eqT 1443 rfl rfl kk
theorem lw_spare (ht : 7 * t + 7 ≤ X.1) (hX : X.1 ≤ 3584) (K1 : Wp_K l r 0) (H : stp X 135 266 [.int (X.2 (7 * t + 1)), .int (X.2 (7 * t + 2))] l r h j) : lwG X t 1282 l r h j := by
  obtain ⟨v, l', r', h1, h2, j1, j2, c1, c2, w, s1, s2⟩ := H
  refine ⟨l', r', h2, j2, w, s1, s2, fun R kk => ?_⟩
  refine g_run 5 1287 [some (.retAddr 1000), some (.ref 0), some (.ref 105), some (.int (nI (7 * t)))] [.int (nI (7 * t) + (1 : Int32)), .retAddr 1000, .ref 0] (fun _ => rfl) ?_
  refine g_iaX 1288 rfl rfl (ixX ht hX 1 (by decide)) ?_
  refine g_run 4 1292 [some (.retAddr 1000), some (.ref 0), some (.ref 105), some (.int (nI (7 * t)))] [.int (nI (7 * t) + (2 : Int32)), .retAddr 1000, .int (X.2 (7 * t + 1)), .ref 0] (fun _ => rfl) ?_
  refine g_iaX 1293 rfl rfl (ixX ht hX 2 (by decide)) ?_
  refine g_cV 1296 rfl rfl rfl rfl rfl (Wp_l K1) c1 ?_
  refine g_run 5 1301 [some (.retAddr 1000), some (.ref 0), some (.ref 105), some (.int (nI (7 * t)))] [.int (nI (7 * t) + (1 : Int32)), .retAddr 1000, .ref 105, .int v] (fun _ => rfl) ?_
  refine g_iaX 1302 rfl rfl (ixX ht hX 1 (by decide)) ?_
  refine g_run 4 1306 [some (.retAddr 1000), some (.ref 0), some (.ref 105), some (.int (nI (7 * t)))] [.int (nI (7 * t) + (2 : Int32)), .retAddr 1000, .int (X.2 (7 * t + 1)), .ref 105, .int v] (fun _ => rfl) ?_
  refine g_iaX 1307 rfl rfl (ixX ht hX 2 (by decide)) ?_
  refine g_cV 1310 rfl rfl rfl rfl rfl (Md_l w.2.1) c2 ?_
  exact g_eqT 1443 rfl rfl kk
theorem lw_anew (ht : 7 * t + 7 ≤ X.1) (hX : X.1 ≤ 3584) (K1 : Wp_K l r 0) (H : stp X 136 267 [.int (X.2 (7 * t + 1)), .int (X.2 (7 * t + 2)), .int (if X.2 (7 * t + 3) = 0 then 0 else 1)] l r h j) : lwG X t 1315 l r h j := by
  obtain ⟨v, l', r', h1, h2, j1, j2, c1, c2, w, s1, s2⟩ := H
  refine ⟨l', r', h2, j2, w, s1, s2, fun R kk => ?_⟩
  refine g_run 5 1320 [some (.retAddr 1000), some (.ref 0), some (.ref 105), some (.int (nI (7 * t)))] [.int (nI (7 * t) + (1 : Int32)), .retAddr 1000, .ref 0] (fun _ => rfl) ?_
  refine g_iaX 1321 rfl rfl (ixX ht hX 1 (by decide)) ?_
  refine g_run 4 1325 [some (.retAddr 1000), some (.ref 0), some (.ref 105), some (.int (nI (7 * t)))] [.int (nI (7 * t) + (2 : Int32)), .retAddr 1000, .int (X.2 (7 * t + 1)), .ref 0] (fun _ => rfl) ?_
  refine g_iaX 1326 rfl rfl (ixX ht hX 2 (by decide)) ?_
  refine g_run 4 1330 [some (.retAddr 1000), some (.ref 0), some (.ref 105), some (.int (nI (7 * t)))] [.int (nI (7 * t) + (3 : Int32)), .retAddr 1000, .int (X.2 (7 * t + 2)), .int (X.2 (7 * t + 1)), .ref 0] (fun _ => rfl) ?_
  refine g_iaX 1331 rfl rfl (ixX ht hX 3 (by decide)) ?_
  refine g_bool 1339 rfl rfl rfl rfl rfl rfl rfl rfl rfl ?_
  refine g_cV 1342 rfl rfl rfl rfl rfl (Wp_l K1) c1 ?_
  refine g_run 5 1347 [some (.retAddr 1000), some (.ref 0), some (.ref 105), some (.int (nI (7 * t)))] [.int (nI (7 * t) + (1 : Int32)), .retAddr 1000, .ref 105, .int v] (fun _ => rfl) ?_
  refine g_iaX 1348 rfl rfl (ixX ht hX 1 (by decide)) ?_
  refine g_run 4 1352 [some (.retAddr 1000), some (.ref 0), some (.ref 105), some (.int (nI (7 * t)))] [.int (nI (7 * t) + (2 : Int32)), .retAddr 1000, .int (X.2 (7 * t + 1)), .ref 105, .int v] (fun _ => rfl) ?_
  refine g_iaX 1353 rfl rfl (ixX ht hX 2 (by decide)) ?_
  refine g_run 4 1357 [some (.retAddr 1000), some (.ref 0), some (.ref 105), some (.int (nI (7 * t)))] [.int (nI (7 * t) + (3 : Int32)), .retAddr 1000, .int (X.2 (7 * t + 2)), .int (X.2 (7 * t + 1)), .ref 105, .int v] (fun _ => rfl) ?_
  refine g_iaX 1358 rfl rfl (ixX ht hX 3 (by decide)) ?_
  refine g_bool 1366 rfl rfl rfl rfl rfl rfl rfl rfl rfl ?_
  refine g_cV 1369 rfl rfl rfl rfl rfl (Md_l w.2.1) c2 ?_
  exact g_eqT 1443 rfl rfl kk
theorem lw_count (ht : 7 * t + 7 ≤ X.1) (hX : X.1 ≤ 3584) (K1 : Wp_K l r 0) (H : stp X 137 268 [.int (X.2 (7 * t + 1))] l r h j) : lwG X t 1374 l r h j := by
  obtain ⟨v, l', r', h1, h2, j1, j2, c1, c2, w, s1, s2⟩ := H
  refine ⟨l', r', h2, j2, w, s1, s2, fun R kk => ?_⟩
  refine g_run 5 1379 [some (.retAddr 1000), some (.ref 0), some (.ref 105), some (.int (nI (7 * t)))] [.int (nI (7 * t) + (1 : Int32)), .retAddr 1000, .ref 0] (fun _ => rfl) ?_
  refine g_iaX 1380 rfl rfl (ixX ht hX 1 (by decide)) ?_
  refine g_cV 1383 rfl rfl rfl rfl rfl (Wp_l K1) c1 ?_
  refine g_run 5 1388 [some (.retAddr 1000), some (.ref 0), some (.ref 105), some (.int (nI (7 * t)))] [.int (nI (7 * t) + (1 : Int32)), .retAddr 1000, .ref 105, .int v] (fun _ => rfl) ?_
  refine g_iaX 1389 rfl rfl (ixX ht hX 1 (by decide)) ?_
  refine g_cV 1392 rfl rfl rfl rfl rfl (Md_l w.2.1) c2 ?_
  exact g_eqT 1443 rfl rfl kk
theorem lw_image (ht : 7 * t + 7 ≤ X.1) (hX : X.1 ≤ 3584) (K1 : Wp_K l r 0) (H : stp X 138 269 [.int (X.2 (7 * t + 1))] l r h j) : lwG X t 1397 l r h j := by
  obtain ⟨v, l', r', h1, h2, j1, j2, c1, c2, w, s1, s2⟩ := H
  refine ⟨l', r', h2, j2, w, s1, s2, fun R kk => ?_⟩
  refine g_run 5 1402 [some (.retAddr 1000), some (.ref 0), some (.ref 105), some (.int (nI (7 * t)))] [.int (nI (7 * t) + (1 : Int32)), .retAddr 1000, .ref 0] (fun _ => rfl) ?_
  refine g_iaX 1403 rfl rfl (ixX ht hX 1 (by decide)) ?_
  refine g_cV 1406 rfl rfl rfl rfl rfl (Wp_l K1) c1 ?_
  refine g_run 5 1411 [some (.retAddr 1000), some (.ref 0), some (.ref 105), some (.int (nI (7 * t)))] [.int (nI (7 * t) + (1 : Int32)), .retAddr 1000, .ref 105, .int v] (fun _ => rfl) ?_
  refine g_iaX 1412 rfl rfl (ixX ht hX 1 (by decide)) ?_
  refine g_cV 1415 rfl rfl rfl rfl rfl (Md_l w.2.1) c2 ?_
  exact g_eqT 1443 rfl rfl kk
theorem lw_again (ht : 7 * t + 7 ≤ X.1) (hX : X.1 ≤ 3584) (K1 : Wp_K l r 0) (H : stp X 139 270 [.int (X.2 (7 * t + 1))] l r h j) : lwG X t 1420 l r h j := by
  obtain ⟨v, l', r', h1, h2, j1, j2, c1, c2, w, s1, s2⟩ := H
  refine ⟨l', r', h2, j2, w, s1, s2, fun R kk => ?_⟩
  refine g_run 5 1425 [some (.retAddr 1000), some (.ref 0), some (.ref 105), some (.int (nI (7 * t)))] [.int (nI (7 * t) + (1 : Int32)), .retAddr 1000, .ref 0] (fun _ => rfl) ?_
  refine g_iaX 1426 rfl rfl (ixX ht hX 1 (by decide)) ?_
  refine g_cV 1429 rfl rfl rfl rfl rfl (Wp_l K1) c1 ?_
  refine g_run 5 1434 [some (.retAddr 1000), some (.ref 0), some (.ref 105), some (.int (nI (7 * t)))] [.int (nI (7 * t) + (1 : Int32)), .retAddr 1000, .ref 105, .int v] (fun _ => rfl) ?_
  refine g_iaX 1435 rfl rfl (ixX ht hX 1 (by decide)) ?_
  refine g_cV 1438 rfl rfl rfl rfl rfl (Md_l w.2.1) c2 ?_
  exact g_eqT 1443 rfl rfl kk
end LAW
