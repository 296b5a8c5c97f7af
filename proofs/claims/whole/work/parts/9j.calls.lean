/-! the calls, one by one -/
section CALLS
variable {X : Nat × (Nat → Int32)} {l : List (Nat × Nat)} {r : am_R} {h : am_F} {j : am_J} {x1 x2 x3 x4 x5 x6 : Int32}
theorem s_park (H : wR l r h h 3) : stp X 115 198 [.int x1, .int x2] l r h j := by
  obtain ⟨K1, K2, T, ⟨n, B⟩, F, TH, Hd, SH, I, D, ll⟩ := id H
  obtain ⟨v, h2, a1, a2, a3⟩ := q_park (x1 := x1) (x2 := x2) T B
  exact ⟨v, l, r, h, h2, j, j, Wp_park_s K1 a1, Md_park_s K2 a2, wR_A H a3, by omega, by omega⟩
theorem s_bench (H : wR l r h h 3) : stp X 116 199 [.int x1, .int x2, .int x3] l r h j := by
  obtain ⟨K1, K2, T, ⟨n, B⟩, F, TH, Hd, SH, I, D, ll⟩ := id H
  obtain ⟨v, h2, a1, a2, a3⟩ := q_bench (x1 := x1) (x2 := x2) (x3 := x3) T B
  exact ⟨v, l, r, h, h2, j, j, Wp_bench_s K1 a1, Md_bench_s K2 a2, wR_A H a3, by omega, by omega⟩
theorem s_told (H : wR l r h h 3) : stp X 117 200 [.int x1, .int x2, .int x3, .int x4] l r h j := by
  obtain ⟨K1, K2, T, ⟨n, B⟩, F, TH, Hd, SH, I, D, ll⟩ := id H
  obtain ⟨v, h2, a1, a2, a3⟩ := q_told (x1 := x1) (x2 := x2) (x3 := x3) (x4 := x4) T B
  exact ⟨v, l, r, h, h2, j, j, Wp_told_s K1 a1, Md_told_s K2 a2, wR_A H a3, by omega, by omega⟩
theorem s_wet (H : wR l r h h 3) : stp X 118 205 [.int x1, .int x2, .int x3, .int x4] l r h j := by
  obtain ⟨K1, K2, T, ⟨n, B⟩, F, TH, Hd, SH, I, D, ll⟩ := id H
  obtain ⟨v, h2, a1, a2, a3⟩ := q_wet (x1 := x1) (x2 := x2) (x3 := x3) (x4 := x4) T B
  exact ⟨v, l, r, h, h2, j, j, Wp_wet_s K1 a1, Md_wet_s K2 a2, wR_A H a3, by omega, by omega⟩
theorem s_card (H : wR l r h h 3) : stp X 123 224 [.int x1, .int x2, .int x3] l r h j := by
  obtain ⟨K1, K2, T, ⟨n, B⟩, F, TH, Hd, SH, I, D, ll⟩ := id H
  obtain ⟨v, h2, a1, a2, a3⟩ := q_card (x1 := x1) (x2 := x2) (x3 := x3) T B
  exact ⟨v, l, r, h, h2, j, j, Wp_card_s K1 a1, Md_card_s K2 a2, wR_A H a3, by omega, by omega⟩
theorem s_sight (H : wR l r h h 3) : stp X 126 235 [.int x1, .int x2, .int x3] l r h j := by
  obtain ⟨K1, K2, T, ⟨n, B⟩, F, TH, Hd, SH, I, D, ll⟩ := id H
  obtain ⟨v, h2, a1, a2, a3⟩ := q_sight (x1 := x1) (x2 := x2) (x3 := x3) T B
  exact ⟨v, l, r, h, h2, j, j, Wp_sight_s K1 a1, Md_sight_s K2 a2, wR_A H a3, by omega, by omega⟩
theorem s_alarm (H : wR l r h h 3) : stp X 130 250 [.int x1, .int x2, .int x3] l r h j := by
  obtain ⟨K1, K2, T, ⟨n, B⟩, F, TH, Hd, SH, I, D, ll⟩ := id H
  obtain ⟨v, h2, a1, a2, a3⟩ := q_alarm (x1 := x1) (x2 := x2) (x3 := x3) T B
  exact ⟨v, l, r, h, h2, j, j, Wp_alarm_s K1 a1, Md_alarm_s K2 a2, wR_A H a3, by omega, by omega⟩
theorem s_plan (H : wR l r h h 3) : stp X 131 254 [.int x1, .int x2, .int x3] l r h j := by
  obtain ⟨K1, K2, T, ⟨n, B⟩, F, TH, Hd, SH, I, D, ll⟩ := id H
  obtain ⟨v, h2, a1, a2, a3⟩ := q_plan (x1 := x1) (x2 := x2) (x3 := x3) T B
  exact ⟨v, l, r, h, h2, j, j, Wp_plan_s K1 a1, Md_plan_s K2 a2, wR_A H a3, by omega, by omega⟩
theorem s_halves (H : wR l r h h 3) : stp X 132 259 [.int x1, .int x2, .int x3, .int x4] l r h j := by
  obtain ⟨K1, K2, T, ⟨n, B⟩, F, TH, Hd, SH, I, D, ll⟩ := id H
  obtain ⟨v, h2, a1, a2, a3⟩ := q_halves (x1 := x1) (x2 := x2) (x3 := x3) (x4 := x4) T B
  exact ⟨v, l, r, h, h2, j, j, Wp_halves_s K1 a1, Md_halves_s K2 a2, wR_A H a3, by omega, by omega⟩
theorem s_count (H : wR l r h h 3) : stp X 137 268 [.int x1] l r h j := by
  obtain ⟨K1, K2, T, ⟨n, B⟩, F, TH, Hd, SH, I, D, ll⟩ := id H
  obtain ⟨v, h2, a1, a2, a3⟩ := q_count (x1 := x1) B
  exact ⟨v, l, r, h, h2, j, j, Wp_count_s K1 a1, Md_count_s K2 a2, wR_A H a3, by omega, by omega⟩
theorem s_fault (H : wR l r h h 3) : stp X 114 192 [.int x1] l r h j := by
  obtain ⟨K1, K2, T, ⟨n, B⟩, F, TH, Hd, SH, I, D, ll⟩ := id H
  obtain ⟨N, _, _, _, _, N5, N6⟩ := F
  obtain ⟨h2, a2, a3⟩ := q_fault (x1 := x1) N5 N6
  exact ⟨_, l, r, h, h2, j, j, Wp_fault_s K1, Md_fault_s K2 a2, wR_A H a3, by omega, by omega⟩
theorem s_did (H : wR l r h h 3) : stp X 119 215 [.int x1, .int x2, .int x3] l r h j := by
  obtain ⟨K1, K2, T, ⟨n, B⟩, F, TH, Hd, SH, I, D, ll⟩ := id H
  obtain ⟨v, h1, g1, a1, a2, a3, a4, a5⟩ := q_did (x1 := x1) (x2 := x2) (x3 := x3) T B (st_wL K1 K2) SH
  obtain ⟨v2, h1b, h2, b1, b2, b3, b4, b5⟩ := q_did (x1 := x1) (x2 := x2) (x3 := x3) T (B_fr B a3) (st_wL K1 K2) SH
  rw [a1] at b1
  cases b1
  exact ⟨v, l, r, h1, h2, j, j, Wp_did_s K1 a1, Md_did_s K2 b2, wR_B H a3 a4 b5, by omega, by omega⟩
theorem s_day (H : wR l r h h 3) : stp X 120 218 [.int x1, .int x2] l r h j := by
  obtain ⟨K1, K2, T, ⟨n, B⟩, F, TH, Hd, SH, I, D, ll⟩ := id H
  obtain ⟨v, h1, g1, a1, a2, a3, a4, a5⟩ := q_day (x1 := x1) (x2 := x2) T B (st_wL K1 K2) SH
  obtain ⟨v2, h1b, h2, b1, b2, b3, b4, b5⟩ := q_day (x1 := x1) (x2 := x2) T (B_fr B a3) (st_wL K1 K2) SH
  rw [a1] at b1
  cases b1
  exact ⟨v, l, r, h1, h2, j, j, Wp_day_s K1 a1, Md_day_s K2 b2, wR_B H a3 a4 b5, by omega, by omega⟩
theorem s_hang (H : wR l r h h 3) : stp X 121 219 [.int x1, .int x2, .int x3] l r h j := by
  obtain ⟨K1, K2, T, ⟨n, B⟩, F, TH, Hd, SH, I, D, ll⟩ := id H
  obtain ⟨v, h1, g1, a1, a2, a3, a4, a5⟩ := q_hang (x1 := x1) (x2 := x2) (x3 := x3) T B (st_wL K1 K2) SH
  obtain ⟨v2, h1b, h2, b1, b2, b3, b4, b5⟩ := q_hang (x1 := x1) (x2 := x2) (x3 := x3) T (B_fr B a3) (st_wL K1 K2) SH
  rw [a1] at b1
  cases b1
  exact ⟨v, l, r, h1, h2, j, j, Wp_hang_s K1 a1, Md_hang_s K2 b2, wR_B H a3 a4 b5, by omega, by omega⟩
theorem s_rule (H : wR l r h h 3) : stp X 122 221 [.int x1, .int x2] l r h j := by
  obtain ⟨K1, K2, T, ⟨n, B⟩, F, TH, Hd, SH, I, D, ll⟩ := id H
  obtain ⟨v, h1, g1, a1, a2, a3, a4, a5⟩ := q_rule (x1 := x1) (x2 := x2) T B (st_wL K1 K2) SH
  obtain ⟨v2, h1b, h2, b1, b2, b3, b4, b5⟩ := q_rule (x1 := x1) (x2 := x2) T (B_fr B a3) (st_wL K1 K2) SH
  rw [a1] at b1
  cases b1
  exact ⟨v, l, r, h1, h2, j, j, Wp_rule_s K1 a1, Md_rule_s K2 b2, wR_B H a3 a4 b5, by omega, by omega⟩
theorem s_days (H : wR l r h h 3) : stp X 124 227 [.int x1, .int x2, .int x3] l r h j := by
  obtain ⟨K1, K2, T, ⟨n, B⟩, F, TH, Hd, SH, I, D, ll⟩ := id H
  obtain ⟨v, h1, g1, a1, a2, a3, a4, a5⟩ := q_days (x1 := x1) (x2 := x2) (x3 := x3) T B (st_wL K1 K2) SH
  obtain ⟨v2, h1b, h2, b1, b2, b3, b4, b5⟩ := q_days (x1 := x1) (x2 := x2) (x3 := x3) T (B_fr B a3) (st_wL K1 K2) SH
  rw [a1] at b1
  cases b1
  exact ⟨v, l, r, h1, h2, j, j, Wp_days_s K1 a1, Md_days_s K2 b2, wR_B H a3 a4 b5, by omega, by omega⟩
theorem s_order (H : wR l r h h 3) : stp X 125 231 [.int x1, .int x2, .int x3] l r h j := by
  obtain ⟨K1, K2, T, ⟨n, B⟩, F, TH, Hd, SH, I, D, ll⟩ := id H
  obtain ⟨v, h1, g1, a1, a2, a3, a4, a5⟩ := q_order (x1 := x1) (x2 := x2) (x3 := x3) T B (st_wL K1 K2) SH
  obtain ⟨v2, h1b, h2, b1, b2, b3, b4, b5⟩ := q_order (x1 := x1) (x2 := x2) (x3 := x3) T (B_fr B a3) (st_wL K1 K2) SH
  rw [a1] at b1
  cases b1
  exact ⟨v, l, r, h1, h2, j, j, Wp_order_s K1 a1, Md_order_s K2 b2, wR_B H a3 a4 b5, by omega, by omega⟩
theorem s_drawn (H : wR l r h h 3) : stp X 133 261 [.int x1, .int x2, .int x3, .int x4] l r h j := by
  obtain ⟨K1, K2, T, ⟨n, B⟩, F, TH, Hd, SH, I, D, ll⟩ := id H
  obtain ⟨v, h1, g1, a1, a2, a3, a4, a5⟩ := q_drawn (x1 := x1) (x2 := x2) (x3 := x3) (x4 := x4) T B (st_wL K1 K2) SH
  obtain ⟨v2, h1b, h2, b1, b2, b3, b4, b5⟩ := q_drawn (x1 := x1) (x2 := x2) (x3 := x3) (x4 := x4) T (B_fr B a3) (st_wL K1 K2) SH
  rw [a1] at b1
  cases b1
  exact ⟨v, l, r, h1, h2, j, j, Wp_drawn_s K1 a1, Md_drawn_s K2 b2, wR_B H a3 a4 b5, by omega, by omega⟩
theorem s_otherwise (H : wR l r h h 3) : stp X 134 264 [.int x1, .int x2, .int x3] l r h j := by
  obtain ⟨K1, K2, T, ⟨n, B⟩, F, TH, Hd, SH, I, D, ll⟩ := id H
  obtain ⟨v, h1, g1, a1, a2, a3, a4, a5⟩ := q_otherwise (x1 := x1) (x2 := x2) (x3 := x3) T B (st_wL K1 K2) SH
  obtain ⟨v2, h1b, h2, b1, b2, b3, b4, b5⟩ := q_otherwise (x1 := x1) (x2 := x2) (x3 := x3) T (B_fr B a3) (st_wL K1 K2) SH
  rw [a1] at b1
  cases b1
  exact ⟨v, l, r, h1, h2, j, j, Wp_otherwise_s K1 a1, Md_otherwise_s K2 b2, wR_B H a3 a4 b5, by omega, by omega⟩
theorem s_spare (H : wR l r h h 3) : stp X 135 266 [.int x1, .int x2] l r h j := by
  obtain ⟨K1, K2, T, ⟨n, B⟩, F, TH, Hd, SH, I, D, ll⟩ := id H
  obtain ⟨v, h1, g1, a1, a2, a3, a4, a5⟩ := q_spare (x1 := x1) (x2 := x2) T B (st_wL K1 K2) SH
  obtain ⟨v2, h1b, h2, b1, b2, b3, b4, b5⟩ := q_spare (x1 := x1) (x2 := x2) T (B_fr B a3) (st_wL K1 K2) SH
  rw [a1] at b1
  cases b1
  exact ⟨v, l, r, h1, h2, j, j, Wp_spare_s K1 a1, Md_spare_s K2 b2, wR_B H a3 a4 b5, by omega, by omega⟩
theorem s_anew (H : wR l r h h 3) : stp X 136 267 [.int x1, .int x2, .int x3] l r h j := by
  obtain ⟨K1, K2, T, ⟨n, B⟩, F, TH, Hd, SH, I, D, ll⟩ := id H
  obtain ⟨v, h1, g1, a1, a2, a3, a4, a5⟩ := q_anew (x1 := x1) (x2 := x2) (x3 := x3) T B (st_wL K1 K2) SH
  obtain ⟨v2, h1b, h2, b1, b2, b3, b4, b5⟩ := q_anew (x1 := x1) (x2 := x2) (x3 := x3) T (B_fr B a3) (st_wL K1 K2) SH
  rw [a1] at b1
  cases b1
  exact ⟨v, l, r, h1, h2, j, j, Wp_anew_s K1 a1, Md_anew_s K2 b2, wR_B H a3 a4 b5, by omega, by omega⟩
theorem s_likely (H : wR l r h h 3) : stp X 127 240 [.int x1, .int x2, .int x3, .int x4, .int x5, .int x6] l r h j := by
  obtain ⟨K1, K2, T, ⟨n, B⟩, F, TH, Hd, SH, I, D, ll⟩ := id H
  obtain ⟨v, h1, g1, r', a1, a2, a3, a4, a5, a6⟩ := q_likely (x1 := x1) (x2 := x2) (x3 := x3) (x4 := x4) (x5 := x5) (x6 := x6) T B (st_wL K1 K2) SH
  obtain ⟨v2, h1b, h2, r2, b1, b2, b3, b4, b5, b6⟩ := q_likely (x1 := x1) (x2 := x2) (x3 := x3) (x4 := x4) (x5 := x5) (x6 := x6) T (B_fr B a3) (st_wL K1 K2) SH
  rw [a1] at b1
  cases b1
  obtain ⟨kp, er⟩ := rP_kp K1 T a6
  exact ⟨v, l, r', h1, h2, j, j, Wp_likely_s K1 a1, Md_likely_s (g_kp_Md kp K2) b2, wR_r (wR_B H a3 a4 b5) kp er, by omega, by omega⟩
theorem s_act (H : wR l r h h 3) : stp X 128 242 [.int x1, .int x2, .int x3, .int x4, .int x5, .int x6] l r h j := by
  obtain ⟨K1, K2, T, ⟨n, B⟩, F, TH, Hd, SH, I, D, ll⟩ := id H
  obtain ⟨v, h1, g1, r', a1, a2, a3, a4, a5, a6⟩ := q_act (x1 := x1) (x2 := x2) (x3 := x3) (x4 := x4) (x5 := x5) (x6 := x6) T B (st_wL K1 K2) SH
  obtain ⟨v2, h1b, h2, r2, b1, b2, b3, b4, b5, b6⟩ := q_act (x1 := x1) (x2 := x2) (x3 := x3) (x4 := x4) (x5 := x5) (x6 := x6) T (B_fr B a3) (st_wL K1 K2) SH
  rw [a1] at b1
  cases b1
  obtain ⟨kp, er⟩ := rP_kp K1 T a6
  exact ⟨v, l, r', h1, h2, j, j, Wp_act_s K1 a1, Md_act_s (g_kp_Md kp K2) b2, wR_r (wR_B H a3 a4 b5) kp er, by omega, by omega⟩
theorem s_read (H : wR l r h h 3) : stp X 129 244 [.int x1, .int x2, .int x3, .int x4] l r h j := by
  obtain ⟨K1, K2, T, ⟨n, B⟩, F, TH, Hd, SH, I, D, ll⟩ := id H
  obtain ⟨v, h1, g1, r', a1, a2, a3, a4, a5, a6⟩ := q_read (x1 := x1) (x2 := x2) (x3 := x3) (x4 := x4) T B (st_wL K1 K2) SH
  obtain ⟨v2, h1b, h2, r2, b1, b2, b3, b4, b5, b6⟩ := q_read (x1 := x1) (x2 := x2) (x3 := x3) (x4 := x4) T (B_fr B a3) (st_wL K1 K2) SH
  rw [a1] at b1
  cases b1
  obtain ⟨kp, er⟩ := rP_kp K1 T a6
  exact ⟨v, l, r', h1, h2, j, j, Wp_read_s K1 a1, Md_read_s (g_kp_Md kp K2) b2, wR_r (wR_B H a3 a4 b5) kp er, by omega, by omega⟩
end CALLS
