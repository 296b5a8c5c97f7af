set_option maxRecDepth 100000 in
set_option maxHeartbeats 4000000 in
theorem ck_0 : ∀ k, k < am_clen 0 → am_ok 0 k = true := by decide +kernel
set_option maxRecDepth 100000 in
set_option maxHeartbeats 4000000 in
theorem ck_1 : ∀ k, k < am_clen 1 → am_ok 1 k = true := by decide +kernel
set_option maxRecDepth 100000 in
set_option maxHeartbeats 4000000 in
theorem ck_2 : ∀ k, k < am_clen 2 → am_ok 2 k = true := by decide +kernel
set_option maxRecDepth 100000 in
set_option maxHeartbeats 4000000 in
theorem ck_3 : ∀ k, k < am_clen 3 → am_ok 3 k = true := by decide +kernel
set_option maxRecDepth 100000 in
set_option maxHeartbeats 4000000 in
theorem ck_4 : ∀ k, k < am_clen 4 → am_ok 4 k = true := by decide +kernel
set_option maxRecDepth 100000 in
set_option maxHeartbeats 4000000 in
theorem ck_5 : ∀ k, k < am_clen 5 → am_ok 5 k = true := by decide +kernel
set_option maxRecDepth 100000 in
set_option maxHeartbeats 4000000 in
theorem ck_6 : ∀ k, k < am_clen 6 → am_ok 6 k = true := by decide +kernel
set_option maxRecDepth 100000 in
set_option maxHeartbeats 4000000 in
theorem ck_7 : ∀ k, k < am_clen 7 → am_ok 7 k = true := by decide +kernel
set_option maxRecDepth 100000 in
set_option maxHeartbeats 4000000 in
theorem ck_8 : ∀ k, k < am_clen 8 → am_ok 8 k = true := by decide +kernel
set_option maxRecDepth 100000 in
set_option maxHeartbeats 4000000 in
theorem ck_9 : ∀ k, k < am_clen 9 → am_ok 9 k = true := by decide +kernel
set_option maxRecDepth 100000 in
set_option maxHeartbeats 4000000 in
theorem ck_10 : ∀ k, k < am_clen 10 → am_ok 10 k = true := by decide +kernel
set_option maxRecDepth 100000 in
set_option maxHeartbeats 4000000 in
theorem ck_11 : ∀ k, k < am_clen 11 → am_ok 11 k = true := by decide +kernel
set_option maxRecDepth 100000 in
set_option maxHeartbeats 4000000 in
theorem ck_12 : ∀ k, k < am_clen 12 → am_ok 12 k = true := by decide +kernel
set_option maxRecDepth 100000 in
set_option maxHeartbeats 4000000 in
theorem ck_13 : ∀ k, k < am_clen 13 → am_ok 13 k = true := by decide +kernel
set_option maxRecDepth 100000 in
set_option maxHeartbeats 4000000 in
theorem ck_14 : ∀ k, k < am_clen 14 → am_ok 14 k = true := by decide +kernel
set_option maxRecDepth 100000 in
set_option maxHeartbeats 4000000 in
theorem ck_15 : ∀ k, k < am_clen 15 → am_ok 15 k = true := by decide +kernel
set_option maxRecDepth 100000 in
set_option maxHeartbeats 4000000 in
theorem ck_16 : ∀ k, k < am_clen 16 → am_ok 16 k = true := by decide +kernel
set_option maxRecDepth 100000 in
set_option maxHeartbeats 4000000 in
theorem ck_17 : ∀ k, k < am_clen 17 → am_ok 17 k = true := by decide +kernel
set_option maxRecDepth 100000 in
set_option maxHeartbeats 4000000 in
theorem ck_18 : ∀ k, k < am_clen 18 → am_ok 18 k = true := by decide +kernel
set_option maxRecDepth 100000 in
set_option maxHeartbeats 4000000 in
theorem ck_19 : ∀ k, k < am_clen 19 → am_ok 19 k = true := by decide +kernel
set_option maxRecDepth 100000 in
set_option maxHeartbeats 4000000 in
theorem ck_20 : ∀ k, k < am_clen 20 → am_ok 20 k = true := by decide +kernel
set_option maxRecDepth 100000 in
set_option maxHeartbeats 4000000 in
theorem ck_21 : ∀ k, k < am_clen 21 → am_ok 21 k = true := by decide +kernel
set_option maxRecDepth 100000 in
set_option maxHeartbeats 4000000 in
theorem ck_22 : ∀ k, k < am_clen 22 → am_ok 22 k = true := by decide +kernel
set_option maxRecDepth 100000 in
set_option maxHeartbeats 4000000 in
theorem ck_23 : ∀ k, k < am_clen 23 → am_ok 23 k = true := by decide +kernel
set_option maxRecDepth 100000 in
set_option maxHeartbeats 4000000 in
theorem ck_24 : ∀ k, k < am_clen 24 → am_ok 24 k = true := by decide +kernel
set_option maxRecDepth 100000 in
set_option maxHeartbeats 4000000 in
theorem ck_25 : ∀ k, k < am_clen 25 → am_ok 25 k = true := by decide +kernel
set_option maxRecDepth 100000 in
set_option maxHeartbeats 4000000 in
theorem ck_26 : ∀ k, k < am_clen 26 → am_ok 26 k = true := by decide +kernel
set_option maxRecDepth 100000 in
set_option maxHeartbeats 4000000 in
theorem ck_27 : ∀ k, k < am_clen 27 → am_ok 27 k = true := by decide +kernel
set_option maxRecDepth 100000 in
set_option maxHeartbeats 4000000 in
theorem ck_28 : ∀ k, k < am_clen 28 → am_ok 28 k = true := by decide +kernel
set_option maxRecDepth 100000 in
set_option maxHeartbeats 4000000 in
theorem ck_29 : ∀ k, k < am_clen 29 → am_ok 29 k = true := by decide +kernel
set_option maxRecDepth 100000 in
set_option maxHeartbeats 4000000 in
theorem ck_30 : ∀ k, k < am_clen 30 → am_ok 30 k = true := by decide +kernel
set_option maxRecDepth 100000 in
set_option maxHeartbeats 4000000 in
theorem ck_31 : ∀ k, k < am_clen 31 → am_ok 31 k = true := by decide +kernel
set_option maxRecDepth 100000 in
set_option maxHeartbeats 4000000 in
theorem ck_32 : ∀ k, k < am_clen 32 → am_ok 32 k = true := by decide +kernel
set_option maxRecDepth 100000 in
set_option maxHeartbeats 4000000 in
theorem ck_33 : ∀ k, k < am_clen 33 → am_ok 33 k = true := by decide +kernel
set_option maxRecDepth 100000 in
set_option maxHeartbeats 4000000 in
theorem ck_34 : ∀ k, k < am_clen 34 → am_ok 34 k = true := by decide +kernel
set_option maxRecDepth 100000 in
set_option maxHeartbeats 4000000 in
theorem ck_35 : ∀ k, k < am_clen 35 → am_ok 35 k = true := by decide +kernel
