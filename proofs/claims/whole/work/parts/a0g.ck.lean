set_option maxRecDepth 100000 in
set_option maxHeartbeats 4000000 in
theorem ck_251 : ∀ k, k < am_clen 251 → am_ok 251 k = true := by decide +kernel
set_option maxRecDepth 100000 in
set_option maxHeartbeats 4000000 in
theorem ck_252 : ∀ k, k < am_clen 252 → am_ok 252 k = true := by decide +kernel
set_option maxRecDepth 100000 in
set_option maxHeartbeats 4000000 in
theorem ck_253 : ∀ k, k < am_clen 253 → am_ok 253 k = true := by decide +kernel
set_option maxRecDepth 100000 in
set_option maxHeartbeats 4000000 in
theorem ck_254 : ∀ k, k < am_clen 254 → am_ok 254 k = true := by decide +kernel
set_option maxRecDepth 100000 in
set_option maxHeartbeats 4000000 in
theorem ck_255 : ∀ k, k < am_clen 255 → am_ok 255 k = true := by decide +kernel
set_option maxRecDepth 100000 in
set_option maxHeartbeats 4000000 in
theorem ck_256 : ∀ k, k < am_clen 256 → am_ok 256 k = true := by decide +kernel
set_option maxRecDepth 100000 in
set_option maxHeartbeats 4000000 in
theorem ck_257 : ∀ k, k < am_clen 257 → am_ok 257 k = true := by decide +kernel
set_option maxRecDepth 100000 in
set_option maxHeartbeats 4000000 in
theorem ck_258 : ∀ k, k < am_clen 258 → am_ok 258 k = true := by decide +kernel
set_option maxRecDepth 100000 in
set_option maxHeartbeats 4000000 in
theorem ck_259 : ∀ k, k < am_clen 259 → am_ok 259 k = true := by decide +kernel
set_option maxRecDepth 100000 in
set_option maxHeartbeats 4000000 in
theorem ck_260 : ∀ k, k < am_clen 260 → am_ok 260 k = true := by decide +kernel
set_option maxRecDepth 100000 in
set_option maxHeartbeats 4000000 in
theorem ck_261 : ∀ k, k < am_clen 261 → am_ok 261 k = true := by decide +kernel
set_option maxRecDepth 100000 in
set_option maxHeartbeats 4000000 in
theorem ck_262 : ∀ k, k < am_clen 262 → am_ok 262 k = true := by decide +kernel
set_option maxRecDepth 100000 in
set_option maxHeartbeats 4000000 in
theorem ck_263 : ∀ k, k < am_clen 263 → am_ok 263 k = true := by decide +kernel
set_option maxRecDepth 100000 in
set_option maxHeartbeats 4000000 in
theorem ck_264 : ∀ k, k < am_clen 264 → am_ok 264 k = true := by decide +kernel
set_option maxRecDepth 100000 in
set_option maxHeartbeats 4000000 in
theorem ck_265 : ∀ k, k < am_clen 265 → am_ok 265 k = true := by decide +kernel
set_option maxRecDepth 100000 in
set_option maxHeartbeats 4000000 in
theorem ck_266 : ∀ k, k < am_clen 266 → am_ok 266 k = true := by decide +kernel
set_option maxRecDepth 100000 in
set_option maxHeartbeats 4000000 in
theorem ck_267 : ∀ k, k < am_clen 267 → am_ok 267 k = true := by decide +kernel
set_option maxRecDepth 100000 in
set_option maxHeartbeats 4000000 in
theorem ck_268 : ∀ k, k < am_clen 268 → am_ok 268 k = true := by decide +kernel
set_option maxRecDepth 100000 in
set_option maxHeartbeats 4000000 in
theorem ck_269 : ∀ k, k < am_clen 269 → am_ok 269 k = true := by decide +kernel
set_option maxRecDepth 100000 in
set_option maxHeartbeats 4000000 in
theorem ck_270 : ∀ k, k < am_clen 270 → am_ok 270 k = true := by decide +kernel
set_option maxRecDepth 100000 in
set_option maxHeartbeats 4000000 in
theorem ck_271 : ∀ k, k < am_clen 271 → am_ok 271 k = true := by decide +kernel
set_option maxRecDepth 100000 in
set_option maxHeartbeats 4000000 in
theorem ck_272_0 : ∀ k, k < 120 → am_ok 272 (0 + k) = true := by decide +kernel
set_option maxRecDepth 100000 in
set_option maxHeartbeats 4000000 in
theorem ck_272_1 : ∀ k, k < 120 → am_ok 272 (120 + k) = true := by decide +kernel
set_option maxRecDepth 100000 in
set_option maxHeartbeats 4000000 in
theorem ck_272_2 : ∀ k, k < 120 → am_ok 272 (240 + k) = true := by decide +kernel
set_option maxRecDepth 100000 in
set_option maxHeartbeats 4000000 in
theorem ck_272_3 : ∀ k, k < 120 → am_ok 272 (360 + k) = true := by decide +kernel
set_option maxRecDepth 100000 in
set_option maxHeartbeats 4000000 in
theorem ck_272_4 : ∀ k, k < 120 → am_ok 272 (480 + k) = true := by decide +kernel
set_option maxRecDepth 100000 in
set_option maxHeartbeats 4000000 in
theorem ck_272_5 : ∀ k, k < 120 → am_ok 272 (600 + k) = true := by decide +kernel
set_option maxRecDepth 100000 in
set_option maxHeartbeats 4000000 in
theorem ck_272_6 : ∀ k, k < 120 → am_ok 272 (720 + k) = true := by decide +kernel
set_option maxRecDepth 100000 in
set_option maxHeartbeats 4000000 in
theorem ck_272_7 : ∀ k, k < 120 → am_ok 272 (840 + k) = true := by decide +kernel
set_option maxRecDepth 100000 in
set_option maxHeartbeats 4000000 in
theorem ck_272_8 : ∀ k, k < 120 → am_ok 272 (960 + k) = true := by decide +kernel
set_option maxRecDepth 100000 in
set_option maxHeartbeats 4000000 in
theorem ck_272_9 : ∀ k, k < 120 → am_ok 272 (1080 + k) = true := by decide +kernel
set_option maxRecDepth 100000 in
set_option maxHeartbeats 4000000 in
theorem ck_272_10 : ∀ k, k < 120 → am_ok 272 (1200 + k) = true := by decide +kernel
set_option maxRecDepth 100000 in
set_option maxHeartbeats 4000000 in
theorem ck_272_11 : ∀ k, k < 120 → am_ok 272 (1320 + k) = true := by decide +kernel
set_option maxRecDepth 100000 in
set_option maxHeartbeats 4000000 in
theorem ck_272_12 : ∀ k, k < 120 → am_ok 272 (1440 + k) = true := by decide +kernel
theorem ck_272 : ∀ k, k < am_clen 272 → am_ok 272 k = true := by
  intro k hk
  have hk : k < 1451 := hk
  by_cases h0 : k < 120
  · have := ck_272_0 (k - 0) (by omega)
    rwa [show 0 + (k - 0) = k by omega] at this
  by_cases h1 : k < 240
  · have := ck_272_1 (k - 120) (by omega)
    rwa [show 120 + (k - 120) = k by omega] at this
  by_cases h2 : k < 360
  · have := ck_272_2 (k - 240) (by omega)
    rwa [show 240 + (k - 240) = k by omega] at this
  by_cases h3 : k < 480
  · have := ck_272_3 (k - 360) (by omega)
    rwa [show 360 + (k - 360) = k by omega] at this
  by_cases h4 : k < 600
  · have := ck_272_4 (k - 480) (by omega)
    rwa [show 480 + (k - 480) = k by omega] at this
  by_cases h5 : k < 720
  · have := ck_272_5 (k - 600) (by omega)
    rwa [show 600 + (k - 600) = k by omega] at this
  by_cases h6 : k < 840
  · have := ck_272_6 (k - 720) (by omega)
    rwa [show 720 + (k - 720) = k by omega] at this
  by_cases h7 : k < 960
  · have := ck_272_7 (k - 840) (by omega)
    rwa [show 840 + (k - 840) = k by omega] at this
  by_cases h8 : k < 1080
  · have := ck_272_8 (k - 960) (by omega)
    rwa [show 960 + (k - 960) = k by omega] at this
  by_cases h9 : k < 1200
  · have := ck_272_9 (k - 1080) (by omega)
    rwa [show 1080 + (k - 1080) = k by omega] at this
  by_cases h10 : k < 1320
  · have := ck_272_10 (k - 1200) (by omega)
    rwa [show 1200 + (k - 1200) = k by omega] at this
  by_cases h11 : k < 1440
  · have := ck_272_11 (k - 1320) (by omega)
    rwa [show 1320 + (k - 1320) = k by omega] at this
  by_cases h12 : k < 1560
  · have := ck_272_12 (k - 1440) (by omega)
    rwa [show 1440 + (k - 1440) = k by omega] at this
  omega
