set_option maxRecDepth 100000 in
set_option maxHeartbeats 4000000 in
theorem ck_216 : ∀ k, k < am_clen 216 → am_ok 216 k = true := by decide +kernel
set_option maxRecDepth 100000 in
set_option maxHeartbeats 4000000 in
theorem ck_217 : ∀ k, k < am_clen 217 → am_ok 217 k = true := by decide +kernel
set_option maxRecDepth 100000 in
set_option maxHeartbeats 4000000 in
theorem ck_218 : ∀ k, k < am_clen 218 → am_ok 218 k = true := by decide +kernel
set_option maxRecDepth 100000 in
set_option maxHeartbeats 4000000 in
theorem ck_219 : ∀ k, k < am_clen 219 → am_ok 219 k = true := by decide +kernel
set_option maxRecDepth 100000 in
set_option maxHeartbeats 4000000 in
theorem ck_220 : ∀ k, k < am_clen 220 → am_ok 220 k = true := by decide +kernel
set_option maxRecDepth 100000 in
set_option maxHeartbeats 4000000 in
theorem ck_221 : ∀ k, k < am_clen 221 → am_ok 221 k = true := by decide +kernel
set_option maxRecDepth 100000 in
set_option maxHeartbeats 4000000 in
theorem ck_222 : ∀ k, k < am_clen 222 → am_ok 222 k = true := by decide +kernel
set_option maxRecDepth 100000 in
set_option maxHeartbeats 4000000 in
theorem ck_223 : ∀ k, k < am_clen 223 → am_ok 223 k = true := by decide +kernel
set_option maxRecDepth 100000 in
set_option maxHeartbeats 4000000 in
theorem ck_224 : ∀ k, k < am_clen 224 → am_ok 224 k = true := by decide +kernel
set_option maxRecDepth 100000 in
set_option maxHeartbeats 4000000 in
theorem ck_225 : ∀ k, k < am_clen 225 → am_ok 225 k = true := by decide +kernel
set_option maxRecDepth 100000 in
set_option maxHeartbeats 4000000 in
theorem ck_226 : ∀ k, k < am_clen 226 → am_ok 226 k = true := by decide +kernel
set_option maxRecDepth 100000 in
set_option maxHeartbeats 4000000 in
theorem ck_227 : ∀ k, k < am_clen 227 → am_ok 227 k = true := by decide +kernel
set_option maxRecDepth 100000 in
set_option maxHeartbeats 4000000 in
theorem ck_228 : ∀ k, k < am_clen 228 → am_ok 228 k = true := by decide +kernel
set_option maxRecDepth 100000 in
set_option maxHeartbeats 4000000 in
theorem ck_229 : ∀ k, k < am_clen 229 → am_ok 229 k = true := by decide +kernel
set_option maxRecDepth 100000 in
set_option maxHeartbeats 4000000 in
theorem ck_230 : ∀ k, k < am_clen 230 → am_ok 230 k = true := by decide +kernel
set_option maxRecDepth 100000 in
set_option maxHeartbeats 4000000 in
theorem ck_231 : ∀ k, k < am_clen 231 → am_ok 231 k = true := by decide +kernel
set_option maxRecDepth 100000 in
set_option maxHeartbeats 4000000 in
theorem ck_232 : ∀ k, k < am_clen 232 → am_ok 232 k = true := by decide +kernel
set_option maxRecDepth 100000 in
set_option maxHeartbeats 4000000 in
theorem ck_233 : ∀ k, k < am_clen 233 → am_ok 233 k = true := by decide +kernel
set_option maxRecDepth 100000 in
set_option maxHeartbeats 4000000 in
theorem ck_234 : ∀ k, k < am_clen 234 → am_ok 234 k = true := by decide +kernel
set_option maxRecDepth 100000 in
set_option maxHeartbeats 4000000 in
theorem ck_235 : ∀ k, k < am_clen 235 → am_ok 235 k = true := by decide +kernel
set_option maxRecDepth 100000 in
set_option maxHeartbeats 4000000 in
theorem ck_236 : ∀ k, k < am_clen 236 → am_ok 236 k = true := by decide +kernel
set_option maxRecDepth 100000 in
set_option maxHeartbeats 4000000 in
theorem ck_237 : ∀ k, k < am_clen 237 → am_ok 237 k = true := by decide +kernel
set_option maxRecDepth 100000 in
set_option maxHeartbeats 4000000 in
theorem ck_238 : ∀ k, k < am_clen 238 → am_ok 238 k = true := by decide +kernel
set_option maxRecDepth 100000 in
set_option maxHeartbeats 4000000 in
theorem ck_239 : ∀ k, k < am_clen 239 → am_ok 239 k = true := by decide +kernel
set_option maxRecDepth 100000 in
set_option maxHeartbeats 4000000 in
theorem ck_240 : ∀ k, k < am_clen 240 → am_ok 240 k = true := by decide +kernel
set_option maxRecDepth 100000 in
set_option maxHeartbeats 4000000 in
theorem ck_241 : ∀ k, k < am_clen 241 → am_ok 241 k = true := by decide +kernel
set_option maxRecDepth 100000 in
set_option maxHeartbeats 4000000 in
theorem ck_242 : ∀ k, k < am_clen 242 → am_ok 242 k = true := by decide +kernel
set_option maxRecDepth 100000 in
set_option maxHeartbeats 4000000 in
theorem ck_243 : ∀ k, k < am_clen 243 → am_ok 243 k = true := by decide +kernel
set_option maxRecDepth 100000 in
set_option maxHeartbeats 4000000 in
theorem ck_244 : ∀ k, k < am_clen 244 → am_ok 244 k = true := by decide +kernel
set_option maxRecDepth 100000 in
set_option maxHeartbeats 4000000 in
theorem ck_245 : ∀ k, k < am_clen 245 → am_ok 245 k = true := by decide +kernel
set_option maxRecDepth 100000 in
set_option maxHeartbeats 4000000 in
theorem ck_246 : ∀ k, k < am_clen 246 → am_ok 246 k = true := by decide +kernel
set_option maxRecDepth 100000 in
set_option maxHeartbeats 4000000 in
theorem ck_247 : ∀ k, k < am_clen 247 → am_ok 247 k = true := by decide +kernel
set_option maxRecDepth 100000 in
set_option maxHeartbeats 4000000 in
theorem ck_248 : ∀ k, k < am_clen 248 → am_ok 248 k = true := by decide +kernel
set_option maxRecDepth 100000 in
set_option maxHeartbeats 4000000 in
theorem ck_249 : ∀ k, k < am_clen 249 → am_ok 249 k = true := by decide +kernel
set_option maxRecDepth 100000 in
set_option maxHeartbeats 4000000 in
theorem ck_250 : ∀ k, k < am_clen 250 → am_ok 250 k = true := by decide +kernel
