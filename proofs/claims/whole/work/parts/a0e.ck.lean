set_option maxRecDepth 100000 in
set_option maxHeartbeats 4000000 in
theorem ck_181 : ∀ k, k < am_clen 181 → am_ok 181 k = true := by decide +kernel
set_option maxRecDepth 100000 in
set_option maxHeartbeats 4000000 in
theorem ck_182 : ∀ k, k < am_clen 182 → am_ok 182 k = true := by decide +kernel
set_option maxRecDepth 100000 in
set_option maxHeartbeats 4000000 in
theorem ck_183 : ∀ k, k < am_clen 183 → am_ok 183 k = true := by decide +kernel
set_option maxRecDepth 100000 in
set_option maxHeartbeats 4000000 in
theorem ck_184 : ∀ k, k < am_clen 184 → am_ok 184 k = true := by decide +kernel
set_option maxRecDepth 100000 in
set_option maxHeartbeats 4000000 in
theorem ck_185 : ∀ k, k < am_clen 185 → am_ok 185 k = true := by decide +kernel
set_option maxRecDepth 100000 in
set_option maxHeartbeats 4000000 in
theorem ck_186 : ∀ k, k < am_clen 186 → am_ok 186 k = true := by decide +kernel
set_option maxRecDepth 100000 in
set_option maxHeartbeats 4000000 in
theorem ck_187 : ∀ k, k < am_clen 187 → am_ok 187 k = true := by decide +kernel
set_option maxRecDepth 100000 in
set_option maxHeartbeats 4000000 in
theorem ck_188 : ∀ k, k < am_clen 188 → am_ok 188 k = true := by decide +kernel
set_option maxRecDepth 100000 in
set_option maxHeartbeats 4000000 in
theorem ck_189 : ∀ k, k < am_clen 189 → am_ok 189 k = true := by decide +kernel
set_option maxRecDepth 100000 in
set_option maxHeartbeats 4000000 in
theorem ck_190 : ∀ k, k < am_clen 190 → am_ok 190 k = true := by decide +kernel
set_option maxRecDepth 100000 in
set_option maxHeartbeats 4000000 in
theorem ck_191 : ∀ k, k < am_clen 191 → am_ok 191 k = true := by decide +kernel
set_option maxRecDepth 100000 in
set_option maxHeartbeats 4000000 in
theorem ck_192 : ∀ k, k < am_clen 192 → am_ok 192 k = true := by decide +kernel
set_option maxRecDepth 100000 in
set_option maxHeartbeats 4000000 in
theorem ck_193 : ∀ k, k < am_clen 193 → am_ok 193 k = true := by decide +kernel
set_option maxRecDepth 100000 in
set_option maxHeartbeats 4000000 in
theorem ck_194 : ∀ k, k < am_clen 194 → am_ok 194 k = true := by decide +kernel
set_option maxRecDepth 100000 in
set_option maxHeartbeats 4000000 in
theorem ck_195 : ∀ k, k < am_clen 195 → am_ok 195 k = true := by decide +kernel
set_option maxRecDepth 100000 in
set_option maxHeartbeats 4000000 in
theorem ck_196 : ∀ k, k < am_clen 196 → am_ok 196 k = true := by decide +kernel
set_option maxRecDepth 100000 in
set_option maxHeartbeats 4000000 in
theorem ck_197 : ∀ k, k < am_clen 197 → am_ok 197 k = true := by decide +kernel
set_option maxRecDepth 100000 in
set_option maxHeartbeats 4000000 in
theorem ck_198 : ∀ k, k < am_clen 198 → am_ok 198 k = true := by decide +kernel
set_option maxRecDepth 100000 in
set_option maxHeartbeats 4000000 in
theorem ck_199 : ∀ k, k < am_clen 199 → am_ok 199 k = true := by decide +kernel
set_option maxRecDepth 100000 in
set_option maxHeartbeats 4000000 in
theorem ck_200 : ∀ k, k < am_clen 200 → am_ok 200 k = true := by decide +kernel
set_option maxRecDepth 100000 in
set_option maxHeartbeats 4000000 in
theorem ck_201 : ∀ k, k < am_clen 201 → am_ok 201 k = true := by decide +kernel
set_option maxRecDepth 100000 in
set_option maxHeartbeats 4000000 in
theorem ck_202 : ∀ k, k < am_clen 202 → am_ok 202 k = true := by decide +kernel
set_option maxRecDepth 100000 in
set_option maxHeartbeats 4000000 in
theorem ck_203 : ∀ k, k < am_clen 203 → am_ok 203 k = true := by decide +kernel
set_option maxRecDepth 100000 in
set_option maxHeartbeats 4000000 in
theorem ck_204 : ∀ k, k < am_clen 204 → am_ok 204 k = true := by decide +kernel
set_option maxRecDepth 100000 in
set_option maxHeartbeats 4000000 in
theorem ck_205 : ∀ k, k < am_clen 205 → am_ok 205 k = true := by decide +kernel
set_option maxRecDepth 100000 in
set_option maxHeartbeats 4000000 in
theorem ck_206 : ∀ k, k < am_clen 206 → am_ok 206 k = true := by decide +kernel
set_option maxRecDepth 100000 in
set_option maxHeartbeats 4000000 in
theorem ck_207 : ∀ k, k < am_clen 207 → am_ok 207 k = true := by decide +kernel
set_option maxRecDepth 100000 in
set_option maxHeartbeats 4000000 in
theorem ck_208 : ∀ k, k < am_clen 208 → am_ok 208 k = true := by decide +kernel
set_option maxRecDepth 100000 in
set_option maxHeartbeats 4000000 in
theorem ck_209 : ∀ k, k < am_clen 209 → am_ok 209 k = true := by decide +kernel
set_option maxRecDepth 100000 in
set_option maxHeartbeats 4000000 in
theorem ck_210 : ∀ k, k < am_clen 210 → am_ok 210 k = true := by decide +kernel
set_option maxRecDepth 100000 in
set_option maxHeartbeats 4000000 in
theorem ck_211 : ∀ k, k < am_clen 211 → am_ok 211 k = true := by decide +kernel
set_option maxRecDepth 100000 in
set_option maxHeartbeats 4000000 in
theorem ck_212 : ∀ k, k < am_clen 212 → am_ok 212 k = true := by decide +kernel
set_option maxRecDepth 100000 in
set_option maxHeartbeats 4000000 in
theorem ck_213 : ∀ k, k < am_clen 213 → am_ok 213 k = true := by decide +kernel
set_option maxRecDepth 100000 in
set_option maxHeartbeats 4000000 in
theorem ck_214 : ∀ k, k < am_clen 214 → am_ok 214 k = true := by decide +kernel
set_option maxRecDepth 100000 in
set_option maxHeartbeats 4000000 in
theorem ck_215 : ∀ k, k < am_clen 215 → am_ok 215 k = true := by decide +kernel
