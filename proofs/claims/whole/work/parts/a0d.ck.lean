set_option maxRecDepth 100000 in
set_option maxHeartbeats 4000000 in
theorem ck_133 : ∀ k, k < am_clen 133 → am_ok 133 k = true := by decide +kernel
set_option maxRecDepth 100000 in
set_option maxHeartbeats 4000000 in
theorem ck_134 : ∀ k, k < am_clen 134 → am_ok 134 k = true := by decide +kernel
set_option maxRecDepth 100000 in
set_option maxHeartbeats 4000000 in
theorem ck_135 : ∀ k, k < am_clen 135 → am_ok 135 k = true := by decide +kernel
set_option maxRecDepth 100000 in
set_option maxHeartbeats 4000000 in
theorem ck_136 : ∀ k, k < am_clen 136 → am_ok 136 k = true := by decide +kernel
set_option maxRecDepth 100000 in
set_option maxHeartbeats 4000000 in
theorem ck_137 : ∀ k, k < am_clen 137 → am_ok 137 k = true := by decide +kernel
set_option maxRecDepth 100000 in
set_option maxHeartbeats 4000000 in
theorem ck_138 : ∀ k, k < am_clen 138 → am_ok 138 k = true := by decide +kernel
set_option maxRecDepth 100000 in
set_option maxHeartbeats 4000000 in
theorem ck_139 : ∀ k, k < am_clen 139 → am_ok 139 k = true := by decide +kernel
set_option maxRecDepth 100000 in
set_option maxHeartbeats 4000000 in
theorem ck_140 : ∀ k, k < am_clen 140 → am_ok 140 k = true := by decide +kernel
set_option maxRecDepth 100000 in
set_option maxHeartbeats 4000000 in
theorem ck_141 : ∀ k, k < am_clen 141 → am_ok 141 k = true := by decide +kernel
set_option maxRecDepth 100000 in
set_option maxHeartbeats 4000000 in
theorem ck_142 : ∀ k, k < am_clen 142 → am_ok 142 k = true := by decide +kernel
set_option maxRecDepth 100000 in
set_option maxHeartbeats 4000000 in
theorem ck_143 : ∀ k, k < am_clen 143 → am_ok 143 k = true := by decide +kernel
set_option maxRecDepth 100000 in
set_option maxHeartbeats 4000000 in
theorem ck_144 : ∀ k, k < am_clen 144 → am_ok 144 k = true := by decide +kernel
set_option maxRecDepth 100000 in
set_option maxHeartbeats 4000000 in
theorem ck_145 : ∀ k, k < am_clen 145 → am_ok 145 k = true := by decide +kernel
set_option maxRecDepth 100000 in
set_option maxHeartbeats 4000000 in
theorem ck_146 : ∀ k, k < am_clen 146 → am_ok 146 k = true := by decide +kernel
set_option maxRecDepth 100000 in
set_option maxHeartbeats 4000000 in
theorem ck_147 : ∀ k, k < am_clen 147 → am_ok 147 k = true := by decide +kernel
set_option maxRecDepth 100000 in
set_option maxHeartbeats 4000000 in
theorem ck_148 : ∀ k, k < am_clen 148 → am_ok 148 k = true := by decide +kernel
set_option maxRecDepth 100000 in
set_option maxHeartbeats 4000000 in
theorem ck_149 : ∀ k, k < am_clen 149 → am_ok 149 k = true := by decide +kernel
set_option maxRecDepth 100000 in
set_option maxHeartbeats 4000000 in
theorem ck_150 : ∀ k, k < am_clen 150 → am_ok 150 k = true := by decide +kernel
set_option maxRecDepth 100000 in
set_option maxHeartbeats 4000000 in
theorem ck_151 : ∀ k, k < am_clen 151 → am_ok 151 k = true := by decide +kernel
set_option maxRecDepth 100000 in
set_option maxHeartbeats 4000000 in
theorem ck_152 : ∀ k, k < am_clen 152 → am_ok 152 k = true := by decide +kernel
set_option maxRecDepth 100000 in
set_option maxHeartbeats 4000000 in
theorem ck_153 : ∀ k, k < am_clen 153 → am_ok 153 k = true := by decide +kernel
set_option maxRecDepth 100000 in
set_option maxHeartbeats 4000000 in
theorem ck_154 : ∀ k, k < am_clen 154 → am_ok 154 k = true := by decide +kernel
set_option maxRecDepth 100000 in
set_option maxHeartbeats 4000000 in
theorem ck_155 : ∀ k, k < am_clen 155 → am_ok 155 k = true := by decide +kernel
set_option maxRecDepth 100000 in
set_option maxHeartbeats 4000000 in
theorem ck_156 : ∀ k, k < am_clen 156 → am_ok 156 k = true := by decide +kernel
set_option maxRecDepth 100000 in
set_option maxHeartbeats 4000000 in
theorem ck_157 : ∀ k, k < am_clen 157 → am_ok 157 k = true := by decide +kernel
set_option maxRecDepth 100000 in
set_option maxHeartbeats 4000000 in
theorem ck_158 : ∀ k, k < am_clen 158 → am_ok 158 k = true := by decide +kernel
set_option maxRecDepth 100000 in
set_option maxHeartbeats 4000000 in
theorem ck_159 : ∀ k, k < am_clen 159 → am_ok 159 k = true := by decide +kernel
set_option maxRecDepth 100000 in
set_option maxHeartbeats 4000000 in
theorem ck_160 : ∀ k, k < am_clen 160 → am_ok 160 k = true := by decide +kernel
set_option maxRecDepth 100000 in
set_option maxHeartbeats 4000000 in
theorem ck_161 : ∀ k, k < am_clen 161 → am_ok 161 k = true := by decide +kernel
set_option maxRecDepth 100000 in
set_option maxHeartbeats 4000000 in
theorem ck_162 : ∀ k, k < am_clen 162 → am_ok 162 k = true := by decide +kernel
set_option maxRecDepth 100000 in
set_option maxHeartbeats 4000000 in
theorem ck_163 : ∀ k, k < am_clen 163 → am_ok 163 k = true := by decide +kernel
set_option maxRecDepth 100000 in
set_option maxHeartbeats 4000000 in
theorem ck_164 : ∀ k, k < am_clen 164 → am_ok 164 k = true := by decide +kernel
set_option maxRecDepth 100000 in
set_option maxHeartbeats 4000000 in
theorem ck_165 : ∀ k, k < am_clen 165 → am_ok 165 k = true := by decide +kernel
set_option maxRecDepth 100000 in
set_option maxHeartbeats 4000000 in
theorem ck_166 : ∀ k, k < am_clen 166 → am_ok 166 k = true := by decide +kernel
set_option maxRecDepth 100000 in
set_option maxHeartbeats 4000000 in
theorem ck_167 : ∀ k, k < am_clen 167 → am_ok 167 k = true := by decide +kernel
set_option maxRecDepth 100000 in
set_option maxHeartbeats 4000000 in
theorem ck_168 : ∀ k, k < am_clen 168 → am_ok 168 k = true := by decide +kernel
set_option maxRecDepth 100000 in
set_option maxHeartbeats 4000000 in
theorem ck_169 : ∀ k, k < am_clen 169 → am_ok 169 k = true := by decide +kernel
set_option maxRecDepth 100000 in
set_option maxHeartbeats 4000000 in
theorem ck_170 : ∀ k, k < am_clen 170 → am_ok 170 k = true := by decide +kernel
set_option maxRecDepth 100000 in
set_option maxHeartbeats 4000000 in
theorem ck_171 : ∀ k, k < am_clen 171 → am_ok 171 k = true := by decide +kernel
set_option maxRecDepth 100000 in
set_option maxHeartbeats 4000000 in
theorem ck_172 : ∀ k, k < am_clen 172 → am_ok 172 k = true := by decide +kernel
set_option maxRecDepth 100000 in
set_option maxHeartbeats 4000000 in
theorem ck_173 : ∀ k, k < am_clen 173 → am_ok 173 k = true := by decide +kernel
set_option maxRecDepth 100000 in
set_option maxHeartbeats 4000000 in
theorem ck_174 : ∀ k, k < am_clen 174 → am_ok 174 k = true := by decide +kernel
set_option maxRecDepth 100000 in
set_option maxHeartbeats 4000000 in
theorem ck_175 : ∀ k, k < am_clen 175 → am_ok 175 k = true := by decide +kernel
set_option maxRecDepth 100000 in
set_option maxHeartbeats 4000000 in
theorem ck_176 : ∀ k, k < am_clen 176 → am_ok 176 k = true := by decide +kernel
set_option maxRecDepth 100000 in
set_option maxHeartbeats 4000000 in
theorem ck_177 : ∀ k, k < am_clen 177 → am_ok 177 k = true := by decide +kernel
set_option maxRecDepth 100000 in
set_option maxHeartbeats 4000000 in
theorem ck_178 : ∀ k, k < am_clen 178 → am_ok 178 k = true := by decide +kernel
set_option maxRecDepth 100000 in
set_option maxHeartbeats 4000000 in
theorem ck_179 : ∀ k, k < am_clen 179 → am_ok 179 k = true := by decide +kernel
set_option maxRecDepth 100000 in
set_option maxHeartbeats 4000000 in
theorem ck_180 : ∀ k, k < am_clen 180 → am_ok 180 k = true := by decide +kernel
