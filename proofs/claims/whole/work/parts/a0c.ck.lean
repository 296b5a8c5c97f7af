set_option maxRecDepth 100000 in
set_option maxHeartbeats 4000000 in
theorem ck_91 : ∀ k, k < am_clen 91 → am_ok 91 k = true := by decide +kernel
set_option maxRecDepth 100000 in
set_option maxHeartbeats 4000000 in
theorem ck_92 : ∀ k, k < am_clen 92 → am_ok 92 k = true := by decide +kernel
set_option maxRecDepth 100000 in
set_option maxHeartbeats 4000000 in
theorem ck_93 : ∀ k, k < am_clen 93 → am_ok 93 k = true := by decide +kernel
set_option maxRecDepth 100000 in
set_option maxHeartbeats 4000000 in
theorem ck_94 : ∀ k, k < am_clen 94 → am_ok 94 k = true := by decide +kernel
set_option maxRecDepth 100000 in
set_option maxHeartbeats 4000000 in
theorem ck_95 : ∀ k, k < am_clen 95 → am_ok 95 k = true := by decide +kernel
set_option maxRecDepth 100000 in
set_option maxHeartbeats 4000000 in
theorem ck_96 : ∀ k, k < am_clen 96 → am_ok 96 k = true := by decide +kernel
set_option maxRecDepth 100000 in
set_option maxHeartbeats 4000000 in
theorem ck_97 : ∀ k, k < am_clen 97 → am_ok 97 k = true := by decide +kernel
set_option maxRecDepth 100000 in
set_option maxHeartbeats 4000000 in
theorem ck_98 : ∀ k, k < am_clen 98 → am_ok 98 k = true := by decide +kernel
set_option maxRecDepth 100000 in
set_option maxHeartbeats 4000000 in
theorem ck_99 : ∀ k, k < am_clen 99 → am_ok 99 k = true := by decide +kernel
set_option maxRecDepth 100000 in
set_option maxHeartbeats 4000000 in
theorem ck_100 : ∀ k, k < am_clen 100 → am_ok 100 k = true := by decide +kernel
set_option maxRecDepth 100000 in
set_option maxHeartbeats 4000000 in
theorem ck_101 : ∀ k, k < am_clen 101 → am_ok 101 k = true := by decide +kernel
set_option maxRecDepth 100000 in
set_option maxHeartbeats 4000000 in
theorem ck_102 : ∀ k, k < am_clen 102 → am_ok 102 k = true := by decide +kernel
set_option maxRecDepth 100000 in
set_option maxHeartbeats 4000000 in
theorem ck_103 : ∀ k, k < am_clen 103 → am_ok 103 k = true := by decide +kernel
set_option maxRecDepth 100000 in
set_option maxHeartbeats 4000000 in
theorem ck_104 : ∀ k, k < am_clen 104 → am_ok 104 k = true := by decide +kernel
set_option maxRecDepth 100000 in
set_option maxHeartbeats 4000000 in
theorem ck_105 : ∀ k, k < am_clen 105 → am_ok 105 k = true := by decide +kernel
set_option maxRecDepth 100000 in
set_option maxHeartbeats 4000000 in
theorem ck_106 : ∀ k, k < am_clen 106 → am_ok 106 k = true := by decide +kernel
set_option maxRecDepth 100000 in
set_option maxHeartbeats 4000000 in
theorem ck_107 : ∀ k, k < am_clen 107 → am_ok 107 k = true := by decide +kernel
set_option maxRecDepth 100000 in
set_option maxHeartbeats 4000000 in
theorem ck_108 : ∀ k, k < am_clen 108 → am_ok 108 k = true := by decide +kernel
set_option maxRecDepth 100000 in
set_option maxHeartbeats 4000000 in
theorem ck_109 : ∀ k, k < am_clen 109 → am_ok 109 k = true := by decide +kernel
set_option maxRecDepth 100000 in
set_option maxHeartbeats 4000000 in
theorem ck_110 : ∀ k, k < am_clen 110 → am_ok 110 k = true := by decide +kernel
set_option maxRecDepth 100000 in
set_option maxHeartbeats 4000000 in
theorem ck_111 : ∀ k, k < am_clen 111 → am_ok 111 k = true := by decide +kernel
set_option maxRecDepth 100000 in
set_option maxHeartbeats 4000000 in
theorem ck_112 : ∀ k, k < am_clen 112 → am_ok 112 k = true := by decide +kernel
set_option maxRecDepth 100000 in
set_option maxHeartbeats 4000000 in
theorem ck_113 : ∀ k, k < am_clen 113 → am_ok 113 k = true := by decide +kernel
set_option maxRecDepth 100000 in
set_option maxHeartbeats 4000000 in
theorem ck_114 : ∀ k, k < am_clen 114 → am_ok 114 k = true := by decide +kernel
set_option maxRecDepth 100000 in
set_option maxHeartbeats 4000000 in
theorem ck_115 : ∀ k, k < am_clen 115 → am_ok 115 k = true := by decide +kernel
set_option maxRecDepth 100000 in
set_option maxHeartbeats 4000000 in
theorem ck_116 : ∀ k, k < am_clen 116 → am_ok 116 k = true := by decide +kernel
set_option maxRecDepth 100000 in
set_option maxHeartbeats 4000000 in
theorem ck_117 : ∀ k, k < am_clen 117 → am_ok 117 k = true := by decide +kernel
set_option maxRecDepth 100000 in
set_option maxHeartbeats 4000000 in
theorem ck_118 : ∀ k, k < am_clen 118 → am_ok 118 k = true := by decide +kernel
set_option maxRecDepth 100000 in
set_option maxHeartbeats 4000000 in
theorem ck_119 : ∀ k, k < am_clen 119 → am_ok 119 k = true := by decide +kernel
set_option maxRecDepth 100000 in
set_option maxHeartbeats 4000000 in
theorem ck_120 : ∀ k, k < am_clen 120 → am_ok 120 k = true := by decide +kernel
set_option maxRecDepth 100000 in
set_option maxHeartbeats 4000000 in
theorem ck_121 : ∀ k, k < am_clen 121 → am_ok 121 k = true := by decide +kernel
set_option maxRecDepth 100000 in
set_option maxHeartbeats 4000000 in
theorem ck_122 : ∀ k, k < am_clen 122 → am_ok 122 k = true := by decide +kernel
set_option maxRecDepth 100000 in
set_option maxHeartbeats 4000000 in
theorem ck_123 : ∀ k, k < am_clen 123 → am_ok 123 k = true := by decide +kernel
set_option maxRecDepth 100000 in
set_option maxHeartbeats 4000000 in
theorem ck_124 : ∀ k, k < am_clen 124 → am_ok 124 k = true := by decide +kernel
set_option maxRecDepth 100000 in
set_option maxHeartbeats 4000000 in
theorem ck_125 : ∀ k, k < am_clen 125 → am_ok 125 k = true := by decide +kernel
set_option maxRecDepth 100000 in
set_option maxHeartbeats 4000000 in
theorem ck_126 : ∀ k, k < am_clen 126 → am_ok 126 k = true := by decide +kernel
set_option maxRecDepth 100000 in
set_option maxHeartbeats 4000000 in
theorem ck_127 : ∀ k, k < am_clen 127 → am_ok 127 k = true := by decide +kernel
set_option maxRecDepth 100000 in
set_option maxHeartbeats 4000000 in
theorem ck_128 : ∀ k, k < am_clen 128 → am_ok 128 k = true := by decide +kernel
set_option maxRecDepth 100000 in
set_option maxHeartbeats 4000000 in
theorem ck_129 : ∀ k, k < am_clen 129 → am_ok 129 k = true := by decide +kernel
set_option maxRecDepth 100000 in
set_option maxHeartbeats 4000000 in
theorem ck_130 : ∀ k, k < am_clen 130 → am_ok 130 k = true := by decide +kernel
set_option maxRecDepth 100000 in
set_option maxHeartbeats 4000000 in
theorem ck_131 : ∀ k, k < am_clen 131 → am_ok 131 k = true := by decide +kernel
set_option maxRecDepth 100000 in
set_option maxHeartbeats 4000000 in
theorem ck_132 : ∀ k, k < am_clen 132 → am_ok 132 k = true := by decide +kernel
