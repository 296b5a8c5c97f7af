set_option maxRecDepth 100000 in
set_option maxHeartbeats 4000000 in
theorem ck_36 : ∀ k, k < am_clen 36 → am_ok 36 k = true := by decide +kernel
set_option maxRecDepth 100000 in
set_option maxHeartbeats 4000000 in
theorem ck_37 : ∀ k, k < am_clen 37 → am_ok 37 k = true := by decide +kernel
set_option maxRecDepth 100000 in
set_option maxHeartbeats 4000000 in
theorem ck_38 : ∀ k, k < am_clen 38 → am_ok 38 k = true := by decide +kernel
set_option maxRecDepth 100000 in
set_option maxHeartbeats 4000000 in
theorem ck_39 : ∀ k, k < am_clen 39 → am_ok 39 k = true := by decide +kernel
set_option maxRecDepth 100000 in
set_option maxHeartbeats 4000000 in
theorem ck_40 : ∀ k, k < am_clen 40 → am_ok 40 k = true := by decide +kernel
set_option maxRecDepth 100000 in
set_option maxHeartbeats 4000000 in
theorem ck_41 : ∀ k, k < am_clen 41 → am_ok 41 k = true := by decide +kernel
set_option maxRecDepth 100000 in
set_option maxHeartbeats 4000000 in
theorem ck_42 : ∀ k, k < am_clen 42 → am_ok 42 k = true := by decide +kernel
set_option maxRecDepth 100000 in
set_option maxHeartbeats 4000000 in
theorem ck_43 : ∀ k, k < am_clen 43 → am_ok 43 k = true := by decide +kernel
set_option maxRecDepth 100000 in
set_option maxHeartbeats 4000000 in
theorem ck_44 : ∀ k, k < am_clen 44 → am_ok 44 k = true := by decide +kernel
set_option maxRecDepth 100000 in
set_option maxHeartbeats 4000000 in
theorem ck_45 : ∀ k, k < am_clen 45 → am_ok 45 k = true := by decide +kernel
set_option maxRecDepth 100000 in
set_option maxHeartbeats 4000000 in
theorem ck_46 : ∀ k, k < am_clen 46 → am_ok 46 k = true := by decide +kernel
set_option maxRecDepth 100000 in
set_option maxHeartbeats 4000000 in
theorem ck_47 : ∀ k, k < am_clen 47 → am_ok 47 k = true := by decide +kernel
set_option maxRecDepth 100000 in
set_option maxHeartbeats 4000000 in
theorem ck_48 : ∀ k, k < am_clen 48 → am_ok 48 k = true := by decide +kernel
set_option maxRecDepth 100000 in
set_option maxHeartbeats 4000000 in
theorem ck_49 : ∀ k, k < am_clen 49 → am_ok 49 k = true := by decide +kernel
set_option maxRecDepth 100000 in
set_option maxHeartbeats 4000000 in
theorem ck_50 : ∀ k, k < am_clen 50 → am_ok 50 k = true := by decide +kernel
set_option maxRecDepth 100000 in
set_option maxHeartbeats 4000000 in
theorem ck_51 : ∀ k, k < am_clen 51 → am_ok 51 k = true := by decide +kernel
set_option maxRecDepth 100000 in
set_option maxHeartbeats 4000000 in
theorem ck_52 : ∀ k, k < am_clen 52 → am_ok 52 k = true := by decide +kernel
set_option maxRecDepth 100000 in
set_option maxHeartbeats 4000000 in
theorem ck_53 : ∀ k, k < am_clen 53 → am_ok 53 k = true := by decide +kernel
set_option maxRecDepth 100000 in
set_option maxHeartbeats 4000000 in
theorem ck_54 : ∀ k, k < am_clen 54 → am_ok 54 k = true := by decide +kernel
set_option maxRecDepth 100000 in
set_option maxHeartbeats 4000000 in
theorem ck_55 : ∀ k, k < am_clen 55 → am_ok 55 k = true := by decide +kernel
set_option maxRecDepth 100000 in
set_option maxHeartbeats 4000000 in
theorem ck_56 : ∀ k, k < am_clen 56 → am_ok 56 k = true := by decide +kernel
set_option maxRecDepth 100000 in
set_option maxHeartbeats 4000000 in
theorem ck_57 : ∀ k, k < am_clen 57 → am_ok 57 k = true := by decide +kernel
set_option maxRecDepth 100000 in
set_option maxHeartbeats 4000000 in
theorem ck_58 : ∀ k, k < am_clen 58 → am_ok 58 k = true := by decide +kernel
set_option maxRecDepth 100000 in
set_option maxHeartbeats 4000000 in
theorem ck_59 : ∀ k, k < am_clen 59 → am_ok 59 k = true := by decide +kernel
set_option maxRecDepth 100000 in
set_option maxHeartbeats 4000000 in
theorem ck_60 : ∀ k, k < am_clen 60 → am_ok 60 k = true := by decide +kernel
set_option maxRecDepth 100000 in
set_option maxHeartbeats 4000000 in
theorem ck_61 : ∀ k, k < am_clen 61 → am_ok 61 k = true := by decide +kernel
set_option maxRecDepth 100000 in
set_option maxHeartbeats 4000000 in
theorem ck_62 : ∀ k, k < am_clen 62 → am_ok 62 k = true := by decide +kernel
set_option maxRecDepth 100000 in
set_option maxHeartbeats 4000000 in
theorem ck_63 : ∀ k, k < am_clen 63 → am_ok 63 k = true := by decide +kernel
set_option maxRecDepth 100000 in
set_option maxHeartbeats 4000000 in
theorem ck_64 : ∀ k, k < am_clen 64 → am_ok 64 k = true := by decide +kernel
set_option maxRecDepth 100000 in
set_option maxHeartbeats 4000000 in
theorem ck_65 : ∀ k, k < am_clen 65 → am_ok 65 k = true := by decide +kernel
set_option maxRecDepth 100000 in
set_option maxHeartbeats 4000000 in
theorem ck_66 : ∀ k, k < am_clen 66 → am_ok 66 k = true := by decide +kernel
set_option maxRecDepth 100000 in
set_option maxHeartbeats 4000000 in
theorem ck_67 : ∀ k, k < am_clen 67 → am_ok 67 k = true := by decide +kernel
set_option maxRecDepth 100000 in
set_option maxHeartbeats 4000000 in
theorem ck_68 : ∀ k, k < am_clen 68 → am_ok 68 k = true := by decide +kernel
set_option maxRecDepth 100000 in
set_option maxHeartbeats 4000000 in
theorem ck_69 : ∀ k, k < am_clen 69 → am_ok 69 k = true := by decide +kernel
set_option maxRecDepth 100000 in
set_option maxHeartbeats 4000000 in
theorem ck_70 : ∀ k, k < am_clen 70 → am_ok 70 k = true := by decide +kernel
set_option maxRecDepth 100000 in
set_option maxHeartbeats 4000000 in
theorem ck_71 : ∀ k, k < am_clen 71 → am_ok 71 k = true := by decide +kernel
set_option maxRecDepth 100000 in
set_option maxHeartbeats 4000000 in
theorem ck_72 : ∀ k, k < am_clen 72 → am_ok 72 k = true := by decide +kernel
set_option maxRecDepth 100000 in
set_option maxHeartbeats 4000000 in
theorem ck_73 : ∀ k, k < am_clen 73 → am_ok 73 k = true := by decide +kernel
set_option maxRecDepth 100000 in
set_option maxHeartbeats 4000000 in
theorem ck_74 : ∀ k, k < am_clen 74 → am_ok 74 k = true := by decide +kernel
set_option maxRecDepth 100000 in
set_option maxHeartbeats 4000000 in
theorem ck_75 : ∀ k, k < am_clen 75 → am_ok 75 k = true := by decide +kernel
set_option maxRecDepth 100000 in
set_option maxHeartbeats 4000000 in
theorem ck_76 : ∀ k, k < am_clen 76 → am_ok 76 k = true := by decide +kernel
set_option maxRecDepth 100000 in
set_option maxHeartbeats 4000000 in
theorem ck_77 : ∀ k, k < am_clen 77 → am_ok 77 k = true := by decide +kernel
set_option maxRecDepth 100000 in
set_option maxHeartbeats 4000000 in
theorem ck_78 : ∀ k, k < am_clen 78 → am_ok 78 k = true := by decide +kernel
set_option maxRecDepth 100000 in
set_option maxHeartbeats 4000000 in
theorem ck_79 : ∀ k, k < am_clen 79 → am_ok 79 k = true := by decide +kernel
set_option maxRecDepth 100000 in
set_option maxHeartbeats 4000000 in
theorem ck_80 : ∀ k, k < am_clen 80 → am_ok 80 k = true := by decide +kernel
set_option maxRecDepth 100000 in
set_option maxHeartbeats 4000000 in
theorem ck_81 : ∀ k, k < am_clen 81 → am_ok 81 k = true := by decide +kernel
set_option maxRecDepth 100000 in
set_option maxHeartbeats 4000000 in
theorem ck_82 : ∀ k, k < am_clen 82 → am_ok 82 k = true := by decide +kernel
set_option maxRecDepth 100000 in
set_option maxHeartbeats 4000000 in
theorem ck_83 : ∀ k, k < am_clen 83 → am_ok 83 k = true := by decide +kernel
set_option maxRecDepth 100000 in
set_option maxHeartbeats 4000000 in
theorem ck_84 : ∀ k, k < am_clen 84 → am_ok 84 k = true := by decide +kernel
set_option maxRecDepth 100000 in
set_option maxHeartbeats 4000000 in
theorem ck_85 : ∀ k, k < am_clen 85 → am_ok 85 k = true := by decide +kernel
set_option maxRecDepth 100000 in
set_option maxHeartbeats 4000000 in
theorem ck_86 : ∀ k, k < am_clen 86 → am_ok 86 k = true := by decide +kernel
set_option maxRecDepth 100000 in
set_option maxHeartbeats 4000000 in
theorem ck_87 : ∀ k, k < am_clen 87 → am_ok 87 k = true := by decide +kernel
set_option maxRecDepth 100000 in
set_option maxHeartbeats 4000000 in
theorem ck_88 : ∀ k, k < am_clen 88 → am_ok 88 k = true := by decide +kernel
set_option maxRecDepth 100000 in
set_option maxHeartbeats 4000000 in
theorem ck_89 : ∀ k, k < am_clen 89 → am_ok 89 k = true := by decide +kernel
set_option maxRecDepth 100000 in
set_option maxHeartbeats 4000000 in
theorem ck_90 : ∀ k, k < am_clen 90 → am_ok 90 k = true := by decide +kernel
