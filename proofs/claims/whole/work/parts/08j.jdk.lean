theorem jc_J0_length_8abf5 : Jvm.Cond.code yJ0_length_8abf5 cJ0_length_8abf5 1 (some .int) ∈ am_good := List.mem_filter.mpr ⟨tin_2 (List.mem_of_getElem? (i := 238) rfl), rfl⟩
theorem ji_J0_length_8abf5 : Jvm.Cond.instanceMethod yJ0_length_8abf5 ∈ am_good := List.mem_filter.mpr ⟨tin_2 (List.mem_of_getElem? (i := 236) rfl), rfl⟩
theorem jl_J0_length_8abf5 : Jvm.Cond.selects RJ0 yJ0_length_8abf5 yJ0_length_8abf5 ∈ am_good := List.mem_filter.mpr ⟨tin_2 (List.mem_of_getElem? (i := 237) rfl), rfl⟩
theorem jc_J0_charAt_5068e : Jvm.Cond.code yJ0_charAt_5068e cJ0_charAt_5068e 2 (some .char) ∈ am_good := List.mem_filter.mpr ⟨tin_3 (List.mem_of_getElem? (i := 8) rfl), rfl⟩
theorem ji_J0_charAt_5068e : Jvm.Cond.instanceMethod yJ0_charAt_5068e ∈ am_good := List.mem_filter.mpr ⟨tin_3 (List.mem_of_getElem? (i := 6) rfl), rfl⟩
theorem jl_J0_charAt_5068e : Jvm.Cond.selects RJ0 yJ0_charAt_5068e yJ0_charAt_5068e ∈ am_good := List.mem_filter.mpr ⟨tin_3 (List.mem_of_getElem? (i := 7) rfl), rfl⟩
theorem jc_J0_coder_7d493 : Jvm.Cond.code yJ0_coder_7d493 cJ0_coder_7d493 1 (some .byte) ∈ am_good := List.mem_filter.mpr ⟨tin_3 (List.mem_of_getElem? (i := 2) rfl), rfl⟩
theorem ji_J0_coder_7d493 : Jvm.Cond.instanceMethod yJ0_coder_7d493 ∈ am_good := List.mem_filter.mpr ⟨tin_3 (List.mem_of_getElem? (i := 0) rfl), rfl⟩
theorem jl_J0_coder_7d493 : Jvm.Cond.selects RJ0 yJ0_coder_7d493 yJ0_coder_7d493 ∈ am_good := List.mem_filter.mpr ⟨tin_3 (List.mem_of_getElem? (i := 1) rfl), rfl⟩
theorem jc_J0_isLatin1_aae02 : Jvm.Cond.code yJ0_isLatin1_aae02 cJ0_isLatin1_aae02 1 (some .boolean) ∈ am_good := List.mem_filter.mpr ⟨tin_3 (List.mem_of_getElem? (i := 12) rfl), rfl⟩
theorem ji_J0_isLatin1_aae02 : Jvm.Cond.instanceMethod yJ0_isLatin1_aae02 ∈ am_good := List.mem_filter.mpr ⟨tin_3 (List.mem_of_getElem? (i := 10) rfl), rfl⟩
theorem jl_J0_isLatin1_aae02 : Jvm.Cond.selects RJ0 yJ0_isLatin1_aae02 yJ0_isLatin1_aae02 ∈ am_good := List.mem_filter.mpr ⟨tin_3 (List.mem_of_getElem? (i := 11) rfl), rfl⟩
theorem jc_J0_checkIndex_df160 : Jvm.Cond.code yJ0_checkIndex_df160 cJ0_checkIndex_df160 2 none ∈ am_good := List.mem_filter.mpr ⟨tin_3 (List.mem_of_getElem? (i := 18) rfl), rfl⟩
theorem js_J0_checkIndex_df160 : Jvm.Cond.static yJ0_checkIndex_df160 ∈ am_good := List.mem_filter.mpr ⟨tin_3 (List.mem_of_getElem? (i := 17) rfl), rfl⟩
theorem jc_J1_charAt_3b067 : Jvm.Cond.code yJ1_charAt_3b067 cJ1_charAt_3b067 2 (some .char) ∈ am_good := List.mem_filter.mpr ⟨tin_3 (List.mem_of_getElem? (i := 15) rfl), rfl⟩
theorem js_J1_charAt_3b067 : Jvm.Cond.static yJ1_charAt_3b067 ∈ am_good := List.mem_filter.mpr ⟨tin_3 (List.mem_of_getElem? (i := 14) rfl), rfl⟩
theorem jc_J3_checkIndex_8e157 : Jvm.Cond.code yJ3_checkIndex_8e157 cJ3_checkIndex_8e157 3 (some .int) ∈ am_good := List.mem_filter.mpr ⟨tin_3 (List.mem_of_getElem? (i := 23) rfl), rfl⟩
theorem js_J3_checkIndex_8e157 : Jvm.Cond.static yJ3_checkIndex_8e157 ∈ am_good := List.mem_filter.mpr ⟨tin_3 (List.mem_of_getElem? (i := 22) rfl), rfl⟩
theorem jn_RJ0 : Jvm.Cond.initialized RJ0 ∈ am_good := List.mem_filter.mpr ⟨tin_1 (List.mem_of_getElem? (i := 13) rfl), rfl⟩
theorem jn_RJ1 : Jvm.Cond.initialized RJ1 ∈ am_good := List.mem_filter.mpr ⟨tin_1 (List.mem_of_getElem? (i := 14) rfl), rfl⟩
theorem jn_RJ3 : Jvm.Cond.initialized RJ3 ∈ am_good := List.mem_filter.mpr ⟨tin_1 (List.mem_of_getElem? (i := 15) rfl), rfl⟩
theorem jm_RJ0_335 : Jvm.Cond.methodLink RJ0 335 yJ0_coder_7d493 ∈ am_good := List.mem_filter.mpr ⟨tin_2 (List.mem_of_getElem? (i := 239) rfl), rfl⟩
theorem jm_RJ0_492 : Jvm.Cond.methodLink RJ0 492 yJ0_isLatin1_aae02 ∈ am_good := List.mem_filter.mpr ⟨tin_3 (List.mem_of_getElem? (i := 9) rfl), rfl⟩
theorem jm_RJ0_495 : Jvm.Cond.methodLink RJ0 495 yJ1_charAt_3b067 ∈ am_good := List.mem_filter.mpr ⟨tin_3 (List.mem_of_getElem? (i := 13) rfl), rfl⟩
theorem jm_RJ0_498 : Jvm.Cond.methodLink RJ0 498 yJ2_charAt_3b067 ∈ am_good := List.mem_filter.mpr ⟨tin_3 (List.mem_of_getElem? (i := 24) rfl), rfl⟩
theorem jm_RJ0_1059 : Jvm.Cond.methodLink RJ0 1059 yJ3_checkIndex_8e157 ∈ am_good := List.mem_filter.mpr ⟨tin_3 (List.mem_of_getElem? (i := 21) rfl), rfl⟩
theorem jm_RJ1_9 : Jvm.Cond.methodLink RJ1 9 yJ0_checkIndex_df160 ∈ am_good := List.mem_filter.mpr ⟨tin_3 (List.mem_of_getElem? (i := 16) rfl), rfl⟩
theorem jf_RJ0_9 : Jvm.Cond.fieldLink RJ0 9 "java/lang/String" "value" "[B" ∈ am_good := List.mem_filter.mpr ⟨tin_8 (List.mem_of_getElem? (i := 43) rfl), rfl⟩
theorem jf_RJ0_15 : Jvm.Cond.fieldLink RJ0 15 "java/lang/String" "coder" "B" ∈ am_good := List.mem_filter.mpr ⟨tin_8 (List.mem_of_getElem? (i := 44) rfl), rfl⟩
theorem jf_RJ0_38 : Jvm.Cond.fieldLink RJ0 38 "java/lang/String" "COMPACT_STRINGS" "Z" ∈ am_good := List.mem_filter.mpr ⟨tin_3 (List.mem_of_getElem? (i := 3) rfl), rfl⟩
theorem jf_RJ0_1053 : Jvm.Cond.fieldLink RJ0 1053 "jdk/internal/util/Preconditions" "SIOOBE_FORMATTER" "Ljava/util/function/BiFunction;" ∈ am_good := List.mem_filter.mpr ⟨tin_3 (List.mem_of_getElem? (i := 19) rfl), rfl⟩
