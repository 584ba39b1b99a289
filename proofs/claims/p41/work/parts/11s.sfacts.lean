theorem zsf_38 : Cond.fieldLink zR_JS 38 "java/lang/String" "COMPACT_STRINGS" "Z" ∈ zU := zin2 90 (by decide +kernel) rfl
theorem zsf_1053 : Cond.fieldLink zR_JS 1053 "jdk/internal/util/Preconditions" "SIOOBE_FORMATTER" "Ljava/util/function/BiFunction;" ∈ zU := zin2 106 (by decide +kernel) rfl
theorem zsf_1048 : Cond.fieldLink zR_JS 1048 "java/lang/AbstractStringBuilder" "maybeLatin1" "Z" ∈ zU := zin4 17 (by decide +kernel) rfl
theorem zsf_9 : Cond.fieldLink zR_JS 9 "java/lang/String" "value" "[B" ∈ zU := zin4 138 (by decide +kernel) rfl
theorem zsf_15 : Cond.fieldLink zR_JS 15 "java/lang/String" "coder" "B" ∈ zU := zin4 139 (by decide +kernel) rfl
