def i_fv : Nat := 9
theorem wJ_fv : (Jvm.Cond.fieldLink "java/lang/String" i_fv "java/lang/String" "value" "[B") ∈ mWS := wAt_in (p := 5176) rfl rfl
def i_fc : Nat := 15
theorem wJ_fc : (Jvm.Cond.fieldLink "java/lang/String" i_fc "java/lang/String" "coder" "B") ∈ mWS := wAt_in (p := 5177) rfl rfl
def i_fz : Nat := 38
theorem wJ_fz : (Jvm.Cond.fieldLink "java/lang/String" i_fz "java/lang/String" "COMPACT_STRINGS" "Z") ∈ mWS := wAt_in (p := 2033) rfl rfl
def i_ff : Nat := 1053
theorem wJ_ff : (Jvm.Cond.fieldLink "java/lang/String" i_ff "jdk/internal/util/Preconditions" "SIOOBE_FORMATTER" "Ljava/util/function/BiFunction;") ∈ mWS := wAt_in (p := 2049) rfl rfl
def i_mcoder : Nat := 335
theorem wJ_mcoder : (Jvm.Cond.methodLink "java/lang/String" i_mcoder ⟨"java/lang/String", "coder", "()B"⟩) ∈ mWS := wAt_in (p := 2029) rfl rfl
def i_mlat : Nat := 492
theorem wJ_mlat : (Jvm.Cond.methodLink "java/lang/String" i_mlat ⟨"java/lang/String", "isLatin1", "()Z"⟩) ∈ mWS := wAt_in (p := 2039) rfl rfl
def i_ml1 : Nat := 495
theorem wJ_ml1 : (Jvm.Cond.methodLink "java/lang/String" i_ml1 ⟨"java/lang/StringLatin1", "charAt", "([BI)C"⟩) ∈ mWS := wAt_in (p := 2043) rfl rfl
def i_mci : Nat := 9
theorem wJ_mci : (Jvm.Cond.methodLink "java/lang/StringLatin1" i_mci ⟨"java/lang/String", "checkIndex", "(II)V"⟩) ∈ mWS := wAt_in (p := 2046) rfl rfl
def i_mpc : Nat := 1059
theorem wJ_mpc : (Jvm.Cond.methodLink "java/lang/String" i_mpc ⟨"jdk/internal/util/Preconditions", "checkIndex", "(IILjava/util/function/BiFunction;)I"⟩) ∈ mWS := wAt_in (p := 2051) rfl rfl
theorem wJ_coderI : (Jvm.Cond.instanceMethod ⟨"java/lang/String", "coder", "()B"⟩) ∈ mWS := wAt_in (p := 2030) rfl rfl
theorem wJ_coderV : (Jvm.Cond.selects "java/lang/String" ⟨"java/lang/String", "coder", "()B"⟩ ⟨"java/lang/String", "coder", "()B"⟩) ∈ mWS := wAt_in (p := 2031) rfl rfl
theorem wJ_latI : (Jvm.Cond.instanceMethod ⟨"java/lang/String", "isLatin1", "()Z"⟩) ∈ mWS := wAt_in (p := 2040) rfl rfl
theorem wJ_latV : (Jvm.Cond.selects "java/lang/String" ⟨"java/lang/String", "isLatin1", "()Z"⟩ ⟨"java/lang/String", "isLatin1", "()Z"⟩) ∈ mWS := wAt_in (p := 2041) rfl rfl
theorem wJ_l1S : (Jvm.Cond.static ⟨"java/lang/StringLatin1", "charAt", "([BI)C"⟩) ∈ mWS := wAt_in (p := 2044) rfl rfl
theorem wJ_ciS : (Jvm.Cond.static ⟨"java/lang/String", "checkIndex", "(II)V"⟩) ∈ mWS := wAt_in (p := 2047) rfl rfl
theorem wJ_pcS : (Jvm.Cond.static ⟨"jdk/internal/util/Preconditions", "checkIndex", "(IILjava/util/function/BiFunction;)I"⟩) ∈ mWS := wAt_in (p := 2052) rfl rfl
theorem wJ_iS : (Jvm.Cond.initialized "java/lang/String") ∈ mWS := wAt_in (p := 1009) rfl rfl
theorem wJ_iL1 : (Jvm.Cond.initialized "java/lang/StringLatin1") ∈ mWS := wAt_in (p := 1010) rfl rfl
theorem wJ_iPC : (Jvm.Cond.initialized "jdk/internal/util/Preconditions") ∈ mWS := wAt_in (p := 1011) rfl rfl
abbrev c_coder : ByteArray := prog_10_method_152_code
theorem wJ_coderC : (Jvm.Cond.code ⟨"java/lang/String", "coder", "()B"⟩ c_coder 1 (some .byte)) ∈ mWS := wAt_in (p := 2032) rfl rfl
abbrev c_lat : ByteArray := prog_10_method_154_code
theorem wJ_latC : (Jvm.Cond.code ⟨"java/lang/String", "isLatin1", "()Z"⟩ c_lat 1 (some .boolean)) ∈ mWS := wAt_in (p := 2042) rfl rfl
abbrev c_l1 : ByteArray := prog_11_method_2_code
theorem wJ_l1C : (Jvm.Cond.code ⟨"java/lang/StringLatin1", "charAt", "([BI)C"⟩ c_l1 2 (some .char)) ∈ mWS := wAt_in (p := 2045) rfl rfl
abbrev c_ci : ByteArray := prog_10_method_155_code
theorem wJ_ciC : (Jvm.Cond.code ⟨"java/lang/String", "checkIndex", "(II)V"⟩ c_ci 2 (none)) ∈ mWS := wAt_in (p := 2048) rfl rfl
abbrev c_pc : ByteArray := prog_15_method_11_code
theorem wJ_pcC : (Jvm.Cond.code ⟨"jdk/internal/util/Preconditions", "checkIndex", "(IILjava/util/function/BiFunction;)I"⟩ c_pc 3 (some .int)) ∈ mWS := wAt_in (p := 2053) rfl rfl
