theorem wi_830 : Cond.methodLink "MessageBankModel" 1 ⟨"java/lang/Object", "<init>", "()V"⟩ ∈ z_T := z_Tin (i := 830) (by decide +kernel) (by decide +kernel)
theorem wi_832 : Cond.fieldLink "MessageBankModel" 7 "MessageBankModel" "steps" "[I" ∈ z_T := z_Tin (i := 832) (by decide +kernel) (by decide +kernel)
theorem wi_833 : Cond.fieldLink "MessageBankModel" 13 "MessageBankModel" "counts" "[I" ∈ z_T := z_Tin (i := 833) (by decide +kernel) (by decide +kernel)
theorem wi_834 : Cond.fieldLink "MessageBankModel" 16 "MessageBankModel" "nexts" "[I" ∈ z_T := z_Tin (i := 834) (by decide +kernel) (by decide +kernel)
theorem wi_835 : Cond.fieldLink "MessageBankModel" 19 "MessageBankModel" "gaps" "[I" ∈ z_T := z_Tin (i := 835) (by decide +kernel) (by decide +kernel)
theorem wi_836 : Cond.fieldLink "MessageBankModel" 22 "MessageBankModel" "codes" "[I" ∈ z_T := z_Tin (i := 836) (by decide +kernel) (by decide +kernel)
theorem wi_837 : Cond.fieldLink "MessageBankModel" 25 "MessageBankModel" "users" "[I" ∈ z_T := z_Tin (i := 837) (by decide +kernel) (by decide +kernel)
theorem wi_838 : Cond.fieldLink "MessageBankModel" 28 "MessageBankModel" "open" "[Z" ∈ z_T := z_Tin (i := 838) (by decide +kernel) (by decide +kernel)
theorem wi_839 : Cond.fieldLink "MessageBankModel" 32 "MessageBankModel" "firsts" "[I" ∈ z_T := z_Tin (i := 839) (by decide +kernel) (by decide +kernel)
theorem wi_840 : Cond.fieldLink "MessageBankModel" 35 "MessageBankModel" "sizes" "[I" ∈ z_T := z_Tin (i := 840) (by decide +kernel) (by decide +kernel)
theorem wi_842 : Cond.fieldLink "MessageBankModel" 38 "MessageBankModel" "quotas" "[I" ∈ z_T := z_Tin (i := 842) (by decide +kernel) (by decide +kernel)
theorem wi_843 : Cond.fieldLink "MessageBankModel" 41 "MessageBankModel" "spoken" "[I" ∈ z_T := z_Tin (i := 843) (by decide +kernel) (by decide +kernel)
theorem wi_846 : Cond.fieldLink "MessageBankModel" 44 "MessageBankModel" "numbers" "[I" ∈ z_T := z_Tin (i := 846) (by decide +kernel) (by decide +kernel)
theorem wi_847 : Cond.fieldLink "MessageBankModel" 47 "MessageBankModel" "boxOf" "[I" ∈ z_T := z_Tin (i := 847) (by decide +kernel) (by decide +kernel)
theorem wi_848 : Cond.fieldLink "MessageBankModel" 50 "MessageBankModel" "lists" "[I" ∈ z_T := z_Tin (i := 848) (by decide +kernel) (by decide +kernel)
theorem wi_849 : Cond.fieldLink "MessageBankModel" 53 "MessageBankModel" "records" "[I" ∈ z_T := z_Tin (i := 849) (by decide +kernel) (by decide +kernel)
theorem wi_850 : Cond.fieldLink "MessageBankModel" 56 "MessageBankModel" "prefaces" "[I" ∈ z_T := z_Tin (i := 850) (by decide +kernel) (by decide +kernel)
theorem wi_851 : Cond.fieldLink "MessageBankModel" 59 "MessageBankModel" "busy" "[Z" ∈ z_T := z_Tin (i := 851) (by decide +kernel) (by decide +kernel)
theorem wi_852 : Cond.fieldLink "MessageBankModel" 62 "MessageBankModel" "lineBox" "[I" ∈ z_T := z_Tin (i := 852) (by decide +kernel) (by decide +kernel)
theorem wi_853 : Cond.fieldLink "MessageBankModel" 65 "MessageBankModel" "lineKind" "[I" ∈ z_T := z_Tin (i := 853) (by decide +kernel) (by decide +kernel)
theorem wi_854 : Cond.fieldLink "MessageBankModel" 68 "MessageBankModel" "lineRecord" "[I" ∈ z_T := z_Tin (i := 854) (by decide +kernel) (by decide +kernel)
theorem wi_855 : Cond.fieldLink "MessageBankModel" 71 "MessageBankModel" "ended" "[Z" ∈ z_T := z_Tin (i := 855) (by decide +kernel) (by decide +kernel)
theorem wi_856 : Cond.fieldLink "MessageBankModel" 74 "MessageBankModel" "taken" "[I" ∈ z_T := z_Tin (i := 856) (by decide +kernel) (by decide +kernel)
theorem wi_857 : Cond.fieldLink "MessageBankModel" 77 "MessageBankModel" "samples" "[I" ∈ z_T := z_Tin (i := 857) (by decide +kernel) (by decide +kernel)
theorem wi_858 : Cond.fieldLink "MessageBankModel" 80 "MessageBankModel" "quiet" "[I" ∈ z_T := z_Tin (i := 858) (by decide +kernel) (by decide +kernel)
theorem wi_859 : Cond.fieldLink "MessageBankModel" 83 "MessageBankModel" "guesses" "[I" ∈ z_T := z_Tin (i := 859) (by decide +kernel) (by decide +kernel)
theorem wi_860 : Cond.fieldLink "MessageBankModel" 86 "MessageBankModel" "indexes" "[I" ∈ z_T := z_Tin (i := 860) (by decide +kernel) (by decide +kernel)
theorem wi_arrZ : Cond.arrayClass .boolean ∈ z_T := by unfold z_T; exact List.mem_filter.mpr ⟨by decide +kernel, by decide +kernel⟩
theorem dX7_init_0 : decode cX7_init 0 = .ok (.aload_n 0, 1) := by decide +kernel
theorem dX7_init_1 : decode cX7_init 1 = .ok (.invokespecial 1, 3) := by decide +kernel
theorem dX7_init_4 : decode cX7_init 4 = .ok (.aload_n 0, 1) := by decide +kernel
theorem dX7_init_5 : decode cX7_init 5 = .ok (.bipush 49, 2) := by decide +kernel
theorem dX7_init_7 : decode cX7_init 7 = .ok (.newarray .int, 2) := by decide +kernel
theorem dX7_init_9 : decode cX7_init 9 = .ok (.putfield 7, 3) := by decide +kernel
theorem dX7_init_12 : decode cX7_init 12 = .ok (.aload_n 0, 1) := by decide +kernel
theorem dX7_init_13 : decode cX7_init 13 = .ok (.bipush 40, 2) := by decide +kernel
theorem dX7_init_15 : decode cX7_init 15 = .ok (.newarray .int, 2) := by decide +kernel
theorem dX7_init_17 : decode cX7_init 17 = .ok (.putfield 13, 3) := by decide +kernel
theorem dX7_init_20 : decode cX7_init 20 = .ok (.aload_n 0, 1) := by decide +kernel
theorem dX7_init_21 : decode cX7_init 21 = .ok (.bipush 40, 2) := by decide +kernel
theorem dX7_init_23 : decode cX7_init 23 = .ok (.newarray .int, 2) := by decide +kernel
theorem dX7_init_25 : decode cX7_init 25 = .ok (.putfield 16, 3) := by decide +kernel
theorem dX7_init_28 : decode cX7_init 28 = .ok (.aload_n 0, 1) := by decide +kernel
theorem dX7_init_29 : decode cX7_init 29 = .ok (.sipush 160, 3) := by decide +kernel
theorem dX7_init_32 : decode cX7_init 32 = .ok (.newarray .int, 2) := by decide +kernel
theorem dX7_init_34 : decode cX7_init 34 = .ok (.putfield 19, 3) := by decide +kernel
theorem dX7_init_37 : decode cX7_init 37 = .ok (.aload_n 0, 1) := by decide +kernel
theorem dX7_init_38 : decode cX7_init 38 = .ok (.sipush 160, 3) := by decide +kernel
theorem dX7_init_41 : decode cX7_init 41 = .ok (.newarray .int, 2) := by decide +kernel
theorem dX7_init_43 : decode cX7_init 43 = .ok (.putfield 22, 3) := by decide +kernel
theorem dX7_init_46 : decode cX7_init 46 = .ok (.aload_n 0, 1) := by decide +kernel
theorem dX7_init_47 : decode cX7_init 47 = .ok (.bipush 48, 2) := by decide +kernel
theorem dX7_init_49 : decode cX7_init 49 = .ok (.newarray .int, 2) := by decide +kernel
theorem dX7_init_51 : decode cX7_init 51 = .ok (.putfield 25, 3) := by decide +kernel
theorem dX7_init_54 : decode cX7_init 54 = .ok (.aload_n 0, 1) := by decide +kernel
theorem dX7_init_55 : decode cX7_init 55 = .ok (.bipush 48, 2) := by decide +kernel
theorem dX7_init_57 : decode cX7_init 57 = .ok (.newarray .boolean, 2) := by decide +kernel
theorem dX7_init_59 : decode cX7_init 59 = .ok (.putfield 28, 3) := by decide +kernel
theorem dX7_init_62 : decode cX7_init 62 = .ok (.aload_n 0, 1) := by decide +kernel
theorem dX7_init_63 : decode cX7_init 63 = .ok (.bipush 48, 2) := by decide +kernel
theorem dX7_init_65 : decode cX7_init 65 = .ok (.newarray .int, 2) := by decide +kernel
theorem dX7_init_67 : decode cX7_init 67 = .ok (.putfield 32, 3) := by decide +kernel
theorem dX7_init_70 : decode cX7_init 70 = .ok (.aload_n 0, 1) := by decide +kernel
theorem dX7_init_71 : decode cX7_init 71 = .ok (.bipush 48, 2) := by decide +kernel
theorem dX7_init_73 : decode cX7_init 73 = .ok (.newarray .int, 2) := by decide +kernel
theorem dX7_init_75 : decode cX7_init 75 = .ok (.putfield 35, 3) := by decide +kernel
theorem dX7_init_78 : decode cX7_init 78 = .ok (.aload_n 0, 1) := by decide +kernel
theorem dX7_init_79 : decode cX7_init 79 = .ok (.iconst 4, 1) := by decide +kernel
theorem dX7_init_80 : decode cX7_init 80 = .ok (.newarray .int, 2) := by decide +kernel
theorem dX7_init_82 : decode cX7_init 82 = .ok (.putfield 38, 3) := by decide +kernel
theorem dX7_init_85 : decode cX7_init 85 = .ok (.aload_n 0, 1) := by decide +kernel
theorem dX7_init_86 : decode cX7_init 86 = .ok (.bipush 12, 2) := by decide +kernel
theorem dX7_init_88 : decode cX7_init 88 = .ok (.newarray .int, 2) := by decide +kernel
theorem dX7_init_90 : decode cX7_init 90 = .ok (.putfield 41, 3) := by decide +kernel
theorem dX7_init_93 : decode cX7_init 93 = .ok (.aload_n 0, 1) := by decide +kernel
theorem dX7_init_94 : decode cX7_init 94 = .ok (.bipush 16, 2) := by decide +kernel
theorem dX7_init_96 : decode cX7_init 96 = .ok (.newarray .int, 2) := by decide +kernel
theorem dX7_init_98 : decode cX7_init 98 = .ok (.putfield 44, 3) := by decide +kernel
theorem dX7_init_101 : decode cX7_init 101 = .ok (.aload_n 0, 1) := by decide +kernel
theorem dX7_init_102 : decode cX7_init 102 = .ok (.bipush 16, 2) := by decide +kernel
theorem dX7_init_104 : decode cX7_init 104 = .ok (.newarray .int, 2) := by decide +kernel
theorem dX7_init_106 : decode cX7_init 106 = .ok (.putfield 47, 3) := by decide +kernel
theorem dX7_init_109 : decode cX7_init 109 = .ok (.aload_n 0, 1) := by decide +kernel
theorem dX7_init_110 : decode cX7_init 110 = .ok (.bipush 16, 2) := by decide +kernel
theorem dX7_init_112 : decode cX7_init 112 = .ok (.newarray .int, 2) := by decide +kernel
theorem dX7_init_114 : decode cX7_init 114 = .ok (.putfield 50, 3) := by decide +kernel
theorem dX7_init_117 : decode cX7_init 117 = .ok (.aload_n 0, 1) := by decide +kernel
theorem dX7_init_118 : decode cX7_init 118 = .ok (.bipush 16, 2) := by decide +kernel
theorem dX7_init_120 : decode cX7_init 120 = .ok (.newarray .int, 2) := by decide +kernel
theorem dX7_init_122 : decode cX7_init 122 = .ok (.putfield 53, 3) := by decide +kernel
theorem dX7_init_125 : decode cX7_init 125 = .ok (.aload_n 0, 1) := by decide +kernel
theorem dX7_init_126 : decode cX7_init 126 = .ok (.bipush 16, 2) := by decide +kernel
theorem dX7_init_128 : decode cX7_init 128 = .ok (.newarray .int, 2) := by decide +kernel
theorem dX7_init_130 : decode cX7_init 130 = .ok (.putfield 56, 3) := by decide +kernel
theorem dX7_init_133 : decode cX7_init 133 = .ok (.aload_n 0, 1) := by decide +kernel
theorem dX7_init_134 : decode cX7_init 134 = .ok (.iconst 3, 1) := by decide +kernel
theorem dX7_init_135 : decode cX7_init 135 = .ok (.newarray .boolean, 2) := by decide +kernel
theorem dX7_init_137 : decode cX7_init 137 = .ok (.putfield 59, 3) := by decide +kernel
theorem dX7_init_140 : decode cX7_init 140 = .ok (.aload_n 0, 1) := by decide +kernel
theorem dX7_init_141 : decode cX7_init 141 = .ok (.iconst 3, 1) := by decide +kernel
theorem dX7_init_142 : decode cX7_init 142 = .ok (.newarray .int, 2) := by decide +kernel
theorem dX7_init_144 : decode cX7_init 144 = .ok (.putfield 62, 3) := by decide +kernel
theorem dX7_init_147 : decode cX7_init 147 = .ok (.aload_n 0, 1) := by decide +kernel
theorem dX7_init_148 : decode cX7_init 148 = .ok (.iconst 3, 1) := by decide +kernel
theorem dX7_init_149 : decode cX7_init 149 = .ok (.newarray .int, 2) := by decide +kernel
theorem dX7_init_151 : decode cX7_init 151 = .ok (.putfield 65, 3) := by decide +kernel
theorem dX7_init_154 : decode cX7_init 154 = .ok (.aload_n 0, 1) := by decide +kernel
theorem dX7_init_155 : decode cX7_init 155 = .ok (.iconst 3, 1) := by decide +kernel
theorem dX7_init_156 : decode cX7_init 156 = .ok (.newarray .int, 2) := by decide +kernel
theorem dX7_init_158 : decode cX7_init 158 = .ok (.putfield 68, 3) := by decide +kernel
theorem dX7_init_161 : decode cX7_init 161 = .ok (.aload_n 0, 1) := by decide +kernel
theorem dX7_init_162 : decode cX7_init 162 = .ok (.iconst 3, 1) := by decide +kernel
theorem dX7_init_163 : decode cX7_init 163 = .ok (.newarray .boolean, 2) := by decide +kernel
theorem dX7_init_165 : decode cX7_init 165 = .ok (.putfield 71, 3) := by decide +kernel
theorem dX7_init_168 : decode cX7_init 168 = .ok (.aload_n 0, 1) := by decide +kernel
theorem dX7_init_169 : decode cX7_init 169 = .ok (.iconst 3, 1) := by decide +kernel
theorem dX7_init_170 : decode cX7_init 170 = .ok (.newarray .int, 2) := by decide +kernel
theorem dX7_init_172 : decode cX7_init 172 = .ok (.putfield 74, 3) := by decide +kernel
theorem dX7_init_175 : decode cX7_init 175 = .ok (.aload_n 0, 1) := by decide +kernel
theorem dX7_init_176 : decode cX7_init 176 = .ok (.bipush 24, 2) := by decide +kernel
theorem dX7_init_178 : decode cX7_init 178 = .ok (.newarray .int, 2) := by decide +kernel
theorem dX7_init_180 : decode cX7_init 180 = .ok (.putfield 77, 3) := by decide +kernel
theorem dX7_init_183 : decode cX7_init 183 = .ok (.aload_n 0, 1) := by decide +kernel
theorem dX7_init_184 : decode cX7_init 184 = .ok (.iconst 3, 1) := by decide +kernel
theorem dX7_init_185 : decode cX7_init 185 = .ok (.newarray .int, 2) := by decide +kernel
theorem dX7_init_187 : decode cX7_init 187 = .ok (.putfield 80, 3) := by decide +kernel
theorem dX7_init_190 : decode cX7_init 190 = .ok (.aload_n 0, 1) := by decide +kernel
theorem dX7_init_191 : decode cX7_init 191 = .ok (.iconst 3, 1) := by decide +kernel
theorem dX7_init_192 : decode cX7_init 192 = .ok (.newarray .int, 2) := by decide +kernel
theorem dX7_init_194 : decode cX7_init 194 = .ok (.putfield 83, 3) := by decide +kernel
theorem dX7_init_197 : decode cX7_init 197 = .ok (.aload_n 0, 1) := by decide +kernel
theorem dX7_init_198 : decode cX7_init 198 = .ok (.iconst 3, 1) := by decide +kernel
theorem dX7_init_199 : decode cX7_init 199 = .ok (.newarray .int, 2) := by decide +kernel
theorem dX7_init_201 : decode cX7_init 201 = .ok (.putfield 86, 3) := by decide +kernel
theorem dX7_init_204 : decode cX7_init 204 = .ok (.aload_n 0, 1) := by decide +kernel
theorem dX7_init_205 : decode cX7_init 205 = .ok (.getfield 7, 3) := by decide +kernel
theorem dX7_init_208 : decode cX7_init 208 = .ok (.iconst 0, 1) := by decide +kernel
theorem dX7_init_209 : decode cX7_init 209 = .ok (.bipush 16, 2) := by decide +kernel
theorem dX7_init_211 : decode cX7_init 211 = .ok (.iastore, 1) := by decide +kernel
theorem dX7_init_212 : decode cX7_init 212 = .ok (.iconst 1, 1) := by decide +kernel
theorem dX7_init_213 : decode cX7_init 213 = .ok (.istore_n 1, 1) := by decide +kernel
theorem dX7_init_214 : decode cX7_init 214 = .ok (.iload_n 1, 1) := by decide +kernel
theorem dX7_init_215 : decode cX7_init 215 = .ok (.bipush 49, 2) := by decide +kernel
theorem dX7_init_217 : decode cX7_init 217 = .ok (.if_icmp .ge 37, 3) := by decide +kernel
theorem dX7_init_220 : decode cX7_init 220 = .ok (.aload_n 0, 1) := by decide +kernel
theorem dX7_init_221 : decode cX7_init 221 = .ok (.getfield 7, 3) := by decide +kernel
theorem dX7_init_224 : decode cX7_init 224 = .ok (.iload_n 1, 1) := by decide +kernel
theorem dX7_init_225 : decode cX7_init 225 = .ok (.aload_n 0, 1) := by decide +kernel
theorem dX7_init_226 : decode cX7_init 226 = .ok (.getfield 7, 3) := by decide +kernel
theorem dX7_init_229 : decode cX7_init 229 = .ok (.iload_n 1, 1) := by decide +kernel
theorem dX7_init_230 : decode cX7_init 230 = .ok (.iconst 1, 1) := by decide +kernel
theorem dX7_init_231 : decode cX7_init 231 = .ok (.isub, 1) := by decide +kernel
theorem dX7_init_232 : decode cX7_init 232 = .ok (.iaload, 1) := by decide +kernel
theorem dX7_init_233 : decode cX7_init 233 = .ok (.aload_n 0, 1) := by decide +kernel
theorem dX7_init_234 : decode cX7_init 234 = .ok (.getfield 7, 3) := by decide +kernel
theorem dX7_init_237 : decode cX7_init 237 = .ok (.iload_n 1, 1) := by decide +kernel
theorem dX7_init_238 : decode cX7_init 238 = .ok (.iconst 1, 1) := by decide +kernel
theorem dX7_init_239 : decode cX7_init 239 = .ok (.isub, 1) := by decide +kernel
theorem dX7_init_240 : decode cX7_init 240 = .ok (.iaload, 1) := by decide +kernel
theorem dX7_init_241 : decode cX7_init 241 = .ok (.bipush 10, 2) := by decide +kernel
theorem dX7_init_243 : decode cX7_init 243 = .ok (.idiv, 1) := by decide +kernel
theorem dX7_init_244 : decode cX7_init 244 = .ok (.iadd, 1) := by decide +kernel
theorem dX7_init_245 : decode cX7_init 245 = .ok (.iconst 1, 1) := by decide +kernel
theorem dX7_init_246 : decode cX7_init 246 = .ok (.iadd, 1) := by decide +kernel
theorem dX7_init_247 : decode cX7_init 247 = .ok (.iastore, 1) := by decide +kernel
theorem dX7_init_248 : decode cX7_init 248 = .ok (.iinc 1 1, 3) := by decide +kernel
theorem dX7_init_251 : decode cX7_init 251 = .ok (.goto (-37), 3) := by decide +kernel
theorem dX7_init_254 : decode cX7_init 254 = .ok (.iconst 0, 1) := by decide +kernel
theorem dX7_init_255 : decode cX7_init 255 = .ok (.istore_n 1, 1) := by decide +kernel
theorem dX7_init_256 : decode cX7_init 256 = .ok (.iload_n 1, 1) := by decide +kernel
theorem dX7_init_257 : decode cX7_init 257 = .ok (.bipush 12, 2) := by decide +kernel
theorem dX7_init_259 : decode cX7_init 259 = .ok (.if_icmp .ge 16, 3) := by decide +kernel
theorem dX7_init_262 : decode cX7_init 262 = .ok (.aload_n 0, 1) := by decide +kernel
theorem dX7_init_263 : decode cX7_init 263 = .ok (.getfield 41, 3) := by decide +kernel
theorem dX7_init_266 : decode cX7_init 266 = .ok (.iload_n 1, 1) := by decide +kernel
theorem dX7_init_267 : decode cX7_init 267 = .ok (.iconst (-1), 1) := by decide +kernel
theorem dX7_init_268 : decode cX7_init 268 = .ok (.iastore, 1) := by decide +kernel
theorem dX7_init_269 : decode cX7_init 269 = .ok (.iinc 1 1, 3) := by decide +kernel
theorem dX7_init_272 : decode cX7_init 272 = .ok (.goto (-16), 3) := by decide +kernel
theorem dX7_init_275 : decode cX7_init 275 = .ok (.return_, 1) := by decide +kernel
/-! THE REFERENCE's constructor: its rows are made one after another -/
def z_rq (j : Nat) (ad : Nat → Nat) (k : Nat) : Value := if k < j then .ref (ad k) else .null
def z_nF (j : Nat) (ad : Nat → Nat) (M : z_Md) : List Value := [.int (M 0 0), z_rq j ad 1, z_rq j ad 2, z_rq j ad 3, z_rq j ad 4, z_rq j ad 5, z_rq j ad 6, z_rq j ad 7, z_rq j ad 8, z_rq j ad 9, .int (M 10 0), z_rq j ad 11, z_rq j ad 12, .int (M 13 0), .int (M 14 0), z_rq j ad 15, z_rq j ad 16, z_rq j ad 17, z_rq j ad 18, z_rq j ad 19, z_rq j ad 20, z_rq j ad 21, z_rq j ad 22, z_rq j ad 23, z_rq j ad 24, z_rq j ad 25, z_rq j ad 26, z_rq j ad 27, z_rq j ad 28, z_rq j ad 29, .int (M 30 0), .int (M 31 0)]
theorem z_nF_30 (ad : Nat → Nat) (M : z_Md) : z_nF 30 ad M = z_mF ad M := rfl
abbrev z_PS : Type := Nat × (Nat → Nat) × z_Md
def z_hP (D : va_G) (cy : Nat → ClassId) (A : Nat → Prop) (o : Nat) (w : z_PS) (H : Heap) : Prop :=
  va_at D vwCl (o, .inr (8, z_nF w.1 w.2.1 w.2.2)) H ∧ (∀ k, z_mAr k = true → k < w.1 → va_at D vwCl (w.2.1 k, .inl (cy (z_mZ k), z_mLen k, .inl (w.2.2 k))) H ∧ A (w.2.1 k) ∧ w.2.1 k ≠ o) ∧ A o ∧ ∀ j k, z_mAr j = true → z_mAr k = true → j < w.1 → k < w.1 → w.2.1 j = w.2.1 k → j = k
theorem z_mAr_lt {k : Nat} (h : z_mAr k = true) : k < 30 := by
  unfold z_mAr at h
  simp at h
  omega
theorem z_hP_30 {D : va_G} {cy : Nat → ClassId} {A : Nat → Prop} {o : Nat} {ad : Nat → Nat} {M : z_Md} {H : Heap} : z_hP D cy A o (30, ad, M) H ↔ z_hM D cy A o ad M H := by
  constructor
  · rintro ⟨h1, h2, h3, h4⟩
    exact ⟨h1, fun k hk => (h2 k hk (z_mAr_lt hk)).1, h3, fun k hk => (h2 k hk (z_mAr_lt hk)).2.1, fun k hk => (h2 k hk (z_mAr_lt hk)).2.2, fun j k hj hk e => h4 j k hj hk (z_mAr_lt hj) (z_mAr_lt hk) e⟩
  · rintro ⟨h1, h2, h3, h4, h5, h6⟩
    exact ⟨h1, fun k hk _ => ⟨h2 k hk, h4 k hk, h5 k hk⟩, h3, fun j k hj hk _ _ e => h6 j k hj hk e⟩
def z_EI (D : va_G) (cy : Nat → ClassId) (A : Nat → Prop) (U : State) : Prop := z_EM D cy U ∧ ∀ q : Nat, U.heap.size ≤ q → A q
theorem z_EIok (D : va_G) (cy : Nat → ClassId) (A : Nat → Prop) : z_Eok (z_EI D cy A) A := ⟨fun U g mk a h => ⟨(z_EMok D cy A).1 U g mk a h.1, h.2⟩, fun s U H locs h h2 hU hW => ⟨(z_EMok D cy A).2 s U H locs h.1 h2 hU hW, fun q hq => by subst hU; exact h.2 q (Nat.le_trans h2.1 hq)⟩⟩
section ZI
variable {p : Program} {l : Launch} {e : Env} {R : Room} {s : State} {m : MethodId} {args : Array Value} {below : List Frame} {meth : Method} {c : Code} {Q : State → Prop} {cc : ByteArray} {nL : Nat} {A : Nat → Prop} {k n : Nat} {pc : Nat} {lv : List (Nat × Value)} {st : List Value} {D : va_G} {cy : Nat → ClassId} {o : Nat} {ad : Nat → Nat} {M : z_Md}
theorem z_P_in (kk : z_V A (z_hM D cy A o ad) p l e R s m args below meth c nL Q k n M pc lv st) : z_V A (z_hP D cy A o) p l e R s m args below meth c nL Q k n (30, ad, M) pc lv st := fun H locs ls h1 h2 h3 => kk H locs ls (z_hP_30.mp h1) h2 h3
theorem z_P_out (kk : z_V A (z_hP D cy A o) p l e R s m args below meth c nL Q k n (30, ad, M) pc lv st) : z_V A (z_hM D cy A o ad) p l e R s m args below meth c nL Q k n M pc lv st := fun H locs ls h1 h2 h3 => kk H locs ls (z_hP_30.mpr h1) h2 h3
theorem z_mk_int {j j' index N' : Nat} {i : Int32} (S : CallFix p m c cc nL s args z_T RX7) (hE : z_EI D cy A s) (hnm : meth.name = "<init>") (harr : Cond.arrayClass .int ∈ z_T) (hn : ¬ i < 0) (hN : i.toNatClampNeg = N') (hbytes : N' * componentBytes .int ≤ 536870912) (hcells : k + 1 ≤ R.cells) (hslots : n + N' ≤ R.slots) (hj : z_mAr j = true) (hz : z_mZ j = 0) (hl : z_mLen j = N') (hj' : ∀ k, z_mAr k = true → (k < j' ↔ k < j ∨ k = j)) (hj32 : j < 32) (hM : M j = fun _ => 0)
    (hlink : Cond.fieldLink RX7 index RX7 (TX7 j).2.1 (TX7 j).2.2.1 ∈ z_T) (hh : (TX7 j).1 = RX7) (hfin : (TX7 j).2.2.2 = true) (hd : parseFieldDescriptor (TX7 j).2.2.1 = some (.array .int)) (hset : ∀ a, (z_nF j ad M).set j (.ref a) = z_nF j' (va_up ad j a) M) (d1 : decode cc pc = .ok (.newarray .int, 2)) (d2 : decode cc (pc + 2) = .ok (.putfield index, 3))
    (kk : ∀ a : Nat, z_V A (z_hP D cy A o) p l e R s m args below meth c nL Q (k + 1) (n + N') (j', va_up ad j a, M) (pc + 2 + 3) lv st) : z_V A (z_hP D cy A o) p l e R s m args below meth c nL Q k n (j, ad, M) pc lv (.int i :: .ref o :: st) := fun H locs ls h1 h2 h3 => by
  have hEM : va_K D vwCl (z_tys cy) s := hE.1
  refine va_newaK (atype := .int) S.1 S.2.1 (S.2.2.2.2 _ harr) rfl d1 rfl hn hN hbytes hcells hslots rfl fun H1 cA e1 z1 o1 hAr hNm => ?_
  obtain ⟨b1, b2, b3, b4⟩ := h1
  have hAs : A H.size := hE.2 _ h2.1
  have hcA : cA = cy 0 := Option.some.inj (hNm.symm.trans (hEM.2 0 _ rfl).2)
  have ho : o < H.size := b1.lt
  have hno : o ≠ H.size := Nat.ne_of_lt ho
  have b1' : va_at D vwCl (o, .inr (8, z_nF j ad M)) H1 := b1.kept (o1 o ho)
  have h2' : va_S A s.heap H1 locs := ⟨Nat.le_trans h2.1 (by omega), fun x g1 g2 => (o1 x (Nat.lt_of_lt_of_le g1 h2.1)).trans (h2.2.1 x g1 g2), h2.2.2⟩
  have hap := va_apart (own := RX7) S.2.2.2.2 z_wsM tyX7 tyX7_ok nmX7 hEM (ci := 8) (C := RX7) (T := TX7) (N := 32) rfl
  obtain ⟨r, q0, cell, q1, q2, q3, q4⟩ := b1'
  have hr : r = (RX7, TX7, 32) := Option.some.inj (q0.symm.trans rfl)
  subst hr
  obtain ⟨hS, hfc, kC, hkC, hkind⟩ := hEM.1 8 _ rfl
  obtain ⟨cf, kf, fi, f, hi, hsl⟩ := hS j hj32
  have hlay := S.2.2.2.2 _ (z_wsM _ (u_in_lay hj32))
  have hst := (u_facts hfc hkC (u_lays S.2.2.2.2 z_wsM hj32) hi).1
  unfold u_lay at hlay
  rw [if_pos hfin] at hlay
  have hcf : m.cls = cf := by
    obtain ⟨_, _, c', _, _, _, -, -, hf', -, -, -, hown2, -⟩ := Cond.laysFinal_spec hlay
    have e1 : c' = cf := by have := hi.symm.trans hf'; simp at this; exact this.1.symm
    rw [hh] at hown2
    rw [← e1]; exact Option.some.inj (S.2.2.2.1.symm.trans hown2)
  have h6 := u_fits hfc hkC hkind (Or.inr hlay) hi hd (v := .ref H.size) rfl rfl
  refine W.putFinK S.1 S.2.1 S.2.2.2.1 (S.2.2.2.2 _ hlink) (by rw [hh] at hi; exact hi) hst hcf hnm (by rw [q2]; exact h6) q1 q3 (by rw [hsl]; exact k2_hasslot (q4 j hj32)) rfl rfl d2 fun H' e1' e2 e3 => ?_
  rw [hsl] at e1' ⊢
  have hlen : j < (z_nF j ad M).length := hj32
  refine kk H.size H' _ ls ⟨?_, fun x hx hx2 => ?_, b3, fun x y hx hy hx2 hy2 e => ?_⟩ (h2'.put e2 e3 b3) h3
  · rw [← hset]
    exact ⟨_, rfl, t_OB.to (V := updV (vp_V (z_nF j ad M)) j (.ref H.size)) ⟨_, e1', q2, q3, t_set q4 hap hj32 (.ref H.size)⟩ (fun j' _ => vp_updV_set hlen (.ref H.size) j')⟩
  · dsimp only at hx2 ⊢
    rcases (hj' x hx).mp hx2 with q | q
    · have hne : x ≠ j := by omega
      have e : va_up ad j H.size x = ad x := va_up_ne _ _ hne
      rw [e]
      obtain ⟨c1, c2, c3⟩ := b2 x hx q
      exact ⟨c1.kept ((e3 _ c3).trans (o1 _ c1.lt)), c2, c3⟩
    · subst q
      have e : va_up ad x H.size x = H.size := va_up_self _ _ _
      rw [e]
      refine ⟨?_, hAs, fun z => hno z.symm⟩
      show H'[H.size]? = _
      rw [e3 _ (fun z => hno z.symm), hz, hl, hM, ← hcA]
      exact e1
  · dsimp only at hx2 hy2 e
    have old : ∀ x, z_mAr x = true → x < j → ad x < H.size := fun x hx hxj => (b2 x hx hxj).1.lt
    rcases (hj' x hx).mp hx2 with q | q <;> rcases (hj' y hy).mp hy2 with q' | q'
    · rw [va_up_ne _ _ (by omega : x ≠ j), va_up_ne _ _ (by omega : y ≠ j)] at e
      exact b4 x y hx hy q q' e
    · subst q'
      rw [va_up_ne _ _ (by omega : x ≠ y), va_up_self] at e
      have := old x hx q
      omega
    · subst q
      rw [va_up_self, va_up_ne _ _ (by omega : y ≠ x)] at e
      have := old y hy q'
      omega
    · omega
theorem z_mk_boolean {j j' index N' : Nat} {i : Int32} (S : CallFix p m c cc nL s args z_T RX7) (hE : z_EI D cy A s) (hnm : meth.name = "<init>") (harr : Cond.arrayClass .boolean ∈ z_T) (hn : ¬ i < 0) (hN : i.toNatClampNeg = N') (hbytes : N' * componentBytes .boolean ≤ 536870912) (hcells : k + 1 ≤ R.cells) (hslots : n + N' ≤ R.slots) (hj : z_mAr j = true) (hz : z_mZ j = 1) (hl : z_mLen j = N') (hj' : ∀ k, z_mAr k = true → (k < j' ↔ k < j ∨ k = j)) (hj32 : j < 32) (hM : M j = fun _ => 0)
    (hlink : Cond.fieldLink RX7 index RX7 (TX7 j).2.1 (TX7 j).2.2.1 ∈ z_T) (hh : (TX7 j).1 = RX7) (hfin : (TX7 j).2.2.2 = true) (hd : parseFieldDescriptor (TX7 j).2.2.1 = some (.array .boolean)) (hset : ∀ a, (z_nF j ad M).set j (.ref a) = z_nF j' (va_up ad j a) M) (d1 : decode cc pc = .ok (.newarray .boolean, 2)) (d2 : decode cc (pc + 2) = .ok (.putfield index, 3))
    (kk : ∀ a : Nat, z_V A (z_hP D cy A o) p l e R s m args below meth c nL Q (k + 1) (n + N') (j', va_up ad j a, M) (pc + 2 + 3) lv st) : z_V A (z_hP D cy A o) p l e R s m args below meth c nL Q k n (j, ad, M) pc lv (.int i :: .ref o :: st) := fun H locs ls h1 h2 h3 => by
  have hEM : va_K D vwCl (z_tys cy) s := hE.1
  refine va_newaK (atype := .boolean) S.1 S.2.1 (S.2.2.2.2 _ harr) rfl d1 rfl hn hN hbytes hcells hslots rfl fun H1 cA e1 z1 o1 hAr hNm => ?_
  obtain ⟨b1, b2, b3, b4⟩ := h1
  have hAs : A H.size := hE.2 _ h2.1
  have hcA : cA = cy 1 := Option.some.inj (hNm.symm.trans (hEM.2 1 _ rfl).2)
  have ho : o < H.size := b1.lt
  have hno : o ≠ H.size := Nat.ne_of_lt ho
  have b1' : va_at D vwCl (o, .inr (8, z_nF j ad M)) H1 := b1.kept (o1 o ho)
  have h2' : va_S A s.heap H1 locs := ⟨Nat.le_trans h2.1 (by omega), fun x g1 g2 => (o1 x (Nat.lt_of_lt_of_le g1 h2.1)).trans (h2.2.1 x g1 g2), h2.2.2⟩
  have hap := va_apart (own := RX7) S.2.2.2.2 z_wsM tyX7 tyX7_ok nmX7 hEM (ci := 8) (C := RX7) (T := TX7) (N := 32) rfl
  obtain ⟨r, q0, cell, q1, q2, q3, q4⟩ := b1'
  have hr : r = (RX7, TX7, 32) := Option.some.inj (q0.symm.trans rfl)
  subst hr
  obtain ⟨hS, hfc, kC, hkC, hkind⟩ := hEM.1 8 _ rfl
  obtain ⟨cf, kf, fi, f, hi, hsl⟩ := hS j hj32
  have hlay := S.2.2.2.2 _ (z_wsM _ (u_in_lay hj32))
  have hst := (u_facts hfc hkC (u_lays S.2.2.2.2 z_wsM hj32) hi).1
  unfold u_lay at hlay
  rw [if_pos hfin] at hlay
  have hcf : m.cls = cf := by
    obtain ⟨_, _, c', _, _, _, -, -, hf', -, -, -, hown2, -⟩ := Cond.laysFinal_spec hlay
    have e1 : c' = cf := by have := hi.symm.trans hf'; simp at this; exact this.1.symm
    rw [hh] at hown2
    rw [← e1]; exact Option.some.inj (S.2.2.2.1.symm.trans hown2)
  have h6 := u_fits hfc hkC hkind (Or.inr hlay) hi hd (v := .ref H.size) rfl rfl
  refine W.putFinK S.1 S.2.1 S.2.2.2.1 (S.2.2.2.2 _ hlink) (by rw [hh] at hi; exact hi) hst hcf hnm (by rw [q2]; exact h6) q1 q3 (by rw [hsl]; exact k2_hasslot (q4 j hj32)) rfl rfl d2 fun H' e1' e2 e3 => ?_
  rw [hsl] at e1' ⊢
  have hlen : j < (z_nF j ad M).length := hj32
  refine kk H.size H' _ ls ⟨?_, fun x hx hx2 => ?_, b3, fun x y hx hy hx2 hy2 e => ?_⟩ (h2'.put e2 e3 b3) h3
  · rw [← hset]
    exact ⟨_, rfl, t_OB.to (V := updV (vp_V (z_nF j ad M)) j (.ref H.size)) ⟨_, e1', q2, q3, t_set q4 hap hj32 (.ref H.size)⟩ (fun j' _ => vp_updV_set hlen (.ref H.size) j')⟩
  · dsimp only at hx2 ⊢
    rcases (hj' x hx).mp hx2 with q | q
    · have hne : x ≠ j := by omega
      have e : va_up ad j H.size x = ad x := va_up_ne _ _ hne
      rw [e]
      obtain ⟨c1, c2, c3⟩ := b2 x hx q
      exact ⟨c1.kept ((e3 _ c3).trans (o1 _ c1.lt)), c2, c3⟩
    · subst q
      have e : va_up ad x H.size x = H.size := va_up_self _ _ _
      rw [e]
      refine ⟨?_, hAs, fun z => hno z.symm⟩
      show H'[H.size]? = _
      rw [e3 _ (fun z => hno z.symm), hz, hl, hM, ← hcA]
      exact e1
  · dsimp only at hx2 hy2 e
    have old : ∀ x, z_mAr x = true → x < j → ad x < H.size := fun x hx hxj => (b2 x hx hxj).1.lt
    rcases (hj' x hx).mp hx2 with q | q <;> rcases (hj' y hy).mp hy2 with q' | q'
    · rw [va_up_ne _ _ (by omega : x ≠ j), va_up_ne _ _ (by omega : y ≠ j)] at e
      exact b4 x y hx hy q q' e
    · subst q'
      rw [va_up_ne _ _ (by omega : x ≠ y), va_up_self] at e
      have := old x hx q
      omega
    · subst q
      rw [va_up_self, va_up_ne _ _ (by omega : y ≠ x)] at e
      have := old y hy q'
      omega
    · omega
end ZI
abbrev rm_X7_init : Room := { frames := 1, cells := 26, slots := 788, locals := 20 }
section ZI2
variable {p : Program} {l : Launch} {e : Env} {s : State} {m : MethodId} {args : Array Value} {below : List Frame} {meth : Method} {c : Code} {D : va_G} {cy : Nat → ClassId} {A : Nat → Prop} {o : Nat} {ad : Nat → Nat}
theorem mb_X7_initB (S : CallFix p m c cX7_init 2 s args z_T RX7) (hlk : meth.locks = false) (hr : meth.sig.returnType = none) (hE : z_EM D cy s) {post : z_PS → Prop} (hp : ∀ ad M, (∀ j, j < 49 → M 1 j = z_stp j) → (∀ s, s < 12 → M 12 s = -1) → (∀ f j, f ≠ 1 → f ≠ 12 → M f j = 0) → post (30, ad, M)) : ∀ d i (M : z_Md), i + d = 12 → (∀ j, j < 49 → M 1 j = z_stp j) → (∀ s, s < i → M 12 s = -1) → (∀ f j, f ≠ 1 → f ≠ 12 → M f j = 0) → z_V A (z_hM D cy A o ad) p l e rm_X7_init s m args below meth c 2 (MQ below (va_Qv post (fun (u' : z_PS) t => z_hP D cy A o u' t.heap) A) args s 26 788 A) 26 788 M 256 [(1, .int (nI i)), (0, va_rf (some o))] [] := by
  intro d
  induction d with
  | zero =>
    intro i M hi h1 h12 h0
    have : i = 12 := by omega
    subst this
    refine z_iload_n S 0 dX7_init_256 rfl rfl ?_
    refine z_bipush (v := 12) S dX7_init_257 (by decide) ?_
    refine z_icmp_ge (tgt := 275) S dX7_init_259 (by decide) (fun _ => ?_) (fun q => absurd (by decide) q)
    refine z_P_out ?_
    exact z_vret S hr hlk dX7_init_275 (Nat.le_refl _) (Nat.le_refl _) (hp _ _ h1 h12 h0)
  | succ d ih =>
    intro i M hi h1 h12 h0
    refine z_iload_n S 0 dX7_init_256 rfl rfl ?_
    refine z_bipush (v := 12) S dX7_init_257 (by decide) ?_
    refine z_icmp_ge (tgt := 275) S dX7_init_259 (by decide) (fun q => absurd q (nI_ge (a := i) (b := 12) (by omega) (by omega))) (fun _ => ?_)
    refine z_aload_n (x := some o) S 1 dX7_init_262 rfl rfl ?_
    refine zm_g_41 S hE dX7_init_263 ?_
    refine z_iload_n S 0 dX7_init_266 rfl rfl ?_
    refine z_iconst (v := -1) S dX7_init_267 (by decide) ?_
    refine z_mast (j := 12) S hE rfl rfl (vp_in_nI (n := i) (N := 12) (by omega) (by omega)) dX7_init_268 ?_
    refine z_iinc (pl := 0) (v := nI (i + 1)) S [(1, .int (nI (i + 1))), (0, va_rf (some o))] dX7_init_269 rfl (nI_1 i) (by decide) rfl ?_
    refine z_goto (tgt := 256) S dX7_init_272 (by decide) ?_
    rw [q_c (n := i) (by omega)]
    refine ih (i + 1) _ (by omega) (fun j hj => ?_) (fun t ht => ?_) (fun f j hf1 hf2 => ?_)
    · rw [z_up_f _ _ _ (by omega)]; exact h1 j hj
    · by_cases q : t = i
      · subst q; exact z_up_s _ _ _ _
      · rw [z_up_a _ _ _ _ q]; exact h12 t (by omega)
    · rw [z_up_f _ _ _ hf2]; exact h0 f j hf1 hf2
theorem mb_X7_initA (S : CallFix p m c cX7_init 2 s args z_T RX7) (hlk : meth.locks = false) (hr : meth.sig.returnType = none) (hE : z_EM D cy s) {post : z_PS → Prop} (hp : ∀ ad M, (∀ j, j < 49 → M 1 j = z_stp j) → (∀ s, s < 12 → M 12 s = -1) → (∀ f j, f ≠ 1 → f ≠ 12 → M f j = 0) → post (30, ad, M)) : ∀ d i (M : z_Md), i + d = 49 → 1 ≤ i → (∀ j, j < i → M 1 j = z_stp j) → (∀ f j, f ≠ 1 → f ≠ 12 → M f j = 0) → z_V A (z_hM D cy A o ad) p l e rm_X7_init s m args below meth c 2 (MQ below (va_Qv post (fun (u' : z_PS) t => z_hP D cy A o u' t.heap) A) args s 26 788 A) 26 788 M 214 [(1, .int (nI i)), (0, va_rf (some o))] [] := by
  intro d
  induction d with
  | zero =>
    intro i M hi hi1 h1 h0
    have : i = 49 := by omega
    subst this
    refine z_iload_n S 0 dX7_init_214 rfl rfl ?_
    refine z_bipush (v := 49) S dX7_init_215 (by decide) ?_
    refine z_icmp_ge (tgt := 254) S dX7_init_217 (by decide) (fun _ => ?_) (fun q => absurd (by decide) q)
    refine z_iconst (v := 0) S dX7_init_254 (by decide) ?_
    refine z_istore_n S [(1, .int 0), (0, va_rf (some o))] dX7_init_255 rfl (by decide) rfl ?_
    exact mb_X7_initB S hlk hr hE hp 12 0 M (by omega) h1 (fun t ht => by omega) h0
  | succ d ih =>
    intro i M hi hi1 h1 h0
    refine z_iload_n S 0 dX7_init_214 rfl rfl ?_
    refine z_bipush (v := 49) S dX7_init_215 (by decide) ?_
    refine z_icmp_ge (tgt := 254) S dX7_init_217 (by decide) (fun q => absurd q (nI_ge (a := i) (b := 49) (by omega) (by omega))) (fun _ => ?_)
    have e1 : nI i - 1 = nI (i - 1) := pk_sub (b := 1) hi1
    have hv1 : vp_in (nI i - 1) 49 := by rw [e1]; exact vp_in_nI (by omega) (by omega)
    refine z_aload_n (x := some o) S 1 dX7_init_220 rfl rfl ?_
    refine zm_g_7 S hE dX7_init_221 ?_
    refine z_iload_n S 0 dX7_init_224 rfl rfl ?_
    refine z_aload_n (x := some o) S 1 dX7_init_225 rfl rfl ?_
    refine zm_g_7 S hE dX7_init_226 ?_
    refine z_iload_n S 0 dX7_init_229 rfl rfl ?_
    refine z_iconst (v := 1) S dX7_init_230 (by decide) ?_
    refine z_isub S dX7_init_231 ?_
    refine z_mald (j := 1) S hE rfl rfl hv1 dX7_init_232 ?_
    refine z_aload_n (x := some o) S 1 dX7_init_233 rfl rfl ?_
    refine zm_g_7 S hE dX7_init_234 ?_
    refine z_iload_n S 0 dX7_init_237 rfl rfl ?_
    refine z_iconst (v := 1) S dX7_init_238 (by decide) ?_
    refine z_isub S dX7_init_239 ?_
    refine z_mald (j := 1) S hE rfl rfl hv1 dX7_init_240 ?_
    refine z_bipush (v := 10) S dX7_init_241 (by decide) ?_
    refine z_idiv S dX7_init_243 (by decide) ?_
    refine z_iadd S dX7_init_244 ?_
    refine z_iconst (v := 1) S dX7_init_245 (by decide) ?_
    refine z_iadd S dX7_init_246 ?_
    refine z_mast (j := 1) S hE rfl rfl (vp_in_nI (n := i) (N := 49) (by omega) (by omega)) dX7_init_247 ?_
    refine z_iinc (pl := 0) (v := nI (i + 1)) S [(1, .int (nI (i + 1))), (0, va_rf (some o))] dX7_init_248 rfl (nI_1 i) (by decide) rfl ?_
    refine z_goto (tgt := 214) S dX7_init_251 (by decide) ?_
    rw [e1, q_c (n := i) (by omega), q_c (n := i - 1) (by omega), h1 (i - 1) (by omega)]
    have es := z_stp_s (i - 1) (by omega)
    have ei : i - 1 + 1 = i := by omega
    rw [ei] at es
    rw [← es]
    refine ih (i + 1) _ (by omega) (by omega) (fun j hj => ?_) (fun f j hf1 hf2 => ?_)
    · by_cases q : j = i
      · subst q; exact z_up_s _ _ _ _
      · rw [z_up_a _ _ _ _ q]; exact h1 j (by omega)
    · rw [z_up_f _ _ _ hf1]; exact h0 f j hf1 hf2
set_option maxRecDepth 20000 in
theorem mb_X7_init (S : CallFix p m c cX7_init 2 s args z_T RX7) (hlk : meth.locks = false) (hr : meth.sig.returnType = none) (hE : z_EI D cy A s) (hnm : meth.name = "<init>") {post : z_PS → Prop} (hp : ∀ ad M, (∀ j, j < 49 → M 1 j = z_stp j) → (∀ s, s < 12 → M 12 s = -1) → (∀ f j, f ≠ 1 → f ≠ 12 → M f j = 0) → post (30, ad, M)) : z_V A (z_hP D cy A o) p l e rm_X7_init s m args below meth c 2 (MQ below (va_Qv post (fun (u' : z_PS) t => z_hP D cy A o u' t.heap) A) args s 26 788 A) 0 0 (1, ad, fun _ _ => 0) 0 [(0, va_rf (some o))] [] := by
  refine z_aload_n (x := some o) S 0 dX7_init_0 rfl rfl ?_
  refine z_obj (a := o) S wi_830 wd_80 wd_81 (Nat.le_of_ble_eq_true rfl) (Nat.le_trans (Nat.add_le_add_right z_s0 12) (Nat.le_of_ble_eq_true rfl)) dX7_init_1 ?_
  refine z_aload_n (x := some o) S 0 dX7_init_4 rfl rfl ?_
  refine z_bipush (v := 49) S dX7_init_5 (by decide) ?_
  refine z_mk_int (j := 1) (j' := 2) (N' := 49) S hE hnm wd_arrI (by decide) rfl (Nat.le_of_ble_eq_true rfl) (Nat.le_of_ble_eq_true rfl) (Nat.le_of_ble_eq_true rfl) rfl rfl rfl (fun k hk => by unfold z_mAr at hk; simp at hk; omega) (by decide) rfl wi_832 rfl rfl (by decide +kernel) (fun a => rfl) dX7_init_7 dX7_init_9 (fun a1 => ?_)
  refine z_aload_n (x := some o) S 0 dX7_init_12 rfl rfl ?_
  refine z_bipush (v := 40) S dX7_init_13 (by decide) ?_
  refine z_mk_int (j := 2) (j' := 3) (N' := 40) S hE hnm wd_arrI (by decide) rfl (Nat.le_of_ble_eq_true rfl) (Nat.le_of_ble_eq_true rfl) (Nat.le_of_ble_eq_true rfl) rfl rfl rfl (fun k hk => by unfold z_mAr at hk; simp at hk; omega) (by decide) rfl wi_833 rfl rfl (by decide +kernel) (fun a => rfl) dX7_init_15 dX7_init_17 (fun a2 => ?_)
  refine z_aload_n (x := some o) S 0 dX7_init_20 rfl rfl ?_
  refine z_bipush (v := 40) S dX7_init_21 (by decide) ?_
  refine z_mk_int (j := 3) (j' := 4) (N' := 40) S hE hnm wd_arrI (by decide) rfl (Nat.le_of_ble_eq_true rfl) (Nat.le_of_ble_eq_true rfl) (Nat.le_of_ble_eq_true rfl) rfl rfl rfl (fun k hk => by unfold z_mAr at hk; simp at hk; omega) (by decide) rfl wi_834 rfl rfl (by decide +kernel) (fun a => rfl) dX7_init_23 dX7_init_25 (fun a3 => ?_)
  refine z_aload_n (x := some o) S 0 dX7_init_28 rfl rfl ?_
  refine z_sipush (v := 160) S dX7_init_29 (by decide) ?_
  refine z_mk_int (j := 4) (j' := 5) (N' := 160) S hE hnm wd_arrI (by decide) rfl (Nat.le_of_ble_eq_true rfl) (Nat.le_of_ble_eq_true rfl) (Nat.le_of_ble_eq_true rfl) rfl rfl rfl (fun k hk => by unfold z_mAr at hk; simp at hk; omega) (by decide) rfl wi_835 rfl rfl (by decide +kernel) (fun a => rfl) dX7_init_32 dX7_init_34 (fun a4 => ?_)
  refine z_aload_n (x := some o) S 0 dX7_init_37 rfl rfl ?_
  refine z_sipush (v := 160) S dX7_init_38 (by decide) ?_
  refine z_mk_int (j := 5) (j' := 6) (N' := 160) S hE hnm wd_arrI (by decide) rfl (Nat.le_of_ble_eq_true rfl) (Nat.le_of_ble_eq_true rfl) (Nat.le_of_ble_eq_true rfl) rfl rfl rfl (fun k hk => by unfold z_mAr at hk; simp at hk; omega) (by decide) rfl wi_836 rfl rfl (by decide +kernel) (fun a => rfl) dX7_init_41 dX7_init_43 (fun a5 => ?_)
  refine z_aload_n (x := some o) S 0 dX7_init_46 rfl rfl ?_
  refine z_bipush (v := 48) S dX7_init_47 (by decide) ?_
  refine z_mk_int (j := 6) (j' := 7) (N' := 48) S hE hnm wd_arrI (by decide) rfl (Nat.le_of_ble_eq_true rfl) (Nat.le_of_ble_eq_true rfl) (Nat.le_of_ble_eq_true rfl) rfl rfl rfl (fun k hk => by unfold z_mAr at hk; simp at hk; omega) (by decide) rfl wi_837 rfl rfl (by decide +kernel) (fun a => rfl) dX7_init_49 dX7_init_51 (fun a6 => ?_)
  refine z_aload_n (x := some o) S 0 dX7_init_54 rfl rfl ?_
  refine z_bipush (v := 48) S dX7_init_55 (by decide) ?_
  refine z_mk_boolean (j := 7) (j' := 8) (N' := 48) S hE hnm wi_arrZ (by decide) rfl (Nat.le_of_ble_eq_true rfl) (Nat.le_of_ble_eq_true rfl) (Nat.le_of_ble_eq_true rfl) rfl rfl rfl (fun k hk => by unfold z_mAr at hk; simp at hk; omega) (by decide) rfl wi_838 rfl rfl (by decide +kernel) (fun a => rfl) dX7_init_57 dX7_init_59 (fun a7 => ?_)
  refine z_aload_n (x := some o) S 0 dX7_init_62 rfl rfl ?_
  refine z_bipush (v := 48) S dX7_init_63 (by decide) ?_
  refine z_mk_int (j := 8) (j' := 9) (N' := 48) S hE hnm wd_arrI (by decide) rfl (Nat.le_of_ble_eq_true rfl) (Nat.le_of_ble_eq_true rfl) (Nat.le_of_ble_eq_true rfl) rfl rfl rfl (fun k hk => by unfold z_mAr at hk; simp at hk; omega) (by decide) rfl wi_839 rfl rfl (by decide +kernel) (fun a => rfl) dX7_init_65 dX7_init_67 (fun a8 => ?_)
  refine z_aload_n (x := some o) S 0 dX7_init_70 rfl rfl ?_
  refine z_bipush (v := 48) S dX7_init_71 (by decide) ?_
  refine z_mk_int (j := 9) (j' := 11) (N' := 48) S hE hnm wd_arrI (by decide) rfl (Nat.le_of_ble_eq_true rfl) (Nat.le_of_ble_eq_true rfl) (Nat.le_of_ble_eq_true rfl) rfl rfl rfl (fun k hk => by unfold z_mAr at hk; simp at hk; omega) (by decide) rfl wi_840 rfl rfl (by decide +kernel) (fun a => rfl) dX7_init_73 dX7_init_75 (fun a9 => ?_)
  refine z_aload_n (x := some o) S 0 dX7_init_78 rfl rfl ?_
  refine z_iconst (v := 4) S dX7_init_79 (by decide) ?_
  refine z_mk_int (j := 11) (j' := 12) (N' := 4) S hE hnm wd_arrI (by decide) rfl (Nat.le_of_ble_eq_true rfl) (Nat.le_of_ble_eq_true rfl) (Nat.le_of_ble_eq_true rfl) rfl rfl rfl (fun k hk => by unfold z_mAr at hk; simp at hk; omega) (by decide) rfl wi_842 rfl rfl (by decide +kernel) (fun a => rfl) dX7_init_80 dX7_init_82 (fun a11 => ?_)
  refine z_aload_n (x := some o) S 0 dX7_init_85 rfl rfl ?_
  refine z_bipush (v := 12) S dX7_init_86 (by decide) ?_
  refine z_mk_int (j := 12) (j' := 15) (N' := 12) S hE hnm wd_arrI (by decide) rfl (Nat.le_of_ble_eq_true rfl) (Nat.le_of_ble_eq_true rfl) (Nat.le_of_ble_eq_true rfl) rfl rfl rfl (fun k hk => by unfold z_mAr at hk; simp at hk; omega) (by decide) rfl wi_843 rfl rfl (by decide +kernel) (fun a => rfl) dX7_init_88 dX7_init_90 (fun a12 => ?_)
  refine z_aload_n (x := some o) S 0 dX7_init_93 rfl rfl ?_
  refine z_bipush (v := 16) S dX7_init_94 (by decide) ?_
  refine z_mk_int (j := 15) (j' := 16) (N' := 16) S hE hnm wd_arrI (by decide) rfl (Nat.le_of_ble_eq_true rfl) (Nat.le_of_ble_eq_true rfl) (Nat.le_of_ble_eq_true rfl) rfl rfl rfl (fun k hk => by unfold z_mAr at hk; simp at hk; omega) (by decide) rfl wi_846 rfl rfl (by decide +kernel) (fun a => rfl) dX7_init_96 dX7_init_98 (fun a15 => ?_)
  refine z_aload_n (x := some o) S 0 dX7_init_101 rfl rfl ?_
  refine z_bipush (v := 16) S dX7_init_102 (by decide) ?_
  refine z_mk_int (j := 16) (j' := 17) (N' := 16) S hE hnm wd_arrI (by decide) rfl (Nat.le_of_ble_eq_true rfl) (Nat.le_of_ble_eq_true rfl) (Nat.le_of_ble_eq_true rfl) rfl rfl rfl (fun k hk => by unfold z_mAr at hk; simp at hk; omega) (by decide) rfl wi_847 rfl rfl (by decide +kernel) (fun a => rfl) dX7_init_104 dX7_init_106 (fun a16 => ?_)
  refine z_aload_n (x := some o) S 0 dX7_init_109 rfl rfl ?_
  refine z_bipush (v := 16) S dX7_init_110 (by decide) ?_
  refine z_mk_int (j := 17) (j' := 18) (N' := 16) S hE hnm wd_arrI (by decide) rfl (Nat.le_of_ble_eq_true rfl) (Nat.le_of_ble_eq_true rfl) (Nat.le_of_ble_eq_true rfl) rfl rfl rfl (fun k hk => by unfold z_mAr at hk; simp at hk; omega) (by decide) rfl wi_848 rfl rfl (by decide +kernel) (fun a => rfl) dX7_init_112 dX7_init_114 (fun a17 => ?_)
  refine z_aload_n (x := some o) S 0 dX7_init_117 rfl rfl ?_
  refine z_bipush (v := 16) S dX7_init_118 (by decide) ?_
  refine z_mk_int (j := 18) (j' := 19) (N' := 16) S hE hnm wd_arrI (by decide) rfl (Nat.le_of_ble_eq_true rfl) (Nat.le_of_ble_eq_true rfl) (Nat.le_of_ble_eq_true rfl) rfl rfl rfl (fun k hk => by unfold z_mAr at hk; simp at hk; omega) (by decide) rfl wi_849 rfl rfl (by decide +kernel) (fun a => rfl) dX7_init_120 dX7_init_122 (fun a18 => ?_)
  refine z_aload_n (x := some o) S 0 dX7_init_125 rfl rfl ?_
  refine z_bipush (v := 16) S dX7_init_126 (by decide) ?_
  refine z_mk_int (j := 19) (j' := 20) (N' := 16) S hE hnm wd_arrI (by decide) rfl (Nat.le_of_ble_eq_true rfl) (Nat.le_of_ble_eq_true rfl) (Nat.le_of_ble_eq_true rfl) rfl rfl rfl (fun k hk => by unfold z_mAr at hk; simp at hk; omega) (by decide) rfl wi_850 rfl rfl (by decide +kernel) (fun a => rfl) dX7_init_128 dX7_init_130 (fun a19 => ?_)
  refine z_aload_n (x := some o) S 0 dX7_init_133 rfl rfl ?_
  refine z_iconst (v := 3) S dX7_init_134 (by decide) ?_
  refine z_mk_boolean (j := 20) (j' := 21) (N' := 3) S hE hnm wi_arrZ (by decide) rfl (Nat.le_of_ble_eq_true rfl) (Nat.le_of_ble_eq_true rfl) (Nat.le_of_ble_eq_true rfl) rfl rfl rfl (fun k hk => by unfold z_mAr at hk; simp at hk; omega) (by decide) rfl wi_851 rfl rfl (by decide +kernel) (fun a => rfl) dX7_init_135 dX7_init_137 (fun a20 => ?_)
  refine z_aload_n (x := some o) S 0 dX7_init_140 rfl rfl ?_
  refine z_iconst (v := 3) S dX7_init_141 (by decide) ?_
  refine z_mk_int (j := 21) (j' := 22) (N' := 3) S hE hnm wd_arrI (by decide) rfl (Nat.le_of_ble_eq_true rfl) (Nat.le_of_ble_eq_true rfl) (Nat.le_of_ble_eq_true rfl) rfl rfl rfl (fun k hk => by unfold z_mAr at hk; simp at hk; omega) (by decide) rfl wi_852 rfl rfl (by decide +kernel) (fun a => rfl) dX7_init_142 dX7_init_144 (fun a21 => ?_)
  refine z_aload_n (x := some o) S 0 dX7_init_147 rfl rfl ?_
  refine z_iconst (v := 3) S dX7_init_148 (by decide) ?_
  refine z_mk_int (j := 22) (j' := 23) (N' := 3) S hE hnm wd_arrI (by decide) rfl (Nat.le_of_ble_eq_true rfl) (Nat.le_of_ble_eq_true rfl) (Nat.le_of_ble_eq_true rfl) rfl rfl rfl (fun k hk => by unfold z_mAr at hk; simp at hk; omega) (by decide) rfl wi_853 rfl rfl (by decide +kernel) (fun a => rfl) dX7_init_149 dX7_init_151 (fun a22 => ?_)
  refine z_aload_n (x := some o) S 0 dX7_init_154 rfl rfl ?_
  refine z_iconst (v := 3) S dX7_init_155 (by decide) ?_
  refine z_mk_int (j := 23) (j' := 24) (N' := 3) S hE hnm wd_arrI (by decide) rfl (Nat.le_of_ble_eq_true rfl) (Nat.le_of_ble_eq_true rfl) (Nat.le_of_ble_eq_true rfl) rfl rfl rfl (fun k hk => by unfold z_mAr at hk; simp at hk; omega) (by decide) rfl wi_854 rfl rfl (by decide +kernel) (fun a => rfl) dX7_init_156 dX7_init_158 (fun a23 => ?_)
  refine z_aload_n (x := some o) S 0 dX7_init_161 rfl rfl ?_
  refine z_iconst (v := 3) S dX7_init_162 (by decide) ?_
  refine z_mk_boolean (j := 24) (j' := 25) (N' := 3) S hE hnm wi_arrZ (by decide) rfl (Nat.le_of_ble_eq_true rfl) (Nat.le_of_ble_eq_true rfl) (Nat.le_of_ble_eq_true rfl) rfl rfl rfl (fun k hk => by unfold z_mAr at hk; simp at hk; omega) (by decide) rfl wi_855 rfl rfl (by decide +kernel) (fun a => rfl) dX7_init_163 dX7_init_165 (fun a24 => ?_)
  refine z_aload_n (x := some o) S 0 dX7_init_168 rfl rfl ?_
  refine z_iconst (v := 3) S dX7_init_169 (by decide) ?_
  refine z_mk_int (j := 25) (j' := 26) (N' := 3) S hE hnm wd_arrI (by decide) rfl (Nat.le_of_ble_eq_true rfl) (Nat.le_of_ble_eq_true rfl) (Nat.le_of_ble_eq_true rfl) rfl rfl rfl (fun k hk => by unfold z_mAr at hk; simp at hk; omega) (by decide) rfl wi_856 rfl rfl (by decide +kernel) (fun a => rfl) dX7_init_170 dX7_init_172 (fun a25 => ?_)
  refine z_aload_n (x := some o) S 0 dX7_init_175 rfl rfl ?_
  refine z_bipush (v := 24) S dX7_init_176 (by decide) ?_
  refine z_mk_int (j := 26) (j' := 27) (N' := 24) S hE hnm wd_arrI (by decide) rfl (Nat.le_of_ble_eq_true rfl) (Nat.le_of_ble_eq_true rfl) (Nat.le_of_ble_eq_true rfl) rfl rfl rfl (fun k hk => by unfold z_mAr at hk; simp at hk; omega) (by decide) rfl wi_857 rfl rfl (by decide +kernel) (fun a => rfl) dX7_init_178 dX7_init_180 (fun a26 => ?_)
  refine z_aload_n (x := some o) S 0 dX7_init_183 rfl rfl ?_
  refine z_iconst (v := 3) S dX7_init_184 (by decide) ?_
  refine z_mk_int (j := 27) (j' := 28) (N' := 3) S hE hnm wd_arrI (by decide) rfl (Nat.le_of_ble_eq_true rfl) (Nat.le_of_ble_eq_true rfl) (Nat.le_of_ble_eq_true rfl) rfl rfl rfl (fun k hk => by unfold z_mAr at hk; simp at hk; omega) (by decide) rfl wi_858 rfl rfl (by decide +kernel) (fun a => rfl) dX7_init_185 dX7_init_187 (fun a27 => ?_)
  refine z_aload_n (x := some o) S 0 dX7_init_190 rfl rfl ?_
  refine z_iconst (v := 3) S dX7_init_191 (by decide) ?_
  refine z_mk_int (j := 28) (j' := 29) (N' := 3) S hE hnm wd_arrI (by decide) rfl (Nat.le_of_ble_eq_true rfl) (Nat.le_of_ble_eq_true rfl) (Nat.le_of_ble_eq_true rfl) rfl rfl rfl (fun k hk => by unfold z_mAr at hk; simp at hk; omega) (by decide) rfl wi_859 rfl rfl (by decide +kernel) (fun a => rfl) dX7_init_192 dX7_init_194 (fun a28 => ?_)
  refine z_aload_n (x := some o) S 0 dX7_init_197 rfl rfl ?_
  refine z_iconst (v := 3) S dX7_init_198 (by decide) ?_
  refine z_mk_int (j := 29) (j' := 30) (N' := 3) S hE hnm wd_arrI (by decide) rfl (Nat.le_of_ble_eq_true rfl) (Nat.le_of_ble_eq_true rfl) (Nat.le_of_ble_eq_true rfl) rfl rfl rfl (fun k hk => by unfold z_mAr at hk; simp at hk; omega) (by decide) rfl wi_860 rfl rfl (by decide +kernel) (fun a => rfl) dX7_init_199 dX7_init_201 (fun a29 => ?_)
  refine z_P_in ?_
  refine z_aload_n (x := some o) S 0 dX7_init_204 rfl rfl ?_
  refine zm_g_7 S hE.1 dX7_init_205 ?_
  refine z_iconst (v := 0) S dX7_init_208 (by decide) ?_
  refine z_bipush (v := 16) S dX7_init_209 (by decide) ?_
  refine z_mast (j := 1) S hE.1 rfl rfl (by unfold vp_in; decide) dX7_init_211 ?_
  refine z_iconst (v := 1) S dX7_init_212 (by decide) ?_
  refine z_istore_n S [(1, .int 1), (0, va_rf (some o))] dX7_init_213 rfl (by decide) rfl ?_
  refine mb_X7_initA S hlk hr hE.1 hp 48 1 _ (by omega) (by omega) (fun j hj => ?_) (fun f j hf1 hf2 => ?_)
  · have : j = 0 := by omega
    subst this
    exact (z_up_s _ _ _ _).trans z_stp_0.symm
  · rw [z_up_f _ _ _ hf1]
end ZI2
theorem me_X7_init (l : Launch) (D : va_G) (cy : Nat → ClassId) (A : Nat → Prop) (o : Nat) (ad : Nat → Nat) (post : z_PS → Prop) (hp : ∀ ad M, (∀ j, j < 49 → M 1 j = z_stp j) → (∀ s, s < 12 → M 12 s = -1) → (∀ f j, f ≠ 1 → f ≠ 12 → M f j = 0) → post (30, ad, M)) : z_Mv l yX7_init (Cond.code yX7_init cX7_init 2 none :: z_T) rm_X7_init [.ref o] (z_EI D cy A) (z_hP D cy A o) (1, ad, fun _ _ => 0) post 26 788 A :=
  z_met (by decide) (Nat.le_of_ble_eq_true rfl) (fun p e s m args below meth c S hlk hr hnm hE => mb_X7_init S hlk hr hE hnm hp)
