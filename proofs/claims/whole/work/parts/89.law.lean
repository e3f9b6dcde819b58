/-! THE LAW: loading a call's arguments, the reference's side, the comparison -/
theorem z_goSW {own : String} {idx : Nat} {y : MethodName} {b : ByteArray} {nl : Nat} {ret : Option FieldType} {hh : List (Nat × Nat × Nat × Nat)} (h1 : Cond.methodLink own idx y ∈ z_T) (h2 : Cond.static y ∈ z_T) (h4 : Cond.initialized y.cls ∈ z_T) (h5 : Cond.codeWith y b nl ret hh ∈ z_T) : GoodIn z_T (va_wsS own idx y (Cond.codeWith y b nl ret hh :: z_T)) := by
  intro w hw
  simp only [va_wsS, List.cons_append, List.nil_append, List.mem_cons] at hw
  have hm : w ∈ z_T := by
    rcases hw with h | h | h | h | h
    · rw [h]; exact h1
    · rw [h]; exact h2
    · rw [h]; exact h4
    · rw [h]; exact h5
    · exact h
  exact ⟨hm, z_Tgood hm⟩
theorem wn_49 : Cond.initialized "MessageBankLaw" ∈ z_T := z_Tin (i := 49) (by decide +kernel) (by decide +kernel)
theorem wn_50 : Cond.initialized "MessageBank" ∈ z_T := z_Tin (i := 50) (by decide +kernel) (by decide +kernel)
theorem wn_59 : Cond.initialized "MessageBankModel" ∈ z_T := z_Tin (i := 59) (by decide +kernel) (by decide +kernel)
theorem wn_262 : Cond.methodLink "MessageBankLaw" 138 yX6_total ∈ z_T := z_Tin (i := 262) (by decide +kernel) (by decide +kernel)
theorem wn_263 : Cond.instanceMethod yX6_total ∈ z_T := z_Tin (i := 263) (by decide +kernel) (by decide +kernel)
theorem wn_264 : Cond.selects "MessageBank" yX6_total yX6_total ∈ z_T := z_Tin (i := 264) (by decide +kernel) (by decide +kernel)
theorem wn_265 : Cond.code yX6_total cX6_total 2 (some .int) ∈ z_T := z_Tin (i := 265) (by decide +kernel) (by decide +kernel)
theorem wn_282 : Cond.methodLink "MessageBankLaw" 77 yL_box ∈ z_T := z_Tin (i := 282) (by decide +kernel) (by decide +kernel)
theorem wn_283 : Cond.static yL_box ∈ z_T := z_Tin (i := 283) (by decide +kernel) (by decide +kernel)
theorem wn_376 : Cond.methodLink "MessageBankLaw" 87 yL_call ∈ z_T := z_Tin (i := 376) (by decide +kernel) (by decide +kernel)
theorem wn_377 : Cond.static yL_call ∈ z_T := z_Tin (i := 377) (by decide +kernel) (by decide +kernel)
theorem wn_428 : Cond.methodLink "MessageBankLaw" 91 yL_sample ∈ z_T := z_Tin (i := 428) (by decide +kernel) (by decide +kernel)
theorem wn_429 : Cond.static yL_sample ∈ z_T := z_Tin (i := 429) (by decide +kernel) (by decide +kernel)
theorem wn_542 : Cond.methodLink "MessageBankLaw" 95 yL_hang ∈ z_T := z_Tin (i := 542) (by decide +kernel) (by decide +kernel)
theorem wn_543 : Cond.static yL_hang ∈ z_T := z_Tin (i := 543) (by decide +kernel) (by decide +kernel)
theorem wn_659 : Cond.methodLink "MessageBankLaw" 98 yL_next ∈ z_T := z_Tin (i := 659) (by decide +kernel) (by decide +kernel)
theorem wn_660 : Cond.static yL_next ∈ z_T := z_Tin (i := 660) (by decide +kernel) (by decide +kernel)
theorem wn_692 : Cond.methodLink "MessageBankLaw" 102 yL_mark ∈ z_T := z_Tin (i := 692) (by decide +kernel) (by decide +kernel)
theorem wn_693 : Cond.static yL_mark ∈ z_T := z_Tin (i := 693) (by decide +kernel) (by decide +kernel)
theorem wn_704 : Cond.methodLink "MessageBankLaw" 105 yL_erase ∈ z_T := z_Tin (i := 704) (by decide +kernel) (by decide +kernel)
theorem wn_705 : Cond.static yL_erase ∈ z_T := z_Tin (i := 705) (by decide +kernel) (by decide +kernel)
theorem wn_720 : Cond.methodLink "MessageBankLaw" 108 yL_forward ∈ z_T := z_Tin (i := 720) (by decide +kernel) (by decide +kernel)
theorem wn_721 : Cond.static yL_forward ∈ z_T := z_Tin (i := 721) (by decide +kernel) (by decide +kernel)
theorem wn_728 : Cond.methodLink "MessageBankLaw" 111 yL_duration ∈ z_T := z_Tin (i := 728) (by decide +kernel) (by decide +kernel)
theorem wn_729 : Cond.static yL_duration ∈ z_T := z_Tin (i := 729) (by decide +kernel) (by decide +kernel)
theorem wn_738 : Cond.methodLink "MessageBankLaw" 114 yL_play ∈ z_T := z_Tin (i := 738) (by decide +kernel) (by decide +kernel)
theorem wn_739 : Cond.static yL_play ∈ z_T := z_Tin (i := 739) (by decide +kernel) (by decide +kernel)
theorem wn_761 : Cond.methodLink "MessageBankLaw" 117 yL_length ∈ z_T := z_Tin (i := 761) (by decide +kernel) (by decide +kernel)
theorem wn_762 : Cond.static yL_length ∈ z_T := z_Tin (i := 762) (by decide +kernel) (by decide +kernel)
theorem wn_773 : Cond.methodLink "MessageBankLaw" 120 yL_greeting ∈ z_T := z_Tin (i := 773) (by decide +kernel) (by decide +kernel)
theorem wn_774 : Cond.static yL_greeting ∈ z_T := z_Tin (i := 774) (by decide +kernel) (by decide +kernel)
theorem wn_781 : Cond.methodLink "MessageBankLaw" 123 yL_used ∈ z_T := z_Tin (i := 781) (by decide +kernel) (by decide +kernel)
theorem wn_782 : Cond.static yL_used ∈ z_T := z_Tin (i := 782) (by decide +kernel) (by decide +kernel)
theorem wn_788 : Cond.methodLink "MessageBankLaw" 126 yL_quota ∈ z_T := z_Tin (i := 788) (by decide +kernel) (by decide +kernel)
theorem wn_789 : Cond.static yL_quota ∈ z_T := z_Tin (i := 789) (by decide +kernel) (by decide +kernel)
theorem wn_795 : Cond.methodLink "MessageBankLaw" 129 yL_pack ∈ z_T := z_Tin (i := 795) (by decide +kernel) (by decide +kernel)
theorem wn_796 : Cond.static yL_pack ∈ z_T := z_Tin (i := 796) (by decide +kernel) (by decide +kernel)
theorem wn_809 : Cond.methodLink "MessageBankLaw" 132 yL_block ∈ z_T := z_Tin (i := 809) (by decide +kernel) (by decide +kernel)
theorem wn_810 : Cond.static yL_block ∈ z_T := z_Tin (i := 810) (by decide +kernel) (by decide +kernel)
theorem wn_817 : Cond.methodLink "MessageBankLaw" 135 yL_step ∈ z_T := z_Tin (i := 817) (by decide +kernel) (by decide +kernel)
theorem wn_818 : Cond.static yL_step ∈ z_T := z_Tin (i := 818) (by decide +kernel) (by decide +kernel)
theorem wn_929 : Cond.methodLink "MessageBankLaw" 83 yX7_thrown ∈ z_T := z_Tin (i := 929) (by decide +kernel) (by decide +kernel)
theorem wn_930 : Cond.instanceMethod yX7_thrown ∈ z_T := z_Tin (i := 930) (by decide +kernel) (by decide +kernel)
theorem wn_931 : Cond.selects "MessageBankModel" yX7_thrown yX7_thrown ∈ z_T := z_Tin (i := 931) (by decide +kernel) (by decide +kernel)
theorem wn_932 : Cond.code yX7_thrown cX7_thrown 1 (some .int) ∈ z_T := z_Tin (i := 932) (by decide +kernel) (by decide +kernel)
theorem wn_933 : Cond.methodLink "MessageBankLaw" 82 yX7_box ∈ z_T := z_Tin (i := 933) (by decide +kernel) (by decide +kernel)
theorem wn_934 : Cond.instanceMethod yX7_box ∈ z_T := z_Tin (i := 934) (by decide +kernel) (by decide +kernel)
theorem wn_935 : Cond.selects "MessageBankModel" yX7_box yX7_box ∈ z_T := z_Tin (i := 935) (by decide +kernel) (by decide +kernel)
theorem wn_936 : Cond.code yX7_box cX7_box 2 (some .int) ∈ z_T := z_Tin (i := 936) (by decide +kernel) (by decide +kernel)
theorem wn_937 : Cond.methodLink "MessageBankLaw" 90 yX7_call ∈ z_T := z_Tin (i := 937) (by decide +kernel) (by decide +kernel)
theorem wn_938 : Cond.instanceMethod yX7_call ∈ z_T := z_Tin (i := 938) (by decide +kernel) (by decide +kernel)
theorem wn_939 : Cond.selects "MessageBankModel" yX7_call yX7_call ∈ z_T := z_Tin (i := 939) (by decide +kernel) (by decide +kernel)
theorem wn_940 : Cond.code yX7_call cX7_call 6 none ∈ z_T := z_Tin (i := 940) (by decide +kernel) (by decide +kernel)
theorem wn_952 : Cond.methodLink "MessageBankLaw" 94 yX7_sample ∈ z_T := z_Tin (i := 952) (by decide +kernel) (by decide +kernel)
theorem wn_953 : Cond.instanceMethod yX7_sample ∈ z_T := z_Tin (i := 953) (by decide +kernel) (by decide +kernel)
theorem wn_954 : Cond.selects "MessageBankModel" yX7_sample yX7_sample ∈ z_T := z_Tin (i := 954) (by decide +kernel) (by decide +kernel)
theorem wn_955 : Cond.code yX7_sample cX7_sample 3 (some .boolean) ∈ z_T := z_Tin (i := 955) (by decide +kernel) (by decide +kernel)
theorem wn_1007 : Cond.methodLink "MessageBankLaw" 97 yX7_hang ∈ z_T := z_Tin (i := 1007) (by decide +kernel) (by decide +kernel)
theorem wn_1008 : Cond.instanceMethod yX7_hang ∈ z_T := z_Tin (i := 1008) (by decide +kernel) (by decide +kernel)
theorem wn_1009 : Cond.selects "MessageBankModel" yX7_hang yX7_hang ∈ z_T := z_Tin (i := 1009) (by decide +kernel) (by decide +kernel)
theorem wn_1010 : Cond.code yX7_hang cX7_hang 5 (some .int) ∈ z_T := z_Tin (i := 1010) (by decide +kernel) (by decide +kernel)
theorem wn_1023 : Cond.methodLink "MessageBankLaw" 101 yX7_next ∈ z_T := z_Tin (i := 1023) (by decide +kernel) (by decide +kernel)
theorem wn_1024 : Cond.instanceMethod yX7_next ∈ z_T := z_Tin (i := 1024) (by decide +kernel) (by decide +kernel)
theorem wn_1025 : Cond.selects "MessageBankModel" yX7_next yX7_next ∈ z_T := z_Tin (i := 1025) (by decide +kernel) (by decide +kernel)
theorem wn_1026 : Cond.code yX7_next cX7_next 6 (some .int) ∈ z_T := z_Tin (i := 1026) (by decide +kernel) (by decide +kernel)
theorem wn_1027 : Cond.methodLink "MessageBankLaw" 104 yX7_mark ∈ z_T := z_Tin (i := 1027) (by decide +kernel) (by decide +kernel)
theorem wn_1028 : Cond.instanceMethod yX7_mark ∈ z_T := z_Tin (i := 1028) (by decide +kernel) (by decide +kernel)
theorem wn_1029 : Cond.selects "MessageBankModel" yX7_mark yX7_mark ∈ z_T := z_Tin (i := 1029) (by decide +kernel) (by decide +kernel)
theorem wn_1030 : Cond.code yX7_mark cX7_mark 5 (some .int) ∈ z_T := z_Tin (i := 1030) (by decide +kernel) (by decide +kernel)
theorem wn_1035 : Cond.methodLink "MessageBankLaw" 107 yX7_erase ∈ z_T := z_Tin (i := 1035) (by decide +kernel) (by decide +kernel)
theorem wn_1036 : Cond.instanceMethod yX7_erase ∈ z_T := z_Tin (i := 1036) (by decide +kernel) (by decide +kernel)
theorem wn_1037 : Cond.selects "MessageBankModel" yX7_erase yX7_erase ∈ z_T := z_Tin (i := 1037) (by decide +kernel) (by decide +kernel)
theorem wn_1038 : Cond.code yX7_erase cX7_erase 5 (some .int) ∈ z_T := z_Tin (i := 1038) (by decide +kernel) (by decide +kernel)
theorem wn_1039 : Cond.methodLink "MessageBankLaw" 110 yX7_forward ∈ z_T := z_Tin (i := 1039) (by decide +kernel) (by decide +kernel)
theorem wn_1040 : Cond.instanceMethod yX7_forward ∈ z_T := z_Tin (i := 1040) (by decide +kernel) (by decide +kernel)
theorem wn_1041 : Cond.selects "MessageBankModel" yX7_forward yX7_forward ∈ z_T := z_Tin (i := 1041) (by decide +kernel) (by decide +kernel)
theorem wn_1042 : Cond.code yX7_forward cX7_forward 6 (some .int) ∈ z_T := z_Tin (i := 1042) (by decide +kernel) (by decide +kernel)
theorem wn_1043 : Cond.methodLink "MessageBankLaw" 113 yX7_duration ∈ z_T := z_Tin (i := 1043) (by decide +kernel) (by decide +kernel)
theorem wn_1044 : Cond.instanceMethod yX7_duration ∈ z_T := z_Tin (i := 1044) (by decide +kernel) (by decide +kernel)
theorem wn_1045 : Cond.selects "MessageBankModel" yX7_duration yX7_duration ∈ z_T := z_Tin (i := 1045) (by decide +kernel) (by decide +kernel)
theorem wn_1046 : Cond.code yX7_duration cX7_duration 3 (some .int) ∈ z_T := z_Tin (i := 1046) (by decide +kernel) (by decide +kernel)
theorem wn_1051 : Cond.methodLink "MessageBankLaw" 116 yX7_play ∈ z_T := z_Tin (i := 1051) (by decide +kernel) (by decide +kernel)
theorem wn_1052 : Cond.instanceMethod yX7_play ∈ z_T := z_Tin (i := 1052) (by decide +kernel) (by decide +kernel)
theorem wn_1053 : Cond.selects "MessageBankModel" yX7_play yX7_play ∈ z_T := z_Tin (i := 1053) (by decide +kernel) (by decide +kernel)
theorem wn_1054 : Cond.code yX7_play cX7_play 6 (some .int) ∈ z_T := z_Tin (i := 1054) (by decide +kernel) (by decide +kernel)
theorem wn_1059 : Cond.methodLink "MessageBankLaw" 119 yX7_length ∈ z_T := z_Tin (i := 1059) (by decide +kernel) (by decide +kernel)
theorem wn_1060 : Cond.instanceMethod yX7_length ∈ z_T := z_Tin (i := 1060) (by decide +kernel) (by decide +kernel)
theorem wn_1061 : Cond.selects "MessageBankModel" yX7_length yX7_length ∈ z_T := z_Tin (i := 1061) (by decide +kernel) (by decide +kernel)
theorem wn_1062 : Cond.code yX7_length cX7_length 3 (some .int) ∈ z_T := z_Tin (i := 1062) (by decide +kernel) (by decide +kernel)
theorem wn_1063 : Cond.methodLink "MessageBankLaw" 122 yX7_greeting ∈ z_T := z_Tin (i := 1063) (by decide +kernel) (by decide +kernel)
theorem wn_1064 : Cond.instanceMethod yX7_greeting ∈ z_T := z_Tin (i := 1064) (by decide +kernel) (by decide +kernel)
theorem wn_1065 : Cond.selects "MessageBankModel" yX7_greeting yX7_greeting ∈ z_T := z_Tin (i := 1065) (by decide +kernel) (by decide +kernel)
theorem wn_1066 : Cond.code yX7_greeting cX7_greeting 5 (some .int) ∈ z_T := z_Tin (i := 1066) (by decide +kernel) (by decide +kernel)
theorem wn_1067 : Cond.methodLink "MessageBankLaw" 125 yX7_used ∈ z_T := z_Tin (i := 1067) (by decide +kernel) (by decide +kernel)
theorem wn_1068 : Cond.instanceMethod yX7_used ∈ z_T := z_Tin (i := 1068) (by decide +kernel) (by decide +kernel)
theorem wn_1069 : Cond.selects "MessageBankModel" yX7_used yX7_used ∈ z_T := z_Tin (i := 1069) (by decide +kernel) (by decide +kernel)
theorem wn_1070 : Cond.code yX7_used cX7_used 2 (some .int) ∈ z_T := z_Tin (i := 1070) (by decide +kernel) (by decide +kernel)
theorem wn_1071 : Cond.methodLink "MessageBankLaw" 128 yX7_quota ∈ z_T := z_Tin (i := 1071) (by decide +kernel) (by decide +kernel)
theorem wn_1072 : Cond.instanceMethod yX7_quota ∈ z_T := z_Tin (i := 1072) (by decide +kernel) (by decide +kernel)
theorem wn_1073 : Cond.selects "MessageBankModel" yX7_quota yX7_quota ∈ z_T := z_Tin (i := 1073) (by decide +kernel) (by decide +kernel)
theorem wn_1074 : Cond.code yX7_quota cX7_quota 2 (some .int) ∈ z_T := z_Tin (i := 1074) (by decide +kernel) (by decide +kernel)
theorem wn_1075 : Cond.methodLink "MessageBankLaw" 131 yX7_pack ∈ z_T := z_Tin (i := 1075) (by decide +kernel) (by decide +kernel)
theorem wn_1076 : Cond.instanceMethod yX7_pack ∈ z_T := z_Tin (i := 1076) (by decide +kernel) (by decide +kernel)
theorem wn_1077 : Cond.selects "MessageBankModel" yX7_pack yX7_pack ∈ z_T := z_Tin (i := 1077) (by decide +kernel) (by decide +kernel)
theorem wn_1078 : Cond.code yX7_pack cX7_pack 3 (some .int) ∈ z_T := z_Tin (i := 1078) (by decide +kernel) (by decide +kernel)
theorem wn_1087 : Cond.methodLink "MessageBankLaw" 134 yX7_block ∈ z_T := z_Tin (i := 1087) (by decide +kernel) (by decide +kernel)
theorem wn_1088 : Cond.instanceMethod yX7_block ∈ z_T := z_Tin (i := 1088) (by decide +kernel) (by decide +kernel)
theorem wn_1089 : Cond.selects "MessageBankModel" yX7_block yX7_block ∈ z_T := z_Tin (i := 1089) (by decide +kernel) (by decide +kernel)
theorem wn_1090 : Cond.code yX7_block cX7_block 2 (some .int) ∈ z_T := z_Tin (i := 1090) (by decide +kernel) (by decide +kernel)
theorem wn_1091 : Cond.methodLink "MessageBankLaw" 137 yX7_step ∈ z_T := z_Tin (i := 1091) (by decide +kernel) (by decide +kernel)
theorem wn_1092 : Cond.instanceMethod yX7_step ∈ z_T := z_Tin (i := 1092) (by decide +kernel) (by decide +kernel)
theorem wn_1093 : Cond.selects "MessageBankModel" yX7_step yX7_step ∈ z_T := z_Tin (i := 1093) (by decide +kernel) (by decide +kernel)
theorem wn_1094 : Cond.code yX7_step cX7_step 2 (some .int) ∈ z_T := z_Tin (i := 1094) (by decide +kernel) (by decide +kernel)
theorem wn_1095 : Cond.methodLink "MessageBankLaw" 141 yX7_total ∈ z_T := z_Tin (i := 1095) (by decide +kernel) (by decide +kernel)
theorem wn_1096 : Cond.instanceMethod yX7_total ∈ z_T := z_Tin (i := 1096) (by decide +kernel) (by decide +kernel)
theorem wn_1097 : Cond.selects "MessageBankModel" yX7_total yX7_total ∈ z_T := z_Tin (i := 1097) (by decide +kernel) (by decide +kernel)
theorem wn_1098 : Cond.code yX7_total cX7_total 5 (some .int) ∈ z_T := z_Tin (i := 1098) (by decide +kernel) (by decide +kernel)
theorem gm_83 : GoodIn z_T (wsV "MessageBankLaw" 83 RX7 yX7_thrown (Cond.code yX7_thrown cX7_thrown 1 (some .int) :: z_T)) := z_goV wn_929 wn_930 wn_931 wn_59 wn_932
theorem hdm_thrown : yX7_thrown.cls = RX7 ∧ yX7_thrown.cls ≠ "java/lang/invoke/MethodHandle" ∧ yX7_thrown.cls ≠ "java/lang/invoke/VarHandle" ∧ (parseMethodDescriptor yX7_thrown.desc).map (fun d => d.parameters.length) = some 0 := by decide +kernel
theorem wn_284 : Cond.codeWith yL_box cL_box 4 (some .int) [(0, 9, 12, 13), (0, 9, 15, 15)] ∈ z_T := z_Tin (i := 284) (by decide +kernel) (by decide +kernel)
theorem gL_77 : GoodIn z_T (va_wsS "MessageBankLaw" 77 yL_box (Cond.codeWith yL_box cL_box 4 (some .int) [(0, 9, 12, 13), (0, 9, 15, 15)] :: z_T)) := z_goSW wn_282 wn_283 wn_49 wn_284
theorem hdL_box : yL_box.cls ≠ "java/lang/invoke/MethodHandle" ∧ yL_box.cls ≠ "java/lang/invoke/VarHandle" ∧ (parseMethodDescriptor yL_box.desc).map (fun d => d.parameters.length) = some 3 := by decide +kernel
theorem gm_82 : GoodIn z_T (wsV "MessageBankLaw" 82 RX7 yX7_box (Cond.code yX7_box cX7_box 2 (some .int) :: z_T)) := z_goV wn_933 wn_934 wn_935 wn_59 wn_936
theorem hdm_box : yX7_box.cls = RX7 ∧ yX7_box.cls ≠ "java/lang/invoke/MethodHandle" ∧ yX7_box.cls ≠ "java/lang/invoke/VarHandle" ∧ (parseMethodDescriptor yX7_box.desc).map (fun d => d.parameters.length) = some 1 := by decide +kernel
theorem wn_378 : Cond.codeWith yL_call cL_call 5 (some .int) [(0, 7, 10, 21), (0, 7, 14, 13), (0, 7, 18, 15)] ∈ z_T := z_Tin (i := 378) (by decide +kernel) (by decide +kernel)
theorem gL_87 : GoodIn z_T (va_wsS "MessageBankLaw" 87 yL_call (Cond.codeWith yL_call cL_call 5 (some .int) [(0, 7, 10, 21), (0, 7, 14, 13), (0, 7, 18, 15)] :: z_T)) := z_goSW wn_376 wn_377 wn_49 wn_378
theorem hdL_call : yL_call.cls ≠ "java/lang/invoke/MethodHandle" ∧ yL_call.cls ≠ "java/lang/invoke/VarHandle" ∧ (parseMethodDescriptor yL_call.desc).map (fun d => d.parameters.length) = some 4 := by decide +kernel
theorem gm_90 : GoodIn z_T (wsV "MessageBankLaw" 90 RX7 yX7_call (Cond.code yX7_call cX7_call 6 none :: z_T)) := z_goV wn_937 wn_938 wn_939 wn_59 wn_940
theorem hdm_call : yX7_call.cls = RX7 ∧ yX7_call.cls ≠ "java/lang/invoke/MethodHandle" ∧ yX7_call.cls ≠ "java/lang/invoke/VarHandle" ∧ (parseMethodDescriptor yX7_call.desc).map (fun d => d.parameters.length) = some 3 := by decide +kernel
theorem wn_430 : Cond.codeWith yL_sample cL_sample 5 (some .int) [(0, 17, 20, 13), (0, 17, 24, 15)] ∈ z_T := z_Tin (i := 430) (by decide +kernel) (by decide +kernel)
theorem gL_91 : GoodIn z_T (va_wsS "MessageBankLaw" 91 yL_sample (Cond.codeWith yL_sample cL_sample 5 (some .int) [(0, 17, 20, 13), (0, 17, 24, 15)] :: z_T)) := z_goSW wn_428 wn_429 wn_49 wn_430
theorem hdL_sample : yL_sample.cls ≠ "java/lang/invoke/MethodHandle" ∧ yL_sample.cls ≠ "java/lang/invoke/VarHandle" ∧ (parseMethodDescriptor yL_sample.desc).map (fun d => d.parameters.length) = some 4 := by decide +kernel
theorem gm_94 : GoodIn z_T (wsV "MessageBankLaw" 94 RX7 yX7_sample (Cond.code yX7_sample cX7_sample 3 (some .boolean) :: z_T)) := z_goV wn_952 wn_953 wn_954 wn_59 wn_955
theorem hdm_sample : yX7_sample.cls = RX7 ∧ yX7_sample.cls ≠ "java/lang/invoke/MethodHandle" ∧ yX7_sample.cls ≠ "java/lang/invoke/VarHandle" ∧ (parseMethodDescriptor yX7_sample.desc).map (fun d => d.parameters.length) = some 2 := by decide +kernel
theorem wn_544 : Cond.codeWith yL_hang cL_hang 4 (some .int) [(0, 9, 12, 13), (0, 9, 15, 15)] ∈ z_T := z_Tin (i := 544) (by decide +kernel) (by decide +kernel)
theorem gL_95 : GoodIn z_T (va_wsS "MessageBankLaw" 95 yL_hang (Cond.codeWith yL_hang cL_hang 4 (some .int) [(0, 9, 12, 13), (0, 9, 15, 15)] :: z_T)) := z_goSW wn_542 wn_543 wn_49 wn_544
theorem hdL_hang : yL_hang.cls ≠ "java/lang/invoke/MethodHandle" ∧ yL_hang.cls ≠ "java/lang/invoke/VarHandle" ∧ (parseMethodDescriptor yL_hang.desc).map (fun d => d.parameters.length) = some 3 := by decide +kernel
theorem gm_97 : GoodIn z_T (wsV "MessageBankLaw" 97 RX7 yX7_hang (Cond.code yX7_hang cX7_hang 5 (some .int) :: z_T)) := z_goV wn_1007 wn_1008 wn_1009 wn_59 wn_1010
theorem hdm_hang : yX7_hang.cls = RX7 ∧ yX7_hang.cls ≠ "java/lang/invoke/MethodHandle" ∧ yX7_hang.cls ≠ "java/lang/invoke/VarHandle" ∧ (parseMethodDescriptor yX7_hang.desc).map (fun d => d.parameters.length) = some 1 := by decide +kernel
theorem wn_661 : Cond.codeWith yL_next cL_next 6 (some .int) [(0, 12, 15, 21), (0, 12, 19, 13), (0, 12, 23, 34)] ∈ z_T := z_Tin (i := 661) (by decide +kernel) (by decide +kernel)
theorem gL_98 : GoodIn z_T (va_wsS "MessageBankLaw" 98 yL_next (Cond.codeWith yL_next cL_next 6 (some .int) [(0, 12, 15, 21), (0, 12, 19, 13), (0, 12, 23, 34)] :: z_T)) := z_goSW wn_659 wn_660 wn_49 wn_661
theorem hdL_next : yL_next.cls ≠ "java/lang/invoke/MethodHandle" ∧ yL_next.cls ≠ "java/lang/invoke/VarHandle" ∧ (parseMethodDescriptor yL_next.desc).map (fun d => d.parameters.length) = some 5 := by decide +kernel
theorem gm_101 : GoodIn z_T (wsV "MessageBankLaw" 101 RX7 yX7_next (Cond.code yX7_next cX7_next 6 (some .int) :: z_T)) := z_goV wn_1023 wn_1024 wn_1025 wn_59 wn_1026
theorem hdm_next : yX7_next.cls = RX7 ∧ yX7_next.cls ≠ "java/lang/invoke/MethodHandle" ∧ yX7_next.cls ≠ "java/lang/invoke/VarHandle" ∧ (parseMethodDescriptor yX7_next.desc).map (fun d => d.parameters.length) = some 3 := by decide +kernel
theorem wn_694 : Cond.codeWith yL_mark cL_mark 5 (some .int) [(0, 10, 13, 21), (0, 10, 17, 13)] ∈ z_T := z_Tin (i := 694) (by decide +kernel) (by decide +kernel)
theorem gL_102 : GoodIn z_T (va_wsS "MessageBankLaw" 102 yL_mark (Cond.codeWith yL_mark cL_mark 5 (some .int) [(0, 10, 13, 21), (0, 10, 17, 13)] :: z_T)) := z_goSW wn_692 wn_693 wn_49 wn_694
theorem hdL_mark : yL_mark.cls ≠ "java/lang/invoke/MethodHandle" ∧ yL_mark.cls ≠ "java/lang/invoke/VarHandle" ∧ (parseMethodDescriptor yL_mark.desc).map (fun d => d.parameters.length) = some 4 := by decide +kernel
theorem gm_104 : GoodIn z_T (wsV "MessageBankLaw" 104 RX7 yX7_mark (Cond.code yX7_mark cX7_mark 5 (some .int) :: z_T)) := z_goV wn_1027 wn_1028 wn_1029 wn_59 wn_1030
theorem hdm_mark : yX7_mark.cls = RX7 ∧ yX7_mark.cls ≠ "java/lang/invoke/MethodHandle" ∧ yX7_mark.cls ≠ "java/lang/invoke/VarHandle" ∧ (parseMethodDescriptor yX7_mark.desc).map (fun d => d.parameters.length) = some 2 := by decide +kernel
theorem wn_706 : Cond.codeWith yL_erase cL_erase 4 (some .int) [(0, 9, 12, 21)] ∈ z_T := z_Tin (i := 706) (by decide +kernel) (by decide +kernel)
theorem gL_105 : GoodIn z_T (va_wsS "MessageBankLaw" 105 yL_erase (Cond.codeWith yL_erase cL_erase 4 (some .int) [(0, 9, 12, 21)] :: z_T)) := z_goSW wn_704 wn_705 wn_49 wn_706
theorem hdL_erase : yL_erase.cls ≠ "java/lang/invoke/MethodHandle" ∧ yL_erase.cls ≠ "java/lang/invoke/VarHandle" ∧ (parseMethodDescriptor yL_erase.desc).map (fun d => d.parameters.length) = some 3 := by decide +kernel
theorem gm_107 : GoodIn z_T (wsV "MessageBankLaw" 107 RX7 yX7_erase (Cond.code yX7_erase cX7_erase 5 (some .int) :: z_T)) := z_goV wn_1035 wn_1036 wn_1037 wn_59 wn_1038
theorem hdm_erase : yX7_erase.cls = RX7 ∧ yX7_erase.cls ≠ "java/lang/invoke/MethodHandle" ∧ yX7_erase.cls ≠ "java/lang/invoke/VarHandle" ∧ (parseMethodDescriptor yX7_erase.desc).map (fun d => d.parameters.length) = some 1 := by decide +kernel
theorem wn_722 : Cond.codeWith yL_forward cL_forward 5 (some .int) [(0, 10, 13, 21), (0, 10, 17, 15)] ∈ z_T := z_Tin (i := 722) (by decide +kernel) (by decide +kernel)
theorem gL_108 : GoodIn z_T (va_wsS "MessageBankLaw" 108 yL_forward (Cond.codeWith yL_forward cL_forward 5 (some .int) [(0, 10, 13, 21), (0, 10, 17, 15)] :: z_T)) := z_goSW wn_720 wn_721 wn_49 wn_722
theorem hdL_forward : yL_forward.cls ≠ "java/lang/invoke/MethodHandle" ∧ yL_forward.cls ≠ "java/lang/invoke/VarHandle" ∧ (parseMethodDescriptor yL_forward.desc).map (fun d => d.parameters.length) = some 4 := by decide +kernel
theorem gm_110 : GoodIn z_T (wsV "MessageBankLaw" 110 RX7 yX7_forward (Cond.code yX7_forward cX7_forward 6 (some .int) :: z_T)) := z_goV wn_1039 wn_1040 wn_1041 wn_59 wn_1042
theorem hdm_forward : yX7_forward.cls = RX7 ∧ yX7_forward.cls ≠ "java/lang/invoke/MethodHandle" ∧ yX7_forward.cls ≠ "java/lang/invoke/VarHandle" ∧ (parseMethodDescriptor yX7_forward.desc).map (fun d => d.parameters.length) = some 2 := by decide +kernel
theorem wn_730 : Cond.codeWith yL_duration cL_duration 4 (some .int) [(0, 9, 12, 21)] ∈ z_T := z_Tin (i := 730) (by decide +kernel) (by decide +kernel)
theorem gL_111 : GoodIn z_T (va_wsS "MessageBankLaw" 111 yL_duration (Cond.codeWith yL_duration cL_duration 4 (some .int) [(0, 9, 12, 21)] :: z_T)) := z_goSW wn_728 wn_729 wn_49 wn_730
theorem hdL_duration : yL_duration.cls ≠ "java/lang/invoke/MethodHandle" ∧ yL_duration.cls ≠ "java/lang/invoke/VarHandle" ∧ (parseMethodDescriptor yL_duration.desc).map (fun d => d.parameters.length) = some 3 := by decide +kernel
theorem gm_113 : GoodIn z_T (wsV "MessageBankLaw" 113 RX7 yX7_duration (Cond.code yX7_duration cX7_duration 3 (some .int) :: z_T)) := z_goV wn_1043 wn_1044 wn_1045 wn_59 wn_1046
theorem hdm_duration : yX7_duration.cls = RX7 ∧ yX7_duration.cls ≠ "java/lang/invoke/MethodHandle" ∧ yX7_duration.cls ≠ "java/lang/invoke/VarHandle" ∧ (parseMethodDescriptor yX7_duration.desc).map (fun d => d.parameters.length) = some 1 := by decide +kernel
theorem wn_740 : Cond.codeWith yL_play cL_play 5 (some .int) [(0, 10, 13, 21), (0, 10, 17, 34)] ∈ z_T := z_Tin (i := 740) (by decide +kernel) (by decide +kernel)
theorem gL_114 : GoodIn z_T (va_wsS "MessageBankLaw" 114 yL_play (Cond.codeWith yL_play cL_play 5 (some .int) [(0, 10, 13, 21), (0, 10, 17, 34)] :: z_T)) := z_goSW wn_738 wn_739 wn_49 wn_740
theorem hdL_play : yL_play.cls ≠ "java/lang/invoke/MethodHandle" ∧ yL_play.cls ≠ "java/lang/invoke/VarHandle" ∧ (parseMethodDescriptor yL_play.desc).map (fun d => d.parameters.length) = some 4 := by decide +kernel
theorem gm_116 : GoodIn z_T (wsV "MessageBankLaw" 116 RX7 yX7_play (Cond.code yX7_play cX7_play 6 (some .int) :: z_T)) := z_goV wn_1051 wn_1052 wn_1053 wn_59 wn_1054
theorem hdm_play : yX7_play.cls = RX7 ∧ yX7_play.cls ≠ "java/lang/invoke/MethodHandle" ∧ yX7_play.cls ≠ "java/lang/invoke/VarHandle" ∧ (parseMethodDescriptor yX7_play.desc).map (fun d => d.parameters.length) = some 2 := by decide +kernel
theorem wn_763 : Cond.codeWith yL_length cL_length 5 (some .int) [(0, 10, 13, 21), (0, 10, 17, 13)] ∈ z_T := z_Tin (i := 763) (by decide +kernel) (by decide +kernel)
theorem gL_117 : GoodIn z_T (va_wsS "MessageBankLaw" 117 yL_length (Cond.codeWith yL_length cL_length 5 (some .int) [(0, 10, 13, 21), (0, 10, 17, 13)] :: z_T)) := z_goSW wn_761 wn_762 wn_49 wn_763
theorem hdL_length : yL_length.cls ≠ "java/lang/invoke/MethodHandle" ∧ yL_length.cls ≠ "java/lang/invoke/VarHandle" ∧ (parseMethodDescriptor yL_length.desc).map (fun d => d.parameters.length) = some 4 := by decide +kernel
theorem gm_119 : GoodIn z_T (wsV "MessageBankLaw" 119 RX7 yX7_length (Cond.code yX7_length cX7_length 3 (some .int) :: z_T)) := z_goV wn_1059 wn_1060 wn_1061 wn_59 wn_1062
theorem hdm_length : yX7_length.cls = RX7 ∧ yX7_length.cls ≠ "java/lang/invoke/MethodHandle" ∧ yX7_length.cls ≠ "java/lang/invoke/VarHandle" ∧ (parseMethodDescriptor yX7_length.desc).map (fun d => d.parameters.length) = some 2 := by decide +kernel
theorem wn_775 : Cond.codeWith yL_greeting cL_greeting 6 (some .int) [(0, 12, 15, 21), (0, 12, 19, 13), (0, 12, 23, 34)] ∈ z_T := z_Tin (i := 775) (by decide +kernel) (by decide +kernel)
theorem gL_120 : GoodIn z_T (va_wsS "MessageBankLaw" 120 yL_greeting (Cond.codeWith yL_greeting cL_greeting 6 (some .int) [(0, 12, 15, 21), (0, 12, 19, 13), (0, 12, 23, 34)] :: z_T)) := z_goSW wn_773 wn_774 wn_49 wn_775
theorem hdL_greeting : yL_greeting.cls ≠ "java/lang/invoke/MethodHandle" ∧ yL_greeting.cls ≠ "java/lang/invoke/VarHandle" ∧ (parseMethodDescriptor yL_greeting.desc).map (fun d => d.parameters.length) = some 5 := by decide +kernel
theorem gm_122 : GoodIn z_T (wsV "MessageBankLaw" 122 RX7 yX7_greeting (Cond.code yX7_greeting cX7_greeting 5 (some .int) :: z_T)) := z_goV wn_1063 wn_1064 wn_1065 wn_59 wn_1066
theorem hdm_greeting : yX7_greeting.cls = RX7 ∧ yX7_greeting.cls ≠ "java/lang/invoke/MethodHandle" ∧ yX7_greeting.cls ≠ "java/lang/invoke/VarHandle" ∧ (parseMethodDescriptor yX7_greeting.desc).map (fun d => d.parameters.length) = some 3 := by decide +kernel
theorem wn_783 : Cond.codeWith yL_used cL_used 4 (some .int) [(0, 9, 12, 21)] ∈ z_T := z_Tin (i := 783) (by decide +kernel) (by decide +kernel)
theorem gL_123 : GoodIn z_T (va_wsS "MessageBankLaw" 123 yL_used (Cond.codeWith yL_used cL_used 4 (some .int) [(0, 9, 12, 21)] :: z_T)) := z_goSW wn_781 wn_782 wn_49 wn_783
theorem hdL_used : yL_used.cls ≠ "java/lang/invoke/MethodHandle" ∧ yL_used.cls ≠ "java/lang/invoke/VarHandle" ∧ (parseMethodDescriptor yL_used.desc).map (fun d => d.parameters.length) = some 3 := by decide +kernel
theorem gm_125 : GoodIn z_T (wsV "MessageBankLaw" 125 RX7 yX7_used (Cond.code yX7_used cX7_used 2 (some .int) :: z_T)) := z_goV wn_1067 wn_1068 wn_1069 wn_59 wn_1070
theorem hdm_used : yX7_used.cls = RX7 ∧ yX7_used.cls ≠ "java/lang/invoke/MethodHandle" ∧ yX7_used.cls ≠ "java/lang/invoke/VarHandle" ∧ (parseMethodDescriptor yX7_used.desc).map (fun d => d.parameters.length) = some 1 := by decide +kernel
theorem wn_790 : Cond.codeWith yL_quota cL_quota 4 (some .int) [(0, 9, 12, 21)] ∈ z_T := z_Tin (i := 790) (by decide +kernel) (by decide +kernel)
theorem gL_126 : GoodIn z_T (va_wsS "MessageBankLaw" 126 yL_quota (Cond.codeWith yL_quota cL_quota 4 (some .int) [(0, 9, 12, 21)] :: z_T)) := z_goSW wn_788 wn_789 wn_49 wn_790
theorem hdL_quota : yL_quota.cls ≠ "java/lang/invoke/MethodHandle" ∧ yL_quota.cls ≠ "java/lang/invoke/VarHandle" ∧ (parseMethodDescriptor yL_quota.desc).map (fun d => d.parameters.length) = some 3 := by decide +kernel
theorem gm_128 : GoodIn z_T (wsV "MessageBankLaw" 128 RX7 yX7_quota (Cond.code yX7_quota cX7_quota 2 (some .int) :: z_T)) := z_goV wn_1071 wn_1072 wn_1073 wn_59 wn_1074
theorem hdm_quota : yX7_quota.cls = RX7 ∧ yX7_quota.cls ≠ "java/lang/invoke/MethodHandle" ∧ yX7_quota.cls ≠ "java/lang/invoke/VarHandle" ∧ (parseMethodDescriptor yX7_quota.desc).map (fun d => d.parameters.length) = some 1 := by decide +kernel
theorem wn_797 : Cond.codeWith yL_pack cL_pack 4 (some .int) [(0, 9, 12, 13)] ∈ z_T := z_Tin (i := 797) (by decide +kernel) (by decide +kernel)
theorem gL_129 : GoodIn z_T (va_wsS "MessageBankLaw" 129 yL_pack (Cond.codeWith yL_pack cL_pack 4 (some .int) [(0, 9, 12, 13)] :: z_T)) := z_goSW wn_795 wn_796 wn_49 wn_797
theorem hdL_pack : yL_pack.cls ≠ "java/lang/invoke/MethodHandle" ∧ yL_pack.cls ≠ "java/lang/invoke/VarHandle" ∧ (parseMethodDescriptor yL_pack.desc).map (fun d => d.parameters.length) = some 3 := by decide +kernel
theorem gm_131 : GoodIn z_T (wsV "MessageBankLaw" 131 RX7 yX7_pack (Cond.code yX7_pack cX7_pack 3 (some .int) :: z_T)) := z_goV wn_1075 wn_1076 wn_1077 wn_59 wn_1078
theorem hdm_pack : yX7_pack.cls = RX7 ∧ yX7_pack.cls ≠ "java/lang/invoke/MethodHandle" ∧ yX7_pack.cls ≠ "java/lang/invoke/VarHandle" ∧ (parseMethodDescriptor yX7_pack.desc).map (fun d => d.parameters.length) = some 1 := by decide +kernel
theorem wn_811 : Cond.codeWith yL_block cL_block 4 (some .int) [(0, 9, 12, 34)] ∈ z_T := z_Tin (i := 811) (by decide +kernel) (by decide +kernel)
theorem gL_132 : GoodIn z_T (va_wsS "MessageBankLaw" 132 yL_block (Cond.codeWith yL_block cL_block 4 (some .int) [(0, 9, 12, 34)] :: z_T)) := z_goSW wn_809 wn_810 wn_49 wn_811
theorem hdL_block : yL_block.cls ≠ "java/lang/invoke/MethodHandle" ∧ yL_block.cls ≠ "java/lang/invoke/VarHandle" ∧ (parseMethodDescriptor yL_block.desc).map (fun d => d.parameters.length) = some 3 := by decide +kernel
theorem gm_134 : GoodIn z_T (wsV "MessageBankLaw" 134 RX7 yX7_block (Cond.code yX7_block cX7_block 2 (some .int) :: z_T)) := z_goV wn_1087 wn_1088 wn_1089 wn_59 wn_1090
theorem hdm_block : yX7_block.cls = RX7 ∧ yX7_block.cls ≠ "java/lang/invoke/MethodHandle" ∧ yX7_block.cls ≠ "java/lang/invoke/VarHandle" ∧ (parseMethodDescriptor yX7_block.desc).map (fun d => d.parameters.length) = some 1 := by decide +kernel
theorem wn_819 : Cond.codeWith yL_step cL_step 4 (some .int) [(0, 9, 12, 34)] ∈ z_T := z_Tin (i := 819) (by decide +kernel) (by decide +kernel)
theorem gL_135 : GoodIn z_T (va_wsS "MessageBankLaw" 135 yL_step (Cond.codeWith yL_step cL_step 4 (some .int) [(0, 9, 12, 34)] :: z_T)) := z_goSW wn_817 wn_818 wn_49 wn_819
theorem hdL_step : yL_step.cls ≠ "java/lang/invoke/MethodHandle" ∧ yL_step.cls ≠ "java/lang/invoke/VarHandle" ∧ (parseMethodDescriptor yL_step.desc).map (fun d => d.parameters.length) = some 3 := by decide +kernel
theorem gm_137 : GoodIn z_T (wsV "MessageBankLaw" 137 RX7 yX7_step (Cond.code yX7_step cX7_step 2 (some .int) :: z_T)) := z_goV wn_1091 wn_1092 wn_1093 wn_59 wn_1094
theorem hdm_step : yX7_step.cls = RX7 ∧ yX7_step.cls ≠ "java/lang/invoke/MethodHandle" ∧ yX7_step.cls ≠ "java/lang/invoke/VarHandle" ∧ (parseMethodDescriptor yX7_step.desc).map (fun d => d.parameters.length) = some 1 := by decide +kernel
theorem gc_138 : GoodIn z_T (wsV "MessageBankLaw" 138 RX6 yX6_total (Cond.code yX6_total cX6_total 2 (some .int) :: z_T)) := z_goV wn_262 wn_263 wn_264 wn_50 wn_265
theorem hdc_total : yX6_total.cls = RX6 ∧ yX6_total.cls ≠ "java/lang/invoke/MethodHandle" ∧ yX6_total.cls ≠ "java/lang/invoke/VarHandle" ∧ (parseMethodDescriptor yX6_total.desc).map (fun d => d.parameters.length) = some 1 := by decide +kernel
theorem gm_141 : GoodIn z_T (wsV "MessageBankLaw" 141 RX7 yX7_total (Cond.code yX7_total cX7_total 5 (some .int) :: z_T)) := z_goV wn_1095 wn_1096 wn_1097 wn_59 wn_1098
theorem hdm_total : yX7_total.cls = RX7 ∧ yX7_total.cls ≠ "java/lang/invoke/MethodHandle" ∧ yX7_total.cls ≠ "java/lang/invoke/VarHandle" ∧ (parseMethodDescriptor yX7_total.desc).map (fun d => d.parameters.length) = some 1 := by decide +kernel
theorem dL_law_0 : decode cL_law 0 = .ok (.new 8, 3) := by decide +kernel
theorem dL_law_3 : decode cL_law 3 = .ok (.dup, 1) := by decide +kernel
theorem dL_law_4 : decode cL_law 4 = .ok (.invokespecial 73, 3) := by decide +kernel
theorem dL_law_7 : decode cL_law 7 = .ok (.astore_n 1, 1) := by decide +kernel
theorem dL_law_8 : decode cL_law 8 = .ok (.new 74, 3) := by decide +kernel
theorem dL_law_11 : decode cL_law 11 = .ok (.dup, 1) := by decide +kernel
theorem dL_law_12 : decode cL_law 12 = .ok (.invokespecial 76, 3) := by decide +kernel
theorem dL_law_15 : decode cL_law 15 = .ok (.astore_n 2, 1) := by decide +kernel
theorem dL_law_16 : decode cL_law 16 = .ok (.iconst 1, 1) := by decide +kernel
theorem dL_law_17 : decode cL_law 17 = .ok (.newarray .long, 2) := by decide +kernel
theorem dL_law_19 : decode cL_law 19 = .ok (.astore_n 3, 1) := by decide +kernel
theorem dL_law_20 : decode cL_law 20 = .ok (.iconst 0, 1) := by decide +kernel
theorem dL_law_21 : decode cL_law 21 = .ok (.istore 4, 2) := by decide +kernel
theorem dL_law_23 : decode cL_law 23 = .ok (.iload 4, 2) := by decide +kernel
theorem dL_law_25 : decode cL_law 25 = .ok (.aload_n 0, 1) := by decide +kernel
theorem dL_law_26 : decode cL_law 26 = .ok (.arraylength, 1) := by decide +kernel
theorem dL_law_27 : decode cL_law 27 = .ok (.iconst 4, 1) := by decide +kernel
theorem dL_law_28 : decode cL_law 28 = .ok (.isub, 1) := by decide +kernel
theorem dL_law_29 : decode cL_law 29 = .ok (.if_icmp .gt 1197, 3) := by decide +kernel
theorem dL_law_32 : decode cL_law 32 = .ok (.aload_n 0, 1) := by decide +kernel
theorem dL_law_33 : decode cL_law 33 = .ok (.iload 4, 2) := by decide +kernel
theorem dL_law_35 : decode cL_law 35 = .ok (.iaload, 1) := by decide +kernel
theorem dL_law_36 : decode cL_law 36 = .ok (.bipush 31, 2) := by decide +kernel
theorem dL_law_38 : decode cL_law 38 = .ok (.iand, 1) := by decide +kernel
theorem dL_law_39 : decode cL_law 39 = .ok (.tableswitch 1181 0 17 #[85, 141, 201, 276, 332, 412, 480, 536, 604, 660, 728, 796, 876, 932, 988, 1044, 1100, 1156], 85) := by decide +kernel
theorem dL_law_124 : decode cL_law 124 = .ok (.aload_n 1, 1) := by decide +kernel
theorem dL_law_125 : decode cL_law 125 = .ok (.aload_n 0, 1) := by decide +kernel
theorem dL_law_126 : decode cL_law 126 = .ok (.iload 4, 2) := by decide +kernel
theorem dL_law_128 : decode cL_law 128 = .ok (.iconst 1, 1) := by decide +kernel
theorem dL_law_129 : decode cL_law 129 = .ok (.iadd, 1) := by decide +kernel
theorem dL_law_130 : decode cL_law 130 = .ok (.iaload, 1) := by decide +kernel
theorem dL_law_131 : decode cL_law 131 = .ok (.aload_n 3, 1) := by decide +kernel
theorem dL_law_132 : decode cL_law 132 = .ok (.invokestatic 77, 3) := by decide +kernel
theorem dL_law_135 : decode cL_law 135 = .ok (.istore 5, 2) := by decide +kernel
theorem dL_law_137 : decode cL_law 137 = .ok (.aload_n 2, 1) := by decide +kernel
theorem dL_law_138 : decode cL_law 138 = .ok (.aload_n 0, 1) := by decide +kernel
theorem dL_law_139 : decode cL_law 139 = .ok (.iload 4, 2) := by decide +kernel
theorem dL_law_141 : decode cL_law 141 = .ok (.iconst 1, 1) := by decide +kernel
theorem dL_law_142 : decode cL_law 142 = .ok (.iadd, 1) := by decide +kernel
theorem dL_law_143 : decode cL_law 143 = .ok (.iaload, 1) := by decide +kernel
theorem dL_law_144 : decode cL_law 144 = .ok (.invokevirtual 82, 3) := by decide +kernel
theorem dL_law_147 : decode cL_law 147 = .ok (.istore 6, 2) := by decide +kernel
theorem dL_law_149 : decode cL_law 149 = .ok (.aload_n 2, 1) := by decide +kernel
theorem dL_law_150 : decode cL_law 150 = .ok (.invokevirtual 83, 3) := by decide +kernel
theorem dL_law_153 : decode cL_law 153 = .ok (.iload 5, 2) := by decide +kernel
theorem dL_law_155 : decode cL_law 155 = .ok (.if_icmp .eq 5, 3) := by decide +kernel
theorem dL_law_158 : decode cL_law 158 = .ok (.iconst 0, 1) := by decide +kernel
theorem dL_law_159 : decode cL_law 159 = .ok (.ireturn, 1) := by decide +kernel
theorem dL_law_160 : decode cL_law 160 = .ok (.iload 5, 2) := by decide +kernel
theorem dL_law_162 : decode cL_law 162 = .ok (.ifCond .ne 15, 3) := by decide +kernel
theorem dL_law_165 : decode cL_law 165 = .ok (.aload_n 3, 1) := by decide +kernel
theorem dL_law_166 : decode cL_law 166 = .ok (.iconst 0, 1) := by decide +kernel
theorem dL_law_167 : decode cL_law 167 = .ok (.laload, 1) := by decide +kernel
theorem dL_law_168 : decode cL_law 168 = .ok (.iload 6, 2) := by decide +kernel
theorem dL_law_170 : decode cL_law 170 = .ok (.i2l, 1) := by decide +kernel
theorem dL_law_171 : decode cL_law 171 = .ok (.lcmp, 1) := by decide +kernel
theorem dL_law_172 : decode cL_law 172 = .ok (.ifCond .eq 5, 3) := by decide +kernel
theorem dL_law_175 : decode cL_law 175 = .ok (.iconst 0, 1) := by decide +kernel
theorem dL_law_176 : decode cL_law 176 = .ok (.ireturn, 1) := by decide +kernel
theorem dL_law_177 : decode cL_law 177 = .ok (.goto 1043, 3) := by decide +kernel
theorem dL_law_180 : decode cL_law 180 = .ok (.aload_n 1, 1) := by decide +kernel
theorem dL_law_181 : decode cL_law 181 = .ok (.aload_n 0, 1) := by decide +kernel
theorem dL_law_182 : decode cL_law 182 = .ok (.iload 4, 2) := by decide +kernel
theorem dL_law_184 : decode cL_law 184 = .ok (.iconst 1, 1) := by decide +kernel
theorem dL_law_185 : decode cL_law 185 = .ok (.iadd, 1) := by decide +kernel
theorem dL_law_186 : decode cL_law 186 = .ok (.iaload, 1) := by decide +kernel
theorem dL_law_187 : decode cL_law 187 = .ok (.aload_n 0, 1) := by decide +kernel
theorem dL_law_188 : decode cL_law 188 = .ok (.iload 4, 2) := by decide +kernel
theorem dL_law_190 : decode cL_law 190 = .ok (.iconst 2, 1) := by decide +kernel
theorem dL_law_191 : decode cL_law 191 = .ok (.iadd, 1) := by decide +kernel
theorem dL_law_192 : decode cL_law 192 = .ok (.iaload, 1) := by decide +kernel
theorem dL_law_193 : decode cL_law 193 = .ok (.aload_n 0, 1) := by decide +kernel
theorem dL_law_194 : decode cL_law 194 = .ok (.iload 4, 2) := by decide +kernel
theorem dL_law_196 : decode cL_law 196 = .ok (.iconst 3, 1) := by decide +kernel
theorem dL_law_197 : decode cL_law 197 = .ok (.iadd, 1) := by decide +kernel
theorem dL_law_198 : decode cL_law 198 = .ok (.iaload, 1) := by decide +kernel
theorem dL_law_199 : decode cL_law 199 = .ok (.invokestatic 87, 3) := by decide +kernel
theorem dL_law_202 : decode cL_law 202 = .ok (.istore 5, 2) := by decide +kernel
theorem dL_law_204 : decode cL_law 204 = .ok (.aload_n 2, 1) := by decide +kernel
theorem dL_law_205 : decode cL_law 205 = .ok (.aload_n 0, 1) := by decide +kernel
theorem dL_law_206 : decode cL_law 206 = .ok (.iload 4, 2) := by decide +kernel
theorem dL_law_208 : decode cL_law 208 = .ok (.iconst 1, 1) := by decide +kernel
theorem dL_law_209 : decode cL_law 209 = .ok (.iadd, 1) := by decide +kernel
theorem dL_law_210 : decode cL_law 210 = .ok (.iaload, 1) := by decide +kernel
theorem dL_law_211 : decode cL_law 211 = .ok (.aload_n 0, 1) := by decide +kernel
theorem dL_law_212 : decode cL_law 212 = .ok (.iload 4, 2) := by decide +kernel
theorem dL_law_214 : decode cL_law 214 = .ok (.iconst 2, 1) := by decide +kernel
theorem dL_law_215 : decode cL_law 215 = .ok (.iadd, 1) := by decide +kernel
theorem dL_law_216 : decode cL_law 216 = .ok (.iaload, 1) := by decide +kernel
theorem dL_law_217 : decode cL_law 217 = .ok (.aload_n 0, 1) := by decide +kernel
theorem dL_law_218 : decode cL_law 218 = .ok (.iload 4, 2) := by decide +kernel
theorem dL_law_220 : decode cL_law 220 = .ok (.iconst 3, 1) := by decide +kernel
theorem dL_law_221 : decode cL_law 221 = .ok (.iadd, 1) := by decide +kernel
theorem dL_law_222 : decode cL_law 222 = .ok (.iaload, 1) := by decide +kernel
theorem dL_law_223 : decode cL_law 223 = .ok (.invokevirtual 90, 3) := by decide +kernel
theorem dL_law_226 : decode cL_law 226 = .ok (.aload_n 2, 1) := by decide +kernel
theorem dL_law_227 : decode cL_law 227 = .ok (.invokevirtual 83, 3) := by decide +kernel
theorem dL_law_230 : decode cL_law 230 = .ok (.iload 5, 2) := by decide +kernel
theorem dL_law_232 : decode cL_law 232 = .ok (.if_icmp .eq 5, 3) := by decide +kernel
theorem dL_law_235 : decode cL_law 235 = .ok (.iconst 0, 1) := by decide +kernel
theorem dL_law_236 : decode cL_law 236 = .ok (.ireturn, 1) := by decide +kernel
theorem dL_law_237 : decode cL_law 237 = .ok (.goto 983, 3) := by decide +kernel
theorem dL_law_240 : decode cL_law 240 = .ok (.aload_n 1, 1) := by decide +kernel
theorem dL_law_241 : decode cL_law 241 = .ok (.aload_n 0, 1) := by decide +kernel
theorem dL_law_242 : decode cL_law 242 = .ok (.iload 4, 2) := by decide +kernel
theorem dL_law_244 : decode cL_law 244 = .ok (.iconst 1, 1) := by decide +kernel
theorem dL_law_245 : decode cL_law 245 = .ok (.iadd, 1) := by decide +kernel
theorem dL_law_246 : decode cL_law 246 = .ok (.iaload, 1) := by decide +kernel
theorem dL_law_247 : decode cL_law 247 = .ok (.aload_n 0, 1) := by decide +kernel
theorem dL_law_248 : decode cL_law 248 = .ok (.iload 4, 2) := by decide +kernel
theorem dL_law_250 : decode cL_law 250 = .ok (.iconst 2, 1) := by decide +kernel
theorem dL_law_251 : decode cL_law 251 = .ok (.iadd, 1) := by decide +kernel
theorem dL_law_252 : decode cL_law 252 = .ok (.iaload, 1) := by decide +kernel
theorem dL_law_253 : decode cL_law 253 = .ok (.aload_n 3, 1) := by decide +kernel
theorem dL_law_254 : decode cL_law 254 = .ok (.invokestatic 91, 3) := by decide +kernel
theorem dL_law_257 : decode cL_law 257 = .ok (.istore 5, 2) := by decide +kernel
theorem dL_law_259 : decode cL_law 259 = .ok (.aload_n 2, 1) := by decide +kernel
theorem dL_law_260 : decode cL_law 260 = .ok (.aload_n 0, 1) := by decide +kernel
theorem dL_law_261 : decode cL_law 261 = .ok (.iload 4, 2) := by decide +kernel
theorem dL_law_263 : decode cL_law 263 = .ok (.iconst 1, 1) := by decide +kernel
theorem dL_law_264 : decode cL_law 264 = .ok (.iadd, 1) := by decide +kernel
theorem dL_law_265 : decode cL_law 265 = .ok (.iaload, 1) := by decide +kernel
theorem dL_law_266 : decode cL_law 266 = .ok (.aload_n 0, 1) := by decide +kernel
theorem dL_law_267 : decode cL_law 267 = .ok (.iload 4, 2) := by decide +kernel
theorem dL_law_269 : decode cL_law 269 = .ok (.iconst 2, 1) := by decide +kernel
theorem dL_law_270 : decode cL_law 270 = .ok (.iadd, 1) := by decide +kernel
theorem dL_law_271 : decode cL_law 271 = .ok (.iaload, 1) := by decide +kernel
theorem dL_law_272 : decode cL_law 272 = .ok (.invokevirtual 94, 3) := by decide +kernel
theorem dL_law_275 : decode cL_law 275 = .ok (.istore 6, 2) := by decide +kernel
theorem dL_law_277 : decode cL_law 277 = .ok (.aload_n 2, 1) := by decide +kernel
theorem dL_law_278 : decode cL_law 278 = .ok (.invokevirtual 83, 3) := by decide +kernel
theorem dL_law_281 : decode cL_law 281 = .ok (.iload 5, 2) := by decide +kernel
theorem dL_law_283 : decode cL_law 283 = .ok (.if_icmp .eq 5, 3) := by decide +kernel
theorem dL_law_286 : decode cL_law 286 = .ok (.iconst 0, 1) := by decide +kernel
theorem dL_law_287 : decode cL_law 287 = .ok (.ireturn, 1) := by decide +kernel
theorem dL_law_288 : decode cL_law 288 = .ok (.iload 5, 2) := by decide +kernel
theorem dL_law_290 : decode cL_law 290 = .ok (.ifCond .ne 22, 3) := by decide +kernel
theorem dL_law_293 : decode cL_law 293 = .ok (.aload_n 3, 1) := by decide +kernel
theorem dL_law_294 : decode cL_law 294 = .ok (.iconst 0, 1) := by decide +kernel
theorem dL_law_295 : decode cL_law 295 = .ok (.laload, 1) := by decide +kernel
theorem dL_law_296 : decode cL_law 296 = .ok (.iload 6, 2) := by decide +kernel
theorem dL_law_298 : decode cL_law 298 = .ok (.ifCond .eq 7, 3) := by decide +kernel
theorem dL_law_301 : decode cL_law 301 = .ok (.lconst 1, 1) := by decide +kernel
theorem dL_law_302 : decode cL_law 302 = .ok (.goto 4, 3) := by decide +kernel
theorem dL_law_305 : decode cL_law 305 = .ok (.lconst 0, 1) := by decide +kernel
theorem dL_law_306 : decode cL_law 306 = .ok (.lcmp, 1) := by decide +kernel
theorem dL_law_307 : decode cL_law 307 = .ok (.ifCond .eq 5, 3) := by decide +kernel
theorem dL_law_310 : decode cL_law 310 = .ok (.iconst 0, 1) := by decide +kernel
theorem dL_law_311 : decode cL_law 311 = .ok (.ireturn, 1) := by decide +kernel
theorem dL_law_312 : decode cL_law 312 = .ok (.goto 908, 3) := by decide +kernel
theorem dL_law_315 : decode cL_law 315 = .ok (.aload_n 1, 1) := by decide +kernel
theorem dL_law_316 : decode cL_law 316 = .ok (.aload_n 0, 1) := by decide +kernel
theorem dL_law_317 : decode cL_law 317 = .ok (.iload 4, 2) := by decide +kernel
theorem dL_law_319 : decode cL_law 319 = .ok (.iconst 1, 1) := by decide +kernel
theorem dL_law_320 : decode cL_law 320 = .ok (.iadd, 1) := by decide +kernel
theorem dL_law_321 : decode cL_law 321 = .ok (.iaload, 1) := by decide +kernel
theorem dL_law_322 : decode cL_law 322 = .ok (.aload_n 3, 1) := by decide +kernel
theorem dL_law_323 : decode cL_law 323 = .ok (.invokestatic 95, 3) := by decide +kernel
theorem dL_law_326 : decode cL_law 326 = .ok (.istore 5, 2) := by decide +kernel
theorem dL_law_328 : decode cL_law 328 = .ok (.aload_n 2, 1) := by decide +kernel
theorem dL_law_329 : decode cL_law 329 = .ok (.aload_n 0, 1) := by decide +kernel
theorem dL_law_330 : decode cL_law 330 = .ok (.iload 4, 2) := by decide +kernel
theorem dL_law_332 : decode cL_law 332 = .ok (.iconst 1, 1) := by decide +kernel
theorem dL_law_333 : decode cL_law 333 = .ok (.iadd, 1) := by decide +kernel
theorem dL_law_334 : decode cL_law 334 = .ok (.iaload, 1) := by decide +kernel
theorem dL_law_335 : decode cL_law 335 = .ok (.invokevirtual 97, 3) := by decide +kernel
theorem dL_law_338 : decode cL_law 338 = .ok (.istore 6, 2) := by decide +kernel
theorem dL_law_340 : decode cL_law 340 = .ok (.aload_n 2, 1) := by decide +kernel
theorem dL_law_341 : decode cL_law 341 = .ok (.invokevirtual 83, 3) := by decide +kernel
theorem dL_law_344 : decode cL_law 344 = .ok (.iload 5, 2) := by decide +kernel
theorem dL_law_346 : decode cL_law 346 = .ok (.if_icmp .eq 5, 3) := by decide +kernel
theorem dL_law_349 : decode cL_law 349 = .ok (.iconst 0, 1) := by decide +kernel
theorem dL_law_350 : decode cL_law 350 = .ok (.ireturn, 1) := by decide +kernel
theorem dL_law_351 : decode cL_law 351 = .ok (.iload 5, 2) := by decide +kernel
theorem dL_law_353 : decode cL_law 353 = .ok (.ifCond .ne 15, 3) := by decide +kernel
theorem dL_law_356 : decode cL_law 356 = .ok (.aload_n 3, 1) := by decide +kernel
theorem dL_law_357 : decode cL_law 357 = .ok (.iconst 0, 1) := by decide +kernel
theorem dL_law_358 : decode cL_law 358 = .ok (.laload, 1) := by decide +kernel
theorem dL_law_359 : decode cL_law 359 = .ok (.iload 6, 2) := by decide +kernel
theorem dL_law_361 : decode cL_law 361 = .ok (.i2l, 1) := by decide +kernel
theorem dL_law_362 : decode cL_law 362 = .ok (.lcmp, 1) := by decide +kernel
theorem dL_law_363 : decode cL_law 363 = .ok (.ifCond .eq 5, 3) := by decide +kernel
theorem dL_law_366 : decode cL_law 366 = .ok (.iconst 0, 1) := by decide +kernel
theorem dL_law_367 : decode cL_law 367 = .ok (.ireturn, 1) := by decide +kernel
theorem dL_law_368 : decode cL_law 368 = .ok (.goto 852, 3) := by decide +kernel
theorem dL_law_371 : decode cL_law 371 = .ok (.aload_n 1, 1) := by decide +kernel
theorem dL_law_372 : decode cL_law 372 = .ok (.aload_n 0, 1) := by decide +kernel
theorem dL_law_373 : decode cL_law 373 = .ok (.iload 4, 2) := by decide +kernel
theorem dL_law_375 : decode cL_law 375 = .ok (.iconst 1, 1) := by decide +kernel
theorem dL_law_376 : decode cL_law 376 = .ok (.iadd, 1) := by decide +kernel
theorem dL_law_377 : decode cL_law 377 = .ok (.iaload, 1) := by decide +kernel
theorem dL_law_378 : decode cL_law 378 = .ok (.aload_n 0, 1) := by decide +kernel
theorem dL_law_379 : decode cL_law 379 = .ok (.iload 4, 2) := by decide +kernel
theorem dL_law_381 : decode cL_law 381 = .ok (.iconst 2, 1) := by decide +kernel
theorem dL_law_382 : decode cL_law 382 = .ok (.iadd, 1) := by decide +kernel
theorem dL_law_383 : decode cL_law 383 = .ok (.iaload, 1) := by decide +kernel
theorem dL_law_384 : decode cL_law 384 = .ok (.aload_n 0, 1) := by decide +kernel
theorem dL_law_385 : decode cL_law 385 = .ok (.iload 4, 2) := by decide +kernel
theorem dL_law_387 : decode cL_law 387 = .ok (.iconst 3, 1) := by decide +kernel
theorem dL_law_388 : decode cL_law 388 = .ok (.iadd, 1) := by decide +kernel
theorem dL_law_389 : decode cL_law 389 = .ok (.iaload, 1) := by decide +kernel
theorem dL_law_390 : decode cL_law 390 = .ok (.aload_n 3, 1) := by decide +kernel
theorem dL_law_391 : decode cL_law 391 = .ok (.invokestatic 98, 3) := by decide +kernel
theorem dL_law_394 : decode cL_law 394 = .ok (.istore 5, 2) := by decide +kernel
theorem dL_law_396 : decode cL_law 396 = .ok (.aload_n 2, 1) := by decide +kernel
theorem dL_law_397 : decode cL_law 397 = .ok (.aload_n 0, 1) := by decide +kernel
theorem dL_law_398 : decode cL_law 398 = .ok (.iload 4, 2) := by decide +kernel
theorem dL_law_400 : decode cL_law 400 = .ok (.iconst 1, 1) := by decide +kernel
theorem dL_law_401 : decode cL_law 401 = .ok (.iadd, 1) := by decide +kernel
theorem dL_law_402 : decode cL_law 402 = .ok (.iaload, 1) := by decide +kernel
theorem dL_law_403 : decode cL_law 403 = .ok (.aload_n 0, 1) := by decide +kernel
theorem dL_law_404 : decode cL_law 404 = .ok (.iload 4, 2) := by decide +kernel
theorem dL_law_406 : decode cL_law 406 = .ok (.iconst 2, 1) := by decide +kernel
theorem dL_law_407 : decode cL_law 407 = .ok (.iadd, 1) := by decide +kernel
theorem dL_law_408 : decode cL_law 408 = .ok (.iaload, 1) := by decide +kernel
theorem dL_law_409 : decode cL_law 409 = .ok (.aload_n 0, 1) := by decide +kernel
theorem dL_law_410 : decode cL_law 410 = .ok (.iload 4, 2) := by decide +kernel
theorem dL_law_412 : decode cL_law 412 = .ok (.iconst 3, 1) := by decide +kernel
theorem dL_law_413 : decode cL_law 413 = .ok (.iadd, 1) := by decide +kernel
theorem dL_law_414 : decode cL_law 414 = .ok (.iaload, 1) := by decide +kernel
theorem dL_law_415 : decode cL_law 415 = .ok (.invokevirtual 101, 3) := by decide +kernel
theorem dL_law_418 : decode cL_law 418 = .ok (.istore 6, 2) := by decide +kernel
theorem dL_law_420 : decode cL_law 420 = .ok (.aload_n 2, 1) := by decide +kernel
theorem dL_law_421 : decode cL_law 421 = .ok (.invokevirtual 83, 3) := by decide +kernel
theorem dL_law_424 : decode cL_law 424 = .ok (.iload 5, 2) := by decide +kernel
theorem dL_law_426 : decode cL_law 426 = .ok (.if_icmp .eq 5, 3) := by decide +kernel
theorem dL_law_429 : decode cL_law 429 = .ok (.iconst 0, 1) := by decide +kernel
theorem dL_law_430 : decode cL_law 430 = .ok (.ireturn, 1) := by decide +kernel
theorem dL_law_431 : decode cL_law 431 = .ok (.iload 5, 2) := by decide +kernel
theorem dL_law_433 : decode cL_law 433 = .ok (.ifCond .ne 15, 3) := by decide +kernel
theorem dL_law_436 : decode cL_law 436 = .ok (.aload_n 3, 1) := by decide +kernel
theorem dL_law_437 : decode cL_law 437 = .ok (.iconst 0, 1) := by decide +kernel
theorem dL_law_438 : decode cL_law 438 = .ok (.laload, 1) := by decide +kernel
theorem dL_law_439 : decode cL_law 439 = .ok (.iload 6, 2) := by decide +kernel
theorem dL_law_441 : decode cL_law 441 = .ok (.i2l, 1) := by decide +kernel
theorem dL_law_442 : decode cL_law 442 = .ok (.lcmp, 1) := by decide +kernel
theorem dL_law_443 : decode cL_law 443 = .ok (.ifCond .eq 5, 3) := by decide +kernel
theorem dL_law_446 : decode cL_law 446 = .ok (.iconst 0, 1) := by decide +kernel
theorem dL_law_447 : decode cL_law 447 = .ok (.ireturn, 1) := by decide +kernel
theorem dL_law_448 : decode cL_law 448 = .ok (.goto 772, 3) := by decide +kernel
theorem dL_law_451 : decode cL_law 451 = .ok (.aload_n 1, 1) := by decide +kernel
theorem dL_law_452 : decode cL_law 452 = .ok (.aload_n 0, 1) := by decide +kernel
theorem dL_law_453 : decode cL_law 453 = .ok (.iload 4, 2) := by decide +kernel
theorem dL_law_455 : decode cL_law 455 = .ok (.iconst 1, 1) := by decide +kernel
theorem dL_law_456 : decode cL_law 456 = .ok (.iadd, 1) := by decide +kernel
theorem dL_law_457 : decode cL_law 457 = .ok (.iaload, 1) := by decide +kernel
theorem dL_law_458 : decode cL_law 458 = .ok (.aload_n 0, 1) := by decide +kernel
theorem dL_law_459 : decode cL_law 459 = .ok (.iload 4, 2) := by decide +kernel
theorem dL_law_461 : decode cL_law 461 = .ok (.iconst 2, 1) := by decide +kernel
theorem dL_law_462 : decode cL_law 462 = .ok (.iadd, 1) := by decide +kernel
theorem dL_law_463 : decode cL_law 463 = .ok (.iaload, 1) := by decide +kernel
theorem dL_law_464 : decode cL_law 464 = .ok (.aload_n 3, 1) := by decide +kernel
theorem dL_law_465 : decode cL_law 465 = .ok (.invokestatic 102, 3) := by decide +kernel
theorem dL_law_468 : decode cL_law 468 = .ok (.istore 5, 2) := by decide +kernel
theorem dL_law_470 : decode cL_law 470 = .ok (.aload_n 2, 1) := by decide +kernel
theorem dL_law_471 : decode cL_law 471 = .ok (.aload_n 0, 1) := by decide +kernel
theorem dL_law_472 : decode cL_law 472 = .ok (.iload 4, 2) := by decide +kernel
theorem dL_law_474 : decode cL_law 474 = .ok (.iconst 1, 1) := by decide +kernel
theorem dL_law_475 : decode cL_law 475 = .ok (.iadd, 1) := by decide +kernel
theorem dL_law_476 : decode cL_law 476 = .ok (.iaload, 1) := by decide +kernel
theorem dL_law_477 : decode cL_law 477 = .ok (.aload_n 0, 1) := by decide +kernel
theorem dL_law_478 : decode cL_law 478 = .ok (.iload 4, 2) := by decide +kernel
theorem dL_law_480 : decode cL_law 480 = .ok (.iconst 2, 1) := by decide +kernel
theorem dL_law_481 : decode cL_law 481 = .ok (.iadd, 1) := by decide +kernel
theorem dL_law_482 : decode cL_law 482 = .ok (.iaload, 1) := by decide +kernel
theorem dL_law_483 : decode cL_law 483 = .ok (.invokevirtual 104, 3) := by decide +kernel
theorem dL_law_486 : decode cL_law 486 = .ok (.istore 6, 2) := by decide +kernel
theorem dL_law_488 : decode cL_law 488 = .ok (.aload_n 2, 1) := by decide +kernel
theorem dL_law_489 : decode cL_law 489 = .ok (.invokevirtual 83, 3) := by decide +kernel
theorem dL_law_492 : decode cL_law 492 = .ok (.iload 5, 2) := by decide +kernel
theorem dL_law_494 : decode cL_law 494 = .ok (.if_icmp .eq 5, 3) := by decide +kernel
theorem dL_law_497 : decode cL_law 497 = .ok (.iconst 0, 1) := by decide +kernel
theorem dL_law_498 : decode cL_law 498 = .ok (.ireturn, 1) := by decide +kernel
theorem dL_law_499 : decode cL_law 499 = .ok (.iload 5, 2) := by decide +kernel
theorem dL_law_501 : decode cL_law 501 = .ok (.ifCond .ne 15, 3) := by decide +kernel
theorem dL_law_504 : decode cL_law 504 = .ok (.aload_n 3, 1) := by decide +kernel
theorem dL_law_505 : decode cL_law 505 = .ok (.iconst 0, 1) := by decide +kernel
theorem dL_law_506 : decode cL_law 506 = .ok (.laload, 1) := by decide +kernel
theorem dL_law_507 : decode cL_law 507 = .ok (.iload 6, 2) := by decide +kernel
theorem dL_law_509 : decode cL_law 509 = .ok (.i2l, 1) := by decide +kernel
theorem dL_law_510 : decode cL_law 510 = .ok (.lcmp, 1) := by decide +kernel
theorem dL_law_511 : decode cL_law 511 = .ok (.ifCond .eq 5, 3) := by decide +kernel
theorem dL_law_514 : decode cL_law 514 = .ok (.iconst 0, 1) := by decide +kernel
theorem dL_law_515 : decode cL_law 515 = .ok (.ireturn, 1) := by decide +kernel
theorem dL_law_516 : decode cL_law 516 = .ok (.goto 704, 3) := by decide +kernel
theorem dL_law_519 : decode cL_law 519 = .ok (.aload_n 1, 1) := by decide +kernel
theorem dL_law_520 : decode cL_law 520 = .ok (.aload_n 0, 1) := by decide +kernel
theorem dL_law_521 : decode cL_law 521 = .ok (.iload 4, 2) := by decide +kernel
theorem dL_law_523 : decode cL_law 523 = .ok (.iconst 1, 1) := by decide +kernel
theorem dL_law_524 : decode cL_law 524 = .ok (.iadd, 1) := by decide +kernel
theorem dL_law_525 : decode cL_law 525 = .ok (.iaload, 1) := by decide +kernel
theorem dL_law_526 : decode cL_law 526 = .ok (.aload_n 3, 1) := by decide +kernel
theorem dL_law_527 : decode cL_law 527 = .ok (.invokestatic 105, 3) := by decide +kernel
theorem dL_law_530 : decode cL_law 530 = .ok (.istore 5, 2) := by decide +kernel
theorem dL_law_532 : decode cL_law 532 = .ok (.aload_n 2, 1) := by decide +kernel
theorem dL_law_533 : decode cL_law 533 = .ok (.aload_n 0, 1) := by decide +kernel
theorem dL_law_534 : decode cL_law 534 = .ok (.iload 4, 2) := by decide +kernel
theorem dL_law_536 : decode cL_law 536 = .ok (.iconst 1, 1) := by decide +kernel
theorem dL_law_537 : decode cL_law 537 = .ok (.iadd, 1) := by decide +kernel
theorem dL_law_538 : decode cL_law 538 = .ok (.iaload, 1) := by decide +kernel
theorem dL_law_539 : decode cL_law 539 = .ok (.invokevirtual 107, 3) := by decide +kernel
theorem dL_law_542 : decode cL_law 542 = .ok (.istore 6, 2) := by decide +kernel
theorem dL_law_544 : decode cL_law 544 = .ok (.aload_n 2, 1) := by decide +kernel
theorem dL_law_545 : decode cL_law 545 = .ok (.invokevirtual 83, 3) := by decide +kernel
theorem dL_law_548 : decode cL_law 548 = .ok (.iload 5, 2) := by decide +kernel
theorem dL_law_550 : decode cL_law 550 = .ok (.if_icmp .eq 5, 3) := by decide +kernel
theorem dL_law_553 : decode cL_law 553 = .ok (.iconst 0, 1) := by decide +kernel
theorem dL_law_554 : decode cL_law 554 = .ok (.ireturn, 1) := by decide +kernel
theorem dL_law_555 : decode cL_law 555 = .ok (.iload 5, 2) := by decide +kernel
theorem dL_law_557 : decode cL_law 557 = .ok (.ifCond .ne 15, 3) := by decide +kernel
theorem dL_law_560 : decode cL_law 560 = .ok (.aload_n 3, 1) := by decide +kernel
theorem dL_law_561 : decode cL_law 561 = .ok (.iconst 0, 1) := by decide +kernel
theorem dL_law_562 : decode cL_law 562 = .ok (.laload, 1) := by decide +kernel
theorem dL_law_563 : decode cL_law 563 = .ok (.iload 6, 2) := by decide +kernel
theorem dL_law_565 : decode cL_law 565 = .ok (.i2l, 1) := by decide +kernel
theorem dL_law_566 : decode cL_law 566 = .ok (.lcmp, 1) := by decide +kernel
theorem dL_law_567 : decode cL_law 567 = .ok (.ifCond .eq 5, 3) := by decide +kernel
theorem dL_law_570 : decode cL_law 570 = .ok (.iconst 0, 1) := by decide +kernel
theorem dL_law_571 : decode cL_law 571 = .ok (.ireturn, 1) := by decide +kernel
theorem dL_law_572 : decode cL_law 572 = .ok (.goto 648, 3) := by decide +kernel
theorem dL_law_575 : decode cL_law 575 = .ok (.aload_n 1, 1) := by decide +kernel
theorem dL_law_576 : decode cL_law 576 = .ok (.aload_n 0, 1) := by decide +kernel
theorem dL_law_577 : decode cL_law 577 = .ok (.iload 4, 2) := by decide +kernel
theorem dL_law_579 : decode cL_law 579 = .ok (.iconst 1, 1) := by decide +kernel
theorem dL_law_580 : decode cL_law 580 = .ok (.iadd, 1) := by decide +kernel
theorem dL_law_581 : decode cL_law 581 = .ok (.iaload, 1) := by decide +kernel
theorem dL_law_582 : decode cL_law 582 = .ok (.aload_n 0, 1) := by decide +kernel
theorem dL_law_583 : decode cL_law 583 = .ok (.iload 4, 2) := by decide +kernel
theorem dL_law_585 : decode cL_law 585 = .ok (.iconst 2, 1) := by decide +kernel
theorem dL_law_586 : decode cL_law 586 = .ok (.iadd, 1) := by decide +kernel
theorem dL_law_587 : decode cL_law 587 = .ok (.iaload, 1) := by decide +kernel
theorem dL_law_588 : decode cL_law 588 = .ok (.aload_n 3, 1) := by decide +kernel
theorem dL_law_589 : decode cL_law 589 = .ok (.invokestatic 108, 3) := by decide +kernel
theorem dL_law_592 : decode cL_law 592 = .ok (.istore 5, 2) := by decide +kernel
theorem dL_law_594 : decode cL_law 594 = .ok (.aload_n 2, 1) := by decide +kernel
theorem dL_law_595 : decode cL_law 595 = .ok (.aload_n 0, 1) := by decide +kernel
theorem dL_law_596 : decode cL_law 596 = .ok (.iload 4, 2) := by decide +kernel
theorem dL_law_598 : decode cL_law 598 = .ok (.iconst 1, 1) := by decide +kernel
theorem dL_law_599 : decode cL_law 599 = .ok (.iadd, 1) := by decide +kernel
theorem dL_law_600 : decode cL_law 600 = .ok (.iaload, 1) := by decide +kernel
theorem dL_law_601 : decode cL_law 601 = .ok (.aload_n 0, 1) := by decide +kernel
theorem dL_law_602 : decode cL_law 602 = .ok (.iload 4, 2) := by decide +kernel
theorem dL_law_604 : decode cL_law 604 = .ok (.iconst 2, 1) := by decide +kernel
theorem dL_law_605 : decode cL_law 605 = .ok (.iadd, 1) := by decide +kernel
theorem dL_law_606 : decode cL_law 606 = .ok (.iaload, 1) := by decide +kernel
theorem dL_law_607 : decode cL_law 607 = .ok (.invokevirtual 110, 3) := by decide +kernel
theorem dL_law_610 : decode cL_law 610 = .ok (.istore 6, 2) := by decide +kernel
theorem dL_law_612 : decode cL_law 612 = .ok (.aload_n 2, 1) := by decide +kernel
theorem dL_law_613 : decode cL_law 613 = .ok (.invokevirtual 83, 3) := by decide +kernel
theorem dL_law_616 : decode cL_law 616 = .ok (.iload 5, 2) := by decide +kernel
theorem dL_law_618 : decode cL_law 618 = .ok (.if_icmp .eq 5, 3) := by decide +kernel
theorem dL_law_621 : decode cL_law 621 = .ok (.iconst 0, 1) := by decide +kernel
theorem dL_law_622 : decode cL_law 622 = .ok (.ireturn, 1) := by decide +kernel
theorem dL_law_623 : decode cL_law 623 = .ok (.iload 5, 2) := by decide +kernel
theorem dL_law_625 : decode cL_law 625 = .ok (.ifCond .ne 15, 3) := by decide +kernel
theorem dL_law_628 : decode cL_law 628 = .ok (.aload_n 3, 1) := by decide +kernel
theorem dL_law_629 : decode cL_law 629 = .ok (.iconst 0, 1) := by decide +kernel
theorem dL_law_630 : decode cL_law 630 = .ok (.laload, 1) := by decide +kernel
theorem dL_law_631 : decode cL_law 631 = .ok (.iload 6, 2) := by decide +kernel
theorem dL_law_633 : decode cL_law 633 = .ok (.i2l, 1) := by decide +kernel
theorem dL_law_634 : decode cL_law 634 = .ok (.lcmp, 1) := by decide +kernel
theorem dL_law_635 : decode cL_law 635 = .ok (.ifCond .eq 5, 3) := by decide +kernel
theorem dL_law_638 : decode cL_law 638 = .ok (.iconst 0, 1) := by decide +kernel
theorem dL_law_639 : decode cL_law 639 = .ok (.ireturn, 1) := by decide +kernel
theorem dL_law_640 : decode cL_law 640 = .ok (.goto 580, 3) := by decide +kernel
theorem dL_law_643 : decode cL_law 643 = .ok (.aload_n 1, 1) := by decide +kernel
theorem dL_law_644 : decode cL_law 644 = .ok (.aload_n 0, 1) := by decide +kernel
theorem dL_law_645 : decode cL_law 645 = .ok (.iload 4, 2) := by decide +kernel
theorem dL_law_647 : decode cL_law 647 = .ok (.iconst 1, 1) := by decide +kernel
theorem dL_law_648 : decode cL_law 648 = .ok (.iadd, 1) := by decide +kernel
theorem dL_law_649 : decode cL_law 649 = .ok (.iaload, 1) := by decide +kernel
theorem dL_law_650 : decode cL_law 650 = .ok (.aload_n 3, 1) := by decide +kernel
theorem dL_law_651 : decode cL_law 651 = .ok (.invokestatic 111, 3) := by decide +kernel
theorem dL_law_654 : decode cL_law 654 = .ok (.istore 5, 2) := by decide +kernel
theorem dL_law_656 : decode cL_law 656 = .ok (.aload_n 2, 1) := by decide +kernel
theorem dL_law_657 : decode cL_law 657 = .ok (.aload_n 0, 1) := by decide +kernel
theorem dL_law_658 : decode cL_law 658 = .ok (.iload 4, 2) := by decide +kernel
theorem dL_law_660 : decode cL_law 660 = .ok (.iconst 1, 1) := by decide +kernel
theorem dL_law_661 : decode cL_law 661 = .ok (.iadd, 1) := by decide +kernel
theorem dL_law_662 : decode cL_law 662 = .ok (.iaload, 1) := by decide +kernel
theorem dL_law_663 : decode cL_law 663 = .ok (.invokevirtual 113, 3) := by decide +kernel
theorem dL_law_666 : decode cL_law 666 = .ok (.istore 6, 2) := by decide +kernel
theorem dL_law_668 : decode cL_law 668 = .ok (.aload_n 2, 1) := by decide +kernel
theorem dL_law_669 : decode cL_law 669 = .ok (.invokevirtual 83, 3) := by decide +kernel
theorem dL_law_672 : decode cL_law 672 = .ok (.iload 5, 2) := by decide +kernel
theorem dL_law_674 : decode cL_law 674 = .ok (.if_icmp .eq 5, 3) := by decide +kernel
theorem dL_law_677 : decode cL_law 677 = .ok (.iconst 0, 1) := by decide +kernel
theorem dL_law_678 : decode cL_law 678 = .ok (.ireturn, 1) := by decide +kernel
theorem dL_law_679 : decode cL_law 679 = .ok (.iload 5, 2) := by decide +kernel
theorem dL_law_681 : decode cL_law 681 = .ok (.ifCond .ne 15, 3) := by decide +kernel
theorem dL_law_684 : decode cL_law 684 = .ok (.aload_n 3, 1) := by decide +kernel
theorem dL_law_685 : decode cL_law 685 = .ok (.iconst 0, 1) := by decide +kernel
theorem dL_law_686 : decode cL_law 686 = .ok (.laload, 1) := by decide +kernel
theorem dL_law_687 : decode cL_law 687 = .ok (.iload 6, 2) := by decide +kernel
theorem dL_law_689 : decode cL_law 689 = .ok (.i2l, 1) := by decide +kernel
theorem dL_law_690 : decode cL_law 690 = .ok (.lcmp, 1) := by decide +kernel
theorem dL_law_691 : decode cL_law 691 = .ok (.ifCond .eq 5, 3) := by decide +kernel
theorem dL_law_694 : decode cL_law 694 = .ok (.iconst 0, 1) := by decide +kernel
theorem dL_law_695 : decode cL_law 695 = .ok (.ireturn, 1) := by decide +kernel
theorem dL_law_696 : decode cL_law 696 = .ok (.goto 524, 3) := by decide +kernel
theorem dL_law_699 : decode cL_law 699 = .ok (.aload_n 1, 1) := by decide +kernel
theorem dL_law_700 : decode cL_law 700 = .ok (.aload_n 0, 1) := by decide +kernel
theorem dL_law_701 : decode cL_law 701 = .ok (.iload 4, 2) := by decide +kernel
theorem dL_law_703 : decode cL_law 703 = .ok (.iconst 1, 1) := by decide +kernel
theorem dL_law_704 : decode cL_law 704 = .ok (.iadd, 1) := by decide +kernel
theorem dL_law_705 : decode cL_law 705 = .ok (.iaload, 1) := by decide +kernel
theorem dL_law_706 : decode cL_law 706 = .ok (.aload_n 0, 1) := by decide +kernel
theorem dL_law_707 : decode cL_law 707 = .ok (.iload 4, 2) := by decide +kernel
theorem dL_law_709 : decode cL_law 709 = .ok (.iconst 2, 1) := by decide +kernel
theorem dL_law_710 : decode cL_law 710 = .ok (.iadd, 1) := by decide +kernel
theorem dL_law_711 : decode cL_law 711 = .ok (.iaload, 1) := by decide +kernel
theorem dL_law_712 : decode cL_law 712 = .ok (.aload_n 3, 1) := by decide +kernel
theorem dL_law_713 : decode cL_law 713 = .ok (.invokestatic 114, 3) := by decide +kernel
theorem dL_law_716 : decode cL_law 716 = .ok (.istore 5, 2) := by decide +kernel
theorem dL_law_718 : decode cL_law 718 = .ok (.aload_n 2, 1) := by decide +kernel
theorem dL_law_719 : decode cL_law 719 = .ok (.aload_n 0, 1) := by decide +kernel
theorem dL_law_720 : decode cL_law 720 = .ok (.iload 4, 2) := by decide +kernel
theorem dL_law_722 : decode cL_law 722 = .ok (.iconst 1, 1) := by decide +kernel
theorem dL_law_723 : decode cL_law 723 = .ok (.iadd, 1) := by decide +kernel
theorem dL_law_724 : decode cL_law 724 = .ok (.iaload, 1) := by decide +kernel
theorem dL_law_725 : decode cL_law 725 = .ok (.aload_n 0, 1) := by decide +kernel
theorem dL_law_726 : decode cL_law 726 = .ok (.iload 4, 2) := by decide +kernel
theorem dL_law_728 : decode cL_law 728 = .ok (.iconst 2, 1) := by decide +kernel
theorem dL_law_729 : decode cL_law 729 = .ok (.iadd, 1) := by decide +kernel
theorem dL_law_730 : decode cL_law 730 = .ok (.iaload, 1) := by decide +kernel
theorem dL_law_731 : decode cL_law 731 = .ok (.invokevirtual 116, 3) := by decide +kernel
theorem dL_law_734 : decode cL_law 734 = .ok (.istore 6, 2) := by decide +kernel
theorem dL_law_736 : decode cL_law 736 = .ok (.aload_n 2, 1) := by decide +kernel
theorem dL_law_737 : decode cL_law 737 = .ok (.invokevirtual 83, 3) := by decide +kernel
theorem dL_law_740 : decode cL_law 740 = .ok (.iload 5, 2) := by decide +kernel
theorem dL_law_742 : decode cL_law 742 = .ok (.if_icmp .eq 5, 3) := by decide +kernel
theorem dL_law_745 : decode cL_law 745 = .ok (.iconst 0, 1) := by decide +kernel
theorem dL_law_746 : decode cL_law 746 = .ok (.ireturn, 1) := by decide +kernel
theorem dL_law_747 : decode cL_law 747 = .ok (.iload 5, 2) := by decide +kernel
theorem dL_law_749 : decode cL_law 749 = .ok (.ifCond .ne 15, 3) := by decide +kernel
theorem dL_law_752 : decode cL_law 752 = .ok (.aload_n 3, 1) := by decide +kernel
theorem dL_law_753 : decode cL_law 753 = .ok (.iconst 0, 1) := by decide +kernel
theorem dL_law_754 : decode cL_law 754 = .ok (.laload, 1) := by decide +kernel
theorem dL_law_755 : decode cL_law 755 = .ok (.iload 6, 2) := by decide +kernel
theorem dL_law_757 : decode cL_law 757 = .ok (.i2l, 1) := by decide +kernel
theorem dL_law_758 : decode cL_law 758 = .ok (.lcmp, 1) := by decide +kernel
theorem dL_law_759 : decode cL_law 759 = .ok (.ifCond .eq 5, 3) := by decide +kernel
theorem dL_law_762 : decode cL_law 762 = .ok (.iconst 0, 1) := by decide +kernel
theorem dL_law_763 : decode cL_law 763 = .ok (.ireturn, 1) := by decide +kernel
theorem dL_law_764 : decode cL_law 764 = .ok (.goto 456, 3) := by decide +kernel
theorem dL_law_767 : decode cL_law 767 = .ok (.aload_n 1, 1) := by decide +kernel
theorem dL_law_768 : decode cL_law 768 = .ok (.aload_n 0, 1) := by decide +kernel
theorem dL_law_769 : decode cL_law 769 = .ok (.iload 4, 2) := by decide +kernel
theorem dL_law_771 : decode cL_law 771 = .ok (.iconst 1, 1) := by decide +kernel
theorem dL_law_772 : decode cL_law 772 = .ok (.iadd, 1) := by decide +kernel
theorem dL_law_773 : decode cL_law 773 = .ok (.iaload, 1) := by decide +kernel
theorem dL_law_774 : decode cL_law 774 = .ok (.aload_n 0, 1) := by decide +kernel
theorem dL_law_775 : decode cL_law 775 = .ok (.iload 4, 2) := by decide +kernel
theorem dL_law_777 : decode cL_law 777 = .ok (.iconst 2, 1) := by decide +kernel
theorem dL_law_778 : decode cL_law 778 = .ok (.iadd, 1) := by decide +kernel
theorem dL_law_779 : decode cL_law 779 = .ok (.iaload, 1) := by decide +kernel
theorem dL_law_780 : decode cL_law 780 = .ok (.aload_n 3, 1) := by decide +kernel
theorem dL_law_781 : decode cL_law 781 = .ok (.invokestatic 117, 3) := by decide +kernel
theorem dL_law_784 : decode cL_law 784 = .ok (.istore 5, 2) := by decide +kernel
theorem dL_law_786 : decode cL_law 786 = .ok (.aload_n 2, 1) := by decide +kernel
theorem dL_law_787 : decode cL_law 787 = .ok (.aload_n 0, 1) := by decide +kernel
theorem dL_law_788 : decode cL_law 788 = .ok (.iload 4, 2) := by decide +kernel
theorem dL_law_790 : decode cL_law 790 = .ok (.iconst 1, 1) := by decide +kernel
theorem dL_law_791 : decode cL_law 791 = .ok (.iadd, 1) := by decide +kernel
theorem dL_law_792 : decode cL_law 792 = .ok (.iaload, 1) := by decide +kernel
theorem dL_law_793 : decode cL_law 793 = .ok (.aload_n 0, 1) := by decide +kernel
theorem dL_law_794 : decode cL_law 794 = .ok (.iload 4, 2) := by decide +kernel
theorem dL_law_796 : decode cL_law 796 = .ok (.iconst 2, 1) := by decide +kernel
theorem dL_law_797 : decode cL_law 797 = .ok (.iadd, 1) := by decide +kernel
theorem dL_law_798 : decode cL_law 798 = .ok (.iaload, 1) := by decide +kernel
theorem dL_law_799 : decode cL_law 799 = .ok (.invokevirtual 119, 3) := by decide +kernel
theorem dL_law_802 : decode cL_law 802 = .ok (.istore 6, 2) := by decide +kernel
theorem dL_law_804 : decode cL_law 804 = .ok (.aload_n 2, 1) := by decide +kernel
theorem dL_law_805 : decode cL_law 805 = .ok (.invokevirtual 83, 3) := by decide +kernel
theorem dL_law_808 : decode cL_law 808 = .ok (.iload 5, 2) := by decide +kernel
theorem dL_law_810 : decode cL_law 810 = .ok (.if_icmp .eq 5, 3) := by decide +kernel
theorem dL_law_813 : decode cL_law 813 = .ok (.iconst 0, 1) := by decide +kernel
theorem dL_law_814 : decode cL_law 814 = .ok (.ireturn, 1) := by decide +kernel
theorem dL_law_815 : decode cL_law 815 = .ok (.iload 5, 2) := by decide +kernel
theorem dL_law_817 : decode cL_law 817 = .ok (.ifCond .ne 15, 3) := by decide +kernel
theorem dL_law_820 : decode cL_law 820 = .ok (.aload_n 3, 1) := by decide +kernel
theorem dL_law_821 : decode cL_law 821 = .ok (.iconst 0, 1) := by decide +kernel
theorem dL_law_822 : decode cL_law 822 = .ok (.laload, 1) := by decide +kernel
theorem dL_law_823 : decode cL_law 823 = .ok (.iload 6, 2) := by decide +kernel
theorem dL_law_825 : decode cL_law 825 = .ok (.i2l, 1) := by decide +kernel
theorem dL_law_826 : decode cL_law 826 = .ok (.lcmp, 1) := by decide +kernel
theorem dL_law_827 : decode cL_law 827 = .ok (.ifCond .eq 5, 3) := by decide +kernel
theorem dL_law_830 : decode cL_law 830 = .ok (.iconst 0, 1) := by decide +kernel
theorem dL_law_831 : decode cL_law 831 = .ok (.ireturn, 1) := by decide +kernel
theorem dL_law_832 : decode cL_law 832 = .ok (.goto 388, 3) := by decide +kernel
theorem dL_law_835 : decode cL_law 835 = .ok (.aload_n 1, 1) := by decide +kernel
theorem dL_law_836 : decode cL_law 836 = .ok (.aload_n 0, 1) := by decide +kernel
theorem dL_law_837 : decode cL_law 837 = .ok (.iload 4, 2) := by decide +kernel
theorem dL_law_839 : decode cL_law 839 = .ok (.iconst 1, 1) := by decide +kernel
theorem dL_law_840 : decode cL_law 840 = .ok (.iadd, 1) := by decide +kernel
theorem dL_law_841 : decode cL_law 841 = .ok (.iaload, 1) := by decide +kernel
theorem dL_law_842 : decode cL_law 842 = .ok (.aload_n 0, 1) := by decide +kernel
theorem dL_law_843 : decode cL_law 843 = .ok (.iload 4, 2) := by decide +kernel
theorem dL_law_845 : decode cL_law 845 = .ok (.iconst 2, 1) := by decide +kernel
theorem dL_law_846 : decode cL_law 846 = .ok (.iadd, 1) := by decide +kernel
theorem dL_law_847 : decode cL_law 847 = .ok (.iaload, 1) := by decide +kernel
theorem dL_law_848 : decode cL_law 848 = .ok (.aload_n 0, 1) := by decide +kernel
theorem dL_law_849 : decode cL_law 849 = .ok (.iload 4, 2) := by decide +kernel
theorem dL_law_851 : decode cL_law 851 = .ok (.iconst 3, 1) := by decide +kernel
theorem dL_law_852 : decode cL_law 852 = .ok (.iadd, 1) := by decide +kernel
theorem dL_law_853 : decode cL_law 853 = .ok (.iaload, 1) := by decide +kernel
theorem dL_law_854 : decode cL_law 854 = .ok (.aload_n 3, 1) := by decide +kernel
theorem dL_law_855 : decode cL_law 855 = .ok (.invokestatic 120, 3) := by decide +kernel
theorem dL_law_858 : decode cL_law 858 = .ok (.istore 5, 2) := by decide +kernel
theorem dL_law_860 : decode cL_law 860 = .ok (.aload_n 2, 1) := by decide +kernel
theorem dL_law_861 : decode cL_law 861 = .ok (.aload_n 0, 1) := by decide +kernel
theorem dL_law_862 : decode cL_law 862 = .ok (.iload 4, 2) := by decide +kernel
theorem dL_law_864 : decode cL_law 864 = .ok (.iconst 1, 1) := by decide +kernel
theorem dL_law_865 : decode cL_law 865 = .ok (.iadd, 1) := by decide +kernel
theorem dL_law_866 : decode cL_law 866 = .ok (.iaload, 1) := by decide +kernel
theorem dL_law_867 : decode cL_law 867 = .ok (.aload_n 0, 1) := by decide +kernel
theorem dL_law_868 : decode cL_law 868 = .ok (.iload 4, 2) := by decide +kernel
theorem dL_law_870 : decode cL_law 870 = .ok (.iconst 2, 1) := by decide +kernel
theorem dL_law_871 : decode cL_law 871 = .ok (.iadd, 1) := by decide +kernel
theorem dL_law_872 : decode cL_law 872 = .ok (.iaload, 1) := by decide +kernel
theorem dL_law_873 : decode cL_law 873 = .ok (.aload_n 0, 1) := by decide +kernel
theorem dL_law_874 : decode cL_law 874 = .ok (.iload 4, 2) := by decide +kernel
theorem dL_law_876 : decode cL_law 876 = .ok (.iconst 3, 1) := by decide +kernel
theorem dL_law_877 : decode cL_law 877 = .ok (.iadd, 1) := by decide +kernel
theorem dL_law_878 : decode cL_law 878 = .ok (.iaload, 1) := by decide +kernel
theorem dL_law_879 : decode cL_law 879 = .ok (.invokevirtual 122, 3) := by decide +kernel
theorem dL_law_882 : decode cL_law 882 = .ok (.istore 6, 2) := by decide +kernel
theorem dL_law_884 : decode cL_law 884 = .ok (.aload_n 2, 1) := by decide +kernel
theorem dL_law_885 : decode cL_law 885 = .ok (.invokevirtual 83, 3) := by decide +kernel
theorem dL_law_888 : decode cL_law 888 = .ok (.iload 5, 2) := by decide +kernel
theorem dL_law_890 : decode cL_law 890 = .ok (.if_icmp .eq 5, 3) := by decide +kernel
theorem dL_law_893 : decode cL_law 893 = .ok (.iconst 0, 1) := by decide +kernel
theorem dL_law_894 : decode cL_law 894 = .ok (.ireturn, 1) := by decide +kernel
theorem dL_law_895 : decode cL_law 895 = .ok (.iload 5, 2) := by decide +kernel
theorem dL_law_897 : decode cL_law 897 = .ok (.ifCond .ne 15, 3) := by decide +kernel
theorem dL_law_900 : decode cL_law 900 = .ok (.aload_n 3, 1) := by decide +kernel
theorem dL_law_901 : decode cL_law 901 = .ok (.iconst 0, 1) := by decide +kernel
theorem dL_law_902 : decode cL_law 902 = .ok (.laload, 1) := by decide +kernel
theorem dL_law_903 : decode cL_law 903 = .ok (.iload 6, 2) := by decide +kernel
theorem dL_law_905 : decode cL_law 905 = .ok (.i2l, 1) := by decide +kernel
theorem dL_law_906 : decode cL_law 906 = .ok (.lcmp, 1) := by decide +kernel
theorem dL_law_907 : decode cL_law 907 = .ok (.ifCond .eq 5, 3) := by decide +kernel
theorem dL_law_910 : decode cL_law 910 = .ok (.iconst 0, 1) := by decide +kernel
theorem dL_law_911 : decode cL_law 911 = .ok (.ireturn, 1) := by decide +kernel
theorem dL_law_912 : decode cL_law 912 = .ok (.goto 308, 3) := by decide +kernel
theorem dL_law_915 : decode cL_law 915 = .ok (.aload_n 1, 1) := by decide +kernel
theorem dL_law_916 : decode cL_law 916 = .ok (.aload_n 0, 1) := by decide +kernel
theorem dL_law_917 : decode cL_law 917 = .ok (.iload 4, 2) := by decide +kernel
theorem dL_law_919 : decode cL_law 919 = .ok (.iconst 1, 1) := by decide +kernel
theorem dL_law_920 : decode cL_law 920 = .ok (.iadd, 1) := by decide +kernel
theorem dL_law_921 : decode cL_law 921 = .ok (.iaload, 1) := by decide +kernel
theorem dL_law_922 : decode cL_law 922 = .ok (.aload_n 3, 1) := by decide +kernel
theorem dL_law_923 : decode cL_law 923 = .ok (.invokestatic 123, 3) := by decide +kernel
theorem dL_law_926 : decode cL_law 926 = .ok (.istore 5, 2) := by decide +kernel
theorem dL_law_928 : decode cL_law 928 = .ok (.aload_n 2, 1) := by decide +kernel
theorem dL_law_929 : decode cL_law 929 = .ok (.aload_n 0, 1) := by decide +kernel
theorem dL_law_930 : decode cL_law 930 = .ok (.iload 4, 2) := by decide +kernel
theorem dL_law_932 : decode cL_law 932 = .ok (.iconst 1, 1) := by decide +kernel
theorem dL_law_933 : decode cL_law 933 = .ok (.iadd, 1) := by decide +kernel
theorem dL_law_934 : decode cL_law 934 = .ok (.iaload, 1) := by decide +kernel
theorem dL_law_935 : decode cL_law 935 = .ok (.invokevirtual 125, 3) := by decide +kernel
theorem dL_law_938 : decode cL_law 938 = .ok (.istore 6, 2) := by decide +kernel
theorem dL_law_940 : decode cL_law 940 = .ok (.aload_n 2, 1) := by decide +kernel
theorem dL_law_941 : decode cL_law 941 = .ok (.invokevirtual 83, 3) := by decide +kernel
theorem dL_law_944 : decode cL_law 944 = .ok (.iload 5, 2) := by decide +kernel
theorem dL_law_946 : decode cL_law 946 = .ok (.if_icmp .eq 5, 3) := by decide +kernel
theorem dL_law_949 : decode cL_law 949 = .ok (.iconst 0, 1) := by decide +kernel
theorem dL_law_950 : decode cL_law 950 = .ok (.ireturn, 1) := by decide +kernel
theorem dL_law_951 : decode cL_law 951 = .ok (.iload 5, 2) := by decide +kernel
theorem dL_law_953 : decode cL_law 953 = .ok (.ifCond .ne 15, 3) := by decide +kernel
theorem dL_law_956 : decode cL_law 956 = .ok (.aload_n 3, 1) := by decide +kernel
theorem dL_law_957 : decode cL_law 957 = .ok (.iconst 0, 1) := by decide +kernel
theorem dL_law_958 : decode cL_law 958 = .ok (.laload, 1) := by decide +kernel
theorem dL_law_959 : decode cL_law 959 = .ok (.iload 6, 2) := by decide +kernel
theorem dL_law_961 : decode cL_law 961 = .ok (.i2l, 1) := by decide +kernel
theorem dL_law_962 : decode cL_law 962 = .ok (.lcmp, 1) := by decide +kernel
theorem dL_law_963 : decode cL_law 963 = .ok (.ifCond .eq 5, 3) := by decide +kernel
theorem dL_law_966 : decode cL_law 966 = .ok (.iconst 0, 1) := by decide +kernel
theorem dL_law_967 : decode cL_law 967 = .ok (.ireturn, 1) := by decide +kernel
theorem dL_law_968 : decode cL_law 968 = .ok (.goto 252, 3) := by decide +kernel
theorem dL_law_971 : decode cL_law 971 = .ok (.aload_n 1, 1) := by decide +kernel
theorem dL_law_972 : decode cL_law 972 = .ok (.aload_n 0, 1) := by decide +kernel
theorem dL_law_973 : decode cL_law 973 = .ok (.iload 4, 2) := by decide +kernel
theorem dL_law_975 : decode cL_law 975 = .ok (.iconst 1, 1) := by decide +kernel
theorem dL_law_976 : decode cL_law 976 = .ok (.iadd, 1) := by decide +kernel
theorem dL_law_977 : decode cL_law 977 = .ok (.iaload, 1) := by decide +kernel
theorem dL_law_978 : decode cL_law 978 = .ok (.aload_n 3, 1) := by decide +kernel
theorem dL_law_979 : decode cL_law 979 = .ok (.invokestatic 126, 3) := by decide +kernel
theorem dL_law_982 : decode cL_law 982 = .ok (.istore 5, 2) := by decide +kernel
theorem dL_law_984 : decode cL_law 984 = .ok (.aload_n 2, 1) := by decide +kernel
theorem dL_law_985 : decode cL_law 985 = .ok (.aload_n 0, 1) := by decide +kernel
theorem dL_law_986 : decode cL_law 986 = .ok (.iload 4, 2) := by decide +kernel
theorem dL_law_988 : decode cL_law 988 = .ok (.iconst 1, 1) := by decide +kernel
theorem dL_law_989 : decode cL_law 989 = .ok (.iadd, 1) := by decide +kernel
theorem dL_law_990 : decode cL_law 990 = .ok (.iaload, 1) := by decide +kernel
theorem dL_law_991 : decode cL_law 991 = .ok (.invokevirtual 128, 3) := by decide +kernel
theorem dL_law_994 : decode cL_law 994 = .ok (.istore 6, 2) := by decide +kernel
theorem dL_law_996 : decode cL_law 996 = .ok (.aload_n 2, 1) := by decide +kernel
theorem dL_law_997 : decode cL_law 997 = .ok (.invokevirtual 83, 3) := by decide +kernel
theorem dL_law_1000 : decode cL_law 1000 = .ok (.iload 5, 2) := by decide +kernel
theorem dL_law_1002 : decode cL_law 1002 = .ok (.if_icmp .eq 5, 3) := by decide +kernel
theorem dL_law_1005 : decode cL_law 1005 = .ok (.iconst 0, 1) := by decide +kernel
theorem dL_law_1006 : decode cL_law 1006 = .ok (.ireturn, 1) := by decide +kernel
theorem dL_law_1007 : decode cL_law 1007 = .ok (.iload 5, 2) := by decide +kernel
theorem dL_law_1009 : decode cL_law 1009 = .ok (.ifCond .ne 15, 3) := by decide +kernel
theorem dL_law_1012 : decode cL_law 1012 = .ok (.aload_n 3, 1) := by decide +kernel
theorem dL_law_1013 : decode cL_law 1013 = .ok (.iconst 0, 1) := by decide +kernel
theorem dL_law_1014 : decode cL_law 1014 = .ok (.laload, 1) := by decide +kernel
theorem dL_law_1015 : decode cL_law 1015 = .ok (.iload 6, 2) := by decide +kernel
theorem dL_law_1017 : decode cL_law 1017 = .ok (.i2l, 1) := by decide +kernel
theorem dL_law_1018 : decode cL_law 1018 = .ok (.lcmp, 1) := by decide +kernel
theorem dL_law_1019 : decode cL_law 1019 = .ok (.ifCond .eq 5, 3) := by decide +kernel
theorem dL_law_1022 : decode cL_law 1022 = .ok (.iconst 0, 1) := by decide +kernel
theorem dL_law_1023 : decode cL_law 1023 = .ok (.ireturn, 1) := by decide +kernel
theorem dL_law_1024 : decode cL_law 1024 = .ok (.goto 196, 3) := by decide +kernel
theorem dL_law_1027 : decode cL_law 1027 = .ok (.aload_n 1, 1) := by decide +kernel
theorem dL_law_1028 : decode cL_law 1028 = .ok (.aload_n 0, 1) := by decide +kernel
theorem dL_law_1029 : decode cL_law 1029 = .ok (.iload 4, 2) := by decide +kernel
theorem dL_law_1031 : decode cL_law 1031 = .ok (.iconst 1, 1) := by decide +kernel
theorem dL_law_1032 : decode cL_law 1032 = .ok (.iadd, 1) := by decide +kernel
theorem dL_law_1033 : decode cL_law 1033 = .ok (.iaload, 1) := by decide +kernel
theorem dL_law_1034 : decode cL_law 1034 = .ok (.aload_n 3, 1) := by decide +kernel
theorem dL_law_1035 : decode cL_law 1035 = .ok (.invokestatic 129, 3) := by decide +kernel
theorem dL_law_1038 : decode cL_law 1038 = .ok (.istore 5, 2) := by decide +kernel
theorem dL_law_1040 : decode cL_law 1040 = .ok (.aload_n 2, 1) := by decide +kernel
theorem dL_law_1041 : decode cL_law 1041 = .ok (.aload_n 0, 1) := by decide +kernel
theorem dL_law_1042 : decode cL_law 1042 = .ok (.iload 4, 2) := by decide +kernel
theorem dL_law_1044 : decode cL_law 1044 = .ok (.iconst 1, 1) := by decide +kernel
theorem dL_law_1045 : decode cL_law 1045 = .ok (.iadd, 1) := by decide +kernel
theorem dL_law_1046 : decode cL_law 1046 = .ok (.iaload, 1) := by decide +kernel
theorem dL_law_1047 : decode cL_law 1047 = .ok (.invokevirtual 131, 3) := by decide +kernel
theorem dL_law_1050 : decode cL_law 1050 = .ok (.istore 6, 2) := by decide +kernel
theorem dL_law_1052 : decode cL_law 1052 = .ok (.aload_n 2, 1) := by decide +kernel
theorem dL_law_1053 : decode cL_law 1053 = .ok (.invokevirtual 83, 3) := by decide +kernel
theorem dL_law_1056 : decode cL_law 1056 = .ok (.iload 5, 2) := by decide +kernel
theorem dL_law_1058 : decode cL_law 1058 = .ok (.if_icmp .eq 5, 3) := by decide +kernel
theorem dL_law_1061 : decode cL_law 1061 = .ok (.iconst 0, 1) := by decide +kernel
theorem dL_law_1062 : decode cL_law 1062 = .ok (.ireturn, 1) := by decide +kernel
theorem dL_law_1063 : decode cL_law 1063 = .ok (.iload 5, 2) := by decide +kernel
theorem dL_law_1065 : decode cL_law 1065 = .ok (.ifCond .ne 15, 3) := by decide +kernel
theorem dL_law_1068 : decode cL_law 1068 = .ok (.aload_n 3, 1) := by decide +kernel
theorem dL_law_1069 : decode cL_law 1069 = .ok (.iconst 0, 1) := by decide +kernel
theorem dL_law_1070 : decode cL_law 1070 = .ok (.laload, 1) := by decide +kernel
theorem dL_law_1071 : decode cL_law 1071 = .ok (.iload 6, 2) := by decide +kernel
theorem dL_law_1073 : decode cL_law 1073 = .ok (.i2l, 1) := by decide +kernel
theorem dL_law_1074 : decode cL_law 1074 = .ok (.lcmp, 1) := by decide +kernel
theorem dL_law_1075 : decode cL_law 1075 = .ok (.ifCond .eq 5, 3) := by decide +kernel
theorem dL_law_1078 : decode cL_law 1078 = .ok (.iconst 0, 1) := by decide +kernel
theorem dL_law_1079 : decode cL_law 1079 = .ok (.ireturn, 1) := by decide +kernel
theorem dL_law_1080 : decode cL_law 1080 = .ok (.goto 140, 3) := by decide +kernel
theorem dL_law_1083 : decode cL_law 1083 = .ok (.aload_n 1, 1) := by decide +kernel
theorem dL_law_1084 : decode cL_law 1084 = .ok (.aload_n 0, 1) := by decide +kernel
theorem dL_law_1085 : decode cL_law 1085 = .ok (.iload 4, 2) := by decide +kernel
theorem dL_law_1087 : decode cL_law 1087 = .ok (.iconst 1, 1) := by decide +kernel
theorem dL_law_1088 : decode cL_law 1088 = .ok (.iadd, 1) := by decide +kernel
theorem dL_law_1089 : decode cL_law 1089 = .ok (.iaload, 1) := by decide +kernel
theorem dL_law_1090 : decode cL_law 1090 = .ok (.aload_n 3, 1) := by decide +kernel
theorem dL_law_1091 : decode cL_law 1091 = .ok (.invokestatic 132, 3) := by decide +kernel
theorem dL_law_1094 : decode cL_law 1094 = .ok (.istore 5, 2) := by decide +kernel
theorem dL_law_1096 : decode cL_law 1096 = .ok (.aload_n 2, 1) := by decide +kernel
theorem dL_law_1097 : decode cL_law 1097 = .ok (.aload_n 0, 1) := by decide +kernel
theorem dL_law_1098 : decode cL_law 1098 = .ok (.iload 4, 2) := by decide +kernel
theorem dL_law_1100 : decode cL_law 1100 = .ok (.iconst 1, 1) := by decide +kernel
theorem dL_law_1101 : decode cL_law 1101 = .ok (.iadd, 1) := by decide +kernel
theorem dL_law_1102 : decode cL_law 1102 = .ok (.iaload, 1) := by decide +kernel
theorem dL_law_1103 : decode cL_law 1103 = .ok (.invokevirtual 134, 3) := by decide +kernel
theorem dL_law_1106 : decode cL_law 1106 = .ok (.istore 6, 2) := by decide +kernel
theorem dL_law_1108 : decode cL_law 1108 = .ok (.aload_n 2, 1) := by decide +kernel
theorem dL_law_1109 : decode cL_law 1109 = .ok (.invokevirtual 83, 3) := by decide +kernel
theorem dL_law_1112 : decode cL_law 1112 = .ok (.iload 5, 2) := by decide +kernel
theorem dL_law_1114 : decode cL_law 1114 = .ok (.if_icmp .eq 5, 3) := by decide +kernel
theorem dL_law_1117 : decode cL_law 1117 = .ok (.iconst 0, 1) := by decide +kernel
theorem dL_law_1118 : decode cL_law 1118 = .ok (.ireturn, 1) := by decide +kernel
theorem dL_law_1119 : decode cL_law 1119 = .ok (.iload 5, 2) := by decide +kernel
theorem dL_law_1121 : decode cL_law 1121 = .ok (.ifCond .ne 15, 3) := by decide +kernel
theorem dL_law_1124 : decode cL_law 1124 = .ok (.aload_n 3, 1) := by decide +kernel
theorem dL_law_1125 : decode cL_law 1125 = .ok (.iconst 0, 1) := by decide +kernel
theorem dL_law_1126 : decode cL_law 1126 = .ok (.laload, 1) := by decide +kernel
theorem dL_law_1127 : decode cL_law 1127 = .ok (.iload 6, 2) := by decide +kernel
theorem dL_law_1129 : decode cL_law 1129 = .ok (.i2l, 1) := by decide +kernel
theorem dL_law_1130 : decode cL_law 1130 = .ok (.lcmp, 1) := by decide +kernel
theorem dL_law_1131 : decode cL_law 1131 = .ok (.ifCond .eq 5, 3) := by decide +kernel
theorem dL_law_1134 : decode cL_law 1134 = .ok (.iconst 0, 1) := by decide +kernel
theorem dL_law_1135 : decode cL_law 1135 = .ok (.ireturn, 1) := by decide +kernel
theorem dL_law_1136 : decode cL_law 1136 = .ok (.goto 84, 3) := by decide +kernel
theorem dL_law_1139 : decode cL_law 1139 = .ok (.aload_n 1, 1) := by decide +kernel
theorem dL_law_1140 : decode cL_law 1140 = .ok (.aload_n 0, 1) := by decide +kernel
theorem dL_law_1141 : decode cL_law 1141 = .ok (.iload 4, 2) := by decide +kernel
theorem dL_law_1143 : decode cL_law 1143 = .ok (.iconst 1, 1) := by decide +kernel
theorem dL_law_1144 : decode cL_law 1144 = .ok (.iadd, 1) := by decide +kernel
theorem dL_law_1145 : decode cL_law 1145 = .ok (.iaload, 1) := by decide +kernel
theorem dL_law_1146 : decode cL_law 1146 = .ok (.aload_n 3, 1) := by decide +kernel
theorem dL_law_1147 : decode cL_law 1147 = .ok (.invokestatic 135, 3) := by decide +kernel
theorem dL_law_1150 : decode cL_law 1150 = .ok (.istore 5, 2) := by decide +kernel
theorem dL_law_1152 : decode cL_law 1152 = .ok (.aload_n 2, 1) := by decide +kernel
theorem dL_law_1153 : decode cL_law 1153 = .ok (.aload_n 0, 1) := by decide +kernel
theorem dL_law_1154 : decode cL_law 1154 = .ok (.iload 4, 2) := by decide +kernel
theorem dL_law_1156 : decode cL_law 1156 = .ok (.iconst 1, 1) := by decide +kernel
theorem dL_law_1157 : decode cL_law 1157 = .ok (.iadd, 1) := by decide +kernel
theorem dL_law_1158 : decode cL_law 1158 = .ok (.iaload, 1) := by decide +kernel
theorem dL_law_1159 : decode cL_law 1159 = .ok (.invokevirtual 137, 3) := by decide +kernel
theorem dL_law_1162 : decode cL_law 1162 = .ok (.istore 6, 2) := by decide +kernel
theorem dL_law_1164 : decode cL_law 1164 = .ok (.aload_n 2, 1) := by decide +kernel
theorem dL_law_1165 : decode cL_law 1165 = .ok (.invokevirtual 83, 3) := by decide +kernel
theorem dL_law_1168 : decode cL_law 1168 = .ok (.iload 5, 2) := by decide +kernel
theorem dL_law_1170 : decode cL_law 1170 = .ok (.if_icmp .eq 5, 3) := by decide +kernel
theorem dL_law_1173 : decode cL_law 1173 = .ok (.iconst 0, 1) := by decide +kernel
theorem dL_law_1174 : decode cL_law 1174 = .ok (.ireturn, 1) := by decide +kernel
theorem dL_law_1175 : decode cL_law 1175 = .ok (.iload 5, 2) := by decide +kernel
theorem dL_law_1177 : decode cL_law 1177 = .ok (.ifCond .ne 15, 3) := by decide +kernel
theorem dL_law_1180 : decode cL_law 1180 = .ok (.aload_n 3, 1) := by decide +kernel
theorem dL_law_1181 : decode cL_law 1181 = .ok (.iconst 0, 1) := by decide +kernel
theorem dL_law_1182 : decode cL_law 1182 = .ok (.laload, 1) := by decide +kernel
theorem dL_law_1183 : decode cL_law 1183 = .ok (.iload 6, 2) := by decide +kernel
theorem dL_law_1185 : decode cL_law 1185 = .ok (.i2l, 1) := by decide +kernel
theorem dL_law_1186 : decode cL_law 1186 = .ok (.lcmp, 1) := by decide +kernel
theorem dL_law_1187 : decode cL_law 1187 = .ok (.ifCond .eq 5, 3) := by decide +kernel
theorem dL_law_1190 : decode cL_law 1190 = .ok (.iconst 0, 1) := by decide +kernel
theorem dL_law_1191 : decode cL_law 1191 = .ok (.ireturn, 1) := by decide +kernel
theorem dL_law_1192 : decode cL_law 1192 = .ok (.goto 28, 3) := by decide +kernel
theorem dL_law_1195 : decode cL_law 1195 = .ok (.aload_n 1, 1) := by decide +kernel
theorem dL_law_1196 : decode cL_law 1196 = .ok (.aload_n 0, 1) := by decide +kernel
theorem dL_law_1197 : decode cL_law 1197 = .ok (.iload 4, 2) := by decide +kernel
theorem dL_law_1199 : decode cL_law 1199 = .ok (.iconst 1, 1) := by decide +kernel
theorem dL_law_1200 : decode cL_law 1200 = .ok (.iadd, 1) := by decide +kernel
theorem dL_law_1201 : decode cL_law 1201 = .ok (.iaload, 1) := by decide +kernel
theorem dL_law_1202 : decode cL_law 1202 = .ok (.invokevirtual 138, 3) := by decide +kernel
theorem dL_law_1205 : decode cL_law 1205 = .ok (.aload_n 2, 1) := by decide +kernel
theorem dL_law_1206 : decode cL_law 1206 = .ok (.aload_n 0, 1) := by decide +kernel
theorem dL_law_1207 : decode cL_law 1207 = .ok (.iload 4, 2) := by decide +kernel
theorem dL_law_1209 : decode cL_law 1209 = .ok (.iconst 1, 1) := by decide +kernel
theorem dL_law_1210 : decode cL_law 1210 = .ok (.iadd, 1) := by decide +kernel
theorem dL_law_1211 : decode cL_law 1211 = .ok (.iaload, 1) := by decide +kernel
theorem dL_law_1212 : decode cL_law 1212 = .ok (.invokevirtual 141, 3) := by decide +kernel
theorem dL_law_1215 : decode cL_law 1215 = .ok (.if_icmp .eq 5, 3) := by decide +kernel
theorem dL_law_1218 : decode cL_law 1218 = .ok (.iconst 0, 1) := by decide +kernel
theorem dL_law_1219 : decode cL_law 1219 = .ok (.ireturn, 1) := by decide +kernel
theorem dL_law_1220 : decode cL_law 1220 = .ok (.iinc 4 4, 3) := by decide +kernel
theorem dL_law_1223 : decode cL_law 1223 = .ok (.goto (-1200), 3) := by decide +kernel
theorem dL_law_1226 : decode cL_law 1226 = .ok (.iconst 1, 1) := by decide +kernel
theorem dL_law_1227 : decode cL_law 1227 = .ok (.ireturn, 1) := by decide +kernel
abbrev z_l5 (b h0 o w j : Nat) : List (Nat × Value) := [(4, .int (nI (4 * j))), (3, va_rf (some w)), (2, va_rf (some o)), (1, va_rf (some h0)), (0, va_rf (some b))]
section ZP
variable {p : Program} {l : Launch} {e : Env} {R : Room} {s : State} {m : MethodId} {args : Array Value} {below : List Frame} {meth : Method} {c : Code} {Q : State → Prop} {cc : ByteArray} {nL : Nat} {k n : Nat} {pc : Nat} {lv : List (Nat × Value)} {st : List Value} {D : va_G} {cy : Nat → ClassId} {t0 mi o w h0 : Nat} {ad : Nat → Nat} {u : z_St} {v : Int64} {M : z_Md} {b L j N : Nat} {xs : Nat → Int32}
theorem zl_arg {A : Nat → Prop} {σ : Type} {hp : σ → Heap → Prop} {z : σ} (c0 pb pj : Nat) {ci : Int} (S : CallFix p m c cc nL s args z_T "MessageBankLaw") (hX : va_X b L xs s s.heap) (hbl : b < s.heap.size) (hc : Int32.ofInt ci = nI c0) (hi : 4 * j + c0 < L) (hL : L ≤ 256) (hlb : lv[pb]? = some (0, va_rf (some b))) (hlj : lv[pj]? = some (4, .int (nI (4 * j)))) (d0 : decode cc pc = .ok (.aload_n 0, 1)) (d1 : decode cc (pc + 1) = .ok (.iload 4, 2)) (d2 : decode cc (pc + 3) = .ok (.iconst ci, 1)) (d3 : decode cc (pc + 4) = .ok (.iadd, 1)) (d4 : decode cc (pc + 5) = .ok (.iaload, 1)) (kk : z_V (fun q => s.heap.size ≤ q) hp p l e R s m args below meth c nL Q k n z (pc + 6) lv (.int (xs (4 * j + c0)) :: st)) : z_V (fun q => s.heap.size ≤ q) hp p l e R s m args below meth c nL Q k n z pc lv st := by
  refine z_aload_n (x := some b) S pb d0 rfl hlb ?_
  refine z_iload S pj d1 hlj ?_
  refine z_iconst (v := nI c0) S d2 hc ?_
  refine z_iadd S d3 ?_
  rw [nI_add]
  refine zl_sld S hX hbl (vp_in_nI hi (by omega)) d4 ?_
  rw [nI_clamp (by omega : 4 * j + c0 < 2 ^ 31)]
  exact kk
theorem zl_modi {Wf : (Int32 → z_Md → Prop) → Prop} {f : Int32 → Int64} {kx : Int32} {y : MethodName} {bytes : ByteArray} {maxL na index : Nat} {ret : Option FieldType} {rm : Room} {As st0 : List Value} (S : CallFix p m c cc nL s args z_T "MessageBankLaw") (hE : z_EL D cy t0 mi s) (hp : zl_post t0 N h0 Wf f kx (u, v)) (hM : ∀ post, Wf post → z_Mi l y (Cond.code y bytes maxL ret :: z_T) rm (.ref o :: As) (z_EM D cy) (z_hM D cy (z_AM o ad) o ad) M post 0 0 (z_AM o ad)) (g : GoodIn z_T (wsV "MessageBankLaw" index RX7 y (Cond.code y bytes maxL ret :: z_T))) (hd : y.cls = RX7 ∧ y.cls ≠ "java/lang/invoke/MethodHandle" ∧ y.cls ≠ "java/lang/invoke/VarHandle" ∧ (parseMethodDescriptor y.desc).map (fun d => d.parameters.length) = some na) (hR : rm.frames + 1 ≤ R.frames ∧ 8 + (maxL + 11) + rm.locals ≤ R.locals) (hrc : rm.cells = 0) (hrs : rm.slots = 0) (hn : As.length = na) (hsm : z_sm st ≤ 8) (hdg : decode cc pc = .ok (.invokevirtual index, 3)) (hf : k ≤ R.cells ∧ n ≤ R.slots) (hst : st0 = As.reverse ++ .ref o :: st)
    (kk : ∀ r M', M' 0 0 = kx → (kx = 0 → v = f r) → q_WW t0 N h0 M' u → z_V (fun q => s.heap.size ≤ q) (z_hL D cy t0 s.heap.size o w ad) p l e R s m args below meth c nL Q k n (u, v, M') (pc + 3) lv (.int r :: st)) : z_V (fun q => s.heap.size ≤ q) (z_hL D cy t0 s.heap.size o w ad) p l e R s m args below meth c nL Q k n (u, v, M) pc lv st0 := by
  rcases hp with ⟨hk, r, hv, hq⟩ | ⟨hk, hq⟩
  · exact zl_callMi S hE (hM _ hq) rfl g hd hR hrc hrs hn hsm hdg hf hst (fun r' M' h => kk r' M' (by rw [h.1, hk]) (fun _ => by rw [h.2.1]; exact hv) h.2.2)
  · exact zl_callMi S hE (hM _ hq) rfl g hd hR hrc hrs hn hsm hdg hf hst (fun r' M' h => kk r' M' h.1 (fun z => absurd z hk) h.2)
/-- the reference's 'thrown' -/
theorem zl_thrown {kx : Int32} (S : CallFix p m c cc nL s args z_T "MessageBankLaw") (hE : z_EL D cy t0 mi s) (hk : M 0 0 = kx) (hRm : 12 ≤ R.frames ∧ 456 ≤ R.locals) (hf : k ≤ R.cells ∧ n ≤ R.slots) (hdg : decode cc pc = .ok (.invokevirtual 83, 3)) (kk : z_V (fun q => s.heap.size ≤ q) (z_hL D cy t0 s.heap.size o w ad) p l e R s m args below meth c nL Q k n (u, v, M) (pc + 3) lv [.int kx]) : z_V (fun q => s.heap.size ≤ q) (z_hL D cy t0 s.heap.size o w ad) p l e R s m args below meth c nL Q k n (u, v, M) pc lv [va_rf (some o)] := by
  refine zl_callMi (As := []) (st := []) S hE (me_X7_thrown l D cy (z_AM o ad) o ad (fun r M' => r = kx ∧ M' = M) M ⟨hk, rfl⟩) rfl gm_83 hdm_thrown ⟨Nat.le_trans (Nat.le_of_ble_eq_true rfl) hRm.1, Nat.le_trans (Nat.le_of_ble_eq_true rfl) hRm.2⟩ rfl rfl rfl (Nat.le_trans z_s0 (by decide)) hdg hf rfl (fun r2 M2 h2 => ?_)
  obtain ⟨h3, h4⟩ := h2
  rw [h3, h4]
  exact kk
theorem zl_tail {kx r : Int32} {off : Int} (S : CallFix p m c cc nL s args z_T "MessageBankLaw") (hE : z_EL D cy t0 mi s) (hk : M 0 0 = kx) (hv : kx = 0 → v = r.toInt64) (hRm : 12 ≤ R.frames ∧ 456 ≤ R.locals) (hf : k ≤ R.cells ∧ n ≤ R.slots) (d0 : decode cc pc = .ok (.aload_n 2, 1)) (d1 : decode cc (pc + 1) = .ok (.invokevirtual 83, 3)) (d4 : decode cc (pc + 4) = .ok (.iload 5, 2)) (d6 : decode cc (pc + 6) = .ok (.if_icmp .eq 5, 3)) (d11 : decode cc (pc + 11) = .ok (.iload 5, 2)) (d13 : decode cc (pc + 13) = .ok (.ifCond .ne 15, 3)) (d16 : decode cc (pc + 16) = .ok (.aload_n 3, 1)) (d17 : decode cc (pc + 17) = .ok (.iconst 0, 1)) (d18 : decode cc (pc + 18) = .ok (.laload, 1)) (d19 : decode cc (pc + 19) = .ok (.iload 6, 2)) (d21 : decode cc (pc + 21) = .ok (.i2l, 1)) (d22 : decode cc (pc + 22) = .ok (.lcmp, 1)) (d23 : decode cc (pc + 23) = .ok (.ifCond .eq 5, 3)) (d28 : decode cc (pc + 28) = .ok (.goto off, 3)) (ho : ((pc + 28 : Nat) : Int) + off = ((1220 : Nat) : Int)) (KK : z_V (fun q => s.heap.size ≤ q) (z_hL D cy t0 s.heap.size o w ad) p l e R s m args below meth c nL Q k n (u, v, M) 1220 (z_l5 b h0 o w j) []) : z_V (fun q => s.heap.size ≤ q) (z_hL D cy t0 s.heap.size o w ad) p l e R s m args below meth c nL Q k n (u, v, M) pc ((6, .int r) :: (5, .int kx) :: z_l5 b h0 o w j) [] := by
  have fin : z_V (fun q => s.heap.size ≤ q) (z_hL D cy t0 s.heap.size o w ad) p l e R s m args below meth c nL Q k n (u, v, M) (pc + 28) ((6, .int r) :: (5, .int kx) :: z_l5 b h0 o w j) [] := z_goto (tgt := 1220) S d28 ho (z_lv [2, 3, 4, 5, 6] rfl KK)
  refine z_aload_n (x := some o) S 4 d0 rfl rfl ?_
  refine zl_thrown S hE hk hRm hf d1 ?_
  refine z_iload S 1 d4 rfl ?_
  refine z_icmp_eq (tgt := pc + 11) S d6 (by omega) (fun _ => ?_) (fun z => absurd rfl z)
  refine z_iload S 1 d11 rfl ?_
  refine z_if_ne (tgt := pc + 28) S d13 (by omega) (fun z => fin) (fun z => ?_)
  refine z_aload_n (x := some w) S 3 d16 rfl rfl ?_
  refine z_iconst (v := 0) S d17 (by decide) ?_
  refine zl_lald S hE d18 ?_
  refine z_iload S 0 d19 rfl ?_
  refine z_i2l S d21 ?_
  rw [← hv z]
  refine zl_lcmp S d22 ?_
  exact z_if_eq (tgt := pc + 28) S d23 (by omega) (fun _ => fin) (fun z => absurd rfl z)
theorem zl_tailS {kx r : Int32} {off : Int} (S : CallFix p m c cc nL s args z_T "MessageBankLaw") (hE : z_EL D cy t0 mi s) (hk : M 0 0 = kx) (hv : kx = 0 → v = if r = 0 then 0 else 1) (hRm : 12 ≤ R.frames ∧ 456 ≤ R.locals) (hf : k ≤ R.cells ∧ n ≤ R.slots) (d0 : decode cc pc = .ok (.aload_n 2, 1)) (d1 : decode cc (pc + 1) = .ok (.invokevirtual 83, 3)) (d4 : decode cc (pc + 4) = .ok (.iload 5, 2)) (d6 : decode cc (pc + 6) = .ok (.if_icmp .eq 5, 3)) (d11 : decode cc (pc + 11) = .ok (.iload 5, 2)) (d13 : decode cc (pc + 13) = .ok (.ifCond .ne 22, 3)) (d16 : decode cc (pc + 16) = .ok (.aload_n 3, 1)) (d17 : decode cc (pc + 17) = .ok (.iconst 0, 1)) (d18 : decode cc (pc + 18) = .ok (.laload, 1)) (d19 : decode cc (pc + 19) = .ok (.iload 6, 2)) (d21 : decode cc (pc + 21) = .ok (.ifCond .eq 7, 3)) (d24 : decode cc (pc + 24) = .ok (.lconst 1, 1)) (d25 : decode cc (pc + 25) = .ok (.goto 4, 3)) (d28 : decode cc (pc + 28) = .ok (.lconst 0, 1)) (d29 : decode cc (pc + 29) = .ok (.lcmp, 1)) (d30 : decode cc (pc + 30) = .ok (.ifCond .eq 5, 3)) (d35 : decode cc (pc + 35) = .ok (.goto off, 3)) (ho : ((pc + 35 : Nat) : Int) + off = ((1220 : Nat) : Int)) (KK : z_V (fun q => s.heap.size ≤ q) (z_hL D cy t0 s.heap.size o w ad) p l e R s m args below meth c nL Q k n (u, v, M) 1220 (z_l5 b h0 o w j) []) : z_V (fun q => s.heap.size ≤ q) (z_hL D cy t0 s.heap.size o w ad) p l e R s m args below meth c nL Q k n (u, v, M) pc ((6, .int r) :: (5, .int kx) :: z_l5 b h0 o w j) [] := by
  have fin : z_V (fun q => s.heap.size ≤ q) (z_hL D cy t0 s.heap.size o w ad) p l e R s m args below meth c nL Q k n (u, v, M) (pc + 35) ((6, .int r) :: (5, .int kx) :: z_l5 b h0 o w j) [] := z_goto (tgt := 1220) S d35 ho (z_lv [2, 3, 4, 5, 6] rfl KK)
  refine z_aload_n (x := some o) S 4 d0 rfl rfl ?_
  refine zl_thrown S hE hk hRm hf d1 ?_
  refine z_iload S 1 d4 rfl ?_
  refine z_icmp_eq (tgt := pc + 11) S d6 (by omega) (fun _ => ?_) (fun z => absurd rfl z)
  refine z_iload S 1 d11 rfl ?_
  refine z_if_ne (tgt := pc + 35) S d13 (by omega) (fun z => fin) (fun z => ?_)
  refine z_aload_n (x := some w) S 3 d16 rfl rfl ?_
  refine z_iconst (v := 0) S d17 (by decide) ?_
  refine zl_lald S hE d18 ?_
  refine z_iload S 0 d19 rfl ?_
  have hv1 := hv z
  refine z_if_eq (tgt := pc + 28) S d21 (by omega) (fun z1 => ?_) (fun z1 => ?_)
  · rw [if_pos z1] at hv1
    refine z_lconst (v := 0) S d28 (by decide) ?_
    rw [← hv1]
    refine zl_lcmp S d29 ?_
    exact z_if_eq (tgt := pc + 35) S d30 (by omega) (fun _ => fin) (fun z => absurd rfl z)
  · rw [if_neg z1] at hv1
    refine z_lconst (v := 1) S d24 (by decide) ?_
    refine z_goto (tgt := pc + 29) S d25 (by omega) ?_
    rw [← hv1]
    refine zl_lcmp S d29 ?_
    exact z_if_eq (tgt := pc + 35) S d30 (by omega) (fun _ => fin) (fun z => absurd rfl z)
end ZP
