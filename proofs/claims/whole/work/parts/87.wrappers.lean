theorem wl_50 : Cond.initialized "MessageBank" ∈ z_T := z_Tin (i := 50) (by decide +kernel) (by decide +kernel)
theorem wl_285 : Cond.classLink "MessageBankLaw" 13 "java/lang/IllegalArgumentException" ∈ z_T := z_Tin (i := 285) (by decide +kernel) (by decide +kernel)
theorem wl_286 : Cond.classLink "MessageBankLaw" 15 "java/lang/IllegalStateException" ∈ z_T := z_Tin (i := 286) (by decide +kernel) (by decide +kernel)
theorem wl_287 : Cond.methodLink "MessageBankLaw" 7 yX6_box ∈ z_T := z_Tin (i := 287) (by decide +kernel) (by decide +kernel)
theorem wl_288 : Cond.instanceMethod yX6_box ∈ z_T := z_Tin (i := 288) (by decide +kernel) (by decide +kernel)
theorem wl_289 : Cond.selects "MessageBank" yX6_box yX6_box ∈ z_T := z_Tin (i := 289) (by decide +kernel) (by decide +kernel)
theorem wl_290 : Cond.code yX6_box cX6_box 2 (some .int) ∈ z_T := z_Tin (i := 290) (by decide +kernel) (by decide +kernel)
theorem wl_379 : Cond.classLink "MessageBankLaw" 21 "java/util/NoSuchElementException" ∈ z_T := z_Tin (i := 379) (by decide +kernel) (by decide +kernel)
theorem wl_380 : Cond.methodLink "MessageBankLaw" 17 yX6_call ∈ z_T := z_Tin (i := 380) (by decide +kernel) (by decide +kernel)
theorem wl_381 : Cond.instanceMethod yX6_call ∈ z_T := z_Tin (i := 381) (by decide +kernel) (by decide +kernel)
theorem wl_382 : Cond.selects "MessageBank" yX6_call yX6_call ∈ z_T := z_Tin (i := 382) (by decide +kernel) (by decide +kernel)
theorem wl_383 : Cond.code yX6_call cX6_call 4 none ∈ z_T := z_Tin (i := 383) (by decide +kernel) (by decide +kernel)
theorem wl_431 : Cond.methodLink "MessageBankLaw" 23 yX6_sample ∈ z_T := z_Tin (i := 431) (by decide +kernel) (by decide +kernel)
theorem wl_432 : Cond.instanceMethod yX6_sample ∈ z_T := z_Tin (i := 432) (by decide +kernel) (by decide +kernel)
theorem wl_433 : Cond.selects "MessageBank" yX6_sample yX6_sample ∈ z_T := z_Tin (i := 433) (by decide +kernel) (by decide +kernel)
theorem wl_434 : Cond.code yX6_sample cX6_sample 4 (some .boolean) ∈ z_T := z_Tin (i := 434) (by decide +kernel) (by decide +kernel)
theorem wl_545 : Cond.methodLink "MessageBankLaw" 27 yX6_hang ∈ z_T := z_Tin (i := 545) (by decide +kernel) (by decide +kernel)
theorem wl_546 : Cond.instanceMethod yX6_hang ∈ z_T := z_Tin (i := 546) (by decide +kernel) (by decide +kernel)
theorem wl_547 : Cond.selects "MessageBank" yX6_hang yX6_hang ∈ z_T := z_Tin (i := 547) (by decide +kernel) (by decide +kernel)
theorem wl_548 : Cond.code yX6_hang cX6_hang 4 (some .int) ∈ z_T := z_Tin (i := 548) (by decide +kernel) (by decide +kernel)
theorem wl_662 : Cond.classLink "MessageBankLaw" 34 "java/lang/IndexOutOfBoundsException" ∈ z_T := z_Tin (i := 662) (by decide +kernel) (by decide +kernel)
theorem wl_663 : Cond.methodLink "MessageBankLaw" 30 yX6_next ∈ z_T := z_Tin (i := 663) (by decide +kernel) (by decide +kernel)
theorem wl_664 : Cond.instanceMethod yX6_next ∈ z_T := z_Tin (i := 664) (by decide +kernel) (by decide +kernel)
theorem wl_665 : Cond.selects "MessageBank" yX6_next yX6_next ∈ z_T := z_Tin (i := 665) (by decide +kernel) (by decide +kernel)
theorem wl_666 : Cond.code yX6_next cX6_next 5 (some .int) ∈ z_T := z_Tin (i := 666) (by decide +kernel) (by decide +kernel)
theorem wl_695 : Cond.methodLink "MessageBankLaw" 36 yX6_mark ∈ z_T := z_Tin (i := 695) (by decide +kernel) (by decide +kernel)
theorem wl_696 : Cond.instanceMethod yX6_mark ∈ z_T := z_Tin (i := 696) (by decide +kernel) (by decide +kernel)
theorem wl_697 : Cond.selects "MessageBank" yX6_mark yX6_mark ∈ z_T := z_Tin (i := 697) (by decide +kernel) (by decide +kernel)
theorem wl_698 : Cond.code yX6_mark cX6_mark 5 (some .int) ∈ z_T := z_Tin (i := 698) (by decide +kernel) (by decide +kernel)
theorem wl_707 : Cond.methodLink "MessageBankLaw" 40 yX6_erase ∈ z_T := z_Tin (i := 707) (by decide +kernel) (by decide +kernel)
theorem wl_708 : Cond.instanceMethod yX6_erase ∈ z_T := z_Tin (i := 708) (by decide +kernel) (by decide +kernel)
theorem wl_709 : Cond.selects "MessageBank" yX6_erase yX6_erase ∈ z_T := z_Tin (i := 709) (by decide +kernel) (by decide +kernel)
theorem wl_710 : Cond.code yX6_erase cX6_erase 4 (some .int) ∈ z_T := z_Tin (i := 710) (by decide +kernel) (by decide +kernel)
theorem wl_723 : Cond.methodLink "MessageBankLaw" 43 yX6_forward ∈ z_T := z_Tin (i := 723) (by decide +kernel) (by decide +kernel)
theorem wl_724 : Cond.instanceMethod yX6_forward ∈ z_T := z_Tin (i := 724) (by decide +kernel) (by decide +kernel)
theorem wl_725 : Cond.selects "MessageBank" yX6_forward yX6_forward ∈ z_T := z_Tin (i := 725) (by decide +kernel) (by decide +kernel)
theorem wl_726 : Cond.code yX6_forward cX6_forward 6 (some .int) ∈ z_T := z_Tin (i := 726) (by decide +kernel) (by decide +kernel)
theorem wl_731 : Cond.methodLink "MessageBankLaw" 46 yX6_duration ∈ z_T := z_Tin (i := 731) (by decide +kernel) (by decide +kernel)
theorem wl_732 : Cond.instanceMethod yX6_duration ∈ z_T := z_Tin (i := 732) (by decide +kernel) (by decide +kernel)
theorem wl_733 : Cond.selects "MessageBank" yX6_duration yX6_duration ∈ z_T := z_Tin (i := 733) (by decide +kernel) (by decide +kernel)
theorem wl_734 : Cond.code yX6_duration cX6_duration 3 (some .int) ∈ z_T := z_Tin (i := 734) (by decide +kernel) (by decide +kernel)
theorem wl_741 : Cond.methodLink "MessageBankLaw" 49 yX6_play ∈ z_T := z_Tin (i := 741) (by decide +kernel) (by decide +kernel)
theorem wl_742 : Cond.instanceMethod yX6_play ∈ z_T := z_Tin (i := 742) (by decide +kernel) (by decide +kernel)
theorem wl_743 : Cond.selects "MessageBank" yX6_play yX6_play ∈ z_T := z_Tin (i := 743) (by decide +kernel) (by decide +kernel)
theorem wl_744 : Cond.code yX6_play cX6_play 5 (some .int) ∈ z_T := z_Tin (i := 744) (by decide +kernel) (by decide +kernel)
theorem wl_764 : Cond.methodLink "MessageBankLaw" 52 yX6_length ∈ z_T := z_Tin (i := 764) (by decide +kernel) (by decide +kernel)
theorem wl_765 : Cond.instanceMethod yX6_length ∈ z_T := z_Tin (i := 765) (by decide +kernel) (by decide +kernel)
theorem wl_766 : Cond.selects "MessageBank" yX6_length yX6_length ∈ z_T := z_Tin (i := 766) (by decide +kernel) (by decide +kernel)
theorem wl_767 : Cond.code yX6_length cX6_length 3 (some .int) ∈ z_T := z_Tin (i := 767) (by decide +kernel) (by decide +kernel)
theorem wl_776 : Cond.methodLink "MessageBankLaw" 55 yX6_greeting ∈ z_T := z_Tin (i := 776) (by decide +kernel) (by decide +kernel)
theorem wl_777 : Cond.instanceMethod yX6_greeting ∈ z_T := z_Tin (i := 777) (by decide +kernel) (by decide +kernel)
theorem wl_778 : Cond.selects "MessageBank" yX6_greeting yX6_greeting ∈ z_T := z_Tin (i := 778) (by decide +kernel) (by decide +kernel)
theorem wl_779 : Cond.code yX6_greeting cX6_greeting 5 (some .int) ∈ z_T := z_Tin (i := 779) (by decide +kernel) (by decide +kernel)
theorem wl_784 : Cond.methodLink "MessageBankLaw" 58 yX6_used ∈ z_T := z_Tin (i := 784) (by decide +kernel) (by decide +kernel)
theorem wl_785 : Cond.instanceMethod yX6_used ∈ z_T := z_Tin (i := 785) (by decide +kernel) (by decide +kernel)
theorem wl_786 : Cond.selects "MessageBank" yX6_used yX6_used ∈ z_T := z_Tin (i := 786) (by decide +kernel) (by decide +kernel)
theorem wl_787 : Cond.code yX6_used cX6_used 2 (some .int) ∈ z_T := z_Tin (i := 787) (by decide +kernel) (by decide +kernel)
theorem wl_791 : Cond.methodLink "MessageBankLaw" 61 yX6_quota ∈ z_T := z_Tin (i := 791) (by decide +kernel) (by decide +kernel)
theorem wl_792 : Cond.instanceMethod yX6_quota ∈ z_T := z_Tin (i := 792) (by decide +kernel) (by decide +kernel)
theorem wl_793 : Cond.selects "MessageBank" yX6_quota yX6_quota ∈ z_T := z_Tin (i := 793) (by decide +kernel) (by decide +kernel)
theorem wl_794 : Cond.code yX6_quota cX6_quota 2 (some .int) ∈ z_T := z_Tin (i := 794) (by decide +kernel) (by decide +kernel)
theorem wl_798 : Cond.methodLink "MessageBankLaw" 64 yX6_pack ∈ z_T := z_Tin (i := 798) (by decide +kernel) (by decide +kernel)
theorem wl_799 : Cond.instanceMethod yX6_pack ∈ z_T := z_Tin (i := 799) (by decide +kernel) (by decide +kernel)
theorem wl_800 : Cond.selects "MessageBank" yX6_pack yX6_pack ∈ z_T := z_Tin (i := 800) (by decide +kernel) (by decide +kernel)
theorem wl_801 : Cond.code yX6_pack cX6_pack 3 (some .int) ∈ z_T := z_Tin (i := 801) (by decide +kernel) (by decide +kernel)
theorem wl_812 : Cond.methodLink "MessageBankLaw" 67 yX6_block ∈ z_T := z_Tin (i := 812) (by decide +kernel) (by decide +kernel)
theorem wl_813 : Cond.instanceMethod yX6_block ∈ z_T := z_Tin (i := 813) (by decide +kernel) (by decide +kernel)
theorem wl_814 : Cond.selects "MessageBank" yX6_block yX6_block ∈ z_T := z_Tin (i := 814) (by decide +kernel) (by decide +kernel)
theorem wl_815 : Cond.code yX6_block cX6_block 2 (some .int) ∈ z_T := z_Tin (i := 815) (by decide +kernel) (by decide +kernel)
theorem wl_820 : Cond.methodLink "MessageBankLaw" 70 yX6_step ∈ z_T := z_Tin (i := 820) (by decide +kernel) (by decide +kernel)
theorem wl_821 : Cond.instanceMethod yX6_step ∈ z_T := z_Tin (i := 821) (by decide +kernel) (by decide +kernel)
theorem wl_822 : Cond.selects "MessageBank" yX6_step yX6_step ∈ z_T := z_Tin (i := 822) (by decide +kernel) (by decide +kernel)
theorem wl_823 : Cond.code yX6_step cX6_step 2 (some .int) ∈ z_T := z_Tin (i := 823) (by decide +kernel) (by decide +kernel)
theorem dL_box_0 : decode cL_box 0 = .ok (.aload_n 2, 1) := by decide +kernel
theorem dL_box_1 : decode cL_box 1 = .ok (.iconst 0, 1) := by decide +kernel
theorem dL_box_2 : decode cL_box 2 = .ok (.aload_n 0, 1) := by decide +kernel
theorem dL_box_3 : decode cL_box 3 = .ok (.iload_n 1, 1) := by decide +kernel
theorem dL_box_4 : decode cL_box 4 = .ok (.invokevirtual 7, 3) := by decide +kernel
theorem dL_box_7 : decode cL_box 7 = .ok (.i2l, 1) := by decide +kernel
theorem dL_box_8 : decode cL_box 8 = .ok (.lastore, 1) := by decide +kernel
theorem dL_box_9 : decode cL_box 9 = .ok (.goto 9, 3) := by decide +kernel
theorem dL_box_12 : decode cL_box 12 = .ok (.astore_n 3, 1) := by decide +kernel
theorem dL_box_13 : decode cL_box 13 = .ok (.iconst 1, 1) := by decide +kernel
theorem dL_box_14 : decode cL_box 14 = .ok (.ireturn, 1) := by decide +kernel
theorem dL_box_15 : decode cL_box 15 = .ok (.astore_n 3, 1) := by decide +kernel
theorem dL_box_16 : decode cL_box 16 = .ok (.iconst 2, 1) := by decide +kernel
theorem dL_box_17 : decode cL_box 17 = .ok (.ireturn, 1) := by decide +kernel
theorem dL_box_18 : decode cL_box 18 = .ok (.iconst 0, 1) := by decide +kernel
theorem dL_box_19 : decode cL_box 19 = .ok (.ireturn, 1) := by decide +kernel
theorem dL_call_0 : decode cL_call 0 = .ok (.aload_n 0, 1) := by decide +kernel
theorem dL_call_1 : decode cL_call 1 = .ok (.iload_n 1, 1) := by decide +kernel
theorem dL_call_2 : decode cL_call 2 = .ok (.iload_n 2, 1) := by decide +kernel
theorem dL_call_3 : decode cL_call 3 = .ok (.iload_n 3, 1) := by decide +kernel
theorem dL_call_4 : decode cL_call 4 = .ok (.invokevirtual 17, 3) := by decide +kernel
theorem dL_call_7 : decode cL_call 7 = .ok (.goto 15, 3) := by decide +kernel
theorem dL_call_10 : decode cL_call 10 = .ok (.astore 4, 2) := by decide +kernel
theorem dL_call_12 : decode cL_call 12 = .ok (.iconst 1, 1) := by decide +kernel
theorem dL_call_13 : decode cL_call 13 = .ok (.ireturn, 1) := by decide +kernel
theorem dL_call_14 : decode cL_call 14 = .ok (.astore 4, 2) := by decide +kernel
theorem dL_call_16 : decode cL_call 16 = .ok (.iconst 2, 1) := by decide +kernel
theorem dL_call_17 : decode cL_call 17 = .ok (.ireturn, 1) := by decide +kernel
theorem dL_call_18 : decode cL_call 18 = .ok (.astore 4, 2) := by decide +kernel
theorem dL_call_20 : decode cL_call 20 = .ok (.iconst 3, 1) := by decide +kernel
theorem dL_call_21 : decode cL_call 21 = .ok (.ireturn, 1) := by decide +kernel
theorem dL_call_22 : decode cL_call 22 = .ok (.iconst 0, 1) := by decide +kernel
theorem dL_call_23 : decode cL_call 23 = .ok (.ireturn, 1) := by decide +kernel
theorem dL_sample_0 : decode cL_sample 0 = .ok (.aload_n 3, 1) := by decide +kernel
theorem dL_sample_1 : decode cL_sample 1 = .ok (.iconst 0, 1) := by decide +kernel
theorem dL_sample_2 : decode cL_sample 2 = .ok (.aload_n 0, 1) := by decide +kernel
theorem dL_sample_3 : decode cL_sample 3 = .ok (.iload_n 1, 1) := by decide +kernel
theorem dL_sample_4 : decode cL_sample 4 = .ok (.iload_n 2, 1) := by decide +kernel
theorem dL_sample_5 : decode cL_sample 5 = .ok (.invokevirtual 23, 3) := by decide +kernel
theorem dL_sample_8 : decode cL_sample 8 = .ok (.ifCond .eq 7, 3) := by decide +kernel
theorem dL_sample_11 : decode cL_sample 11 = .ok (.lconst 1, 1) := by decide +kernel
theorem dL_sample_12 : decode cL_sample 12 = .ok (.goto 4, 3) := by decide +kernel
theorem dL_sample_15 : decode cL_sample 15 = .ok (.lconst 0, 1) := by decide +kernel
theorem dL_sample_16 : decode cL_sample 16 = .ok (.lastore, 1) := by decide +kernel
theorem dL_sample_17 : decode cL_sample 17 = .ok (.goto 11, 3) := by decide +kernel
theorem dL_sample_20 : decode cL_sample 20 = .ok (.astore 4, 2) := by decide +kernel
theorem dL_sample_22 : decode cL_sample 22 = .ok (.iconst 1, 1) := by decide +kernel
theorem dL_sample_23 : decode cL_sample 23 = .ok (.ireturn, 1) := by decide +kernel
theorem dL_sample_24 : decode cL_sample 24 = .ok (.astore 4, 2) := by decide +kernel
theorem dL_sample_26 : decode cL_sample 26 = .ok (.iconst 2, 1) := by decide +kernel
theorem dL_sample_27 : decode cL_sample 27 = .ok (.ireturn, 1) := by decide +kernel
theorem dL_sample_28 : decode cL_sample 28 = .ok (.iconst 0, 1) := by decide +kernel
theorem dL_sample_29 : decode cL_sample 29 = .ok (.ireturn, 1) := by decide +kernel
theorem dL_hang_0 : decode cL_hang 0 = .ok (.aload_n 2, 1) := by decide +kernel
theorem dL_hang_1 : decode cL_hang 1 = .ok (.iconst 0, 1) := by decide +kernel
theorem dL_hang_2 : decode cL_hang 2 = .ok (.aload_n 0, 1) := by decide +kernel
theorem dL_hang_3 : decode cL_hang 3 = .ok (.iload_n 1, 1) := by decide +kernel
theorem dL_hang_4 : decode cL_hang 4 = .ok (.invokevirtual 27, 3) := by decide +kernel
theorem dL_hang_7 : decode cL_hang 7 = .ok (.i2l, 1) := by decide +kernel
theorem dL_hang_8 : decode cL_hang 8 = .ok (.lastore, 1) := by decide +kernel
theorem dL_hang_9 : decode cL_hang 9 = .ok (.goto 9, 3) := by decide +kernel
theorem dL_hang_12 : decode cL_hang 12 = .ok (.astore_n 3, 1) := by decide +kernel
theorem dL_hang_13 : decode cL_hang 13 = .ok (.iconst 1, 1) := by decide +kernel
theorem dL_hang_14 : decode cL_hang 14 = .ok (.ireturn, 1) := by decide +kernel
theorem dL_hang_15 : decode cL_hang 15 = .ok (.astore_n 3, 1) := by decide +kernel
theorem dL_hang_16 : decode cL_hang 16 = .ok (.iconst 2, 1) := by decide +kernel
theorem dL_hang_17 : decode cL_hang 17 = .ok (.ireturn, 1) := by decide +kernel
theorem dL_hang_18 : decode cL_hang 18 = .ok (.iconst 0, 1) := by decide +kernel
theorem dL_hang_19 : decode cL_hang 19 = .ok (.ireturn, 1) := by decide +kernel
theorem dL_next_0 : decode cL_next 0 = .ok (.aload 4, 2) := by decide +kernel
theorem dL_next_2 : decode cL_next 2 = .ok (.iconst 0, 1) := by decide +kernel
theorem dL_next_3 : decode cL_next 3 = .ok (.aload_n 0, 1) := by decide +kernel
theorem dL_next_4 : decode cL_next 4 = .ok (.iload_n 1, 1) := by decide +kernel
theorem dL_next_5 : decode cL_next 5 = .ok (.iload_n 2, 1) := by decide +kernel
theorem dL_next_6 : decode cL_next 6 = .ok (.iload_n 3, 1) := by decide +kernel
theorem dL_next_7 : decode cL_next 7 = .ok (.invokevirtual 30, 3) := by decide +kernel
theorem dL_next_10 : decode cL_next 10 = .ok (.i2l, 1) := by decide +kernel
theorem dL_next_11 : decode cL_next 11 = .ok (.lastore, 1) := by decide +kernel
theorem dL_next_12 : decode cL_next 12 = .ok (.goto 15, 3) := by decide +kernel
theorem dL_next_15 : decode cL_next 15 = .ok (.astore 5, 2) := by decide +kernel
theorem dL_next_17 : decode cL_next 17 = .ok (.iconst 1, 1) := by decide +kernel
theorem dL_next_18 : decode cL_next 18 = .ok (.ireturn, 1) := by decide +kernel
theorem dL_next_19 : decode cL_next 19 = .ok (.astore 5, 2) := by decide +kernel
theorem dL_next_21 : decode cL_next 21 = .ok (.iconst 2, 1) := by decide +kernel
theorem dL_next_22 : decode cL_next 22 = .ok (.ireturn, 1) := by decide +kernel
theorem dL_next_23 : decode cL_next 23 = .ok (.astore 5, 2) := by decide +kernel
theorem dL_next_25 : decode cL_next 25 = .ok (.iconst 3, 1) := by decide +kernel
theorem dL_next_26 : decode cL_next 26 = .ok (.ireturn, 1) := by decide +kernel
theorem dL_next_27 : decode cL_next 27 = .ok (.iconst 0, 1) := by decide +kernel
theorem dL_next_28 : decode cL_next 28 = .ok (.ireturn, 1) := by decide +kernel
theorem dL_mark_0 : decode cL_mark 0 = .ok (.aload_n 3, 1) := by decide +kernel
theorem dL_mark_1 : decode cL_mark 1 = .ok (.iconst 0, 1) := by decide +kernel
theorem dL_mark_2 : decode cL_mark 2 = .ok (.aload_n 0, 1) := by decide +kernel
theorem dL_mark_3 : decode cL_mark 3 = .ok (.iload_n 1, 1) := by decide +kernel
theorem dL_mark_4 : decode cL_mark 4 = .ok (.iload_n 2, 1) := by decide +kernel
theorem dL_mark_5 : decode cL_mark 5 = .ok (.invokevirtual 36, 3) := by decide +kernel
theorem dL_mark_8 : decode cL_mark 8 = .ok (.i2l, 1) := by decide +kernel
theorem dL_mark_9 : decode cL_mark 9 = .ok (.lastore, 1) := by decide +kernel
theorem dL_mark_10 : decode cL_mark 10 = .ok (.goto 11, 3) := by decide +kernel
theorem dL_mark_13 : decode cL_mark 13 = .ok (.astore 4, 2) := by decide +kernel
theorem dL_mark_15 : decode cL_mark 15 = .ok (.iconst 1, 1) := by decide +kernel
theorem dL_mark_16 : decode cL_mark 16 = .ok (.ireturn, 1) := by decide +kernel
theorem dL_mark_17 : decode cL_mark 17 = .ok (.astore 4, 2) := by decide +kernel
theorem dL_mark_19 : decode cL_mark 19 = .ok (.iconst 2, 1) := by decide +kernel
theorem dL_mark_20 : decode cL_mark 20 = .ok (.ireturn, 1) := by decide +kernel
theorem dL_mark_21 : decode cL_mark 21 = .ok (.iconst 0, 1) := by decide +kernel
theorem dL_mark_22 : decode cL_mark 22 = .ok (.ireturn, 1) := by decide +kernel
theorem dL_erase_0 : decode cL_erase 0 = .ok (.aload_n 2, 1) := by decide +kernel
theorem dL_erase_1 : decode cL_erase 1 = .ok (.iconst 0, 1) := by decide +kernel
theorem dL_erase_2 : decode cL_erase 2 = .ok (.aload_n 0, 1) := by decide +kernel
theorem dL_erase_3 : decode cL_erase 3 = .ok (.iload_n 1, 1) := by decide +kernel
theorem dL_erase_4 : decode cL_erase 4 = .ok (.invokevirtual 40, 3) := by decide +kernel
theorem dL_erase_7 : decode cL_erase 7 = .ok (.i2l, 1) := by decide +kernel
theorem dL_erase_8 : decode cL_erase 8 = .ok (.lastore, 1) := by decide +kernel
theorem dL_erase_9 : decode cL_erase 9 = .ok (.goto 6, 3) := by decide +kernel
theorem dL_erase_12 : decode cL_erase 12 = .ok (.astore_n 3, 1) := by decide +kernel
theorem dL_erase_13 : decode cL_erase 13 = .ok (.iconst 1, 1) := by decide +kernel
theorem dL_erase_14 : decode cL_erase 14 = .ok (.ireturn, 1) := by decide +kernel
theorem dL_erase_15 : decode cL_erase 15 = .ok (.iconst 0, 1) := by decide +kernel
theorem dL_erase_16 : decode cL_erase 16 = .ok (.ireturn, 1) := by decide +kernel
theorem dL_forward_0 : decode cL_forward 0 = .ok (.aload_n 3, 1) := by decide +kernel
theorem dL_forward_1 : decode cL_forward 1 = .ok (.iconst 0, 1) := by decide +kernel
theorem dL_forward_2 : decode cL_forward 2 = .ok (.aload_n 0, 1) := by decide +kernel
theorem dL_forward_3 : decode cL_forward 3 = .ok (.iload_n 1, 1) := by decide +kernel
theorem dL_forward_4 : decode cL_forward 4 = .ok (.iload_n 2, 1) := by decide +kernel
theorem dL_forward_5 : decode cL_forward 5 = .ok (.invokevirtual 43, 3) := by decide +kernel
theorem dL_forward_8 : decode cL_forward 8 = .ok (.i2l, 1) := by decide +kernel
theorem dL_forward_9 : decode cL_forward 9 = .ok (.lastore, 1) := by decide +kernel
theorem dL_forward_10 : decode cL_forward 10 = .ok (.goto 11, 3) := by decide +kernel
theorem dL_forward_13 : decode cL_forward 13 = .ok (.astore 4, 2) := by decide +kernel
theorem dL_forward_15 : decode cL_forward 15 = .ok (.iconst 1, 1) := by decide +kernel
theorem dL_forward_16 : decode cL_forward 16 = .ok (.ireturn, 1) := by decide +kernel
theorem dL_forward_17 : decode cL_forward 17 = .ok (.astore 4, 2) := by decide +kernel
theorem dL_forward_19 : decode cL_forward 19 = .ok (.iconst 2, 1) := by decide +kernel
theorem dL_forward_20 : decode cL_forward 20 = .ok (.ireturn, 1) := by decide +kernel
theorem dL_forward_21 : decode cL_forward 21 = .ok (.iconst 0, 1) := by decide +kernel
theorem dL_forward_22 : decode cL_forward 22 = .ok (.ireturn, 1) := by decide +kernel
theorem dL_duration_0 : decode cL_duration 0 = .ok (.aload_n 2, 1) := by decide +kernel
theorem dL_duration_1 : decode cL_duration 1 = .ok (.iconst 0, 1) := by decide +kernel
theorem dL_duration_2 : decode cL_duration 2 = .ok (.aload_n 0, 1) := by decide +kernel
theorem dL_duration_3 : decode cL_duration 3 = .ok (.iload_n 1, 1) := by decide +kernel
theorem dL_duration_4 : decode cL_duration 4 = .ok (.invokevirtual 46, 3) := by decide +kernel
theorem dL_duration_7 : decode cL_duration 7 = .ok (.i2l, 1) := by decide +kernel
theorem dL_duration_8 : decode cL_duration 8 = .ok (.lastore, 1) := by decide +kernel
theorem dL_duration_9 : decode cL_duration 9 = .ok (.goto 6, 3) := by decide +kernel
theorem dL_duration_12 : decode cL_duration 12 = .ok (.astore_n 3, 1) := by decide +kernel
theorem dL_duration_13 : decode cL_duration 13 = .ok (.iconst 1, 1) := by decide +kernel
theorem dL_duration_14 : decode cL_duration 14 = .ok (.ireturn, 1) := by decide +kernel
theorem dL_duration_15 : decode cL_duration 15 = .ok (.iconst 0, 1) := by decide +kernel
theorem dL_duration_16 : decode cL_duration 16 = .ok (.ireturn, 1) := by decide +kernel
theorem dL_play_0 : decode cL_play 0 = .ok (.aload_n 3, 1) := by decide +kernel
theorem dL_play_1 : decode cL_play 1 = .ok (.iconst 0, 1) := by decide +kernel
theorem dL_play_2 : decode cL_play 2 = .ok (.aload_n 0, 1) := by decide +kernel
theorem dL_play_3 : decode cL_play 3 = .ok (.iload_n 1, 1) := by decide +kernel
theorem dL_play_4 : decode cL_play 4 = .ok (.iload_n 2, 1) := by decide +kernel
theorem dL_play_5 : decode cL_play 5 = .ok (.invokevirtual 49, 3) := by decide +kernel
theorem dL_play_8 : decode cL_play 8 = .ok (.i2l, 1) := by decide +kernel
theorem dL_play_9 : decode cL_play 9 = .ok (.lastore, 1) := by decide +kernel
theorem dL_play_10 : decode cL_play 10 = .ok (.goto 11, 3) := by decide +kernel
theorem dL_play_13 : decode cL_play 13 = .ok (.astore 4, 2) := by decide +kernel
theorem dL_play_15 : decode cL_play 15 = .ok (.iconst 1, 1) := by decide +kernel
theorem dL_play_16 : decode cL_play 16 = .ok (.ireturn, 1) := by decide +kernel
theorem dL_play_17 : decode cL_play 17 = .ok (.astore 4, 2) := by decide +kernel
theorem dL_play_19 : decode cL_play 19 = .ok (.iconst 2, 1) := by decide +kernel
theorem dL_play_20 : decode cL_play 20 = .ok (.ireturn, 1) := by decide +kernel
theorem dL_play_21 : decode cL_play 21 = .ok (.iconst 0, 1) := by decide +kernel
theorem dL_play_22 : decode cL_play 22 = .ok (.ireturn, 1) := by decide +kernel
theorem dL_length_0 : decode cL_length 0 = .ok (.aload_n 3, 1) := by decide +kernel
theorem dL_length_1 : decode cL_length 1 = .ok (.iconst 0, 1) := by decide +kernel
theorem dL_length_2 : decode cL_length 2 = .ok (.aload_n 0, 1) := by decide +kernel
theorem dL_length_3 : decode cL_length 3 = .ok (.iload_n 1, 1) := by decide +kernel
theorem dL_length_4 : decode cL_length 4 = .ok (.iload_n 2, 1) := by decide +kernel
theorem dL_length_5 : decode cL_length 5 = .ok (.invokevirtual 52, 3) := by decide +kernel
theorem dL_length_8 : decode cL_length 8 = .ok (.i2l, 1) := by decide +kernel
theorem dL_length_9 : decode cL_length 9 = .ok (.lastore, 1) := by decide +kernel
theorem dL_length_10 : decode cL_length 10 = .ok (.goto 11, 3) := by decide +kernel
theorem dL_length_13 : decode cL_length 13 = .ok (.astore 4, 2) := by decide +kernel
theorem dL_length_15 : decode cL_length 15 = .ok (.iconst 1, 1) := by decide +kernel
theorem dL_length_16 : decode cL_length 16 = .ok (.ireturn, 1) := by decide +kernel
theorem dL_length_17 : decode cL_length 17 = .ok (.astore 4, 2) := by decide +kernel
theorem dL_length_19 : decode cL_length 19 = .ok (.iconst 2, 1) := by decide +kernel
theorem dL_length_20 : decode cL_length 20 = .ok (.ireturn, 1) := by decide +kernel
theorem dL_length_21 : decode cL_length 21 = .ok (.iconst 0, 1) := by decide +kernel
theorem dL_length_22 : decode cL_length 22 = .ok (.ireturn, 1) := by decide +kernel
theorem dL_greeting_0 : decode cL_greeting 0 = .ok (.aload 4, 2) := by decide +kernel
theorem dL_greeting_2 : decode cL_greeting 2 = .ok (.iconst 0, 1) := by decide +kernel
theorem dL_greeting_3 : decode cL_greeting 3 = .ok (.aload_n 0, 1) := by decide +kernel
theorem dL_greeting_4 : decode cL_greeting 4 = .ok (.iload_n 1, 1) := by decide +kernel
theorem dL_greeting_5 : decode cL_greeting 5 = .ok (.iload_n 2, 1) := by decide +kernel
theorem dL_greeting_6 : decode cL_greeting 6 = .ok (.iload_n 3, 1) := by decide +kernel
theorem dL_greeting_7 : decode cL_greeting 7 = .ok (.invokevirtual 55, 3) := by decide +kernel
theorem dL_greeting_10 : decode cL_greeting 10 = .ok (.i2l, 1) := by decide +kernel
theorem dL_greeting_11 : decode cL_greeting 11 = .ok (.lastore, 1) := by decide +kernel
theorem dL_greeting_12 : decode cL_greeting 12 = .ok (.goto 15, 3) := by decide +kernel
theorem dL_greeting_15 : decode cL_greeting 15 = .ok (.astore 5, 2) := by decide +kernel
theorem dL_greeting_17 : decode cL_greeting 17 = .ok (.iconst 1, 1) := by decide +kernel
theorem dL_greeting_18 : decode cL_greeting 18 = .ok (.ireturn, 1) := by decide +kernel
theorem dL_greeting_19 : decode cL_greeting 19 = .ok (.astore 5, 2) := by decide +kernel
theorem dL_greeting_21 : decode cL_greeting 21 = .ok (.iconst 2, 1) := by decide +kernel
theorem dL_greeting_22 : decode cL_greeting 22 = .ok (.ireturn, 1) := by decide +kernel
theorem dL_greeting_23 : decode cL_greeting 23 = .ok (.astore 5, 2) := by decide +kernel
theorem dL_greeting_25 : decode cL_greeting 25 = .ok (.iconst 3, 1) := by decide +kernel
theorem dL_greeting_26 : decode cL_greeting 26 = .ok (.ireturn, 1) := by decide +kernel
theorem dL_greeting_27 : decode cL_greeting 27 = .ok (.iconst 0, 1) := by decide +kernel
theorem dL_greeting_28 : decode cL_greeting 28 = .ok (.ireturn, 1) := by decide +kernel
theorem dL_used_0 : decode cL_used 0 = .ok (.aload_n 2, 1) := by decide +kernel
theorem dL_used_1 : decode cL_used 1 = .ok (.iconst 0, 1) := by decide +kernel
theorem dL_used_2 : decode cL_used 2 = .ok (.aload_n 0, 1) := by decide +kernel
theorem dL_used_3 : decode cL_used 3 = .ok (.iload_n 1, 1) := by decide +kernel
theorem dL_used_4 : decode cL_used 4 = .ok (.invokevirtual 58, 3) := by decide +kernel
theorem dL_used_7 : decode cL_used 7 = .ok (.i2l, 1) := by decide +kernel
theorem dL_used_8 : decode cL_used 8 = .ok (.lastore, 1) := by decide +kernel
theorem dL_used_9 : decode cL_used 9 = .ok (.goto 6, 3) := by decide +kernel
theorem dL_used_12 : decode cL_used 12 = .ok (.astore_n 3, 1) := by decide +kernel
theorem dL_used_13 : decode cL_used 13 = .ok (.iconst 1, 1) := by decide +kernel
theorem dL_used_14 : decode cL_used 14 = .ok (.ireturn, 1) := by decide +kernel
theorem dL_used_15 : decode cL_used 15 = .ok (.iconst 0, 1) := by decide +kernel
theorem dL_used_16 : decode cL_used 16 = .ok (.ireturn, 1) := by decide +kernel
theorem dL_quota_0 : decode cL_quota 0 = .ok (.aload_n 2, 1) := by decide +kernel
theorem dL_quota_1 : decode cL_quota 1 = .ok (.iconst 0, 1) := by decide +kernel
theorem dL_quota_2 : decode cL_quota 2 = .ok (.aload_n 0, 1) := by decide +kernel
theorem dL_quota_3 : decode cL_quota 3 = .ok (.iload_n 1, 1) := by decide +kernel
theorem dL_quota_4 : decode cL_quota 4 = .ok (.invokevirtual 61, 3) := by decide +kernel
theorem dL_quota_7 : decode cL_quota 7 = .ok (.i2l, 1) := by decide +kernel
theorem dL_quota_8 : decode cL_quota 8 = .ok (.lastore, 1) := by decide +kernel
theorem dL_quota_9 : decode cL_quota 9 = .ok (.goto 6, 3) := by decide +kernel
theorem dL_quota_12 : decode cL_quota 12 = .ok (.astore_n 3, 1) := by decide +kernel
theorem dL_quota_13 : decode cL_quota 13 = .ok (.iconst 1, 1) := by decide +kernel
theorem dL_quota_14 : decode cL_quota 14 = .ok (.ireturn, 1) := by decide +kernel
theorem dL_quota_15 : decode cL_quota 15 = .ok (.iconst 0, 1) := by decide +kernel
theorem dL_quota_16 : decode cL_quota 16 = .ok (.ireturn, 1) := by decide +kernel
theorem dL_pack_0 : decode cL_pack 0 = .ok (.aload_n 2, 1) := by decide +kernel
theorem dL_pack_1 : decode cL_pack 1 = .ok (.iconst 0, 1) := by decide +kernel
theorem dL_pack_2 : decode cL_pack 2 = .ok (.aload_n 0, 1) := by decide +kernel
theorem dL_pack_3 : decode cL_pack 3 = .ok (.iload_n 1, 1) := by decide +kernel
theorem dL_pack_4 : decode cL_pack 4 = .ok (.invokevirtual 64, 3) := by decide +kernel
theorem dL_pack_7 : decode cL_pack 7 = .ok (.i2l, 1) := by decide +kernel
theorem dL_pack_8 : decode cL_pack 8 = .ok (.lastore, 1) := by decide +kernel
theorem dL_pack_9 : decode cL_pack 9 = .ok (.goto 6, 3) := by decide +kernel
theorem dL_pack_12 : decode cL_pack 12 = .ok (.astore_n 3, 1) := by decide +kernel
theorem dL_pack_13 : decode cL_pack 13 = .ok (.iconst 1, 1) := by decide +kernel
theorem dL_pack_14 : decode cL_pack 14 = .ok (.ireturn, 1) := by decide +kernel
theorem dL_pack_15 : decode cL_pack 15 = .ok (.iconst 0, 1) := by decide +kernel
theorem dL_pack_16 : decode cL_pack 16 = .ok (.ireturn, 1) := by decide +kernel
theorem dL_block_0 : decode cL_block 0 = .ok (.aload_n 2, 1) := by decide +kernel
theorem dL_block_1 : decode cL_block 1 = .ok (.iconst 0, 1) := by decide +kernel
theorem dL_block_2 : decode cL_block 2 = .ok (.aload_n 0, 1) := by decide +kernel
theorem dL_block_3 : decode cL_block 3 = .ok (.iload_n 1, 1) := by decide +kernel
theorem dL_block_4 : decode cL_block 4 = .ok (.invokevirtual 67, 3) := by decide +kernel
theorem dL_block_7 : decode cL_block 7 = .ok (.i2l, 1) := by decide +kernel
theorem dL_block_8 : decode cL_block 8 = .ok (.lastore, 1) := by decide +kernel
theorem dL_block_9 : decode cL_block 9 = .ok (.goto 6, 3) := by decide +kernel
theorem dL_block_12 : decode cL_block 12 = .ok (.astore_n 3, 1) := by decide +kernel
theorem dL_block_13 : decode cL_block 13 = .ok (.iconst 1, 1) := by decide +kernel
theorem dL_block_14 : decode cL_block 14 = .ok (.ireturn, 1) := by decide +kernel
theorem dL_block_15 : decode cL_block 15 = .ok (.iconst 0, 1) := by decide +kernel
theorem dL_block_16 : decode cL_block 16 = .ok (.ireturn, 1) := by decide +kernel
theorem dL_step_0 : decode cL_step 0 = .ok (.aload_n 2, 1) := by decide +kernel
theorem dL_step_1 : decode cL_step 1 = .ok (.iconst 0, 1) := by decide +kernel
theorem dL_step_2 : decode cL_step 2 = .ok (.aload_n 0, 1) := by decide +kernel
theorem dL_step_3 : decode cL_step 3 = .ok (.iload_n 1, 1) := by decide +kernel
theorem dL_step_4 : decode cL_step 4 = .ok (.invokevirtual 70, 3) := by decide +kernel
theorem dL_step_7 : decode cL_step 7 = .ok (.i2l, 1) := by decide +kernel
theorem dL_step_8 : decode cL_step 8 = .ok (.lastore, 1) := by decide +kernel
theorem dL_step_9 : decode cL_step 9 = .ok (.goto 6, 3) := by decide +kernel
theorem dL_step_12 : decode cL_step 12 = .ok (.astore_n 3, 1) := by decide +kernel
theorem dL_step_13 : decode cL_step 13 = .ok (.iconst 1, 1) := by decide +kernel
theorem dL_step_14 : decode cL_step 14 = .ok (.ireturn, 1) := by decide +kernel
theorem dL_step_15 : decode cL_step 15 = .ok (.iconst 0, 1) := by decide +kernel
theorem dL_step_16 : decode cL_step 16 = .ok (.ireturn, 1) := by decide +kernel
theorem gW_7 : GoodIn z_T (wsV "MessageBankLaw" 7 RX6 yX6_box (Cond.code yX6_box cX6_box 2 (some .int) :: z_T)) := z_goV wl_287 wl_288 wl_289 wl_50 wl_290
theorem hdW_X6_box : yX6_box.cls = RX6 ∧ yX6_box.cls ≠ "java/lang/invoke/MethodHandle" ∧ yX6_box.cls ≠ "java/lang/invoke/VarHandle" ∧ (parseMethodDescriptor yX6_box.desc).map (fun d => d.parameters.length) = some 1 := by decide +kernel
theorem gW_17 : GoodIn z_T (wsV "MessageBankLaw" 17 RX6 yX6_call (Cond.code yX6_call cX6_call 4 none :: z_T)) := z_goV wl_380 wl_381 wl_382 wl_50 wl_383
theorem hdW_X6_call : yX6_call.cls = RX6 ∧ yX6_call.cls ≠ "java/lang/invoke/MethodHandle" ∧ yX6_call.cls ≠ "java/lang/invoke/VarHandle" ∧ (parseMethodDescriptor yX6_call.desc).map (fun d => d.parameters.length) = some 3 := by decide +kernel
theorem gW_23 : GoodIn z_T (wsV "MessageBankLaw" 23 RX6 yX6_sample (Cond.code yX6_sample cX6_sample 4 (some .boolean) :: z_T)) := z_goV wl_431 wl_432 wl_433 wl_50 wl_434
theorem hdW_X6_sample : yX6_sample.cls = RX6 ∧ yX6_sample.cls ≠ "java/lang/invoke/MethodHandle" ∧ yX6_sample.cls ≠ "java/lang/invoke/VarHandle" ∧ (parseMethodDescriptor yX6_sample.desc).map (fun d => d.parameters.length) = some 2 := by decide +kernel
theorem gW_27 : GoodIn z_T (wsV "MessageBankLaw" 27 RX6 yX6_hang (Cond.code yX6_hang cX6_hang 4 (some .int) :: z_T)) := z_goV wl_545 wl_546 wl_547 wl_50 wl_548
theorem hdW_X6_hang : yX6_hang.cls = RX6 ∧ yX6_hang.cls ≠ "java/lang/invoke/MethodHandle" ∧ yX6_hang.cls ≠ "java/lang/invoke/VarHandle" ∧ (parseMethodDescriptor yX6_hang.desc).map (fun d => d.parameters.length) = some 1 := by decide +kernel
theorem gW_30 : GoodIn z_T (wsV "MessageBankLaw" 30 RX6 yX6_next (Cond.code yX6_next cX6_next 5 (some .int) :: z_T)) := z_goV wl_663 wl_664 wl_665 wl_50 wl_666
theorem hdW_X6_next : yX6_next.cls = RX6 ∧ yX6_next.cls ≠ "java/lang/invoke/MethodHandle" ∧ yX6_next.cls ≠ "java/lang/invoke/VarHandle" ∧ (parseMethodDescriptor yX6_next.desc).map (fun d => d.parameters.length) = some 3 := by decide +kernel
theorem gW_36 : GoodIn z_T (wsV "MessageBankLaw" 36 RX6 yX6_mark (Cond.code yX6_mark cX6_mark 5 (some .int) :: z_T)) := z_goV wl_695 wl_696 wl_697 wl_50 wl_698
theorem hdW_X6_mark : yX6_mark.cls = RX6 ∧ yX6_mark.cls ≠ "java/lang/invoke/MethodHandle" ∧ yX6_mark.cls ≠ "java/lang/invoke/VarHandle" ∧ (parseMethodDescriptor yX6_mark.desc).map (fun d => d.parameters.length) = some 2 := by decide +kernel
theorem gW_40 : GoodIn z_T (wsV "MessageBankLaw" 40 RX6 yX6_erase (Cond.code yX6_erase cX6_erase 4 (some .int) :: z_T)) := z_goV wl_707 wl_708 wl_709 wl_50 wl_710
theorem hdW_X6_erase : yX6_erase.cls = RX6 ∧ yX6_erase.cls ≠ "java/lang/invoke/MethodHandle" ∧ yX6_erase.cls ≠ "java/lang/invoke/VarHandle" ∧ (parseMethodDescriptor yX6_erase.desc).map (fun d => d.parameters.length) = some 1 := by decide +kernel
theorem gW_43 : GoodIn z_T (wsV "MessageBankLaw" 43 RX6 yX6_forward (Cond.code yX6_forward cX6_forward 6 (some .int) :: z_T)) := z_goV wl_723 wl_724 wl_725 wl_50 wl_726
theorem hdW_X6_forward : yX6_forward.cls = RX6 ∧ yX6_forward.cls ≠ "java/lang/invoke/MethodHandle" ∧ yX6_forward.cls ≠ "java/lang/invoke/VarHandle" ∧ (parseMethodDescriptor yX6_forward.desc).map (fun d => d.parameters.length) = some 2 := by decide +kernel
theorem gW_46 : GoodIn z_T (wsV "MessageBankLaw" 46 RX6 yX6_duration (Cond.code yX6_duration cX6_duration 3 (some .int) :: z_T)) := z_goV wl_731 wl_732 wl_733 wl_50 wl_734
theorem hdW_X6_duration : yX6_duration.cls = RX6 ∧ yX6_duration.cls ≠ "java/lang/invoke/MethodHandle" ∧ yX6_duration.cls ≠ "java/lang/invoke/VarHandle" ∧ (parseMethodDescriptor yX6_duration.desc).map (fun d => d.parameters.length) = some 1 := by decide +kernel
theorem gW_49 : GoodIn z_T (wsV "MessageBankLaw" 49 RX6 yX6_play (Cond.code yX6_play cX6_play 5 (some .int) :: z_T)) := z_goV wl_741 wl_742 wl_743 wl_50 wl_744
theorem hdW_X6_play : yX6_play.cls = RX6 ∧ yX6_play.cls ≠ "java/lang/invoke/MethodHandle" ∧ yX6_play.cls ≠ "java/lang/invoke/VarHandle" ∧ (parseMethodDescriptor yX6_play.desc).map (fun d => d.parameters.length) = some 2 := by decide +kernel
theorem gW_52 : GoodIn z_T (wsV "MessageBankLaw" 52 RX6 yX6_length (Cond.code yX6_length cX6_length 3 (some .int) :: z_T)) := z_goV wl_764 wl_765 wl_766 wl_50 wl_767
theorem hdW_X6_length : yX6_length.cls = RX6 ∧ yX6_length.cls ≠ "java/lang/invoke/MethodHandle" ∧ yX6_length.cls ≠ "java/lang/invoke/VarHandle" ∧ (parseMethodDescriptor yX6_length.desc).map (fun d => d.parameters.length) = some 2 := by decide +kernel
theorem gW_55 : GoodIn z_T (wsV "MessageBankLaw" 55 RX6 yX6_greeting (Cond.code yX6_greeting cX6_greeting 5 (some .int) :: z_T)) := z_goV wl_776 wl_777 wl_778 wl_50 wl_779
theorem hdW_X6_greeting : yX6_greeting.cls = RX6 ∧ yX6_greeting.cls ≠ "java/lang/invoke/MethodHandle" ∧ yX6_greeting.cls ≠ "java/lang/invoke/VarHandle" ∧ (parseMethodDescriptor yX6_greeting.desc).map (fun d => d.parameters.length) = some 3 := by decide +kernel
theorem gW_58 : GoodIn z_T (wsV "MessageBankLaw" 58 RX6 yX6_used (Cond.code yX6_used cX6_used 2 (some .int) :: z_T)) := z_goV wl_784 wl_785 wl_786 wl_50 wl_787
theorem hdW_X6_used : yX6_used.cls = RX6 ∧ yX6_used.cls ≠ "java/lang/invoke/MethodHandle" ∧ yX6_used.cls ≠ "java/lang/invoke/VarHandle" ∧ (parseMethodDescriptor yX6_used.desc).map (fun d => d.parameters.length) = some 1 := by decide +kernel
theorem gW_61 : GoodIn z_T (wsV "MessageBankLaw" 61 RX6 yX6_quota (Cond.code yX6_quota cX6_quota 2 (some .int) :: z_T)) := z_goV wl_791 wl_792 wl_793 wl_50 wl_794
theorem hdW_X6_quota : yX6_quota.cls = RX6 ∧ yX6_quota.cls ≠ "java/lang/invoke/MethodHandle" ∧ yX6_quota.cls ≠ "java/lang/invoke/VarHandle" ∧ (parseMethodDescriptor yX6_quota.desc).map (fun d => d.parameters.length) = some 1 := by decide +kernel
theorem gW_64 : GoodIn z_T (wsV "MessageBankLaw" 64 RX6 yX6_pack (Cond.code yX6_pack cX6_pack 3 (some .int) :: z_T)) := z_goV wl_798 wl_799 wl_800 wl_50 wl_801
theorem hdW_X6_pack : yX6_pack.cls = RX6 ∧ yX6_pack.cls ≠ "java/lang/invoke/MethodHandle" ∧ yX6_pack.cls ≠ "java/lang/invoke/VarHandle" ∧ (parseMethodDescriptor yX6_pack.desc).map (fun d => d.parameters.length) = some 1 := by decide +kernel
theorem gW_67 : GoodIn z_T (wsV "MessageBankLaw" 67 RX6 yX6_block (Cond.code yX6_block cX6_block 2 (some .int) :: z_T)) := z_goV wl_812 wl_813 wl_814 wl_50 wl_815
theorem hdW_X6_block : yX6_block.cls = RX6 ∧ yX6_block.cls ≠ "java/lang/invoke/MethodHandle" ∧ yX6_block.cls ≠ "java/lang/invoke/VarHandle" ∧ (parseMethodDescriptor yX6_block.desc).map (fun d => d.parameters.length) = some 1 := by decide +kernel
theorem gW_70 : GoodIn z_T (wsV "MessageBankLaw" 70 RX6 yX6_step (Cond.code yX6_step cX6_step 2 (some .int) :: z_T)) := z_goV wl_820 wl_821 wl_822 wl_50 wl_823
theorem hdW_X6_step : yX6_step.cls = RX6 ∧ yX6_step.cls ≠ "java/lang/invoke/MethodHandle" ∧ yX6_step.cls ≠ "java/lang/invoke/VarHandle" ∧ (parseMethodDescriptor yX6_step.desc).map (fun d => d.parameters.length) = some 1 := by decide +kernel
abbrev rm_L_box : Room := { frames := 7, cells := 1, slots := 6, locals := 111 }
set_option maxRecDepth 20000 in
theorem mb_L_box {p : Program} {l : Launch} {e : Env} {s : State} {m : MethodId} {args : Array Value} {below : List Frame} {meth : Method} {c : Code} {D : va_G} {cy : Nat → ClassId} {A : Nat → Prop} {t0 mi w h0 : Nat} (S : CallFix p m c cL_box 4 s args z_T "MessageBankLaw") (hlk : meth.locks = false) (hr : meth.sig.returnType = some .int) (htb : c.exceptionTable.toList = tableOf [(0, 9, 12, 13), (0, 9, 15, 15)]) (hE : z_EW D cy A t0 mi w s) (hl : l.stackTraces = false) {post : Int32 → z_WS → Prop} (u : z_St) (v : Int64) (x1 : Int32) (hkh0 : z_kd h0 u = 8 ∧ 8 ≠ 0) {postr : Int32 → z_St → Prop} {px : String → z_St → Prop} (hk : ∀ r u', postr r u' → post 0 (u', r.toInt64)) (hx : ∀ E u', px E u' → ∃ c0, (E, c0) ∈ ([("java/lang/IllegalArgumentException", 1), ("java/lang/IllegalStateException", 2)] : List (String × Int32)) ∧ post c0 (u', v)) (hw : w_X6_box postr px t0 mi h0 u x1) : z_V (z_wA A w) (z_hW D cy A t0 w) p l e rm_L_box s m args below meth c 4 (vx_MQ below (va_Qi post (fun (u' : z_WS) t => z_hW D cy A t0 w u' t.heap) (z_wA A w)) (zx_X (fun _ _ => False) (z_hW D cy A t0 w) (z_wA A w)) args s 1 6 (z_wA A w)) 0 0 (u, v) 0 [(0, va_rf (some h0)), (1, .int x1), (2, va_rf (some w))] [] := by
  refine z_aload_n (x := some w) S 2 dL_box_0 rfl rfl ?_
  refine z_iconst (v := 0) S dL_box_1 (by decide) ?_
  refine z_aload_n (x := some h0) S 0 dL_box_2 rfl rfl ?_
  refine z_iload_n S 1 dL_box_3 rfl rfl ?_
  refine zw_callVi (As := [.int x1]) (st := [.int 0, va_rf (some w)]) S hE hkh0 rfl rfl (me_X6_box l D cy A t0 mi _ _ u h0 x1 hkh0 hl hw) gW_7 hdW_X6_box ⟨Nat.le_of_ble_eq_true rfl, Nat.le_of_ble_eq_true rfl⟩ rfl rfl rfl (Nat.le_trans (z_s1 (z_sq z_s0)) (by decide)) dL_box_4 ⟨(Nat.le_of_ble_eq_true rfl), (Nat.le_of_ble_eq_true rfl)⟩ rfl (fun r u' hp hm => ?_) (fun E u' hp hm => ?_)
  · have hp := hk r u' hp
    refine z_i2l S dL_box_7 ?_
    refine zw_last S hE dL_box_8 ?_
    refine z_goto (tgt := 18) S dL_box_9 (by decide) ?_
    refine z_iconst (v := 0) S dL_box_18 (by decide) ?_
    exact zx_iret S hr hlk dL_box_19 (Nat.le_of_ble_eq_true rfl) (Nat.le_of_ble_eq_true rfl) hp
  · obtain ⟨c0, hc, hp⟩ := hx E u' hp
    have hcast := zx_Bof hE.1.2.2.2.2.2.2.2.2.1 args
    rcases List.mem_cons.mp hc with hc | hc
    · obtain ⟨rfl, rfl⟩ := Prod.mk.inj hc
      refine ⟨[], ⟨0, 9, 12, 13⟩, [⟨0, 9, 15, 15⟩], "java/lang/IllegalArgumentException", htb, fun _ h => absurd h List.not_mem_nil, rfl, by decide, S.2.2.2.2 _ wl_285, (hcast _ (by simp [zx_B])), fun q9 => ?_⟩
      refine z_astore_n (x := some q9) S ((3, va_rf (some q9)) :: [(0, va_rf (some h0)), (1, .int x1), (2, va_rf (some w))]) dL_box_12 rfl (by decide) rfl ?_
      refine z_iconst (v := 1) S dL_box_13 (by decide) ?_
      exact zx_iret S hr hlk dL_box_14 (Nat.le_of_ble_eq_true rfl) (Nat.le_of_ble_eq_true rfl) hp
    · rcases List.mem_cons.mp hc with hc | hc
      · obtain ⟨rfl, rfl⟩ := Prod.mk.inj hc
        refine ⟨[⟨0, 9, 12, 13⟩], ⟨0, 9, 15, 15⟩, [], "java/lang/IllegalStateException", htb, List.forall_mem_cons.mpr ⟨⟨by decide, "java/lang/IllegalArgumentException", S.2.2.2.2 _ wl_285, hE.2.2.1⟩, fun _ h => absurd h List.not_mem_nil⟩, rfl, by decide, S.2.2.2.2 _ wl_286, (hcast _ (by simp [zx_B])), fun q9 => ?_⟩
        refine z_astore_n (x := some q9) S ((3, va_rf (some q9)) :: [(0, va_rf (some h0)), (1, .int x1), (2, va_rf (some w))]) dL_box_15 rfl (by decide) rfl ?_
        refine z_iconst (v := 2) S dL_box_16 (by decide) ?_
        exact zx_iret S hr hlk dL_box_17 (Nat.le_of_ble_eq_true rfl) (Nat.le_of_ble_eq_true rfl) hp
      · exact absurd hc List.not_mem_nil
theorem me_L_box (l : Launch) (D : va_G) (cy : Nat → ClassId) (A : Nat → Prop) (t0 mi w h0 : Nat) (post : Int32 → z_WS → Prop) (u : z_St) (v : Int64) (x1 : Int32) (hl : l.stackTraces = false) (hkh0 : z_kd h0 u = 8 ∧ 8 ≠ 0) {postr : Int32 → z_St → Prop} {px : String → z_St → Prop} (hk : ∀ r u', postr r u' → post 0 (u', r.toInt64)) (hx : ∀ E u', px E u' → ∃ c0, (E, c0) ∈ ([("java/lang/IllegalArgumentException", 1), ("java/lang/IllegalStateException", 2)] : List (String × Int32)) ∧ post c0 (u', v)) (hw : w_X6_box postr px t0 mi h0 u x1) : zx_Mi l yL_box (Cond.codeWith yL_box cL_box 4 (some .int) [(0, 9, 12, 13), (0, 9, 15, 15)] :: z_T) rm_L_box [va_rf (some h0), .int x1, va_rf (some w)] (z_EW D cy A t0 mi w) (z_hW D cy A t0 w) (u, v) post (fun _ _ => False) 1 6 (z_wA A w) :=
  zw_met (by decide) (Nat.le_of_ble_eq_true rfl) (fun p e s m args below meth c S hlk hr htb hE => mb_L_box S hlk hr htb hE hl u v x1 hkh0 hk hx hw)
abbrev rm_L_call : Room := { frames := 8, cells := 3, slots := 18, locals := 134 }
set_option maxRecDepth 20000 in
theorem mb_L_call {p : Program} {l : Launch} {e : Env} {s : State} {m : MethodId} {args : Array Value} {below : List Frame} {meth : Method} {c : Code} {D : va_G} {cy : Nat → ClassId} {A : Nat → Prop} {t0 mi w h0 : Nat} (S : CallFix p m c cL_call 5 s args z_T "MessageBankLaw") (hlk : meth.locks = false) (hr : meth.sig.returnType = some .int) (htb : c.exceptionTable.toList = tableOf [(0, 7, 10, 21), (0, 7, 14, 13), (0, 7, 18, 15)]) (hE : z_EW D cy A t0 mi w s) (hl : l.stackTraces = false) {post : Int32 → z_WS → Prop} (u : z_St) (v : Int64) (x1 : Int32) (x2 : Int32) (x3 : Int32) (hkh0 : z_kd h0 u = 8 ∧ 8 ≠ 0) {postr : z_St → Prop} {px : String → z_St → Prop} (hk : ∀ u', postr u' → post 0 (u', v)) (hx : ∀ E u', px E u' → ∃ c0, (E, c0) ∈ ([("java/util/NoSuchElementException", 1), ("java/lang/IllegalArgumentException", 2), ("java/lang/IllegalStateException", 3)] : List (String × Int32)) ∧ post c0 (u', v)) (hw : w_X6_call postr px t0 mi h0 u x1 x2 x3) : z_V (z_wA A w) (z_hW D cy A t0 w) p l e rm_L_call s m args below meth c 5 (vx_MQ below (va_Qi post (fun (u' : z_WS) t => z_hW D cy A t0 w u' t.heap) (z_wA A w)) (zx_X (fun _ _ => False) (z_hW D cy A t0 w) (z_wA A w)) args s 3 18 (z_wA A w)) 0 0 (u, v) 0 [(0, va_rf (some h0)), (1, .int x1), (2, .int x2), (3, .int x3)] [] := by
  refine z_aload_n (x := some h0) S 0 dL_call_0 rfl rfl ?_
  refine z_iload_n S 1 dL_call_1 rfl rfl ?_
  refine z_iload_n S 2 dL_call_2 rfl rfl ?_
  refine z_iload_n S 3 dL_call_3 rfl rfl ?_
  refine zw_callVv (As := [.int x1, .int x2, .int x3]) (st := []) S hE hkh0 rfl rfl (me_X6_call l D cy A t0 mi _ _ u h0 x1 x2 x3 hkh0 hl hw) gW_17 hdW_X6_call ⟨Nat.le_of_ble_eq_true rfl, Nat.le_of_ble_eq_true rfl⟩ rfl rfl rfl (Nat.le_trans z_s0 (by decide)) dL_call_4 ⟨(Nat.le_of_ble_eq_true rfl), (Nat.le_of_ble_eq_true rfl)⟩ rfl (fun u' hp hm => ?_) (fun E u' hp hm => ?_)
  · have hp := hk u' hp
    refine z_goto (tgt := 22) S dL_call_7 (by decide) ?_
    refine z_iconst (v := 0) S dL_call_22 (by decide) ?_
    exact zx_iret S hr hlk dL_call_23 (Nat.le_of_ble_eq_true rfl) (Nat.le_of_ble_eq_true rfl) hp
  · obtain ⟨c0, hc, hp⟩ := hx E u' hp
    have hcast := zx_Bof hE.1.2.2.2.2.2.2.2.2.1 args
    rcases List.mem_cons.mp hc with hc | hc
    · obtain ⟨rfl, rfl⟩ := Prod.mk.inj hc
      refine ⟨[], ⟨0, 7, 10, 21⟩, [⟨0, 7, 14, 13⟩, ⟨0, 7, 18, 15⟩], "java/util/NoSuchElementException", htb, fun _ h => absurd h List.not_mem_nil, rfl, by decide, S.2.2.2.2 _ wl_379, (hcast _ (by simp [zx_B])), fun q9 => ?_⟩
      refine z_astore (x := some q9) S ((4, va_rf (some q9)) :: [(0, va_rf (some h0)), (1, .int x1), (2, .int x2), (3, .int x3)]) dL_call_10 (by decide) rfl ?_
      refine z_iconst (v := 1) S dL_call_12 (by decide) ?_
      exact zx_iret S hr hlk dL_call_13 (Nat.le_of_ble_eq_true rfl) (Nat.le_of_ble_eq_true rfl) hp
    · rcases List.mem_cons.mp hc with hc | hc
      · obtain ⟨rfl, rfl⟩ := Prod.mk.inj hc
        refine ⟨[⟨0, 7, 10, 21⟩], ⟨0, 7, 14, 13⟩, [⟨0, 7, 18, 15⟩], "java/lang/IllegalArgumentException", htb, List.forall_mem_cons.mpr ⟨⟨by decide, "java/util/NoSuchElementException", S.2.2.2.2 _ wl_379, hE.2.2.2.1⟩, fun _ h => absurd h List.not_mem_nil⟩, rfl, by decide, S.2.2.2.2 _ wl_285, (hcast _ (by simp [zx_B])), fun q9 => ?_⟩
        refine z_astore (x := some q9) S ((4, va_rf (some q9)) :: [(0, va_rf (some h0)), (1, .int x1), (2, .int x2), (3, .int x3)]) dL_call_14 (by decide) rfl ?_
        refine z_iconst (v := 2) S dL_call_16 (by decide) ?_
        exact zx_iret S hr hlk dL_call_17 (Nat.le_of_ble_eq_true rfl) (Nat.le_of_ble_eq_true rfl) hp
      · rcases List.mem_cons.mp hc with hc | hc
        · obtain ⟨rfl, rfl⟩ := Prod.mk.inj hc
          refine ⟨[⟨0, 7, 10, 21⟩, ⟨0, 7, 14, 13⟩], ⟨0, 7, 18, 15⟩, [], "java/lang/IllegalStateException", htb, List.forall_mem_cons.mpr ⟨⟨by decide, "java/util/NoSuchElementException", S.2.2.2.2 _ wl_379, hE.2.2.2.2.1⟩, List.forall_mem_cons.mpr ⟨⟨by decide, "java/lang/IllegalArgumentException", S.2.2.2.2 _ wl_285, hE.2.2.1⟩, fun _ h => absurd h List.not_mem_nil⟩⟩, rfl, by decide, S.2.2.2.2 _ wl_286, (hcast _ (by simp [zx_B])), fun q9 => ?_⟩
          refine z_astore (x := some q9) S ((4, va_rf (some q9)) :: [(0, va_rf (some h0)), (1, .int x1), (2, .int x2), (3, .int x3)]) dL_call_18 (by decide) rfl ?_
          refine z_iconst (v := 3) S dL_call_20 (by decide) ?_
          exact zx_iret S hr hlk dL_call_21 (Nat.le_of_ble_eq_true rfl) (Nat.le_of_ble_eq_true rfl) hp
        · exact absurd hc List.not_mem_nil
theorem me_L_call (l : Launch) (D : va_G) (cy : Nat → ClassId) (A : Nat → Prop) (t0 mi w h0 : Nat) (post : Int32 → z_WS → Prop) (u : z_St) (v : Int64) (x1 : Int32) (x2 : Int32) (x3 : Int32) (hl : l.stackTraces = false) (hkh0 : z_kd h0 u = 8 ∧ 8 ≠ 0) {postr : z_St → Prop} {px : String → z_St → Prop} (hk : ∀ u', postr u' → post 0 (u', v)) (hx : ∀ E u', px E u' → ∃ c0, (E, c0) ∈ ([("java/util/NoSuchElementException", 1), ("java/lang/IllegalArgumentException", 2), ("java/lang/IllegalStateException", 3)] : List (String × Int32)) ∧ post c0 (u', v)) (hw : w_X6_call postr px t0 mi h0 u x1 x2 x3) : zx_Mi l yL_call (Cond.codeWith yL_call cL_call 5 (some .int) [(0, 7, 10, 21), (0, 7, 14, 13), (0, 7, 18, 15)] :: z_T) rm_L_call [va_rf (some h0), .int x1, .int x2, .int x3] (z_EW D cy A t0 mi w) (z_hW D cy A t0 w) (u, v) post (fun _ _ => False) 3 18 (z_wA A w) :=
  zw_met (by decide) (Nat.le_of_ble_eq_true rfl) (fun p e s m args below meth c S hlk hr htb hE => mb_L_call S hlk hr htb hE hl u v x1 x2 x3 hkh0 hk hx hw)
abbrev rm_L_sample : Room := { frames := 9, cells := 2, slots := 12, locals := 184 }
set_option maxRecDepth 20000 in
theorem mb_L_sample {p : Program} {l : Launch} {e : Env} {s : State} {m : MethodId} {args : Array Value} {below : List Frame} {meth : Method} {c : Code} {D : va_G} {cy : Nat → ClassId} {A : Nat → Prop} {t0 mi w h0 : Nat} (S : CallFix p m c cL_sample 5 s args z_T "MessageBankLaw") (hlk : meth.locks = false) (hr : meth.sig.returnType = some .int) (htb : c.exceptionTable.toList = tableOf [(0, 17, 20, 13), (0, 17, 24, 15)]) (hE : z_EW D cy A t0 mi w s) (hl : l.stackTraces = false) {post : Int32 → z_WS → Prop} (u : z_St) (v : Int64) (x1 : Int32) (x2 : Int32) (hkh0 : z_kd h0 u = 8 ∧ 8 ≠ 0) {postr : Int32 → z_St → Prop} {px : String → z_St → Prop} (hk : ∀ r u', postr r u' → post 0 (u', if r = 0 then 0 else 1)) (hx : ∀ E u', px E u' → ∃ c0, (E, c0) ∈ ([("java/lang/IllegalArgumentException", 1), ("java/lang/IllegalStateException", 2)] : List (String × Int32)) ∧ post c0 (u', v)) (hw : w_X6_sample postr px t0 mi h0 u x1 x2) : z_V (z_wA A w) (z_hW D cy A t0 w) p l e rm_L_sample s m args below meth c 5 (vx_MQ below (va_Qi post (fun (u' : z_WS) t => z_hW D cy A t0 w u' t.heap) (z_wA A w)) (zx_X (fun _ _ => False) (z_hW D cy A t0 w) (z_wA A w)) args s 2 12 (z_wA A w)) 0 0 (u, v) 0 [(0, va_rf (some h0)), (1, .int x1), (2, .int x2), (3, va_rf (some w))] [] := by
  refine z_aload_n (x := some w) S 3 dL_sample_0 rfl rfl ?_
  refine z_iconst (v := 0) S dL_sample_1 (by decide) ?_
  refine z_aload_n (x := some h0) S 0 dL_sample_2 rfl rfl ?_
  refine z_iload_n S 1 dL_sample_3 rfl rfl ?_
  refine z_iload_n S 2 dL_sample_4 rfl rfl ?_
  refine zw_callVi (As := [.int x1, .int x2]) (st := [.int 0, va_rf (some w)]) S hE hkh0 rfl rfl (me_X6_sample l D cy A t0 mi _ _ u h0 x1 x2 hkh0 hl hw) gW_23 hdW_X6_sample ⟨Nat.le_of_ble_eq_true rfl, Nat.le_of_ble_eq_true rfl⟩ rfl rfl rfl (Nat.le_trans (z_s1 (z_sq z_s0)) (by decide)) dL_sample_5 ⟨(Nat.le_of_ble_eq_true rfl), (Nat.le_of_ble_eq_true rfl)⟩ rfl (fun r u' hp hm => ?_) (fun E u' hp hm => ?_)
  · have hp := hk r u' hp
    refine z_if_eq (tgt := 15) S dL_sample_8 (by decide) (fun z => ?_) (fun z => ?_)
    · rw [if_pos z] at hp
      refine z_lconst (v := 0) S dL_sample_15 (by decide) ?_
      refine zw_last S hE dL_sample_16 ?_
      refine z_goto (tgt := 28) S dL_sample_17 (by decide) ?_
      refine z_iconst (v := 0) S dL_sample_28 (by decide) ?_
      exact zx_iret S hr hlk dL_sample_29 (Nat.le_of_ble_eq_true rfl) (Nat.le_of_ble_eq_true rfl) hp
    · rw [if_neg z] at hp
      refine z_lconst (v := 1) S dL_sample_11 (by decide) ?_
      refine z_goto (tgt := 16) S dL_sample_12 (by decide) ?_
      refine zw_last S hE dL_sample_16 ?_
      refine z_goto (tgt := 28) S dL_sample_17 (by decide) ?_
      refine z_iconst (v := 0) S dL_sample_28 (by decide) ?_
      exact zx_iret S hr hlk dL_sample_29 (Nat.le_of_ble_eq_true rfl) (Nat.le_of_ble_eq_true rfl) hp
  · obtain ⟨c0, hc, hp⟩ := hx E u' hp
    have hcast := zx_Bof hE.1.2.2.2.2.2.2.2.2.1 args
    rcases List.mem_cons.mp hc with hc | hc
    · obtain ⟨rfl, rfl⟩ := Prod.mk.inj hc
      refine ⟨[], ⟨0, 17, 20, 13⟩, [⟨0, 17, 24, 15⟩], "java/lang/IllegalArgumentException", htb, fun _ h => absurd h List.not_mem_nil, rfl, by decide, S.2.2.2.2 _ wl_285, (hcast _ (by simp [zx_B])), fun q9 => ?_⟩
      refine z_astore (x := some q9) S ((4, va_rf (some q9)) :: [(0, va_rf (some h0)), (1, .int x1), (2, .int x2), (3, va_rf (some w))]) dL_sample_20 (by decide) rfl ?_
      refine z_iconst (v := 1) S dL_sample_22 (by decide) ?_
      exact zx_iret S hr hlk dL_sample_23 (Nat.le_of_ble_eq_true rfl) (Nat.le_of_ble_eq_true rfl) hp
    · rcases List.mem_cons.mp hc with hc | hc
      · obtain ⟨rfl, rfl⟩ := Prod.mk.inj hc
        refine ⟨[⟨0, 17, 20, 13⟩], ⟨0, 17, 24, 15⟩, [], "java/lang/IllegalStateException", htb, List.forall_mem_cons.mpr ⟨⟨by decide, "java/lang/IllegalArgumentException", S.2.2.2.2 _ wl_285, hE.2.2.1⟩, fun _ h => absurd h List.not_mem_nil⟩, rfl, by decide, S.2.2.2.2 _ wl_286, (hcast _ (by simp [zx_B])), fun q9 => ?_⟩
        refine z_astore (x := some q9) S ((4, va_rf (some q9)) :: [(0, va_rf (some h0)), (1, .int x1), (2, .int x2), (3, va_rf (some w))]) dL_sample_24 (by decide) rfl ?_
        refine z_iconst (v := 2) S dL_sample_26 (by decide) ?_
        exact zx_iret S hr hlk dL_sample_27 (Nat.le_of_ble_eq_true rfl) (Nat.le_of_ble_eq_true rfl) hp
      · exact absurd hc List.not_mem_nil
theorem me_L_sample (l : Launch) (D : va_G) (cy : Nat → ClassId) (A : Nat → Prop) (t0 mi w h0 : Nat) (post : Int32 → z_WS → Prop) (u : z_St) (v : Int64) (x1 : Int32) (x2 : Int32) (hl : l.stackTraces = false) (hkh0 : z_kd h0 u = 8 ∧ 8 ≠ 0) {postr : Int32 → z_St → Prop} {px : String → z_St → Prop} (hk : ∀ r u', postr r u' → post 0 (u', if r = 0 then 0 else 1)) (hx : ∀ E u', px E u' → ∃ c0, (E, c0) ∈ ([("java/lang/IllegalArgumentException", 1), ("java/lang/IllegalStateException", 2)] : List (String × Int32)) ∧ post c0 (u', v)) (hw : w_X6_sample postr px t0 mi h0 u x1 x2) : zx_Mi l yL_sample (Cond.codeWith yL_sample cL_sample 5 (some .int) [(0, 17, 20, 13), (0, 17, 24, 15)] :: z_T) rm_L_sample [va_rf (some h0), .int x1, .int x2, va_rf (some w)] (z_EW D cy A t0 mi w) (z_hW D cy A t0 w) (u, v) post (fun _ _ => False) 2 12 (z_wA A w) :=
  zw_met (by decide) (Nat.le_of_ble_eq_true rfl) (fun p e s m args below meth c S hlk hr htb hE => mb_L_sample S hlk hr htb hE hl u v x1 x2 hkh0 hk hx hw)
abbrev rm_L_hang : Room := { frames := 9, cells := 4, slots := 41, locals := 218 }
set_option maxRecDepth 20000 in
theorem mb_L_hang {p : Program} {l : Launch} {e : Env} {s : State} {m : MethodId} {args : Array Value} {below : List Frame} {meth : Method} {c : Code} {D : va_G} {cy : Nat → ClassId} {A : Nat → Prop} {t0 mi w h0 : Nat} (S : CallFix p m c cL_hang 4 s args z_T "MessageBankLaw") (hlk : meth.locks = false) (hr : meth.sig.returnType = some .int) (htb : c.exceptionTable.toList = tableOf [(0, 9, 12, 13), (0, 9, 15, 15)]) (hE : z_EW D cy A t0 mi w s) (hl : l.stackTraces = false) {post : Int32 → z_WS → Prop} (u : z_St) (v : Int64) (x1 : Int32) (hkh0 : z_kd h0 u = 8 ∧ 8 ≠ 0) {postr : Int32 → z_St → Prop} {px : String → z_St → Prop} (hk : ∀ r u', postr r u' → post 0 (u', r.toInt64)) (hx : ∀ E u', px E u' → ∃ c0, (E, c0) ∈ ([("java/lang/IllegalArgumentException", 1), ("java/lang/IllegalStateException", 2)] : List (String × Int32)) ∧ post c0 (u', v)) (hw : w_X6_hang postr px t0 mi h0 u x1) : z_V (z_wA A w) (z_hW D cy A t0 w) p l e rm_L_hang s m args below meth c 4 (vx_MQ below (va_Qi post (fun (u' : z_WS) t => z_hW D cy A t0 w u' t.heap) (z_wA A w)) (zx_X (fun _ _ => False) (z_hW D cy A t0 w) (z_wA A w)) args s 4 41 (z_wA A w)) 0 0 (u, v) 0 [(0, va_rf (some h0)), (1, .int x1), (2, va_rf (some w))] [] := by
  refine z_aload_n (x := some w) S 2 dL_hang_0 rfl rfl ?_
  refine z_iconst (v := 0) S dL_hang_1 (by decide) ?_
  refine z_aload_n (x := some h0) S 0 dL_hang_2 rfl rfl ?_
  refine z_iload_n S 1 dL_hang_3 rfl rfl ?_
  refine zw_callVi (As := [.int x1]) (st := [.int 0, va_rf (some w)]) S hE hkh0 rfl rfl (me_X6_hang l D cy A t0 mi _ _ u h0 x1 hkh0 hl hw) gW_27 hdW_X6_hang ⟨Nat.le_of_ble_eq_true rfl, Nat.le_of_ble_eq_true rfl⟩ rfl rfl rfl (Nat.le_trans (z_s1 (z_sq z_s0)) (by decide)) dL_hang_4 ⟨(Nat.le_of_ble_eq_true rfl), (Nat.le_of_ble_eq_true rfl)⟩ rfl (fun r u' hp hm => ?_) (fun E u' hp hm => ?_)
  · have hp := hk r u' hp
    refine z_i2l S dL_hang_7 ?_
    refine zw_last S hE dL_hang_8 ?_
    refine z_goto (tgt := 18) S dL_hang_9 (by decide) ?_
    refine z_iconst (v := 0) S dL_hang_18 (by decide) ?_
    exact zx_iret S hr hlk dL_hang_19 (Nat.le_of_ble_eq_true rfl) (Nat.le_of_ble_eq_true rfl) hp
  · obtain ⟨c0, hc, hp⟩ := hx E u' hp
    have hcast := zx_Bof hE.1.2.2.2.2.2.2.2.2.1 args
    rcases List.mem_cons.mp hc with hc | hc
    · obtain ⟨rfl, rfl⟩ := Prod.mk.inj hc
      refine ⟨[], ⟨0, 9, 12, 13⟩, [⟨0, 9, 15, 15⟩], "java/lang/IllegalArgumentException", htb, fun _ h => absurd h List.not_mem_nil, rfl, by decide, S.2.2.2.2 _ wl_285, (hcast _ (by simp [zx_B])), fun q9 => ?_⟩
      refine z_astore_n (x := some q9) S ((3, va_rf (some q9)) :: [(0, va_rf (some h0)), (1, .int x1), (2, va_rf (some w))]) dL_hang_12 rfl (by decide) rfl ?_
      refine z_iconst (v := 1) S dL_hang_13 (by decide) ?_
      exact zx_iret S hr hlk dL_hang_14 (Nat.le_of_ble_eq_true rfl) (Nat.le_of_ble_eq_true rfl) hp
    · rcases List.mem_cons.mp hc with hc | hc
      · obtain ⟨rfl, rfl⟩ := Prod.mk.inj hc
        refine ⟨[⟨0, 9, 12, 13⟩], ⟨0, 9, 15, 15⟩, [], "java/lang/IllegalStateException", htb, List.forall_mem_cons.mpr ⟨⟨by decide, "java/lang/IllegalArgumentException", S.2.2.2.2 _ wl_285, hE.2.2.1⟩, fun _ h => absurd h List.not_mem_nil⟩, rfl, by decide, S.2.2.2.2 _ wl_286, (hcast _ (by simp [zx_B])), fun q9 => ?_⟩
        refine z_astore_n (x := some q9) S ((3, va_rf (some q9)) :: [(0, va_rf (some h0)), (1, .int x1), (2, va_rf (some w))]) dL_hang_15 rfl (by decide) rfl ?_
        refine z_iconst (v := 2) S dL_hang_16 (by decide) ?_
        exact zx_iret S hr hlk dL_hang_17 (Nat.le_of_ble_eq_true rfl) (Nat.le_of_ble_eq_true rfl) hp
      · exact absurd hc List.not_mem_nil
theorem me_L_hang (l : Launch) (D : va_G) (cy : Nat → ClassId) (A : Nat → Prop) (t0 mi w h0 : Nat) (post : Int32 → z_WS → Prop) (u : z_St) (v : Int64) (x1 : Int32) (hl : l.stackTraces = false) (hkh0 : z_kd h0 u = 8 ∧ 8 ≠ 0) {postr : Int32 → z_St → Prop} {px : String → z_St → Prop} (hk : ∀ r u', postr r u' → post 0 (u', r.toInt64)) (hx : ∀ E u', px E u' → ∃ c0, (E, c0) ∈ ([("java/lang/IllegalArgumentException", 1), ("java/lang/IllegalStateException", 2)] : List (String × Int32)) ∧ post c0 (u', v)) (hw : w_X6_hang postr px t0 mi h0 u x1) : zx_Mi l yL_hang (Cond.codeWith yL_hang cL_hang 4 (some .int) [(0, 9, 12, 13), (0, 9, 15, 15)] :: z_T) rm_L_hang [va_rf (some h0), .int x1, va_rf (some w)] (z_EW D cy A t0 mi w) (z_hW D cy A t0 w) (u, v) post (fun _ _ => False) 4 41 (z_wA A w) :=
  zw_met (by decide) (Nat.le_of_ble_eq_true rfl) (fun p e s m args below meth c S hlk hr htb hE => mb_L_hang S hlk hr htb hE hl u v x1 hkh0 hk hx hw)
abbrev rm_L_next : Room := { frames := 8, cells := 3, slots := 18, locals := 135 }
set_option maxRecDepth 20000 in
theorem mb_L_next {p : Program} {l : Launch} {e : Env} {s : State} {m : MethodId} {args : Array Value} {below : List Frame} {meth : Method} {c : Code} {D : va_G} {cy : Nat → ClassId} {A : Nat → Prop} {t0 mi w h0 : Nat} (S : CallFix p m c cL_next 6 s args z_T "MessageBankLaw") (hlk : meth.locks = false) (hr : meth.sig.returnType = some .int) (htb : c.exceptionTable.toList = tableOf [(0, 12, 15, 21), (0, 12, 19, 13), (0, 12, 23, 34)]) (hE : z_EW D cy A t0 mi w s) (hl : l.stackTraces = false) {post : Int32 → z_WS → Prop} (u : z_St) (v : Int64) (x1 : Int32) (x2 : Int32) (x3 : Int32) (hkh0 : z_kd h0 u = 8 ∧ 8 ≠ 0) {postr : Int32 → z_St → Prop} {px : String → z_St → Prop} (hk : ∀ r u', postr r u' → post 0 (u', r.toInt64)) (hx : ∀ E u', px E u' → ∃ c0, (E, c0) ∈ ([("java/util/NoSuchElementException", 1), ("java/lang/IllegalArgumentException", 2), ("java/lang/IndexOutOfBoundsException", 3)] : List (String × Int32)) ∧ post c0 (u', v)) (hw : w_X6_next postr px t0 mi h0 u x1 x2 x3) : z_V (z_wA A w) (z_hW D cy A t0 w) p l e rm_L_next s m args below meth c 6 (vx_MQ below (va_Qi post (fun (u' : z_WS) t => z_hW D cy A t0 w u' t.heap) (z_wA A w)) (zx_X (fun _ _ => False) (z_hW D cy A t0 w) (z_wA A w)) args s 3 18 (z_wA A w)) 0 0 (u, v) 0 [(0, va_rf (some h0)), (1, .int x1), (2, .int x2), (3, .int x3), (4, va_rf (some w))] [] := by
  refine z_aload (x := some w) S 4 dL_next_0 rfl ?_
  refine z_iconst (v := 0) S dL_next_2 (by decide) ?_
  refine z_aload_n (x := some h0) S 0 dL_next_3 rfl rfl ?_
  refine z_iload_n S 1 dL_next_4 rfl rfl ?_
  refine z_iload_n S 2 dL_next_5 rfl rfl ?_
  refine z_iload_n S 3 dL_next_6 rfl rfl ?_
  refine zw_callVi (As := [.int x1, .int x2, .int x3]) (st := [.int 0, va_rf (some w)]) S hE hkh0 rfl rfl (me_X6_next l D cy A t0 mi _ _ u h0 x1 x2 x3 hkh0 hl hw) gW_30 hdW_X6_next ⟨Nat.le_of_ble_eq_true rfl, Nat.le_of_ble_eq_true rfl⟩ rfl rfl rfl (Nat.le_trans (z_s1 (z_sq z_s0)) (by decide)) dL_next_7 ⟨(Nat.le_of_ble_eq_true rfl), (Nat.le_of_ble_eq_true rfl)⟩ rfl (fun r u' hp hm => ?_) (fun E u' hp hm => ?_)
  · have hp := hk r u' hp
    refine z_i2l S dL_next_10 ?_
    refine zw_last S hE dL_next_11 ?_
    refine z_goto (tgt := 27) S dL_next_12 (by decide) ?_
    refine z_iconst (v := 0) S dL_next_27 (by decide) ?_
    exact zx_iret S hr hlk dL_next_28 (Nat.le_of_ble_eq_true rfl) (Nat.le_of_ble_eq_true rfl) hp
  · obtain ⟨c0, hc, hp⟩ := hx E u' hp
    have hcast := zx_Bof hE.1.2.2.2.2.2.2.2.2.1 args
    rcases List.mem_cons.mp hc with hc | hc
    · obtain ⟨rfl, rfl⟩ := Prod.mk.inj hc
      refine ⟨[], ⟨0, 12, 15, 21⟩, [⟨0, 12, 19, 13⟩, ⟨0, 12, 23, 34⟩], "java/util/NoSuchElementException", htb, fun _ h => absurd h List.not_mem_nil, rfl, by decide, S.2.2.2.2 _ wl_379, (hcast _ (by simp [zx_B])), fun q9 => ?_⟩
      refine z_astore (x := some q9) S ((5, va_rf (some q9)) :: [(0, va_rf (some h0)), (1, .int x1), (2, .int x2), (3, .int x3), (4, va_rf (some w))]) dL_next_15 (by decide) rfl ?_
      refine z_iconst (v := 1) S dL_next_17 (by decide) ?_
      exact zx_iret S hr hlk dL_next_18 (Nat.le_of_ble_eq_true rfl) (Nat.le_of_ble_eq_true rfl) hp
    · rcases List.mem_cons.mp hc with hc | hc
      · obtain ⟨rfl, rfl⟩ := Prod.mk.inj hc
        refine ⟨[⟨0, 12, 15, 21⟩], ⟨0, 12, 19, 13⟩, [⟨0, 12, 23, 34⟩], "java/lang/IllegalArgumentException", htb, List.forall_mem_cons.mpr ⟨⟨by decide, "java/util/NoSuchElementException", S.2.2.2.2 _ wl_379, hE.2.2.2.1⟩, fun _ h => absurd h List.not_mem_nil⟩, rfl, by decide, S.2.2.2.2 _ wl_285, (hcast _ (by simp [zx_B])), fun q9 => ?_⟩
        refine z_astore (x := some q9) S ((5, va_rf (some q9)) :: [(0, va_rf (some h0)), (1, .int x1), (2, .int x2), (3, .int x3), (4, va_rf (some w))]) dL_next_19 (by decide) rfl ?_
        refine z_iconst (v := 2) S dL_next_21 (by decide) ?_
        exact zx_iret S hr hlk dL_next_22 (Nat.le_of_ble_eq_true rfl) (Nat.le_of_ble_eq_true rfl) hp
      · rcases List.mem_cons.mp hc with hc | hc
        · obtain ⟨rfl, rfl⟩ := Prod.mk.inj hc
          refine ⟨[⟨0, 12, 15, 21⟩, ⟨0, 12, 19, 13⟩], ⟨0, 12, 23, 34⟩, [], "java/lang/IndexOutOfBoundsException", htb, List.forall_mem_cons.mpr ⟨⟨by decide, "java/util/NoSuchElementException", S.2.2.2.2 _ wl_379, hE.2.2.2.2.2.1⟩, List.forall_mem_cons.mpr ⟨⟨by decide, "java/lang/IllegalArgumentException", S.2.2.2.2 _ wl_285, hE.2.2.2.2.2.2⟩, fun _ h => absurd h List.not_mem_nil⟩⟩, rfl, by decide, S.2.2.2.2 _ wl_662, (hcast _ (by simp [zx_B])), fun q9 => ?_⟩
          refine z_astore (x := some q9) S ((5, va_rf (some q9)) :: [(0, va_rf (some h0)), (1, .int x1), (2, .int x2), (3, .int x3), (4, va_rf (some w))]) dL_next_23 (by decide) rfl ?_
          refine z_iconst (v := 3) S dL_next_25 (by decide) ?_
          exact zx_iret S hr hlk dL_next_26 (Nat.le_of_ble_eq_true rfl) (Nat.le_of_ble_eq_true rfl) hp
        · exact absurd hc List.not_mem_nil
theorem me_L_next (l : Launch) (D : va_G) (cy : Nat → ClassId) (A : Nat → Prop) (t0 mi w h0 : Nat) (post : Int32 → z_WS → Prop) (u : z_St) (v : Int64) (x1 : Int32) (x2 : Int32) (x3 : Int32) (hl : l.stackTraces = false) (hkh0 : z_kd h0 u = 8 ∧ 8 ≠ 0) {postr : Int32 → z_St → Prop} {px : String → z_St → Prop} (hk : ∀ r u', postr r u' → post 0 (u', r.toInt64)) (hx : ∀ E u', px E u' → ∃ c0, (E, c0) ∈ ([("java/util/NoSuchElementException", 1), ("java/lang/IllegalArgumentException", 2), ("java/lang/IndexOutOfBoundsException", 3)] : List (String × Int32)) ∧ post c0 (u', v)) (hw : w_X6_next postr px t0 mi h0 u x1 x2 x3) : zx_Mi l yL_next (Cond.codeWith yL_next cL_next 6 (some .int) [(0, 12, 15, 21), (0, 12, 19, 13), (0, 12, 23, 34)] :: z_T) rm_L_next [va_rf (some h0), .int x1, .int x2, .int x3, va_rf (some w)] (z_EW D cy A t0 mi w) (z_hW D cy A t0 w) (u, v) post (fun _ _ => False) 3 18 (z_wA A w) :=
  zw_met (by decide) (Nat.le_of_ble_eq_true rfl) (fun p e s m args below meth c S hlk hr htb hE => mb_L_next S hlk hr htb hE hl u v x1 x2 x3 hkh0 hk hx hw)
abbrev rm_L_mark : Room := { frames := 8, cells := 2, slots := 12, locals := 136 }
set_option maxRecDepth 20000 in
theorem mb_L_mark {p : Program} {l : Launch} {e : Env} {s : State} {m : MethodId} {args : Array Value} {below : List Frame} {meth : Method} {c : Code} {D : va_G} {cy : Nat → ClassId} {A : Nat → Prop} {t0 mi w h0 : Nat} (S : CallFix p m c cL_mark 5 s args z_T "MessageBankLaw") (hlk : meth.locks = false) (hr : meth.sig.returnType = some .int) (htb : c.exceptionTable.toList = tableOf [(0, 10, 13, 21), (0, 10, 17, 13)]) (hE : z_EW D cy A t0 mi w s) (hl : l.stackTraces = false) {post : Int32 → z_WS → Prop} (u : z_St) (v : Int64) (x1 : Int32) (x2 : Int32) (hkh0 : z_kd h0 u = 8 ∧ 8 ≠ 0) {postr : Int32 → z_St → Prop} {px : String → z_St → Prop} (hk : ∀ r u', postr r u' → post 0 (u', r.toInt64)) (hx : ∀ E u', px E u' → ∃ c0, (E, c0) ∈ ([("java/util/NoSuchElementException", 1), ("java/lang/IllegalArgumentException", 2)] : List (String × Int32)) ∧ post c0 (u', v)) (hw : w_X6_mark postr px t0 mi h0 u x1 x2) : z_V (z_wA A w) (z_hW D cy A t0 w) p l e rm_L_mark s m args below meth c 5 (vx_MQ below (va_Qi post (fun (u' : z_WS) t => z_hW D cy A t0 w u' t.heap) (z_wA A w)) (zx_X (fun _ _ => False) (z_hW D cy A t0 w) (z_wA A w)) args s 2 12 (z_wA A w)) 0 0 (u, v) 0 [(0, va_rf (some h0)), (1, .int x1), (2, .int x2), (3, va_rf (some w))] [] := by
  refine z_aload_n (x := some w) S 3 dL_mark_0 rfl rfl ?_
  refine z_iconst (v := 0) S dL_mark_1 (by decide) ?_
  refine z_aload_n (x := some h0) S 0 dL_mark_2 rfl rfl ?_
  refine z_iload_n S 1 dL_mark_3 rfl rfl ?_
  refine z_iload_n S 2 dL_mark_4 rfl rfl ?_
  refine zw_callVi (As := [.int x1, .int x2]) (st := [.int 0, va_rf (some w)]) S hE hkh0 rfl rfl (me_X6_mark l D cy A t0 mi _ _ u h0 x1 x2 hkh0 hl hw) gW_36 hdW_X6_mark ⟨Nat.le_of_ble_eq_true rfl, Nat.le_of_ble_eq_true rfl⟩ rfl rfl rfl (Nat.le_trans (z_s1 (z_sq z_s0)) (by decide)) dL_mark_5 ⟨(Nat.le_of_ble_eq_true rfl), (Nat.le_of_ble_eq_true rfl)⟩ rfl (fun r u' hp hm => ?_) (fun E u' hp hm => ?_)
  · have hp := hk r u' hp
    refine z_i2l S dL_mark_8 ?_
    refine zw_last S hE dL_mark_9 ?_
    refine z_goto (tgt := 21) S dL_mark_10 (by decide) ?_
    refine z_iconst (v := 0) S dL_mark_21 (by decide) ?_
    exact zx_iret S hr hlk dL_mark_22 (Nat.le_of_ble_eq_true rfl) (Nat.le_of_ble_eq_true rfl) hp
  · obtain ⟨c0, hc, hp⟩ := hx E u' hp
    have hcast := zx_Bof hE.1.2.2.2.2.2.2.2.2.1 args
    rcases List.mem_cons.mp hc with hc | hc
    · obtain ⟨rfl, rfl⟩ := Prod.mk.inj hc
      refine ⟨[], ⟨0, 10, 13, 21⟩, [⟨0, 10, 17, 13⟩], "java/util/NoSuchElementException", htb, fun _ h => absurd h List.not_mem_nil, rfl, by decide, S.2.2.2.2 _ wl_379, (hcast _ (by simp [zx_B])), fun q9 => ?_⟩
      refine z_astore (x := some q9) S ((4, va_rf (some q9)) :: [(0, va_rf (some h0)), (1, .int x1), (2, .int x2), (3, va_rf (some w))]) dL_mark_13 (by decide) rfl ?_
      refine z_iconst (v := 1) S dL_mark_15 (by decide) ?_
      exact zx_iret S hr hlk dL_mark_16 (Nat.le_of_ble_eq_true rfl) (Nat.le_of_ble_eq_true rfl) hp
    · rcases List.mem_cons.mp hc with hc | hc
      · obtain ⟨rfl, rfl⟩ := Prod.mk.inj hc
        refine ⟨[⟨0, 10, 13, 21⟩], ⟨0, 10, 17, 13⟩, [], "java/lang/IllegalArgumentException", htb, List.forall_mem_cons.mpr ⟨⟨by decide, "java/util/NoSuchElementException", S.2.2.2.2 _ wl_379, hE.2.2.2.1⟩, fun _ h => absurd h List.not_mem_nil⟩, rfl, by decide, S.2.2.2.2 _ wl_285, (hcast _ (by simp [zx_B])), fun q9 => ?_⟩
        refine z_astore (x := some q9) S ((4, va_rf (some q9)) :: [(0, va_rf (some h0)), (1, .int x1), (2, .int x2), (3, va_rf (some w))]) dL_mark_17 (by decide) rfl ?_
        refine z_iconst (v := 2) S dL_mark_19 (by decide) ?_
        exact zx_iret S hr hlk dL_mark_20 (Nat.le_of_ble_eq_true rfl) (Nat.le_of_ble_eq_true rfl) hp
      · exact absurd hc List.not_mem_nil
theorem me_L_mark (l : Launch) (D : va_G) (cy : Nat → ClassId) (A : Nat → Prop) (t0 mi w h0 : Nat) (post : Int32 → z_WS → Prop) (u : z_St) (v : Int64) (x1 : Int32) (x2 : Int32) (hl : l.stackTraces = false) (hkh0 : z_kd h0 u = 8 ∧ 8 ≠ 0) {postr : Int32 → z_St → Prop} {px : String → z_St → Prop} (hk : ∀ r u', postr r u' → post 0 (u', r.toInt64)) (hx : ∀ E u', px E u' → ∃ c0, (E, c0) ∈ ([("java/util/NoSuchElementException", 1), ("java/lang/IllegalArgumentException", 2)] : List (String × Int32)) ∧ post c0 (u', v)) (hw : w_X6_mark postr px t0 mi h0 u x1 x2) : zx_Mi l yL_mark (Cond.codeWith yL_mark cL_mark 5 (some .int) [(0, 10, 13, 21), (0, 10, 17, 13)] :: z_T) rm_L_mark [va_rf (some h0), .int x1, .int x2, va_rf (some w)] (z_EW D cy A t0 mi w) (z_hW D cy A t0 w) (u, v) post (fun _ _ => False) 2 12 (z_wA A w) :=
  zw_met (by decide) (Nat.le_of_ble_eq_true rfl) (fun p e s m args below meth c S hlk hr htb hE => mb_L_mark S hlk hr htb hE hl u v x1 x2 hkh0 hk hx hw)
abbrev rm_L_erase : Room := { frames := 8, cells := 1, slots := 6, locals := 135 }
set_option maxRecDepth 20000 in
theorem mb_L_erase {p : Program} {l : Launch} {e : Env} {s : State} {m : MethodId} {args : Array Value} {below : List Frame} {meth : Method} {c : Code} {D : va_G} {cy : Nat → ClassId} {A : Nat → Prop} {t0 mi w h0 : Nat} (S : CallFix p m c cL_erase 4 s args z_T "MessageBankLaw") (hlk : meth.locks = false) (hr : meth.sig.returnType = some .int) (htb : c.exceptionTable.toList = tableOf [(0, 9, 12, 21)]) (hE : z_EW D cy A t0 mi w s) (hl : l.stackTraces = false) {post : Int32 → z_WS → Prop} (u : z_St) (v : Int64) (x1 : Int32) (hkh0 : z_kd h0 u = 8 ∧ 8 ≠ 0) {postr : Int32 → z_St → Prop} {px : String → z_St → Prop} (hk : ∀ r u', postr r u' → post 0 (u', r.toInt64)) (hx : ∀ E u', px E u' → ∃ c0, (E, c0) ∈ ([("java/util/NoSuchElementException", 1)] : List (String × Int32)) ∧ post c0 (u', v)) (hw : w_X6_erase postr px t0 mi h0 u x1) : z_V (z_wA A w) (z_hW D cy A t0 w) p l e rm_L_erase s m args below meth c 4 (vx_MQ below (va_Qi post (fun (u' : z_WS) t => z_hW D cy A t0 w u' t.heap) (z_wA A w)) (zx_X (fun _ _ => False) (z_hW D cy A t0 w) (z_wA A w)) args s 1 6 (z_wA A w)) 0 0 (u, v) 0 [(0, va_rf (some h0)), (1, .int x1), (2, va_rf (some w))] [] := by
  refine z_aload_n (x := some w) S 2 dL_erase_0 rfl rfl ?_
  refine z_iconst (v := 0) S dL_erase_1 (by decide) ?_
  refine z_aload_n (x := some h0) S 0 dL_erase_2 rfl rfl ?_
  refine z_iload_n S 1 dL_erase_3 rfl rfl ?_
  refine zw_callVi (As := [.int x1]) (st := [.int 0, va_rf (some w)]) S hE hkh0 rfl rfl (me_X6_erase l D cy A t0 mi _ _ u h0 x1 hkh0 hl hw) gW_40 hdW_X6_erase ⟨Nat.le_of_ble_eq_true rfl, Nat.le_of_ble_eq_true rfl⟩ rfl rfl rfl (Nat.le_trans (z_s1 (z_sq z_s0)) (by decide)) dL_erase_4 ⟨(Nat.le_of_ble_eq_true rfl), (Nat.le_of_ble_eq_true rfl)⟩ rfl (fun r u' hp hm => ?_) (fun E u' hp hm => ?_)
  · have hp := hk r u' hp
    refine z_i2l S dL_erase_7 ?_
    refine zw_last S hE dL_erase_8 ?_
    refine z_goto (tgt := 15) S dL_erase_9 (by decide) ?_
    refine z_iconst (v := 0) S dL_erase_15 (by decide) ?_
    exact zx_iret S hr hlk dL_erase_16 (Nat.le_of_ble_eq_true rfl) (Nat.le_of_ble_eq_true rfl) hp
  · obtain ⟨c0, hc, hp⟩ := hx E u' hp
    have hcast := zx_Bof hE.1.2.2.2.2.2.2.2.2.1 args
    rcases List.mem_cons.mp hc with hc | hc
    · obtain ⟨rfl, rfl⟩ := Prod.mk.inj hc
      refine ⟨[], ⟨0, 9, 12, 21⟩, [], "java/util/NoSuchElementException", htb, fun _ h => absurd h List.not_mem_nil, rfl, by decide, S.2.2.2.2 _ wl_379, (hcast _ (by simp [zx_B])), fun q9 => ?_⟩
      refine z_astore_n (x := some q9) S ((3, va_rf (some q9)) :: [(0, va_rf (some h0)), (1, .int x1), (2, va_rf (some w))]) dL_erase_12 rfl (by decide) rfl ?_
      refine z_iconst (v := 1) S dL_erase_13 (by decide) ?_
      exact zx_iret S hr hlk dL_erase_14 (Nat.le_of_ble_eq_true rfl) (Nat.le_of_ble_eq_true rfl) hp
    · exact absurd hc List.not_mem_nil
theorem me_L_erase (l : Launch) (D : va_G) (cy : Nat → ClassId) (A : Nat → Prop) (t0 mi w h0 : Nat) (post : Int32 → z_WS → Prop) (u : z_St) (v : Int64) (x1 : Int32) (hl : l.stackTraces = false) (hkh0 : z_kd h0 u = 8 ∧ 8 ≠ 0) {postr : Int32 → z_St → Prop} {px : String → z_St → Prop} (hk : ∀ r u', postr r u' → post 0 (u', r.toInt64)) (hx : ∀ E u', px E u' → ∃ c0, (E, c0) ∈ ([("java/util/NoSuchElementException", 1)] : List (String × Int32)) ∧ post c0 (u', v)) (hw : w_X6_erase postr px t0 mi h0 u x1) : zx_Mi l yL_erase (Cond.codeWith yL_erase cL_erase 4 (some .int) [(0, 9, 12, 21)] :: z_T) rm_L_erase [va_rf (some h0), .int x1, va_rf (some w)] (z_EW D cy A t0 mi w) (z_hW D cy A t0 w) (u, v) post (fun _ _ => False) 1 6 (z_wA A w) :=
  zw_met (by decide) (Nat.le_of_ble_eq_true rfl) (fun p e s m args below meth c S hlk hr htb hE => mb_L_erase S hlk hr htb hE hl u v x1 hkh0 hk hx hw)
abbrev rm_L_forward : Room := { frames := 9, cells := 4, slots := 41, locals := 220 }
set_option maxRecDepth 20000 in
theorem mb_L_forward {p : Program} {l : Launch} {e : Env} {s : State} {m : MethodId} {args : Array Value} {below : List Frame} {meth : Method} {c : Code} {D : va_G} {cy : Nat → ClassId} {A : Nat → Prop} {t0 mi w h0 : Nat} (S : CallFix p m c cL_forward 5 s args z_T "MessageBankLaw") (hlk : meth.locks = false) (hr : meth.sig.returnType = some .int) (htb : c.exceptionTable.toList = tableOf [(0, 10, 13, 21), (0, 10, 17, 15)]) (hE : z_EW D cy A t0 mi w s) (hl : l.stackTraces = false) {post : Int32 → z_WS → Prop} (u : z_St) (v : Int64) (x1 : Int32) (x2 : Int32) (hkh0 : z_kd h0 u = 8 ∧ 8 ≠ 0) {postr : Int32 → z_St → Prop} {px : String → z_St → Prop} (hk : ∀ r u', postr r u' → post 0 (u', r.toInt64)) (hx : ∀ E u', px E u' → ∃ c0, (E, c0) ∈ ([("java/util/NoSuchElementException", 1), ("java/lang/IllegalStateException", 2)] : List (String × Int32)) ∧ post c0 (u', v)) (hw : w_X6_forward postr px t0 mi h0 u x1 x2) : z_V (z_wA A w) (z_hW D cy A t0 w) p l e rm_L_forward s m args below meth c 5 (vx_MQ below (va_Qi post (fun (u' : z_WS) t => z_hW D cy A t0 w u' t.heap) (z_wA A w)) (zx_X (fun _ _ => False) (z_hW D cy A t0 w) (z_wA A w)) args s 4 41 (z_wA A w)) 0 0 (u, v) 0 [(0, va_rf (some h0)), (1, .int x1), (2, .int x2), (3, va_rf (some w))] [] := by
  refine z_aload_n (x := some w) S 3 dL_forward_0 rfl rfl ?_
  refine z_iconst (v := 0) S dL_forward_1 (by decide) ?_
  refine z_aload_n (x := some h0) S 0 dL_forward_2 rfl rfl ?_
  refine z_iload_n S 1 dL_forward_3 rfl rfl ?_
  refine z_iload_n S 2 dL_forward_4 rfl rfl ?_
  refine zw_callVi (As := [.int x1, .int x2]) (st := [.int 0, va_rf (some w)]) S hE hkh0 rfl rfl (me_X6_forward l D cy A t0 mi _ _ u h0 x1 x2 hkh0 hl hw) gW_43 hdW_X6_forward ⟨Nat.le_of_ble_eq_true rfl, Nat.le_of_ble_eq_true rfl⟩ rfl rfl rfl (Nat.le_trans (z_s1 (z_sq z_s0)) (by decide)) dL_forward_5 ⟨(Nat.le_of_ble_eq_true rfl), (Nat.le_of_ble_eq_true rfl)⟩ rfl (fun r u' hp hm => ?_) (fun E u' hp hm => ?_)
  · have hp := hk r u' hp
    refine z_i2l S dL_forward_8 ?_
    refine zw_last S hE dL_forward_9 ?_
    refine z_goto (tgt := 21) S dL_forward_10 (by decide) ?_
    refine z_iconst (v := 0) S dL_forward_21 (by decide) ?_
    exact zx_iret S hr hlk dL_forward_22 (Nat.le_of_ble_eq_true rfl) (Nat.le_of_ble_eq_true rfl) hp
  · obtain ⟨c0, hc, hp⟩ := hx E u' hp
    have hcast := zx_Bof hE.1.2.2.2.2.2.2.2.2.1 args
    rcases List.mem_cons.mp hc with hc | hc
    · obtain ⟨rfl, rfl⟩ := Prod.mk.inj hc
      refine ⟨[], ⟨0, 10, 13, 21⟩, [⟨0, 10, 17, 15⟩], "java/util/NoSuchElementException", htb, fun _ h => absurd h List.not_mem_nil, rfl, by decide, S.2.2.2.2 _ wl_379, (hcast _ (by simp [zx_B])), fun q9 => ?_⟩
      refine z_astore (x := some q9) S ((4, va_rf (some q9)) :: [(0, va_rf (some h0)), (1, .int x1), (2, .int x2), (3, va_rf (some w))]) dL_forward_13 (by decide) rfl ?_
      refine z_iconst (v := 1) S dL_forward_15 (by decide) ?_
      exact zx_iret S hr hlk dL_forward_16 (Nat.le_of_ble_eq_true rfl) (Nat.le_of_ble_eq_true rfl) hp
    · rcases List.mem_cons.mp hc with hc | hc
      · obtain ⟨rfl, rfl⟩ := Prod.mk.inj hc
        refine ⟨[⟨0, 10, 13, 21⟩], ⟨0, 10, 17, 15⟩, [], "java/lang/IllegalStateException", htb, List.forall_mem_cons.mpr ⟨⟨by decide, "java/util/NoSuchElementException", S.2.2.2.2 _ wl_379, hE.2.2.2.2.1⟩, fun _ h => absurd h List.not_mem_nil⟩, rfl, by decide, S.2.2.2.2 _ wl_286, (hcast _ (by simp [zx_B])), fun q9 => ?_⟩
        refine z_astore (x := some q9) S ((4, va_rf (some q9)) :: [(0, va_rf (some h0)), (1, .int x1), (2, .int x2), (3, va_rf (some w))]) dL_forward_17 (by decide) rfl ?_
        refine z_iconst (v := 2) S dL_forward_19 (by decide) ?_
        exact zx_iret S hr hlk dL_forward_20 (Nat.le_of_ble_eq_true rfl) (Nat.le_of_ble_eq_true rfl) hp
      · exact absurd hc List.not_mem_nil
theorem me_L_forward (l : Launch) (D : va_G) (cy : Nat → ClassId) (A : Nat → Prop) (t0 mi w h0 : Nat) (post : Int32 → z_WS → Prop) (u : z_St) (v : Int64) (x1 : Int32) (x2 : Int32) (hl : l.stackTraces = false) (hkh0 : z_kd h0 u = 8 ∧ 8 ≠ 0) {postr : Int32 → z_St → Prop} {px : String → z_St → Prop} (hk : ∀ r u', postr r u' → post 0 (u', r.toInt64)) (hx : ∀ E u', px E u' → ∃ c0, (E, c0) ∈ ([("java/util/NoSuchElementException", 1), ("java/lang/IllegalStateException", 2)] : List (String × Int32)) ∧ post c0 (u', v)) (hw : w_X6_forward postr px t0 mi h0 u x1 x2) : zx_Mi l yL_forward (Cond.codeWith yL_forward cL_forward 5 (some .int) [(0, 10, 13, 21), (0, 10, 17, 15)] :: z_T) rm_L_forward [va_rf (some h0), .int x1, .int x2, va_rf (some w)] (z_EW D cy A t0 mi w) (z_hW D cy A t0 w) (u, v) post (fun _ _ => False) 4 41 (z_wA A w) :=
  zw_met (by decide) (Nat.le_of_ble_eq_true rfl) (fun p e s m args below meth c S hlk hr htb hE => mb_L_forward S hlk hr htb hE hl u v x1 x2 hkh0 hk hx hw)
abbrev rm_L_duration : Room := { frames := 8, cells := 1, slots := 6, locals := 134 }
set_option maxRecDepth 20000 in
theorem mb_L_duration {p : Program} {l : Launch} {e : Env} {s : State} {m : MethodId} {args : Array Value} {below : List Frame} {meth : Method} {c : Code} {D : va_G} {cy : Nat → ClassId} {A : Nat → Prop} {t0 mi w h0 : Nat} (S : CallFix p m c cL_duration 4 s args z_T "MessageBankLaw") (hlk : meth.locks = false) (hr : meth.sig.returnType = some .int) (htb : c.exceptionTable.toList = tableOf [(0, 9, 12, 21)]) (hE : z_EW D cy A t0 mi w s) (hl : l.stackTraces = false) {post : Int32 → z_WS → Prop} (u : z_St) (v : Int64) (x1 : Int32) (hkh0 : z_kd h0 u = 8 ∧ 8 ≠ 0) {postr : Int32 → z_St → Prop} {px : String → z_St → Prop} (hk : ∀ r u', postr r u' → post 0 (u', r.toInt64)) (hx : ∀ E u', px E u' → ∃ c0, (E, c0) ∈ ([("java/util/NoSuchElementException", 1)] : List (String × Int32)) ∧ post c0 (u', v)) (hw : w_X6_duration postr px t0 mi h0 u x1) : z_V (z_wA A w) (z_hW D cy A t0 w) p l e rm_L_duration s m args below meth c 4 (vx_MQ below (va_Qi post (fun (u' : z_WS) t => z_hW D cy A t0 w u' t.heap) (z_wA A w)) (zx_X (fun _ _ => False) (z_hW D cy A t0 w) (z_wA A w)) args s 1 6 (z_wA A w)) 0 0 (u, v) 0 [(0, va_rf (some h0)), (1, .int x1), (2, va_rf (some w))] [] := by
  refine z_aload_n (x := some w) S 2 dL_duration_0 rfl rfl ?_
  refine z_iconst (v := 0) S dL_duration_1 (by decide) ?_
  refine z_aload_n (x := some h0) S 0 dL_duration_2 rfl rfl ?_
  refine z_iload_n S 1 dL_duration_3 rfl rfl ?_
  refine zw_callVi (As := [.int x1]) (st := [.int 0, va_rf (some w)]) S hE hkh0 rfl rfl (me_X6_duration l D cy A t0 mi _ _ u h0 x1 hkh0 hl hw) gW_46 hdW_X6_duration ⟨Nat.le_of_ble_eq_true rfl, Nat.le_of_ble_eq_true rfl⟩ rfl rfl rfl (Nat.le_trans (z_s1 (z_sq z_s0)) (by decide)) dL_duration_4 ⟨(Nat.le_of_ble_eq_true rfl), (Nat.le_of_ble_eq_true rfl)⟩ rfl (fun r u' hp hm => ?_) (fun E u' hp hm => ?_)
  · have hp := hk r u' hp
    refine z_i2l S dL_duration_7 ?_
    refine zw_last S hE dL_duration_8 ?_
    refine z_goto (tgt := 15) S dL_duration_9 (by decide) ?_
    refine z_iconst (v := 0) S dL_duration_15 (by decide) ?_
    exact zx_iret S hr hlk dL_duration_16 (Nat.le_of_ble_eq_true rfl) (Nat.le_of_ble_eq_true rfl) hp
  · obtain ⟨c0, hc, hp⟩ := hx E u' hp
    have hcast := zx_Bof hE.1.2.2.2.2.2.2.2.2.1 args
    rcases List.mem_cons.mp hc with hc | hc
    · obtain ⟨rfl, rfl⟩ := Prod.mk.inj hc
      refine ⟨[], ⟨0, 9, 12, 21⟩, [], "java/util/NoSuchElementException", htb, fun _ h => absurd h List.not_mem_nil, rfl, by decide, S.2.2.2.2 _ wl_379, (hcast _ (by simp [zx_B])), fun q9 => ?_⟩
      refine z_astore_n (x := some q9) S ((3, va_rf (some q9)) :: [(0, va_rf (some h0)), (1, .int x1), (2, va_rf (some w))]) dL_duration_12 rfl (by decide) rfl ?_
      refine z_iconst (v := 1) S dL_duration_13 (by decide) ?_
      exact zx_iret S hr hlk dL_duration_14 (Nat.le_of_ble_eq_true rfl) (Nat.le_of_ble_eq_true rfl) hp
    · exact absurd hc List.not_mem_nil
theorem me_L_duration (l : Launch) (D : va_G) (cy : Nat → ClassId) (A : Nat → Prop) (t0 mi w h0 : Nat) (post : Int32 → z_WS → Prop) (u : z_St) (v : Int64) (x1 : Int32) (hl : l.stackTraces = false) (hkh0 : z_kd h0 u = 8 ∧ 8 ≠ 0) {postr : Int32 → z_St → Prop} {px : String → z_St → Prop} (hk : ∀ r u', postr r u' → post 0 (u', r.toInt64)) (hx : ∀ E u', px E u' → ∃ c0, (E, c0) ∈ ([("java/util/NoSuchElementException", 1)] : List (String × Int32)) ∧ post c0 (u', v)) (hw : w_X6_duration postr px t0 mi h0 u x1) : zx_Mi l yL_duration (Cond.codeWith yL_duration cL_duration 4 (some .int) [(0, 9, 12, 21)] :: z_T) rm_L_duration [va_rf (some h0), .int x1, va_rf (some w)] (z_EW D cy A t0 mi w) (z_hW D cy A t0 w) (u, v) post (fun _ _ => False) 1 6 (z_wA A w) :=
  zw_met (by decide) (Nat.le_of_ble_eq_true rfl) (fun p e s m args below meth c S hlk hr htb hE => mb_L_duration S hlk hr htb hE hl u v x1 hkh0 hk hx hw)
abbrev rm_L_play : Room := { frames := 8, cells := 2, slots := 12, locals := 136 }
set_option maxRecDepth 20000 in
theorem mb_L_play {p : Program} {l : Launch} {e : Env} {s : State} {m : MethodId} {args : Array Value} {below : List Frame} {meth : Method} {c : Code} {D : va_G} {cy : Nat → ClassId} {A : Nat → Prop} {t0 mi w h0 : Nat} (S : CallFix p m c cL_play 5 s args z_T "MessageBankLaw") (hlk : meth.locks = false) (hr : meth.sig.returnType = some .int) (htb : c.exceptionTable.toList = tableOf [(0, 10, 13, 21), (0, 10, 17, 34)]) (hE : z_EW D cy A t0 mi w s) (hl : l.stackTraces = false) {post : Int32 → z_WS → Prop} (u : z_St) (v : Int64) (x1 : Int32) (x2 : Int32) (hkh0 : z_kd h0 u = 8 ∧ 8 ≠ 0) {postr : Int32 → z_St → Prop} {px : String → z_St → Prop} (hk : ∀ r u', postr r u' → post 0 (u', r.toInt64)) (hx : ∀ E u', px E u' → ∃ c0, (E, c0) ∈ ([("java/util/NoSuchElementException", 1), ("java/lang/IndexOutOfBoundsException", 2)] : List (String × Int32)) ∧ post c0 (u', v)) (hw : w_X6_play postr px t0 mi h0 u x1 x2) : z_V (z_wA A w) (z_hW D cy A t0 w) p l e rm_L_play s m args below meth c 5 (vx_MQ below (va_Qi post (fun (u' : z_WS) t => z_hW D cy A t0 w u' t.heap) (z_wA A w)) (zx_X (fun _ _ => False) (z_hW D cy A t0 w) (z_wA A w)) args s 2 12 (z_wA A w)) 0 0 (u, v) 0 [(0, va_rf (some h0)), (1, .int x1), (2, .int x2), (3, va_rf (some w))] [] := by
  refine z_aload_n (x := some w) S 3 dL_play_0 rfl rfl ?_
  refine z_iconst (v := 0) S dL_play_1 (by decide) ?_
  refine z_aload_n (x := some h0) S 0 dL_play_2 rfl rfl ?_
  refine z_iload_n S 1 dL_play_3 rfl rfl ?_
  refine z_iload_n S 2 dL_play_4 rfl rfl ?_
  refine zw_callVi (As := [.int x1, .int x2]) (st := [.int 0, va_rf (some w)]) S hE hkh0 rfl rfl (me_X6_play l D cy A t0 mi _ _ u h0 x1 x2 hkh0 hl hw) gW_49 hdW_X6_play ⟨Nat.le_of_ble_eq_true rfl, Nat.le_of_ble_eq_true rfl⟩ rfl rfl rfl (Nat.le_trans (z_s1 (z_sq z_s0)) (by decide)) dL_play_5 ⟨(Nat.le_of_ble_eq_true rfl), (Nat.le_of_ble_eq_true rfl)⟩ rfl (fun r u' hp hm => ?_) (fun E u' hp hm => ?_)
  · have hp := hk r u' hp
    refine z_i2l S dL_play_8 ?_
    refine zw_last S hE dL_play_9 ?_
    refine z_goto (tgt := 21) S dL_play_10 (by decide) ?_
    refine z_iconst (v := 0) S dL_play_21 (by decide) ?_
    exact zx_iret S hr hlk dL_play_22 (Nat.le_of_ble_eq_true rfl) (Nat.le_of_ble_eq_true rfl) hp
  · obtain ⟨c0, hc, hp⟩ := hx E u' hp
    have hcast := zx_Bof hE.1.2.2.2.2.2.2.2.2.1 args
    rcases List.mem_cons.mp hc with hc | hc
    · obtain ⟨rfl, rfl⟩ := Prod.mk.inj hc
      refine ⟨[], ⟨0, 10, 13, 21⟩, [⟨0, 10, 17, 34⟩], "java/util/NoSuchElementException", htb, fun _ h => absurd h List.not_mem_nil, rfl, by decide, S.2.2.2.2 _ wl_379, (hcast _ (by simp [zx_B])), fun q9 => ?_⟩
      refine z_astore (x := some q9) S ((4, va_rf (some q9)) :: [(0, va_rf (some h0)), (1, .int x1), (2, .int x2), (3, va_rf (some w))]) dL_play_13 (by decide) rfl ?_
      refine z_iconst (v := 1) S dL_play_15 (by decide) ?_
      exact zx_iret S hr hlk dL_play_16 (Nat.le_of_ble_eq_true rfl) (Nat.le_of_ble_eq_true rfl) hp
    · rcases List.mem_cons.mp hc with hc | hc
      · obtain ⟨rfl, rfl⟩ := Prod.mk.inj hc
        refine ⟨[⟨0, 10, 13, 21⟩], ⟨0, 10, 17, 34⟩, [], "java/lang/IndexOutOfBoundsException", htb, List.forall_mem_cons.mpr ⟨⟨by decide, "java/util/NoSuchElementException", S.2.2.2.2 _ wl_379, hE.2.2.2.2.2.1⟩, fun _ h => absurd h List.not_mem_nil⟩, rfl, by decide, S.2.2.2.2 _ wl_662, (hcast _ (by simp [zx_B])), fun q9 => ?_⟩
        refine z_astore (x := some q9) S ((4, va_rf (some q9)) :: [(0, va_rf (some h0)), (1, .int x1), (2, .int x2), (3, va_rf (some w))]) dL_play_17 (by decide) rfl ?_
        refine z_iconst (v := 2) S dL_play_19 (by decide) ?_
        exact zx_iret S hr hlk dL_play_20 (Nat.le_of_ble_eq_true rfl) (Nat.le_of_ble_eq_true rfl) hp
      · exact absurd hc List.not_mem_nil
theorem me_L_play (l : Launch) (D : va_G) (cy : Nat → ClassId) (A : Nat → Prop) (t0 mi w h0 : Nat) (post : Int32 → z_WS → Prop) (u : z_St) (v : Int64) (x1 : Int32) (x2 : Int32) (hl : l.stackTraces = false) (hkh0 : z_kd h0 u = 8 ∧ 8 ≠ 0) {postr : Int32 → z_St → Prop} {px : String → z_St → Prop} (hk : ∀ r u', postr r u' → post 0 (u', r.toInt64)) (hx : ∀ E u', px E u' → ∃ c0, (E, c0) ∈ ([("java/util/NoSuchElementException", 1), ("java/lang/IndexOutOfBoundsException", 2)] : List (String × Int32)) ∧ post c0 (u', v)) (hw : w_X6_play postr px t0 mi h0 u x1 x2) : zx_Mi l yL_play (Cond.codeWith yL_play cL_play 5 (some .int) [(0, 10, 13, 21), (0, 10, 17, 34)] :: z_T) rm_L_play [va_rf (some h0), .int x1, .int x2, va_rf (some w)] (z_EW D cy A t0 mi w) (z_hW D cy A t0 w) (u, v) post (fun _ _ => False) 2 12 (z_wA A w) :=
  zw_met (by decide) (Nat.le_of_ble_eq_true rfl) (fun p e s m args below meth c S hlk hr htb hE => mb_L_play S hlk hr htb hE hl u v x1 x2 hkh0 hk hx hw)
abbrev rm_L_length : Room := { frames := 8, cells := 2, slots := 12, locals := 133 }
set_option maxRecDepth 20000 in
theorem mb_L_length {p : Program} {l : Launch} {e : Env} {s : State} {m : MethodId} {args : Array Value} {below : List Frame} {meth : Method} {c : Code} {D : va_G} {cy : Nat → ClassId} {A : Nat → Prop} {t0 mi w h0 : Nat} (S : CallFix p m c cL_length 5 s args z_T "MessageBankLaw") (hlk : meth.locks = false) (hr : meth.sig.returnType = some .int) (htb : c.exceptionTable.toList = tableOf [(0, 10, 13, 21), (0, 10, 17, 13)]) (hE : z_EW D cy A t0 mi w s) (hl : l.stackTraces = false) {post : Int32 → z_WS → Prop} (u : z_St) (v : Int64) (x1 : Int32) (x2 : Int32) (hkh0 : z_kd h0 u = 8 ∧ 8 ≠ 0) {postr : Int32 → z_St → Prop} {px : String → z_St → Prop} (hk : ∀ r u', postr r u' → post 0 (u', r.toInt64)) (hx : ∀ E u', px E u' → ∃ c0, (E, c0) ∈ ([("java/util/NoSuchElementException", 1), ("java/lang/IllegalArgumentException", 2)] : List (String × Int32)) ∧ post c0 (u', v)) (hw : w_X6_length postr px t0 mi h0 u x1 x2) : z_V (z_wA A w) (z_hW D cy A t0 w) p l e rm_L_length s m args below meth c 5 (vx_MQ below (va_Qi post (fun (u' : z_WS) t => z_hW D cy A t0 w u' t.heap) (z_wA A w)) (zx_X (fun _ _ => False) (z_hW D cy A t0 w) (z_wA A w)) args s 2 12 (z_wA A w)) 0 0 (u, v) 0 [(0, va_rf (some h0)), (1, .int x1), (2, .int x2), (3, va_rf (some w))] [] := by
  refine z_aload_n (x := some w) S 3 dL_length_0 rfl rfl ?_
  refine z_iconst (v := 0) S dL_length_1 (by decide) ?_
  refine z_aload_n (x := some h0) S 0 dL_length_2 rfl rfl ?_
  refine z_iload_n S 1 dL_length_3 rfl rfl ?_
  refine z_iload_n S 2 dL_length_4 rfl rfl ?_
  refine zw_callVi (As := [.int x1, .int x2]) (st := [.int 0, va_rf (some w)]) S hE hkh0 rfl rfl (me_X6_length l D cy A t0 mi _ _ u h0 x1 x2 hkh0 hl hw) gW_52 hdW_X6_length ⟨Nat.le_of_ble_eq_true rfl, Nat.le_of_ble_eq_true rfl⟩ rfl rfl rfl (Nat.le_trans (z_s1 (z_sq z_s0)) (by decide)) dL_length_5 ⟨(Nat.le_of_ble_eq_true rfl), (Nat.le_of_ble_eq_true rfl)⟩ rfl (fun r u' hp hm => ?_) (fun E u' hp hm => ?_)
  · have hp := hk r u' hp
    refine z_i2l S dL_length_8 ?_
    refine zw_last S hE dL_length_9 ?_
    refine z_goto (tgt := 21) S dL_length_10 (by decide) ?_
    refine z_iconst (v := 0) S dL_length_21 (by decide) ?_
    exact zx_iret S hr hlk dL_length_22 (Nat.le_of_ble_eq_true rfl) (Nat.le_of_ble_eq_true rfl) hp
  · obtain ⟨c0, hc, hp⟩ := hx E u' hp
    have hcast := zx_Bof hE.1.2.2.2.2.2.2.2.2.1 args
    rcases List.mem_cons.mp hc with hc | hc
    · obtain ⟨rfl, rfl⟩ := Prod.mk.inj hc
      refine ⟨[], ⟨0, 10, 13, 21⟩, [⟨0, 10, 17, 13⟩], "java/util/NoSuchElementException", htb, fun _ h => absurd h List.not_mem_nil, rfl, by decide, S.2.2.2.2 _ wl_379, (hcast _ (by simp [zx_B])), fun q9 => ?_⟩
      refine z_astore (x := some q9) S ((4, va_rf (some q9)) :: [(0, va_rf (some h0)), (1, .int x1), (2, .int x2), (3, va_rf (some w))]) dL_length_13 (by decide) rfl ?_
      refine z_iconst (v := 1) S dL_length_15 (by decide) ?_
      exact zx_iret S hr hlk dL_length_16 (Nat.le_of_ble_eq_true rfl) (Nat.le_of_ble_eq_true rfl) hp
    · rcases List.mem_cons.mp hc with hc | hc
      · obtain ⟨rfl, rfl⟩ := Prod.mk.inj hc
        refine ⟨[⟨0, 10, 13, 21⟩], ⟨0, 10, 17, 13⟩, [], "java/lang/IllegalArgumentException", htb, List.forall_mem_cons.mpr ⟨⟨by decide, "java/util/NoSuchElementException", S.2.2.2.2 _ wl_379, hE.2.2.2.1⟩, fun _ h => absurd h List.not_mem_nil⟩, rfl, by decide, S.2.2.2.2 _ wl_285, (hcast _ (by simp [zx_B])), fun q9 => ?_⟩
        refine z_astore (x := some q9) S ((4, va_rf (some q9)) :: [(0, va_rf (some h0)), (1, .int x1), (2, .int x2), (3, va_rf (some w))]) dL_length_17 (by decide) rfl ?_
        refine z_iconst (v := 2) S dL_length_19 (by decide) ?_
        exact zx_iret S hr hlk dL_length_20 (Nat.le_of_ble_eq_true rfl) (Nat.le_of_ble_eq_true rfl) hp
      · exact absurd hc List.not_mem_nil
theorem me_L_length (l : Launch) (D : va_G) (cy : Nat → ClassId) (A : Nat → Prop) (t0 mi w h0 : Nat) (post : Int32 → z_WS → Prop) (u : z_St) (v : Int64) (x1 : Int32) (x2 : Int32) (hl : l.stackTraces = false) (hkh0 : z_kd h0 u = 8 ∧ 8 ≠ 0) {postr : Int32 → z_St → Prop} {px : String → z_St → Prop} (hk : ∀ r u', postr r u' → post 0 (u', r.toInt64)) (hx : ∀ E u', px E u' → ∃ c0, (E, c0) ∈ ([("java/util/NoSuchElementException", 1), ("java/lang/IllegalArgumentException", 2)] : List (String × Int32)) ∧ post c0 (u', v)) (hw : w_X6_length postr px t0 mi h0 u x1 x2) : zx_Mi l yL_length (Cond.codeWith yL_length cL_length 5 (some .int) [(0, 10, 13, 21), (0, 10, 17, 13)] :: z_T) rm_L_length [va_rf (some h0), .int x1, .int x2, va_rf (some w)] (z_EW D cy A t0 mi w) (z_hW D cy A t0 w) (u, v) post (fun _ _ => False) 2 12 (z_wA A w) :=
  zw_met (by decide) (Nat.le_of_ble_eq_true rfl) (fun p e s m args below meth c S hlk hr htb hE => mb_L_length S hlk hr htb hE hl u v x1 x2 hkh0 hk hx hw)
abbrev rm_L_greeting : Room := { frames := 8, cells := 3, slots := 18, locals := 135 }
set_option maxRecDepth 20000 in
theorem mb_L_greeting {p : Program} {l : Launch} {e : Env} {s : State} {m : MethodId} {args : Array Value} {below : List Frame} {meth : Method} {c : Code} {D : va_G} {cy : Nat → ClassId} {A : Nat → Prop} {t0 mi w h0 : Nat} (S : CallFix p m c cL_greeting 6 s args z_T "MessageBankLaw") (hlk : meth.locks = false) (hr : meth.sig.returnType = some .int) (htb : c.exceptionTable.toList = tableOf [(0, 12, 15, 21), (0, 12, 19, 13), (0, 12, 23, 34)]) (hE : z_EW D cy A t0 mi w s) (hl : l.stackTraces = false) {post : Int32 → z_WS → Prop} (u : z_St) (v : Int64) (x1 : Int32) (x2 : Int32) (x3 : Int32) (hkh0 : z_kd h0 u = 8 ∧ 8 ≠ 0) {postr : Int32 → z_St → Prop} {px : String → z_St → Prop} (hk : ∀ r u', postr r u' → post 0 (u', r.toInt64)) (hx : ∀ E u', px E u' → ∃ c0, (E, c0) ∈ ([("java/util/NoSuchElementException", 1), ("java/lang/IllegalArgumentException", 2), ("java/lang/IndexOutOfBoundsException", 3)] : List (String × Int32)) ∧ post c0 (u', v)) (hw : w_X6_greeting postr px t0 mi h0 u x1 x2 x3) : z_V (z_wA A w) (z_hW D cy A t0 w) p l e rm_L_greeting s m args below meth c 6 (vx_MQ below (va_Qi post (fun (u' : z_WS) t => z_hW D cy A t0 w u' t.heap) (z_wA A w)) (zx_X (fun _ _ => False) (z_hW D cy A t0 w) (z_wA A w)) args s 3 18 (z_wA A w)) 0 0 (u, v) 0 [(0, va_rf (some h0)), (1, .int x1), (2, .int x2), (3, .int x3), (4, va_rf (some w))] [] := by
  refine z_aload (x := some w) S 4 dL_greeting_0 rfl ?_
  refine z_iconst (v := 0) S dL_greeting_2 (by decide) ?_
  refine z_aload_n (x := some h0) S 0 dL_greeting_3 rfl rfl ?_
  refine z_iload_n S 1 dL_greeting_4 rfl rfl ?_
  refine z_iload_n S 2 dL_greeting_5 rfl rfl ?_
  refine z_iload_n S 3 dL_greeting_6 rfl rfl ?_
  refine zw_callVi (As := [.int x1, .int x2, .int x3]) (st := [.int 0, va_rf (some w)]) S hE hkh0 rfl rfl (me_X6_greeting l D cy A t0 mi _ _ u h0 x1 x2 x3 hkh0 hl hw) gW_55 hdW_X6_greeting ⟨Nat.le_of_ble_eq_true rfl, Nat.le_of_ble_eq_true rfl⟩ rfl rfl rfl (Nat.le_trans (z_s1 (z_sq z_s0)) (by decide)) dL_greeting_7 ⟨(Nat.le_of_ble_eq_true rfl), (Nat.le_of_ble_eq_true rfl)⟩ rfl (fun r u' hp hm => ?_) (fun E u' hp hm => ?_)
  · have hp := hk r u' hp
    refine z_i2l S dL_greeting_10 ?_
    refine zw_last S hE dL_greeting_11 ?_
    refine z_goto (tgt := 27) S dL_greeting_12 (by decide) ?_
    refine z_iconst (v := 0) S dL_greeting_27 (by decide) ?_
    exact zx_iret S hr hlk dL_greeting_28 (Nat.le_of_ble_eq_true rfl) (Nat.le_of_ble_eq_true rfl) hp
  · obtain ⟨c0, hc, hp⟩ := hx E u' hp
    have hcast := zx_Bof hE.1.2.2.2.2.2.2.2.2.1 args
    rcases List.mem_cons.mp hc with hc | hc
    · obtain ⟨rfl, rfl⟩ := Prod.mk.inj hc
      refine ⟨[], ⟨0, 12, 15, 21⟩, [⟨0, 12, 19, 13⟩, ⟨0, 12, 23, 34⟩], "java/util/NoSuchElementException", htb, fun _ h => absurd h List.not_mem_nil, rfl, by decide, S.2.2.2.2 _ wl_379, (hcast _ (by simp [zx_B])), fun q9 => ?_⟩
      refine z_astore (x := some q9) S ((5, va_rf (some q9)) :: [(0, va_rf (some h0)), (1, .int x1), (2, .int x2), (3, .int x3), (4, va_rf (some w))]) dL_greeting_15 (by decide) rfl ?_
      refine z_iconst (v := 1) S dL_greeting_17 (by decide) ?_
      exact zx_iret S hr hlk dL_greeting_18 (Nat.le_of_ble_eq_true rfl) (Nat.le_of_ble_eq_true rfl) hp
    · rcases List.mem_cons.mp hc with hc | hc
      · obtain ⟨rfl, rfl⟩ := Prod.mk.inj hc
        refine ⟨[⟨0, 12, 15, 21⟩], ⟨0, 12, 19, 13⟩, [⟨0, 12, 23, 34⟩], "java/lang/IllegalArgumentException", htb, List.forall_mem_cons.mpr ⟨⟨by decide, "java/util/NoSuchElementException", S.2.2.2.2 _ wl_379, hE.2.2.2.1⟩, fun _ h => absurd h List.not_mem_nil⟩, rfl, by decide, S.2.2.2.2 _ wl_285, (hcast _ (by simp [zx_B])), fun q9 => ?_⟩
        refine z_astore (x := some q9) S ((5, va_rf (some q9)) :: [(0, va_rf (some h0)), (1, .int x1), (2, .int x2), (3, .int x3), (4, va_rf (some w))]) dL_greeting_19 (by decide) rfl ?_
        refine z_iconst (v := 2) S dL_greeting_21 (by decide) ?_
        exact zx_iret S hr hlk dL_greeting_22 (Nat.le_of_ble_eq_true rfl) (Nat.le_of_ble_eq_true rfl) hp
      · rcases List.mem_cons.mp hc with hc | hc
        · obtain ⟨rfl, rfl⟩ := Prod.mk.inj hc
          refine ⟨[⟨0, 12, 15, 21⟩, ⟨0, 12, 19, 13⟩], ⟨0, 12, 23, 34⟩, [], "java/lang/IndexOutOfBoundsException", htb, List.forall_mem_cons.mpr ⟨⟨by decide, "java/util/NoSuchElementException", S.2.2.2.2 _ wl_379, hE.2.2.2.2.2.1⟩, List.forall_mem_cons.mpr ⟨⟨by decide, "java/lang/IllegalArgumentException", S.2.2.2.2 _ wl_285, hE.2.2.2.2.2.2⟩, fun _ h => absurd h List.not_mem_nil⟩⟩, rfl, by decide, S.2.2.2.2 _ wl_662, (hcast _ (by simp [zx_B])), fun q9 => ?_⟩
          refine z_astore (x := some q9) S ((5, va_rf (some q9)) :: [(0, va_rf (some h0)), (1, .int x1), (2, .int x2), (3, .int x3), (4, va_rf (some w))]) dL_greeting_23 (by decide) rfl ?_
          refine z_iconst (v := 3) S dL_greeting_25 (by decide) ?_
          exact zx_iret S hr hlk dL_greeting_26 (Nat.le_of_ble_eq_true rfl) (Nat.le_of_ble_eq_true rfl) hp
        · exact absurd hc List.not_mem_nil
theorem me_L_greeting (l : Launch) (D : va_G) (cy : Nat → ClassId) (A : Nat → Prop) (t0 mi w h0 : Nat) (post : Int32 → z_WS → Prop) (u : z_St) (v : Int64) (x1 : Int32) (x2 : Int32) (x3 : Int32) (hl : l.stackTraces = false) (hkh0 : z_kd h0 u = 8 ∧ 8 ≠ 0) {postr : Int32 → z_St → Prop} {px : String → z_St → Prop} (hk : ∀ r u', postr r u' → post 0 (u', r.toInt64)) (hx : ∀ E u', px E u' → ∃ c0, (E, c0) ∈ ([("java/util/NoSuchElementException", 1), ("java/lang/IllegalArgumentException", 2), ("java/lang/IndexOutOfBoundsException", 3)] : List (String × Int32)) ∧ post c0 (u', v)) (hw : w_X6_greeting postr px t0 mi h0 u x1 x2 x3) : zx_Mi l yL_greeting (Cond.codeWith yL_greeting cL_greeting 6 (some .int) [(0, 12, 15, 21), (0, 12, 19, 13), (0, 12, 23, 34)] :: z_T) rm_L_greeting [va_rf (some h0), .int x1, .int x2, .int x3, va_rf (some w)] (z_EW D cy A t0 mi w) (z_hW D cy A t0 w) (u, v) post (fun _ _ => False) 3 18 (z_wA A w) :=
  zw_met (by decide) (Nat.le_of_ble_eq_true rfl) (fun p e s m args below meth c S hlk hr htb hE => mb_L_greeting S hlk hr htb hE hl u v x1 x2 x3 hkh0 hk hx hw)
abbrev rm_L_used : Room := { frames := 8, cells := 1, slots := 6, locals := 132 }
set_option maxRecDepth 20000 in
theorem mb_L_used {p : Program} {l : Launch} {e : Env} {s : State} {m : MethodId} {args : Array Value} {below : List Frame} {meth : Method} {c : Code} {D : va_G} {cy : Nat → ClassId} {A : Nat → Prop} {t0 mi w h0 : Nat} (S : CallFix p m c cL_used 4 s args z_T "MessageBankLaw") (hlk : meth.locks = false) (hr : meth.sig.returnType = some .int) (htb : c.exceptionTable.toList = tableOf [(0, 9, 12, 21)]) (hE : z_EW D cy A t0 mi w s) (hl : l.stackTraces = false) {post : Int32 → z_WS → Prop} (u : z_St) (v : Int64) (x1 : Int32) (hkh0 : z_kd h0 u = 8 ∧ 8 ≠ 0) {postr : Int32 → z_St → Prop} {px : String → z_St → Prop} (hk : ∀ r u', postr r u' → post 0 (u', r.toInt64)) (hx : ∀ E u', px E u' → ∃ c0, (E, c0) ∈ ([("java/util/NoSuchElementException", 1)] : List (String × Int32)) ∧ post c0 (u', v)) (hw : w_X6_used postr px t0 mi h0 u x1) : z_V (z_wA A w) (z_hW D cy A t0 w) p l e rm_L_used s m args below meth c 4 (vx_MQ below (va_Qi post (fun (u' : z_WS) t => z_hW D cy A t0 w u' t.heap) (z_wA A w)) (zx_X (fun _ _ => False) (z_hW D cy A t0 w) (z_wA A w)) args s 1 6 (z_wA A w)) 0 0 (u, v) 0 [(0, va_rf (some h0)), (1, .int x1), (2, va_rf (some w))] [] := by
  refine z_aload_n (x := some w) S 2 dL_used_0 rfl rfl ?_
  refine z_iconst (v := 0) S dL_used_1 (by decide) ?_
  refine z_aload_n (x := some h0) S 0 dL_used_2 rfl rfl ?_
  refine z_iload_n S 1 dL_used_3 rfl rfl ?_
  refine zw_callVi (As := [.int x1]) (st := [.int 0, va_rf (some w)]) S hE hkh0 rfl rfl (me_X6_used l D cy A t0 mi _ _ u h0 x1 hkh0 hl hw) gW_58 hdW_X6_used ⟨Nat.le_of_ble_eq_true rfl, Nat.le_of_ble_eq_true rfl⟩ rfl rfl rfl (Nat.le_trans (z_s1 (z_sq z_s0)) (by decide)) dL_used_4 ⟨(Nat.le_of_ble_eq_true rfl), (Nat.le_of_ble_eq_true rfl)⟩ rfl (fun r u' hp hm => ?_) (fun E u' hp hm => ?_)
  · have hp := hk r u' hp
    refine z_i2l S dL_used_7 ?_
    refine zw_last S hE dL_used_8 ?_
    refine z_goto (tgt := 15) S dL_used_9 (by decide) ?_
    refine z_iconst (v := 0) S dL_used_15 (by decide) ?_
    exact zx_iret S hr hlk dL_used_16 (Nat.le_of_ble_eq_true rfl) (Nat.le_of_ble_eq_true rfl) hp
  · obtain ⟨c0, hc, hp⟩ := hx E u' hp
    have hcast := zx_Bof hE.1.2.2.2.2.2.2.2.2.1 args
    rcases List.mem_cons.mp hc with hc | hc
    · obtain ⟨rfl, rfl⟩ := Prod.mk.inj hc
      refine ⟨[], ⟨0, 9, 12, 21⟩, [], "java/util/NoSuchElementException", htb, fun _ h => absurd h List.not_mem_nil, rfl, by decide, S.2.2.2.2 _ wl_379, (hcast _ (by simp [zx_B])), fun q9 => ?_⟩
      refine z_astore_n (x := some q9) S ((3, va_rf (some q9)) :: [(0, va_rf (some h0)), (1, .int x1), (2, va_rf (some w))]) dL_used_12 rfl (by decide) rfl ?_
      refine z_iconst (v := 1) S dL_used_13 (by decide) ?_
      exact zx_iret S hr hlk dL_used_14 (Nat.le_of_ble_eq_true rfl) (Nat.le_of_ble_eq_true rfl) hp
    · exact absurd hc List.not_mem_nil
theorem me_L_used (l : Launch) (D : va_G) (cy : Nat → ClassId) (A : Nat → Prop) (t0 mi w h0 : Nat) (post : Int32 → z_WS → Prop) (u : z_St) (v : Int64) (x1 : Int32) (hl : l.stackTraces = false) (hkh0 : z_kd h0 u = 8 ∧ 8 ≠ 0) {postr : Int32 → z_St → Prop} {px : String → z_St → Prop} (hk : ∀ r u', postr r u' → post 0 (u', r.toInt64)) (hx : ∀ E u', px E u' → ∃ c0, (E, c0) ∈ ([("java/util/NoSuchElementException", 1)] : List (String × Int32)) ∧ post c0 (u', v)) (hw : w_X6_used postr px t0 mi h0 u x1) : zx_Mi l yL_used (Cond.codeWith yL_used cL_used 4 (some .int) [(0, 9, 12, 21)] :: z_T) rm_L_used [va_rf (some h0), .int x1, va_rf (some w)] (z_EW D cy A t0 mi w) (z_hW D cy A t0 w) (u, v) post (fun _ _ => False) 1 6 (z_wA A w) :=
  zw_met (by decide) (Nat.le_of_ble_eq_true rfl) (fun p e s m args below meth c S hlk hr htb hE => mb_L_used S hlk hr htb hE hl u v x1 hkh0 hk hx hw)
abbrev rm_L_quota : Room := { frames := 8, cells := 1, slots := 6, locals := 132 }
set_option maxRecDepth 20000 in
theorem mb_L_quota {p : Program} {l : Launch} {e : Env} {s : State} {m : MethodId} {args : Array Value} {below : List Frame} {meth : Method} {c : Code} {D : va_G} {cy : Nat → ClassId} {A : Nat → Prop} {t0 mi w h0 : Nat} (S : CallFix p m c cL_quota 4 s args z_T "MessageBankLaw") (hlk : meth.locks = false) (hr : meth.sig.returnType = some .int) (htb : c.exceptionTable.toList = tableOf [(0, 9, 12, 21)]) (hE : z_EW D cy A t0 mi w s) (hl : l.stackTraces = false) {post : Int32 → z_WS → Prop} (u : z_St) (v : Int64) (x1 : Int32) (hkh0 : z_kd h0 u = 8 ∧ 8 ≠ 0) {postr : Int32 → z_St → Prop} {px : String → z_St → Prop} (hk : ∀ r u', postr r u' → post 0 (u', r.toInt64)) (hx : ∀ E u', px E u' → ∃ c0, (E, c0) ∈ ([("java/util/NoSuchElementException", 1)] : List (String × Int32)) ∧ post c0 (u', v)) (hw : w_X6_quota postr px t0 mi h0 u x1) : z_V (z_wA A w) (z_hW D cy A t0 w) p l e rm_L_quota s m args below meth c 4 (vx_MQ below (va_Qi post (fun (u' : z_WS) t => z_hW D cy A t0 w u' t.heap) (z_wA A w)) (zx_X (fun _ _ => False) (z_hW D cy A t0 w) (z_wA A w)) args s 1 6 (z_wA A w)) 0 0 (u, v) 0 [(0, va_rf (some h0)), (1, .int x1), (2, va_rf (some w))] [] := by
  refine z_aload_n (x := some w) S 2 dL_quota_0 rfl rfl ?_
  refine z_iconst (v := 0) S dL_quota_1 (by decide) ?_
  refine z_aload_n (x := some h0) S 0 dL_quota_2 rfl rfl ?_
  refine z_iload_n S 1 dL_quota_3 rfl rfl ?_
  refine zw_callVi (As := [.int x1]) (st := [.int 0, va_rf (some w)]) S hE hkh0 rfl rfl (me_X6_quota l D cy A t0 mi _ _ u h0 x1 hkh0 hl hw) gW_61 hdW_X6_quota ⟨Nat.le_of_ble_eq_true rfl, Nat.le_of_ble_eq_true rfl⟩ rfl rfl rfl (Nat.le_trans (z_s1 (z_sq z_s0)) (by decide)) dL_quota_4 ⟨(Nat.le_of_ble_eq_true rfl), (Nat.le_of_ble_eq_true rfl)⟩ rfl (fun r u' hp hm => ?_) (fun E u' hp hm => ?_)
  · have hp := hk r u' hp
    refine z_i2l S dL_quota_7 ?_
    refine zw_last S hE dL_quota_8 ?_
    refine z_goto (tgt := 15) S dL_quota_9 (by decide) ?_
    refine z_iconst (v := 0) S dL_quota_15 (by decide) ?_
    exact zx_iret S hr hlk dL_quota_16 (Nat.le_of_ble_eq_true rfl) (Nat.le_of_ble_eq_true rfl) hp
  · obtain ⟨c0, hc, hp⟩ := hx E u' hp
    have hcast := zx_Bof hE.1.2.2.2.2.2.2.2.2.1 args
    rcases List.mem_cons.mp hc with hc | hc
    · obtain ⟨rfl, rfl⟩ := Prod.mk.inj hc
      refine ⟨[], ⟨0, 9, 12, 21⟩, [], "java/util/NoSuchElementException", htb, fun _ h => absurd h List.not_mem_nil, rfl, by decide, S.2.2.2.2 _ wl_379, (hcast _ (by simp [zx_B])), fun q9 => ?_⟩
      refine z_astore_n (x := some q9) S ((3, va_rf (some q9)) :: [(0, va_rf (some h0)), (1, .int x1), (2, va_rf (some w))]) dL_quota_12 rfl (by decide) rfl ?_
      refine z_iconst (v := 1) S dL_quota_13 (by decide) ?_
      exact zx_iret S hr hlk dL_quota_14 (Nat.le_of_ble_eq_true rfl) (Nat.le_of_ble_eq_true rfl) hp
    · exact absurd hc List.not_mem_nil
theorem me_L_quota (l : Launch) (D : va_G) (cy : Nat → ClassId) (A : Nat → Prop) (t0 mi w h0 : Nat) (post : Int32 → z_WS → Prop) (u : z_St) (v : Int64) (x1 : Int32) (hl : l.stackTraces = false) (hkh0 : z_kd h0 u = 8 ∧ 8 ≠ 0) {postr : Int32 → z_St → Prop} {px : String → z_St → Prop} (hk : ∀ r u', postr r u' → post 0 (u', r.toInt64)) (hx : ∀ E u', px E u' → ∃ c0, (E, c0) ∈ ([("java/util/NoSuchElementException", 1)] : List (String × Int32)) ∧ post c0 (u', v)) (hw : w_X6_quota postr px t0 mi h0 u x1) : zx_Mi l yL_quota (Cond.codeWith yL_quota cL_quota 4 (some .int) [(0, 9, 12, 21)] :: z_T) rm_L_quota [va_rf (some h0), .int x1, va_rf (some w)] (z_EW D cy A t0 mi w) (z_hW D cy A t0 w) (u, v) post (fun _ _ => False) 1 6 (z_wA A w) :=
  zw_met (by decide) (Nat.le_of_ble_eq_true rfl) (fun p e s m args below meth c S hlk hr htb hE => mb_L_quota S hlk hr htb hE hl u v x1 hkh0 hk hx hw)
abbrev rm_L_pack : Room := { frames := 7, cells := 1, slots := 6, locals := 112 }
set_option maxRecDepth 20000 in
theorem mb_L_pack {p : Program} {l : Launch} {e : Env} {s : State} {m : MethodId} {args : Array Value} {below : List Frame} {meth : Method} {c : Code} {D : va_G} {cy : Nat → ClassId} {A : Nat → Prop} {t0 mi w h0 : Nat} (S : CallFix p m c cL_pack 4 s args z_T "MessageBankLaw") (hlk : meth.locks = false) (hr : meth.sig.returnType = some .int) (htb : c.exceptionTable.toList = tableOf [(0, 9, 12, 13)]) (hE : z_EW D cy A t0 mi w s) (hl : l.stackTraces = false) {post : Int32 → z_WS → Prop} (u : z_St) (v : Int64) (x1 : Int32) (hkh0 : z_kd h0 u = 8 ∧ 8 ≠ 0) {postr : Int32 → z_St → Prop} {px : String → z_St → Prop} (hk : ∀ r u', postr r u' → post 0 (u', r.toInt64)) (hx : ∀ E u', px E u' → ∃ c0, (E, c0) ∈ ([("java/lang/IllegalArgumentException", 1)] : List (String × Int32)) ∧ post c0 (u', v)) (hw : w_X6_pack postr px t0 mi h0 u x1) : z_V (z_wA A w) (z_hW D cy A t0 w) p l e rm_L_pack s m args below meth c 4 (vx_MQ below (va_Qi post (fun (u' : z_WS) t => z_hW D cy A t0 w u' t.heap) (z_wA A w)) (zx_X (fun _ _ => False) (z_hW D cy A t0 w) (z_wA A w)) args s 1 6 (z_wA A w)) 0 0 (u, v) 0 [(0, va_rf (some h0)), (1, .int x1), (2, va_rf (some w))] [] := by
  refine z_aload_n (x := some w) S 2 dL_pack_0 rfl rfl ?_
  refine z_iconst (v := 0) S dL_pack_1 (by decide) ?_
  refine z_aload_n (x := some h0) S 0 dL_pack_2 rfl rfl ?_
  refine z_iload_n S 1 dL_pack_3 rfl rfl ?_
  refine zw_callVi (As := [.int x1]) (st := [.int 0, va_rf (some w)]) S hE hkh0 rfl rfl (me_X6_pack l D cy A t0 mi _ _ u h0 x1 hkh0 hl hw) gW_64 hdW_X6_pack ⟨Nat.le_of_ble_eq_true rfl, Nat.le_of_ble_eq_true rfl⟩ rfl rfl rfl (Nat.le_trans (z_s1 (z_sq z_s0)) (by decide)) dL_pack_4 ⟨(Nat.le_of_ble_eq_true rfl), (Nat.le_of_ble_eq_true rfl)⟩ rfl (fun r u' hp hm => ?_) (fun E u' hp hm => ?_)
  · have hp := hk r u' hp
    refine z_i2l S dL_pack_7 ?_
    refine zw_last S hE dL_pack_8 ?_
    refine z_goto (tgt := 15) S dL_pack_9 (by decide) ?_
    refine z_iconst (v := 0) S dL_pack_15 (by decide) ?_
    exact zx_iret S hr hlk dL_pack_16 (Nat.le_of_ble_eq_true rfl) (Nat.le_of_ble_eq_true rfl) hp
  · obtain ⟨c0, hc, hp⟩ := hx E u' hp
    have hcast := zx_Bof hE.1.2.2.2.2.2.2.2.2.1 args
    rcases List.mem_cons.mp hc with hc | hc
    · obtain ⟨rfl, rfl⟩ := Prod.mk.inj hc
      refine ⟨[], ⟨0, 9, 12, 13⟩, [], "java/lang/IllegalArgumentException", htb, fun _ h => absurd h List.not_mem_nil, rfl, by decide, S.2.2.2.2 _ wl_285, (hcast _ (by simp [zx_B])), fun q9 => ?_⟩
      refine z_astore_n (x := some q9) S ((3, va_rf (some q9)) :: [(0, va_rf (some h0)), (1, .int x1), (2, va_rf (some w))]) dL_pack_12 rfl (by decide) rfl ?_
      refine z_iconst (v := 1) S dL_pack_13 (by decide) ?_
      exact zx_iret S hr hlk dL_pack_14 (Nat.le_of_ble_eq_true rfl) (Nat.le_of_ble_eq_true rfl) hp
    · exact absurd hc List.not_mem_nil
theorem me_L_pack (l : Launch) (D : va_G) (cy : Nat → ClassId) (A : Nat → Prop) (t0 mi w h0 : Nat) (post : Int32 → z_WS → Prop) (u : z_St) (v : Int64) (x1 : Int32) (hl : l.stackTraces = false) (hkh0 : z_kd h0 u = 8 ∧ 8 ≠ 0) {postr : Int32 → z_St → Prop} {px : String → z_St → Prop} (hk : ∀ r u', postr r u' → post 0 (u', r.toInt64)) (hx : ∀ E u', px E u' → ∃ c0, (E, c0) ∈ ([("java/lang/IllegalArgumentException", 1)] : List (String × Int32)) ∧ post c0 (u', v)) (hw : w_X6_pack postr px t0 mi h0 u x1) : zx_Mi l yL_pack (Cond.codeWith yL_pack cL_pack 4 (some .int) [(0, 9, 12, 13)] :: z_T) rm_L_pack [va_rf (some h0), .int x1, va_rf (some w)] (z_EW D cy A t0 mi w) (z_hW D cy A t0 w) (u, v) post (fun _ _ => False) 1 6 (z_wA A w) :=
  zw_met (by decide) (Nat.le_of_ble_eq_true rfl) (fun p e s m args below meth c S hlk hr htb hE => mb_L_pack S hlk hr htb hE hl u v x1 hkh0 hk hx hw)
abbrev rm_L_block : Room := { frames := 7, cells := 1, slots := 6, locals := 111 }
set_option maxRecDepth 20000 in
theorem mb_L_block {p : Program} {l : Launch} {e : Env} {s : State} {m : MethodId} {args : Array Value} {below : List Frame} {meth : Method} {c : Code} {D : va_G} {cy : Nat → ClassId} {A : Nat → Prop} {t0 mi w h0 : Nat} (S : CallFix p m c cL_block 4 s args z_T "MessageBankLaw") (hlk : meth.locks = false) (hr : meth.sig.returnType = some .int) (htb : c.exceptionTable.toList = tableOf [(0, 9, 12, 34)]) (hE : z_EW D cy A t0 mi w s) (hl : l.stackTraces = false) {post : Int32 → z_WS → Prop} (u : z_St) (v : Int64) (x1 : Int32) (hkh0 : z_kd h0 u = 8 ∧ 8 ≠ 0) {postr : Int32 → z_St → Prop} {px : String → z_St → Prop} (hk : ∀ r u', postr r u' → post 0 (u', r.toInt64)) (hx : ∀ E u', px E u' → ∃ c0, (E, c0) ∈ ([("java/lang/IndexOutOfBoundsException", 1)] : List (String × Int32)) ∧ post c0 (u', v)) (hw : w_X6_block postr px t0 mi h0 u x1) : z_V (z_wA A w) (z_hW D cy A t0 w) p l e rm_L_block s m args below meth c 4 (vx_MQ below (va_Qi post (fun (u' : z_WS) t => z_hW D cy A t0 w u' t.heap) (z_wA A w)) (zx_X (fun _ _ => False) (z_hW D cy A t0 w) (z_wA A w)) args s 1 6 (z_wA A w)) 0 0 (u, v) 0 [(0, va_rf (some h0)), (1, .int x1), (2, va_rf (some w))] [] := by
  refine z_aload_n (x := some w) S 2 dL_block_0 rfl rfl ?_
  refine z_iconst (v := 0) S dL_block_1 (by decide) ?_
  refine z_aload_n (x := some h0) S 0 dL_block_2 rfl rfl ?_
  refine z_iload_n S 1 dL_block_3 rfl rfl ?_
  refine zw_callVi (As := [.int x1]) (st := [.int 0, va_rf (some w)]) S hE hkh0 rfl rfl (me_X6_block l D cy A t0 mi _ _ u h0 x1 hkh0 hl hw) gW_67 hdW_X6_block ⟨Nat.le_of_ble_eq_true rfl, Nat.le_of_ble_eq_true rfl⟩ rfl rfl rfl (Nat.le_trans (z_s1 (z_sq z_s0)) (by decide)) dL_block_4 ⟨(Nat.le_of_ble_eq_true rfl), (Nat.le_of_ble_eq_true rfl)⟩ rfl (fun r u' hp hm => ?_) (fun E u' hp hm => ?_)
  · have hp := hk r u' hp
    refine z_i2l S dL_block_7 ?_
    refine zw_last S hE dL_block_8 ?_
    refine z_goto (tgt := 15) S dL_block_9 (by decide) ?_
    refine z_iconst (v := 0) S dL_block_15 (by decide) ?_
    exact zx_iret S hr hlk dL_block_16 (Nat.le_of_ble_eq_true rfl) (Nat.le_of_ble_eq_true rfl) hp
  · obtain ⟨c0, hc, hp⟩ := hx E u' hp
    have hcast := zx_Bof hE.1.2.2.2.2.2.2.2.2.1 args
    rcases List.mem_cons.mp hc with hc | hc
    · obtain ⟨rfl, rfl⟩ := Prod.mk.inj hc
      refine ⟨[], ⟨0, 9, 12, 34⟩, [], "java/lang/IndexOutOfBoundsException", htb, fun _ h => absurd h List.not_mem_nil, rfl, by decide, S.2.2.2.2 _ wl_662, (hcast _ (by simp [zx_B])), fun q9 => ?_⟩
      refine z_astore_n (x := some q9) S ((3, va_rf (some q9)) :: [(0, va_rf (some h0)), (1, .int x1), (2, va_rf (some w))]) dL_block_12 rfl (by decide) rfl ?_
      refine z_iconst (v := 1) S dL_block_13 (by decide) ?_
      exact zx_iret S hr hlk dL_block_14 (Nat.le_of_ble_eq_true rfl) (Nat.le_of_ble_eq_true rfl) hp
    · exact absurd hc List.not_mem_nil
theorem me_L_block (l : Launch) (D : va_G) (cy : Nat → ClassId) (A : Nat → Prop) (t0 mi w h0 : Nat) (post : Int32 → z_WS → Prop) (u : z_St) (v : Int64) (x1 : Int32) (hl : l.stackTraces = false) (hkh0 : z_kd h0 u = 8 ∧ 8 ≠ 0) {postr : Int32 → z_St → Prop} {px : String → z_St → Prop} (hk : ∀ r u', postr r u' → post 0 (u', r.toInt64)) (hx : ∀ E u', px E u' → ∃ c0, (E, c0) ∈ ([("java/lang/IndexOutOfBoundsException", 1)] : List (String × Int32)) ∧ post c0 (u', v)) (hw : w_X6_block postr px t0 mi h0 u x1) : zx_Mi l yL_block (Cond.codeWith yL_block cL_block 4 (some .int) [(0, 9, 12, 34)] :: z_T) rm_L_block [va_rf (some h0), .int x1, va_rf (some w)] (z_EW D cy A t0 mi w) (z_hW D cy A t0 w) (u, v) post (fun _ _ => False) 1 6 (z_wA A w) :=
  zw_met (by decide) (Nat.le_of_ble_eq_true rfl) (fun p e s m args below meth c S hlk hr htb hE => mb_L_block S hlk hr htb hE hl u v x1 hkh0 hk hx hw)
abbrev rm_L_step : Room := { frames := 7, cells := 1, slots := 6, locals := 111 }
set_option maxRecDepth 20000 in
theorem mb_L_step {p : Program} {l : Launch} {e : Env} {s : State} {m : MethodId} {args : Array Value} {below : List Frame} {meth : Method} {c : Code} {D : va_G} {cy : Nat → ClassId} {A : Nat → Prop} {t0 mi w h0 : Nat} (S : CallFix p m c cL_step 4 s args z_T "MessageBankLaw") (hlk : meth.locks = false) (hr : meth.sig.returnType = some .int) (htb : c.exceptionTable.toList = tableOf [(0, 9, 12, 34)]) (hE : z_EW D cy A t0 mi w s) (hl : l.stackTraces = false) {post : Int32 → z_WS → Prop} (u : z_St) (v : Int64) (x1 : Int32) (hkh0 : z_kd h0 u = 8 ∧ 8 ≠ 0) {postr : Int32 → z_St → Prop} {px : String → z_St → Prop} (hk : ∀ r u', postr r u' → post 0 (u', r.toInt64)) (hx : ∀ E u', px E u' → ∃ c0, (E, c0) ∈ ([("java/lang/IndexOutOfBoundsException", 1)] : List (String × Int32)) ∧ post c0 (u', v)) (hw : w_X6_step postr px t0 mi h0 u x1) : z_V (z_wA A w) (z_hW D cy A t0 w) p l e rm_L_step s m args below meth c 4 (vx_MQ below (va_Qi post (fun (u' : z_WS) t => z_hW D cy A t0 w u' t.heap) (z_wA A w)) (zx_X (fun _ _ => False) (z_hW D cy A t0 w) (z_wA A w)) args s 1 6 (z_wA A w)) 0 0 (u, v) 0 [(0, va_rf (some h0)), (1, .int x1), (2, va_rf (some w))] [] := by
  refine z_aload_n (x := some w) S 2 dL_step_0 rfl rfl ?_
  refine z_iconst (v := 0) S dL_step_1 (by decide) ?_
  refine z_aload_n (x := some h0) S 0 dL_step_2 rfl rfl ?_
  refine z_iload_n S 1 dL_step_3 rfl rfl ?_
  refine zw_callVi (As := [.int x1]) (st := [.int 0, va_rf (some w)]) S hE hkh0 rfl rfl (me_X6_step l D cy A t0 mi _ _ u h0 x1 hkh0 hl hw) gW_70 hdW_X6_step ⟨Nat.le_of_ble_eq_true rfl, Nat.le_of_ble_eq_true rfl⟩ rfl rfl rfl (Nat.le_trans (z_s1 (z_sq z_s0)) (by decide)) dL_step_4 ⟨(Nat.le_of_ble_eq_true rfl), (Nat.le_of_ble_eq_true rfl)⟩ rfl (fun r u' hp hm => ?_) (fun E u' hp hm => ?_)
  · have hp := hk r u' hp
    refine z_i2l S dL_step_7 ?_
    refine zw_last S hE dL_step_8 ?_
    refine z_goto (tgt := 15) S dL_step_9 (by decide) ?_
    refine z_iconst (v := 0) S dL_step_15 (by decide) ?_
    exact zx_iret S hr hlk dL_step_16 (Nat.le_of_ble_eq_true rfl) (Nat.le_of_ble_eq_true rfl) hp
  · obtain ⟨c0, hc, hp⟩ := hx E u' hp
    have hcast := zx_Bof hE.1.2.2.2.2.2.2.2.2.1 args
    rcases List.mem_cons.mp hc with hc | hc
    · obtain ⟨rfl, rfl⟩ := Prod.mk.inj hc
      refine ⟨[], ⟨0, 9, 12, 34⟩, [], "java/lang/IndexOutOfBoundsException", htb, fun _ h => absurd h List.not_mem_nil, rfl, by decide, S.2.2.2.2 _ wl_662, (hcast _ (by simp [zx_B])), fun q9 => ?_⟩
      refine z_astore_n (x := some q9) S ((3, va_rf (some q9)) :: [(0, va_rf (some h0)), (1, .int x1), (2, va_rf (some w))]) dL_step_12 rfl (by decide) rfl ?_
      refine z_iconst (v := 1) S dL_step_13 (by decide) ?_
      exact zx_iret S hr hlk dL_step_14 (Nat.le_of_ble_eq_true rfl) (Nat.le_of_ble_eq_true rfl) hp
    · exact absurd hc List.not_mem_nil
theorem me_L_step (l : Launch) (D : va_G) (cy : Nat → ClassId) (A : Nat → Prop) (t0 mi w h0 : Nat) (post : Int32 → z_WS → Prop) (u : z_St) (v : Int64) (x1 : Int32) (hl : l.stackTraces = false) (hkh0 : z_kd h0 u = 8 ∧ 8 ≠ 0) {postr : Int32 → z_St → Prop} {px : String → z_St → Prop} (hk : ∀ r u', postr r u' → post 0 (u', r.toInt64)) (hx : ∀ E u', px E u' → ∃ c0, (E, c0) ∈ ([("java/lang/IndexOutOfBoundsException", 1)] : List (String × Int32)) ∧ post c0 (u', v)) (hw : w_X6_step postr px t0 mi h0 u x1) : zx_Mi l yL_step (Cond.codeWith yL_step cL_step 4 (some .int) [(0, 9, 12, 34)] :: z_T) rm_L_step [va_rf (some h0), .int x1, va_rf (some w)] (z_EW D cy A t0 mi w) (z_hW D cy A t0 w) (u, v) post (fun _ _ => False) 1 6 (z_wA A w) :=
  zw_met (by decide) (Nat.le_of_ble_eq_true rfl) (fun p e s m args below meth c S hlk hr htb hE => mb_L_step S hlk hr htb hE hl u v x1 hkh0 hk hx hw)
