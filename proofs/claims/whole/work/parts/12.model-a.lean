abbrev rm_X7_thrown : Room := { frames := 0, cells := 0, slots := 0, locals := 0 }
def w_X7_thrown (post : Int32 → z_Md → Prop) (M : z_Md)  : Prop := (post (M 0 0) M)
set_option maxRecDepth 20000 in
theorem mb_X7_thrown {p : Program} {l : Launch} {e : Env} {s : State} {m : MethodId} {args : Array Value} {below : List Frame} {meth : Method} {c : Code} {D : va_G} {cy : Nat → ClassId} {A : Nat → Prop} {o : Nat} {ad : Nat → Nat} (S : CallFix p m c cX7_thrown 1 s args z_T RX7) (hlk : meth.locks = false) (hr : meth.sig.returnType = some .int) (hE : z_EM D cy s) {post : Int32 → z_Md → Prop}  (M : z_Md)  (hw : w_X7_thrown post M ) : z_V A (z_hM D cy A o ad) p l e rm_X7_thrown s m args below meth c 1 (MQ below (va_Qi post (fun (u' : z_Md) t => z_hM D cy A o ad u' t.heap) A) args s 0 0 A) 0 0 M 0 [(0, va_rf (some o))] [] := by
  refine z_aload_n (x := some o) S 0 dX7_thrown_0 rfl rfl ?_
  refine zm_g_89 S hE dX7_thrown_1 ?_
  exact z_iret S hr hlk dX7_thrown_4 (Nat.le_refl 0) (Nat.le_refl 0) hw
theorem me_X7_thrown (l : Launch) (D : va_G) (cy : Nat → ClassId) (A : Nat → Prop) (o : Nat) (ad : Nat → Nat) (post : Int32 → z_Md → Prop) (M : z_Md)  (hw : w_X7_thrown post M ) : z_Mi l yX7_thrown (Cond.code yX7_thrown cX7_thrown 1 (some .int) :: z_T) rm_X7_thrown [.ref o] (z_EM D cy) (z_hM D cy A o ad) M post 0 0 A :=
  z_met (by decide) (Nat.le_of_ble_eq_true rfl) (fun p e s m args below meth c S hlk hr hnm hE => mb_X7_thrown S hlk hr hE M  hw)
abbrev rm_X7_hear : Room := { frames := 0, cells := 0, slots := 0, locals := 0 }
def w_X7_hear (post : z_Md → Prop) (M : z_Md) (x1 : Int32) : Prop := (vp_in (M 31 0) 49 ∧ (∀ x2_1 : Int32, x2_1 = M 1 (M 31 0).toNatClampNeg → (∀ y2 : Int32, y2 = (if (x1 &&& 4) ≤ 0 then 0 else x2_1) → (∀ x3_3 : Int32, x3_3 = (x2_1 / 8) + y2 → (∀ y4 : Int32, y4 = (if (x1 &&& 2) ≤ 0 then 0 else x2_1 / 2) → (∀ y5 : Int32, y5 = (if (x1 &&& 1) ≤ 0 then 0 else x2_1 / 4) → (∀ x3_6 : Int32, x3_6 = (x3_3 + y4) + y5 → (∀ y7 : Int32, y7 = (if (x1 &&& 8) ≤ 0 then (M 30 0) + x3_6 else (M 30 0) - x3_6) → (∀ y8 : Int32, y8 = (if (-32768) ≤ y7 then (if y7 ≤ 32767 then y7 else 32767) else (-32768)) → (∀ y9 : Int32, y9 = (if 4 ≤ (x1 &&& 7) then ((z_up M 30 0 y8) 31 0) + (2 * ((x1 &&& 7) - 3)) else ((z_up M 30 0 y8) 31 0) - 1) → (∀ y10 : Int32, y10 = (if 0 ≤ y9 then (if y9 ≤ 48 then y9 else 48) else 0) → (post (z_up (z_up M 30 0 y8) 31 0 y10)))))))))))))
set_option maxRecDepth 20000 in
theorem mb_X7_hear {p : Program} {l : Launch} {e : Env} {s : State} {m : MethodId} {args : Array Value} {below : List Frame} {meth : Method} {c : Code} {D : va_G} {cy : Nat → ClassId} {A : Nat → Prop} {o : Nat} {ad : Nat → Nat} (S : CallFix p m c cX7_hear 7 s args z_T RX7) (hlk : meth.locks = false) (hr : meth.sig.returnType = none) (hE : z_EM D cy s) {post : z_Md → Prop}  (M : z_Md) (x1 : Int32) (hw : w_X7_hear post M x1) : z_V A (z_hM D cy A o ad) p l e rm_X7_hear s m args below meth c 7 (MQ below (va_Qv post (fun (u' : z_Md) t => z_hM D cy A o ad u' t.heap) A) args s 0 0 A) 0 0 M 0 [(0, va_rf (some o)), (1, .int x1)] [] := by
  refine z_aload_n (x := some o) S 0 dX7_hear_0 rfl rfl ?_
  refine zm_g_7 S hE dX7_hear_1 ?_
  refine z_aload_n (x := some o) S 0 dX7_hear_4 rfl rfl ?_
  refine zm_g_93 S hE dX7_hear_5 ?_
  obtain ⟨hi20, hw⟩ := hw
  refine z_mald (j := 1) S hE rfl rfl hi20 dX7_hear_8 ?_
  refine z_top (fun x2_1 ex2_1 => ?_)
  have hw := hw x2_1 ex2_1
  refine z_istore_n S [(2, .int x2_1), (0, va_rf (some o)), (1, .int x1)] dX7_hear_9 rfl (by decide) rfl ?_
  refine z_lv (lv' := [(0, va_rf (some o)), (1, .int x1), (2, .int x2_1)]) [1, 2, 0] rfl ?_
  refine z_iload_n S 2 dX7_hear_10 rfl rfl ?_
  refine z_bipush (v := 8) S dX7_hear_11 (by decide) ?_
  refine z_idiv S dX7_hear_13 (by decide) ?_
  refine z_istore_n S [(3, .int (x2_1 / 8)), (0, va_rf (some o)), (1, .int x1), (2, .int x2_1)] dX7_hear_14 rfl (by decide) rfl ?_
  refine z_lv (lv' := [(0, va_rf (some o)), (1, .int x1), (2, .int x2_1), (3, .int (x2_1 / 8))]) [1, 2, 3, 0] rfl ?_
  refine z_iload_n S 3 dX7_hear_15 rfl rfl ?_
  refine z_iload_n S 1 dX7_hear_16 rfl rfl ?_
  refine z_iconst (v := 4) S dX7_hear_17 (by decide) ?_
  refine z_iand S dX7_hear_18 ?_
  suffices hJ : ∀ y2 : Int32, y2 = (if (x1 &&& 4) ≤ 0 then 0 else x2_1) → z_V A (z_hM D cy A o ad) p l e rm_X7_hear s m args below meth c 7 (MQ below (va_Qv post (fun (u' : z_Md) t => z_hM D cy A o ad u' t.heap) A) args s 0 0 A) 0 0 M 27 [(0, va_rf (some o)), (1, .int x1), (2, .int x2_1)] [.int y2, .int (x2_1 / 8)] from by
    refine z_if_le S 26 dX7_hear_19 (by decide) (fun c19 => ?_) (fun c19 => ?_)
    · refine z_iconst (v := 0) S dX7_hear_26 (by decide) ?_
      refine z_lv (lv' := [(0, va_rf (some o)), (1, .int x1), (2, .int x2_1)]) [0, 1, 2] rfl ?_
      exact hJ _ (by rw [if_pos c19])
    · refine z_iload_n S 2 dX7_hear_22 rfl rfl ?_
      refine z_goto S 27 dX7_hear_23 (by decide) ?_
      refine z_lv (lv' := [(0, va_rf (some o)), (1, .int x1), (2, .int x2_1)]) [0, 1, 2] rfl ?_
      exact hJ _ (by rw [if_neg c19])
  intro y2 ey2
  have hw := hw y2 ey2
  refine z_iadd S dX7_hear_27 ?_
  refine z_top (fun x3_3 ex3_3 => ?_)
  have hw := hw x3_3 ex3_3
  refine z_istore_n S [(3, .int x3_3), (0, va_rf (some o)), (1, .int x1), (2, .int x2_1)] dX7_hear_28 rfl (by decide) rfl ?_
  refine z_lv (lv' := [(0, va_rf (some o)), (1, .int x1), (2, .int x2_1), (3, .int x3_3)]) [1, 2, 3, 0] rfl ?_
  refine z_iload_n S 3 dX7_hear_29 rfl rfl ?_
  refine z_iload_n S 1 dX7_hear_30 rfl rfl ?_
  refine z_iconst (v := 2) S dX7_hear_31 (by decide) ?_
  refine z_iand S dX7_hear_32 ?_
  suffices hJ : ∀ y4 : Int32, y4 = (if (x1 &&& 2) ≤ 0 then 0 else x2_1 / 2) → z_V A (z_hM D cy A o ad) p l e rm_X7_hear s m args below meth c 7 (MQ below (va_Qv post (fun (u' : z_Md) t => z_hM D cy A o ad u' t.heap) A) args s 0 0 A) 0 0 M 43 [(0, va_rf (some o)), (1, .int x1), (2, .int x2_1)] [.int y4, .int x3_3] from by
    refine z_if_le S 42 dX7_hear_33 (by decide) (fun c18 => ?_) (fun c18 => ?_)
    · refine z_iconst (v := 0) S dX7_hear_42 (by decide) ?_
      refine z_lv (lv' := [(0, va_rf (some o)), (1, .int x1), (2, .int x2_1)]) [0, 1, 2] rfl ?_
      exact hJ _ (by rw [if_pos c18])
    · refine z_iload_n S 2 dX7_hear_36 rfl rfl ?_
      refine z_iconst (v := 2) S dX7_hear_37 (by decide) ?_
      refine z_idiv S dX7_hear_38 (by decide) ?_
      refine z_goto S 43 dX7_hear_39 (by decide) ?_
      refine z_lv (lv' := [(0, va_rf (some o)), (1, .int x1), (2, .int x2_1)]) [0, 1, 2] rfl ?_
      exact hJ _ (by rw [if_neg c18])
  intro y4 ey4
  have hw := hw y4 ey4
  refine z_iadd S dX7_hear_43 ?_
  refine z_istore_n S [(3, .int (x3_3 + y4)), (0, va_rf (some o)), (1, .int x1), (2, .int x2_1)] dX7_hear_44 rfl (by decide) rfl ?_
  refine z_lv (lv' := [(0, va_rf (some o)), (1, .int x1), (2, .int x2_1), (3, .int (x3_3 + y4))]) [1, 2, 3, 0] rfl ?_
  refine z_iload_n S 3 dX7_hear_45 rfl rfl ?_
  refine z_iload_n S 1 dX7_hear_46 rfl rfl ?_
  refine z_iconst (v := 1) S dX7_hear_47 (by decide) ?_
  refine z_iand S dX7_hear_48 ?_
  suffices hJ : ∀ y5 : Int32, y5 = (if (x1 &&& 1) ≤ 0 then 0 else x2_1 / 4) → z_V A (z_hM D cy A o ad) p l e rm_X7_hear s m args below meth c 7 (MQ below (va_Qv post (fun (u' : z_Md) t => z_hM D cy A o ad u' t.heap) A) args s 0 0 A) 0 0 M 59 [(0, va_rf (some o)), (1, .int x1)] [.int y5, .int (x3_3 + y4)] from by
    refine z_if_le S 58 dX7_hear_49 (by decide) (fun c17 => ?_) (fun c17 => ?_)
    · refine z_iconst (v := 0) S dX7_hear_58 (by decide) ?_
      refine z_lv (lv' := [(0, va_rf (some o)), (1, .int x1)]) [0, 1] rfl ?_
      exact hJ _ (by rw [if_pos c17])
    · refine z_iload_n S 2 dX7_hear_52 rfl rfl ?_
      refine z_iconst (v := 4) S dX7_hear_53 (by decide) ?_
      refine z_idiv S dX7_hear_54 (by decide) ?_
      refine z_goto S 59 dX7_hear_55 (by decide) ?_
      refine z_lv (lv' := [(0, va_rf (some o)), (1, .int x1)]) [0, 1] rfl ?_
      exact hJ _ (by rw [if_neg c17])
  intro y5 ey5
  have hw := hw y5 ey5
  refine z_iadd S dX7_hear_59 ?_
  refine z_top (fun x3_6 ex3_6 => ?_)
  have hw := hw x3_6 ex3_6
  refine z_istore_n S [(3, .int x3_6), (0, va_rf (some o)), (1, .int x1)] dX7_hear_60 rfl (by decide) rfl ?_
  refine z_lv (lv' := [(0, va_rf (some o)), (1, .int x1), (3, .int x3_6)]) [1, 2, 0] rfl ?_
  refine z_iload_n S 1 dX7_hear_61 rfl rfl ?_
  refine z_bipush (v := 8) S dX7_hear_62 (by decide) ?_
  refine z_iand S dX7_hear_64 ?_
  suffices hJ : ∀ y7 : Int32, y7 = (if (x1 &&& 8) ≤ 0 then (M 30 0) + x3_6 else (M 30 0) - x3_6) → z_V A (z_hM D cy A o ad) p l e rm_X7_hear s m args below meth c 7 (MQ below (va_Qv post (fun (u' : z_Md) t => z_hM D cy A o ad u' t.heap) A) args s 0 0 A) 0 0 M 83 [(0, va_rf (some o)), (1, .int x1)] [.int y7] from by
    refine z_if_le S 77 dX7_hear_65 (by decide) (fun c16 => ?_) (fun c16 => ?_)
    · refine z_aload_n (x := some o) S 0 dX7_hear_77 rfl rfl ?_
      refine zm_g_96 S hE dX7_hear_78 ?_
      refine z_iload_n S 2 dX7_hear_81 rfl rfl ?_
      refine z_iadd S dX7_hear_82 ?_
      refine z_lv (lv' := [(0, va_rf (some o)), (1, .int x1)]) [0, 1] rfl ?_
      exact hJ _ (by rw [if_pos c16])
    · refine z_aload_n (x := some o) S 0 dX7_hear_68 rfl rfl ?_
      refine zm_g_96 S hE dX7_hear_69 ?_
      refine z_iload_n S 2 dX7_hear_72 rfl rfl ?_
      refine z_isub S dX7_hear_73 ?_
      refine z_goto S 83 dX7_hear_74 (by decide) ?_
      refine z_lv (lv' := [(0, va_rf (some o)), (1, .int x1)]) [0, 1] rfl ?_
      exact hJ _ (by rw [if_neg c16])
  intro y7 ey7
  have hw := hw y7 ey7
  refine z_istore S [(4, .int y7), (0, va_rf (some o)), (1, .int x1)] dX7_hear_83 (by decide) rfl ?_
  refine z_lv (lv' := [(0, va_rf (some o)), (1, .int x1), (4, .int y7)]) [1, 2, 0] rfl ?_
  refine z_aload_n (x := some o) S 0 dX7_hear_85 rfl rfl ?_
  refine z_iload S 2 dX7_hear_86 rfl ?_
  refine z_sipush (v := (-32768)) S dX7_hear_88 (by decide) ?_
  suffices hJ : ∀ y8 : Int32, y8 = (if (-32768) ≤ y7 then (if y7 ≤ 32767 then y7 else 32767) else (-32768)) → z_V A (z_hM D cy A o ad) p l e rm_X7_hear s m args below meth c 7 (MQ below (va_Qv post (fun (u' : z_Md) t => z_hM D cy A o ad u' t.heap) A) args s 0 0 A) 0 0 M 116 [(0, va_rf (some o)), (1, .int x1)] [.int y8, va_rf (some o)] from by
    refine z_icmp_ge S 100 dX7_hear_91 (by decide) (fun c14 => ?_) (fun c14 => ?_)
    · refine z_iload S 2 dX7_hear_100 rfl ?_
      refine z_sipush (v := 32767) S dX7_hear_102 (by decide) ?_
      refine z_icmp_le S 114 dX7_hear_105 (by decide) (fun c15 => ?_) (fun c15 => ?_)
      · refine z_iload S 2 dX7_hear_114 rfl ?_
        refine z_lv (lv' := [(0, va_rf (some o)), (1, .int x1)]) [0, 1] rfl ?_
        exact hJ _ (by rw [if_pos c14, if_pos c15])
      · refine z_sipush (v := 32767) S dX7_hear_108 (by decide) ?_
        refine z_goto S 116 dX7_hear_111 (by decide) ?_
        refine z_lv (lv' := [(0, va_rf (some o)), (1, .int x1)]) [0, 1] rfl ?_
        exact hJ _ (by rw [if_pos c14, if_neg c15])
    · refine z_sipush (v := (-32768)) S dX7_hear_94 (by decide) ?_
      refine z_goto S 116 dX7_hear_97 (by decide) ?_
      refine z_lv (lv' := [(0, va_rf (some o)), (1, .int x1)]) [0, 1] rfl ?_
      exact hJ _ (by rw [if_neg c14])
  intro y8 ey8
  have hw := hw y8 ey8
  refine zm_p_96 S hE dX7_hear_116 ?_
  refine z_iload_n S 1 dX7_hear_119 rfl rfl ?_
  refine z_bipush (v := 7) S dX7_hear_120 (by decide) ?_
  refine z_iand S dX7_hear_122 ?_
  refine z_istore S [(5, .int (x1 &&& 7)), (0, va_rf (some o)), (1, .int x1)] dX7_hear_123 (by decide) rfl ?_
  refine z_lv (lv' := [(0, va_rf (some o)), (1, .int x1), (5, .int (x1 &&& 7))]) [1, 2, 0] rfl ?_
  refine z_iload S 2 dX7_hear_125 rfl ?_
  refine z_iconst (v := 4) S dX7_hear_127 (by decide) ?_
  suffices hJ : ∀ y9 : Int32, y9 = (if 4 ≤ (x1 &&& 7) then ((z_up M 30 0 y8) 31 0) + (2 * ((x1 &&& 7) - 3)) else ((z_up M 30 0 y8) 31 0) - 1) → z_V A (z_hM D cy A o ad) p l e rm_X7_hear s m args below meth c 7 (MQ below (va_Qv post (fun (u' : z_Md) t => z_hM D cy A o ad u' t.heap) A) args s 0 0 A) 0 0 (z_up M 30 0 y8) 151 [(0, va_rf (some o))] [.int y9] from by
    refine z_icmp_ge S 140 dX7_hear_128 (by decide) (fun c13 => ?_) (fun c13 => ?_)
    · refine z_aload_n (x := some o) S 0 dX7_hear_140 rfl rfl ?_
      refine zm_g_93 S hE dX7_hear_141 ?_
      refine z_iconst (v := 2) S dX7_hear_144 (by decide) ?_
      refine z_iload S 2 dX7_hear_145 rfl ?_
      refine z_iconst (v := 3) S dX7_hear_147 (by decide) ?_
      refine z_isub S dX7_hear_148 ?_
      refine z_imul S dX7_hear_149 ?_
      refine z_iadd S dX7_hear_150 ?_
      refine z_lv (lv' := [(0, va_rf (some o))]) [0] rfl ?_
      exact hJ _ (by rw [if_pos c13])
    · refine z_aload_n (x := some o) S 0 dX7_hear_131 rfl rfl ?_
      refine zm_g_93 S hE dX7_hear_132 ?_
      refine z_iconst (v := 1) S dX7_hear_135 (by decide) ?_
      refine z_isub S dX7_hear_136 ?_
      refine z_goto S 151 dX7_hear_137 (by decide) ?_
      refine z_lv (lv' := [(0, va_rf (some o))]) [0] rfl ?_
      exact hJ _ (by rw [if_neg c13])
  intro y9 ey9
  have hw := hw y9 ey9
  refine z_istore S [(6, .int y9), (0, va_rf (some o))] dX7_hear_151 (by decide) rfl ?_
  refine z_lv (lv' := [(0, va_rf (some o)), (6, .int y9)]) [1, 0] rfl ?_
  refine z_aload_n (x := some o) S 0 dX7_hear_153 rfl rfl ?_
  refine z_iload S 1 dX7_hear_154 rfl ?_
  suffices hJ : ∀ y10 : Int32, y10 = (if 0 ≤ y9 then (if y9 ≤ 48 then y9 else 48) else 0) → z_V A (z_hM D cy A o ad) p l e rm_X7_hear s m args below meth c 7 (MQ below (va_Qv post (fun (u' : z_Md) t => z_hM D cy A o ad u' t.heap) A) args s 0 0 A) 0 0 (z_up M 30 0 y8) 177 [] [.int y10, va_rf (some o)] from by
    refine z_if_ge S 163 dX7_hear_156 (by decide) (fun c11 => ?_) (fun c11 => ?_)
    · refine z_iload S 1 dX7_hear_163 rfl ?_
      refine z_bipush (v := 48) S dX7_hear_165 (by decide) ?_
      refine z_icmp_le S 175 dX7_hear_167 (by decide) (fun c12 => ?_) (fun c12 => ?_)
      · refine z_iload S 1 dX7_hear_175 rfl ?_
        refine z_lv (lv' := []) [] rfl ?_
        exact hJ _ (by rw [if_pos c11, if_pos c12])
      · refine z_bipush (v := 48) S dX7_hear_170 (by decide) ?_
        refine z_goto S 177 dX7_hear_172 (by decide) ?_
        refine z_lv (lv' := []) [] rfl ?_
        exact hJ _ (by rw [if_pos c11, if_neg c12])
    · refine z_iconst (v := 0) S dX7_hear_159 (by decide) ?_
      refine z_goto S 177 dX7_hear_160 (by decide) ?_
      refine z_lv (lv' := []) [] rfl ?_
      exact hJ _ (by rw [if_neg c11])
  intro y10 ey10
  have hw := hw y10 ey10
  refine zm_p_93 S hE dX7_hear_177 ?_
  exact z_vret S hr hlk dX7_hear_180 (Nat.le_refl 0) (Nat.le_refl 0) hw
theorem me_X7_hear (l : Launch) (D : va_G) (cy : Nat → ClassId) (A : Nat → Prop) (o : Nat) (ad : Nat → Nat) (post : z_Md → Prop) (M : z_Md) (x1 : Int32) (hw : w_X7_hear post M x1) : z_Mv l yX7_hear (Cond.code yX7_hear cX7_hear 7 none :: z_T) rm_X7_hear [.ref o, .int x1] (z_EM D cy) (z_hM D cy A o ad) M post 0 0 A :=
  z_met (by decide) (Nat.le_of_ble_eq_true rfl) (fun p e s m args below meth c S hlk hr hnm hE => mb_X7_hear S hlk hr hE M x1 hw)
abbrev rm_X7_code : Room := { frames := 1, cells := 0, slots := 0, locals := 26 }
def w_X7_code_43 (post : Int32 → z_Md → Prop) : Nat → z_Md → Int32 → Int32 → Int32 → Int32 → Prop
  | 0 => fun _ _ _ _ _ => False
  | n + 1 => fun M x2 x3 x4 x5 => ((3 ≤ x5 → (w_X7_hear (fun M2 => (post x4 M2)) M x4)) ∧ (¬ 3 ≤ x5 → (∀ x6_4 : Int32, x6_4 = x2 >>> (x5 &&& 31) → (∀ y5 : Int32, y5 = (if x3 < x6_4 then x3 else x3 - x6_4) → (∀ y6 : Int32, y6 = (if x3 < x6_4 then x4 else x4 ||| (4 >>> (x5 &&& 31))) → (w_X7_code_43 post n M x2 y5 y6 (x5 + 1)))))))
def w_X7_code (post : Int32 → z_Md → Prop) (M : z_Md) (x1 : Int32) : Prop := (vp_in (M 31 0) 49 ∧ (∀ x2_1 : Int32, x2_1 = M 1 (M 31 0).toNatClampNeg → (∀ x3_2 : Int32, x3_2 = x1 - (M 30 0) → (∀ y3 : Int32, y3 = (if 0 ≤ x3_2 then 0 else 8) → (∀ y4 : Int32, y4 = (if 0 ≤ x3_2 then x3_2 else -x3_2) → (∃ n0 : Nat, w_X7_code_43 post n0 M x2_1 y4 y3 0))))))
set_option maxRecDepth 20000 in
theorem mb_X7_code_43 {p : Program} {l : Launch} {e : Env} {s : State} {m : MethodId} {args : Array Value} {below : List Frame} {meth : Method} {c : Code} {D : va_G} {cy : Nat → ClassId} {A : Nat → Prop} {o : Nat} {ad : Nat → Nat} (S : CallFix p m c cX7_code 7 s args z_T RX7) (hlk : meth.locks = false) (hr : meth.sig.returnType = some .int) (hE : z_EM D cy s) {post : Int32 → z_Md → Prop}  : ∀ (n : Nat) (M : z_Md) (x2 : Int32) (x3 : Int32) (x4 : Int32) (x5 : Int32), w_X7_code_43 post n M x2 x3 x4 x5 → z_V A (z_hM D cy A o ad) p l e rm_X7_code s m args below meth c 7 (MQ below (va_Qi post (fun (u' : z_Md) t => z_hM D cy A o ad u' t.heap) A) args s 0 0 A) 0 0 M 43 [(0, va_rf (some o)), (2, .int x2), (3, .int x3), (4, .int x4), (5, .int x5)] [] := by
  intro n
  induction n with
  | zero => intro M x2 x3 x4 x5 hw; exact hw.elim
  | succ n ih =>
    intro M x2 x3 x4 x5 hw
    refine z_iload S 4 dX7_code_43 rfl ?_
    refine z_iconst (v := 3) S dX7_code_45 (by decide) ?_
    refine z_icmp_ge S 81 dX7_code_46 (by decide) (fun c1 => ?_) (fun c1 => ?_)
    · have hw := hw.1 c1
      refine z_aload_n (x := some o) S 0 dX7_code_81 rfl rfl ?_
      refine z_iload S 3 dX7_code_82 rfl ?_
      refine z_callVv (As := [.int x4]) (st := []) S (z_EMok D cy A) hE (me_X7_hear l D cy A o ad _ M x4 hw) gV_X7_99 hdV_X7_hear ⟨Nat.le_of_ble_eq_true rfl, Nat.le_of_ble_eq_true rfl⟩ rfl rfl (z_recvM hE) (fun _ h => h) (fun _ _ _ _ h => h) rfl (Nat.le_trans z_s0 (by decide)) dX7_code_84 ⟨Nat.le_of_ble_eq_true rfl, Nat.le_of_ble_eq_true rfl⟩ rfl (fun M2 hw => ?_)
      refine z_iload S 3 dX7_code_87 rfl ?_
      exact z_iret S hr hlk dX7_code_89 (Nat.le_refl 0) (Nat.le_refl 0) hw
    · have hw := hw.2 c1
      refine z_iload_n S 1 dX7_code_49 rfl rfl ?_
      refine z_iload S 4 dX7_code_50 rfl ?_
      refine z_ishr S dX7_code_52 ?_
      refine z_top (fun x6_4 ex6_4 => ?_)
      have hw := hw x6_4 ex6_4
      refine z_istore S [(6, .int x6_4), (0, va_rf (some o)), (2, .int x2), (3, .int x3), (4, .int x4), (5, .int x5)] dX7_code_53 (by decide) rfl ?_
      refine z_lv (lv' := [(0, va_rf (some o)), (2, .int x2), (3, .int x3), (4, .int x4), (5, .int x5), (6, .int x6_4)]) [1, 2, 3, 4, 5, 0] rfl ?_
      refine z_iload_n S 2 dX7_code_55 rfl rfl ?_
      refine z_iload S 5 dX7_code_56 rfl ?_
      suffices hJ : ∀ y5 : Int32, y5 = (if x3 < x6_4 then x3 else x3 - x6_4) → ∀ y6 : Int32, y6 = (if x3 < x6_4 then x4 else x4 ||| (4 >>> (x5 &&& 31))) → z_V A (z_hM D cy A o ad) p l e rm_X7_code s m args below meth c 7 (MQ below (va_Qi post (fun (u' : z_Md) t => z_hM D cy A o ad u' t.heap) A) args s 0 0 A) 0 0 M 75 [(0, va_rf (some o)), (2, .int x2), (3, .int y5), (4, .int y6), (5, .int x5)] [] from by
        refine z_icmp_lt S 75 dX7_code_58 (by decide) (fun c7 => ?_) (fun c7 => ?_)
        · refine z_lv (lv' := [(0, va_rf (some o)), (2, .int x2), (3, .int x3), (4, .int x4), (5, .int x5)]) [0, 1, 2, 3, 4] rfl ?_
          exact hJ _ (by rw [if_pos c7]) _ (by rw [if_pos c7])
        · refine z_iload S 3 dX7_code_61 rfl ?_
          refine z_iconst (v := 4) S dX7_code_63 (by decide) ?_
          refine z_iload S 4 dX7_code_64 rfl ?_
          refine z_ishr S dX7_code_66 ?_
          refine z_ior S dX7_code_67 ?_
          refine z_istore S [(4, .int (x4 ||| (4 >>> (x5 &&& 31)))), (0, va_rf (some o)), (2, .int x2), (3, .int x3), (5, .int x5), (6, .int x6_4)] dX7_code_68 (by decide) rfl ?_
          refine z_lv (lv' := [(0, va_rf (some o)), (2, .int x2), (3, .int x3), (4, .int (x4 ||| (4 >>> (x5 &&& 31)))), (5, .int x5), (6, .int x6_4)]) [1, 2, 3, 0, 4, 5] rfl ?_
          refine z_iload_n S 2 dX7_code_70 rfl rfl ?_
          refine z_iload S 5 dX7_code_71 rfl ?_
          refine z_isub S dX7_code_73 ?_
          refine z_istore_n S [(3, .int (x3 - x6_4)), (0, va_rf (some o)), (2, .int x2), (4, .int (x4 ||| (4 >>> (x5 &&& 31)))), (5, .int x5), (6, .int x6_4)] dX7_code_74 rfl (by decide) rfl ?_
          refine z_lv (lv' := [(0, va_rf (some o)), (2, .int x2), (3, .int (x3 - x6_4)), (4, .int (x4 ||| (4 >>> (x5 &&& 31)))), (5, .int x5), (6, .int x6_4)]) [1, 2, 0, 3, 4, 5] rfl ?_
          refine z_lv (lv' := [(0, va_rf (some o)), (2, .int x2), (3, .int (x3 - x6_4)), (4, .int (x4 ||| (4 >>> (x5 &&& 31)))), (5, .int x5)]) [0, 1, 2, 3, 4] rfl ?_
          exact hJ _ (by rw [if_neg c7]) _ (by rw [if_neg c7])
      intro y5 ey5
      have hw := hw y5 ey5
      intro y6 ey6
      have hw := hw y6 ey6
      refine z_iinc (v := x5 + 1) (pl := 4) S [(5, .int (x5 + 1)), (0, va_rf (some o)), (2, .int x2), (3, .int y5), (4, .int y6)] dX7_code_75 rfl rfl (by decide) rfl ?_
      refine z_lv (lv' := [(0, va_rf (some o)), (2, .int x2), (3, .int y5), (4, .int y6), (5, .int (x5 + 1))]) [1, 2, 3, 4, 0] rfl ?_
      refine z_goto S 43 dX7_code_78 (by decide) ?_
      exact ih M x2 y5 y6 (x5 + 1) hw
set_option maxRecDepth 20000 in
theorem mb_X7_code {p : Program} {l : Launch} {e : Env} {s : State} {m : MethodId} {args : Array Value} {below : List Frame} {meth : Method} {c : Code} {D : va_G} {cy : Nat → ClassId} {A : Nat → Prop} {o : Nat} {ad : Nat → Nat} (S : CallFix p m c cX7_code 7 s args z_T RX7) (hlk : meth.locks = false) (hr : meth.sig.returnType = some .int) (hE : z_EM D cy s) {post : Int32 → z_Md → Prop}  (M : z_Md) (x1 : Int32) (hw : w_X7_code post M x1) : z_V A (z_hM D cy A o ad) p l e rm_X7_code s m args below meth c 7 (MQ below (va_Qi post (fun (u' : z_Md) t => z_hM D cy A o ad u' t.heap) A) args s 0 0 A) 0 0 M 0 [(0, va_rf (some o)), (1, .int x1)] [] := by
  refine z_aload_n (x := some o) S 0 dX7_code_0 rfl rfl ?_
  refine zm_g_7 S hE dX7_code_1 ?_
  refine z_aload_n (x := some o) S 0 dX7_code_4 rfl rfl ?_
  refine zm_g_93 S hE dX7_code_5 ?_
  obtain ⟨hi7, hw⟩ := hw
  refine z_mald (j := 1) S hE rfl rfl hi7 dX7_code_8 ?_
  refine z_top (fun x2_1 ex2_1 => ?_)
  have hw := hw x2_1 ex2_1
  refine z_istore_n S [(2, .int x2_1), (0, va_rf (some o)), (1, .int x1)] dX7_code_9 rfl (by decide) rfl ?_
  refine z_lv (lv' := [(0, va_rf (some o)), (1, .int x1), (2, .int x2_1)]) [1, 2, 0] rfl ?_
  refine z_iload_n S 1 dX7_code_10 rfl rfl ?_
  refine z_aload_n (x := some o) S 0 dX7_code_11 rfl rfl ?_
  refine zm_g_96 S hE dX7_code_12 ?_
  refine z_isub S dX7_code_15 ?_
  refine z_top (fun x3_2 ex3_2 => ?_)
  have hw := hw x3_2 ex3_2
  refine z_istore_n S [(3, .int x3_2), (0, va_rf (some o)), (1, .int x1), (2, .int x2_1)] dX7_code_16 rfl (by decide) rfl ?_
  refine z_lv (lv' := [(0, va_rf (some o)), (1, .int x1), (2, .int x2_1), (3, .int x3_2)]) [1, 2, 3, 0] rfl ?_
  refine z_iload_n S 3 dX7_code_17 rfl rfl ?_
  suffices hJ : ∀ y3 : Int32, y3 = (if 0 ≤ x3_2 then 0 else 8) → z_V A (z_hM D cy A o ad) p l e rm_X7_code s m args below meth c 7 (MQ below (va_Qi post (fun (u' : z_Md) t => z_hM D cy A o ad u' t.heap) A) args s 0 0 A) 0 0 M 27 [(0, va_rf (some o)), (2, .int x2_1), (3, .int x3_2)] [.int y3] from by
    refine z_if_ge S 26 dX7_code_18 (by decide) (fun c6 => ?_) (fun c6 => ?_)
    · refine z_iconst (v := 0) S dX7_code_26 (by decide) ?_
      refine z_lv (lv' := [(0, va_rf (some o)), (2, .int x2_1), (3, .int x3_2)]) [0, 2, 3] rfl ?_
      exact hJ _ (by rw [if_pos c6])
    · refine z_bipush (v := 8) S dX7_code_21 (by decide) ?_
      refine z_goto S 27 dX7_code_23 (by decide) ?_
      refine z_lv (lv' := [(0, va_rf (some o)), (2, .int x2_1), (3, .int x3_2)]) [0, 2, 3] rfl ?_
      exact hJ _ (by rw [if_neg c6])
  intro y3 ey3
  have hw := hw y3 ey3
  refine z_istore S [(4, .int y3), (0, va_rf (some o)), (2, .int x2_1), (3, .int x3_2)] dX7_code_27 (by decide) rfl ?_
  refine z_lv (lv' := [(0, va_rf (some o)), (2, .int x2_1), (3, .int x3_2), (4, .int y3)]) [1, 2, 3, 0] rfl ?_
  refine z_iload_n S 2 dX7_code_29 rfl rfl ?_
  suffices hJ : ∀ y4 : Int32, y4 = (if 0 ≤ x3_2 then x3_2 else -x3_2) → z_V A (z_hM D cy A o ad) p l e rm_X7_code s m args below meth c 7 (MQ below (va_Qi post (fun (u' : z_Md) t => z_hM D cy A o ad u' t.heap) A) args s 0 0 A) 0 0 M 39 [(0, va_rf (some o)), (2, .int x2_1), (4, .int y3)] [.int y4] from by
    refine z_if_ge S 38 dX7_code_30 (by decide) (fun c5 => ?_) (fun c5 => ?_)
    · refine z_iload_n S 2 dX7_code_38 rfl rfl ?_
      refine z_lv (lv' := [(0, va_rf (some o)), (2, .int x2_1), (4, .int y3)]) [0, 1, 3] rfl ?_
      exact hJ _ (by rw [if_pos c5])
    · refine z_iload_n S 2 dX7_code_33 rfl rfl ?_
      refine z_ineg S dX7_code_34 ?_
      refine z_goto S 39 dX7_code_35 (by decide) ?_
      refine z_lv (lv' := [(0, va_rf (some o)), (2, .int x2_1), (4, .int y3)]) [0, 1, 3] rfl ?_
      exact hJ _ (by rw [if_neg c5])
  intro y4 ey4
  have hw := hw y4 ey4
  refine z_istore_n S [(3, .int y4), (0, va_rf (some o)), (2, .int x2_1), (4, .int y3)] dX7_code_39 rfl (by decide) rfl ?_
  refine z_lv (lv' := [(0, va_rf (some o)), (2, .int x2_1), (3, .int y4), (4, .int y3)]) [1, 2, 0, 3] rfl ?_
  refine z_iconst (v := 0) S dX7_code_40 (by decide) ?_
  refine z_istore S [(5, .int 0), (0, va_rf (some o)), (2, .int x2_1), (3, .int y4), (4, .int y3)] dX7_code_41 (by decide) rfl ?_
  refine z_lv (lv' := [(0, va_rf (some o)), (2, .int x2_1), (3, .int y4), (4, .int y3), (5, .int 0)]) [1, 2, 3, 4, 0] rfl ?_
  obtain ⟨n0, hw⟩ := hw
  exact mb_X7_code_43 S hlk hr hE n0 M x2_1 y4 y3 0 hw
theorem me_X7_code (l : Launch) (D : va_G) (cy : Nat → ClassId) (A : Nat → Prop) (o : Nat) (ad : Nat → Nat) (post : Int32 → z_Md → Prop) (M : z_Md) (x1 : Int32) (hw : w_X7_code post M x1) : z_Mi l yX7_code (Cond.code yX7_code cX7_code 7 (some .int) :: z_T) rm_X7_code [.ref o, .int x1] (z_EM D cy) (z_hM D cy A o ad) M post 0 0 A :=
  z_met (by decide) (Nat.le_of_ble_eq_true rfl) (fun p e s m args below meth c S hlk hr hnm hE => mb_X7_code S hlk hr hE M x1 hw)
abbrev rm_X7_freeBlock : Room := { frames := 0, cells := 0, slots := 0, locals := 0 }
def w_X7_freeBlock_5 (post : Int32 → z_Md → Prop) : Nat → z_Md → Int32 → Int32 → Prop
  | 0 => fun _ _ _ => False
  | n + 1 => fun M x1 x2 => ((x2 < 0 → (post x1 M)) ∧ (¬ x2 < 0 → (vp_in x2 40 ∧ (∀ y2 : Int32, y2 = (if (M 2 x2.toNatClampNeg) = 0 then x2 else x1) → (w_X7_freeBlock_5 post n M y2 (x2 + (-1)))))))
def w_X7_freeBlock (post : Int32 → z_Md → Prop) (M : z_Md)  : Prop := (∃ n0 : Nat, w_X7_freeBlock_5 post n0 M (-1) 39)
set_option maxRecDepth 20000 in
theorem mb_X7_freeBlock_5 {p : Program} {l : Launch} {e : Env} {s : State} {m : MethodId} {args : Array Value} {below : List Frame} {meth : Method} {c : Code} {D : va_G} {cy : Nat → ClassId} {A : Nat → Prop} {o : Nat} {ad : Nat → Nat} (S : CallFix p m c cX7_freeBlock 3 s args z_T RX7) (hlk : meth.locks = false) (hr : meth.sig.returnType = some .int) (hE : z_EM D cy s) {post : Int32 → z_Md → Prop}  : ∀ (n : Nat) (M : z_Md) (x1 : Int32) (x2 : Int32), w_X7_freeBlock_5 post n M x1 x2 → z_V A (z_hM D cy A o ad) p l e rm_X7_freeBlock s m args below meth c 3 (MQ below (va_Qi post (fun (u' : z_Md) t => z_hM D cy A o ad u' t.heap) A) args s 0 0 A) 0 0 M 5 [(0, va_rf (some o)), (1, .int x1), (2, .int x2)] [] := by
  intro n
  induction n with
  | zero => intro M x1 x2 hw; exact hw.elim
  | succ n ih =>
    intro M x1 x2 hw
    refine z_iload_n S 2 dX7_freeBlock_5 rfl rfl ?_
    refine z_if_lt S 30 dX7_freeBlock_6 (by decide) (fun c1 => ?_) (fun c1 => ?_)
    · have hw := hw.1 c1
      refine z_iload_n S 1 dX7_freeBlock_30 rfl rfl ?_
      exact z_iret S hr hlk dX7_freeBlock_31 (Nat.le_refl 0) (Nat.le_refl 0) hw
    · have hw := hw.2 c1
      refine z_aload_n (x := some o) S 0 dX7_freeBlock_9 rfl rfl ?_
      refine zm_g_13 S hE dX7_freeBlock_10 ?_
      refine z_iload_n S 2 dX7_freeBlock_13 rfl rfl ?_
      obtain ⟨hi4, hw⟩ := hw
      refine z_mald (j := 2) S hE rfl rfl hi4 dX7_freeBlock_14 ?_
      suffices hJ : ∀ y2 : Int32, y2 = (if (M 2 x2.toNatClampNeg) = 0 then x2 else x1) → z_V A (z_hM D cy A o ad) p l e rm_X7_freeBlock s m args below meth c 3 (MQ below (va_Qi post (fun (u' : z_Md) t => z_hM D cy A o ad u' t.heap) A) args s 0 0 A) 0 0 M 23 [(0, va_rf (some o)), (2, .int x2)] [.int y2] from by
        refine z_if_ne S 22 dX7_freeBlock_15 (by decide) (fun c3 => ?_) (fun c3 => ?_)
        · refine z_iload_n S 1 dX7_freeBlock_22 rfl rfl ?_
          refine z_lv (lv' := [(0, va_rf (some o)), (2, .int x2)]) [0, 2] rfl ?_
          exact hJ _ (by rw [if_neg c3])
        · refine z_iload_n S 2 dX7_freeBlock_18 rfl rfl ?_
          refine z_goto S 23 dX7_freeBlock_19 (by decide) ?_
          refine z_lv (lv' := [(0, va_rf (some o)), (2, .int x2)]) [0, 2] rfl ?_
          exact hJ _ (by rw [if_pos c3])
      intro y2 ey2
      have hw := hw y2 ey2
      refine z_istore_n S [(1, .int y2), (0, va_rf (some o)), (2, .int x2)] dX7_freeBlock_23 rfl (by decide) rfl ?_
      refine z_lv (lv' := [(0, va_rf (some o)), (1, .int y2), (2, .int x2)]) [1, 0, 2] rfl ?_
      refine z_iinc (v := x2 + (-1)) (pl := 2) S [(2, .int (x2 + (-1))), (0, va_rf (some o)), (1, .int y2)] dX7_freeBlock_24 rfl rfl (by decide) rfl ?_
      refine z_lv (lv' := [(0, va_rf (some o)), (1, .int y2), (2, .int (x2 + (-1)))]) [1, 2, 0] rfl ?_
      refine z_goto S 5 dX7_freeBlock_27 (by decide) ?_
      exact ih M y2 (x2 + (-1)) hw
set_option maxRecDepth 20000 in
theorem mb_X7_freeBlock {p : Program} {l : Launch} {e : Env} {s : State} {m : MethodId} {args : Array Value} {below : List Frame} {meth : Method} {c : Code} {D : va_G} {cy : Nat → ClassId} {A : Nat → Prop} {o : Nat} {ad : Nat → Nat} (S : CallFix p m c cX7_freeBlock 3 s args z_T RX7) (hlk : meth.locks = false) (hr : meth.sig.returnType = some .int) (hE : z_EM D cy s) {post : Int32 → z_Md → Prop}  (M : z_Md)  (hw : w_X7_freeBlock post M ) : z_V A (z_hM D cy A o ad) p l e rm_X7_freeBlock s m args below meth c 3 (MQ below (va_Qi post (fun (u' : z_Md) t => z_hM D cy A o ad u' t.heap) A) args s 0 0 A) 0 0 M 0 [(0, va_rf (some o))] [] := by
  refine z_iconst (v := (-1)) S dX7_freeBlock_0 (by decide) ?_
  refine z_istore_n S [(1, .int (-1)), (0, va_rf (some o))] dX7_freeBlock_1 rfl (by decide) rfl ?_
  refine z_lv (lv' := [(0, va_rf (some o)), (1, .int (-1))]) [1, 0] rfl ?_
  refine z_bipush (v := 39) S dX7_freeBlock_2 (by decide) ?_
  refine z_istore_n S [(2, .int 39), (0, va_rf (some o)), (1, .int (-1))] dX7_freeBlock_4 rfl (by decide) rfl ?_
  refine z_lv (lv' := [(0, va_rf (some o)), (1, .int (-1)), (2, .int 39)]) [1, 2, 0] rfl ?_
  obtain ⟨n0, hw⟩ := hw
  exact mb_X7_freeBlock_5 S hlk hr hE n0 M (-1) 39 hw
theorem me_X7_freeBlock (l : Launch) (D : va_G) (cy : Nat → ClassId) (A : Nat → Prop) (o : Nat) (ad : Nat → Nat) (post : Int32 → z_Md → Prop) (M : z_Md)  (hw : w_X7_freeBlock post M ) : z_Mi l yX7_freeBlock (Cond.code yX7_freeBlock cX7_freeBlock 3 (some .int) :: z_T) rm_X7_freeBlock [.ref o] (z_EM D cy) (z_hM D cy A o ad) M post 0 0 A :=
  z_met (by decide) (Nat.le_of_ble_eq_true rfl) (fun p e s m args below meth c S hlk hr hnm hE => mb_X7_freeBlock S hlk hr hE M  hw)
abbrev rm_X7_entryAt : Room := { frames := 0, cells := 0, slots := 0, locals := 0 }
def w_X7_entryAt_10 (post : Int32 → z_Md → Prop) : Nat → z_Md → Int32 → Int32 → Int32 → Prop
  | 0 => fun _ _ _ _ => False
  | n + 1 => fun M x2 x3 x4 => (((x2 / 4) ≤ x4 → (post ((4 * x3) + (x2 - x2 / 4 * 4)) M)) ∧ (¬ (x2 / 4) ≤ x4 → (vp_in x3 40 ∧ (∀ x3_2 : Int32, x3_2 = M 3 x3.toNatClampNeg → (w_X7_entryAt_10 post n M x2 x3_2 (x4 + 1))))))
def w_X7_entryAt (post : Int32 → z_Md → Prop) (M : z_Md) (x1 : Int32) (x2 : Int32) : Prop := (vp_in x1 48 ∧ (∀ x3_1 : Int32, x3_1 = M 8 x1.toNatClampNeg → (∃ n0 : Nat, w_X7_entryAt_10 post n0 M x2 x3_1 0)))
set_option maxRecDepth 20000 in
theorem mb_X7_entryAt_10 {p : Program} {l : Launch} {e : Env} {s : State} {m : MethodId} {args : Array Value} {below : List Frame} {meth : Method} {c : Code} {D : va_G} {cy : Nat → ClassId} {A : Nat → Prop} {o : Nat} {ad : Nat → Nat} (S : CallFix p m c cX7_entryAt 5 s args z_T RX7) (hlk : meth.locks = false) (hr : meth.sig.returnType = some .int) (hE : z_EM D cy s) {post : Int32 → z_Md → Prop}  : ∀ (n : Nat) (M : z_Md) (x2 : Int32) (x3 : Int32) (x4 : Int32), w_X7_entryAt_10 post n M x2 x3 x4 → z_V A (z_hM D cy A o ad) p l e rm_X7_entryAt s m args below meth c 5 (MQ below (va_Qi post (fun (u' : z_Md) t => z_hM D cy A o ad u' t.heap) A) args s 0 0 A) 0 0 M 10 [(0, va_rf (some o)), (2, .int x2), (3, .int x3), (4, .int x4)] [] := by
  intro n
  induction n with
  | zero => intro M x2 x3 x4 hw; exact hw.elim
  | succ n ih =>
    intro M x2 x3 x4 hw
    refine z_iload S 3 dX7_entryAt_10 rfl ?_
    refine z_iload_n S 1 dX7_entryAt_12 rfl rfl ?_
    refine z_iconst (v := 4) S dX7_entryAt_13 (by decide) ?_
    refine z_idiv S dX7_entryAt_14 (by decide) ?_
    refine z_icmp_ge S 31 dX7_entryAt_15 (by decide) (fun c1 => ?_) (fun c1 => ?_)
    · have hw := hw.1 c1
      refine z_iconst (v := 4) S dX7_entryAt_31 (by decide) ?_
      refine z_iload_n S 2 dX7_entryAt_32 rfl rfl ?_
      refine z_imul S dX7_entryAt_33 ?_
      refine z_iload_n S 1 dX7_entryAt_34 rfl rfl ?_
      refine z_iconst (v := 4) S dX7_entryAt_35 (by decide) ?_
      refine z_irem S dX7_entryAt_36 (by decide) ?_
      refine z_iadd S dX7_entryAt_37 ?_
      exact z_iret S hr hlk dX7_entryAt_38 (Nat.le_refl 0) (Nat.le_refl 0) hw
    · have hw := hw.2 c1
      refine z_aload_n (x := some o) S 0 dX7_entryAt_18 rfl rfl ?_
      refine zm_g_16 S hE dX7_entryAt_19 ?_
      refine z_iload_n S 2 dX7_entryAt_22 rfl rfl ?_
      obtain ⟨hi3, hw⟩ := hw
      refine z_mald (j := 3) S hE rfl rfl hi3 dX7_entryAt_23 ?_
      refine z_top (fun x3_2 ex3_2 => ?_)
      have hw := hw x3_2 ex3_2
      refine z_istore_n S [(3, .int x3_2), (0, va_rf (some o)), (2, .int x2), (4, .int x4)] dX7_entryAt_24 rfl (by decide) rfl ?_
      refine z_lv (lv' := [(0, va_rf (some o)), (2, .int x2), (3, .int x3_2), (4, .int x4)]) [1, 2, 0, 3] rfl ?_
      refine z_iinc (v := x4 + 1) (pl := 3) S [(4, .int (x4 + 1)), (0, va_rf (some o)), (2, .int x2), (3, .int x3_2)] dX7_entryAt_25 rfl rfl (by decide) rfl ?_
      refine z_lv (lv' := [(0, va_rf (some o)), (2, .int x2), (3, .int x3_2), (4, .int (x4 + 1))]) [1, 2, 3, 0] rfl ?_
      refine z_goto S 10 dX7_entryAt_28 (by decide) ?_
      exact ih M x2 x3_2 (x4 + 1) hw
set_option maxRecDepth 20000 in
theorem mb_X7_entryAt {p : Program} {l : Launch} {e : Env} {s : State} {m : MethodId} {args : Array Value} {below : List Frame} {meth : Method} {c : Code} {D : va_G} {cy : Nat → ClassId} {A : Nat → Prop} {o : Nat} {ad : Nat → Nat} (S : CallFix p m c cX7_entryAt 5 s args z_T RX7) (hlk : meth.locks = false) (hr : meth.sig.returnType = some .int) (hE : z_EM D cy s) {post : Int32 → z_Md → Prop}  (M : z_Md) (x1 : Int32) (x2 : Int32) (hw : w_X7_entryAt post M x1 x2) : z_V A (z_hM D cy A o ad) p l e rm_X7_entryAt s m args below meth c 5 (MQ below (va_Qi post (fun (u' : z_Md) t => z_hM D cy A o ad u' t.heap) A) args s 0 0 A) 0 0 M 0 [(0, va_rf (some o)), (1, .int x1), (2, .int x2)] [] := by
  refine z_aload_n (x := some o) S 0 dX7_entryAt_0 rfl rfl ?_
  refine zm_g_32 S hE dX7_entryAt_1 ?_
  refine z_iload_n S 1 dX7_entryAt_4 rfl rfl ?_
  obtain ⟨hi2, hw⟩ := hw
  refine z_mald (j := 8) S hE rfl rfl hi2 dX7_entryAt_5 ?_
  refine z_top (fun x3_1 ex3_1 => ?_)
  have hw := hw x3_1 ex3_1
  refine z_istore_n S [(3, .int x3_1), (0, va_rf (some o)), (1, .int x1), (2, .int x2)] dX7_entryAt_6 rfl (by decide) rfl ?_
  refine z_lv (lv' := [(0, va_rf (some o)), (1, .int x1), (2, .int x2), (3, .int x3_1)]) [1, 2, 3, 0] rfl ?_
  refine z_iconst (v := 0) S dX7_entryAt_7 (by decide) ?_
  refine z_istore S [(4, .int 0), (0, va_rf (some o)), (1, .int x1), (2, .int x2), (3, .int x3_1)] dX7_entryAt_8 (by decide) rfl ?_
  refine z_lv (lv' := [(0, va_rf (some o)), (1, .int x1), (2, .int x2), (3, .int x3_1), (4, .int 0)]) [1, 2, 3, 4, 0] rfl ?_
  refine z_lv (lv' := [(0, va_rf (some o)), (2, .int x2), (3, .int x3_1), (4, .int 0)]) [0, 2, 3, 4] rfl ?_
  obtain ⟨n0, hw⟩ := hw
  exact mb_X7_entryAt_10 S hlk hr hE n0 M x2 x3_1 0 hw
theorem me_X7_entryAt (l : Launch) (D : va_G) (cy : Nat → ClassId) (A : Nat → Prop) (o : Nat) (ad : Nat → Nat) (post : Int32 → z_Md → Prop) (M : z_Md) (x1 : Int32) (x2 : Int32) (hw : w_X7_entryAt post M x1 x2) : z_Mi l yX7_entryAt (Cond.code yX7_entryAt cX7_entryAt 5 (some .int) :: z_T) rm_X7_entryAt [.ref o, .int x1, .int x2] (z_EM D cy) (z_hM D cy A o ad) M post 0 0 A :=
  z_met (by decide) (Nat.le_of_ble_eq_true rfl) (fun p e s m args below meth c S hlk hr hnm hE => mb_X7_entryAt S hlk hr hE M x1 x2 hw)
abbrev rm_X7_append : Room := { frames := 1, cells := 0, slots := 0, locals := 24 }
def w_X7_append_89 (post : z_Md → Prop) (M : z_Md) (x1 : Int32) (x2 : Int32) (x3 : Int32) : Prop := (vp_in x1 48 ∧ (vp_in x1 48 ∧ (w_X7_entryAt (fun r2 M1 => (vp_in r2 160 ∧ (vp_in r2 160 ∧ (post (z_up (z_up M1 4 r2.toNatClampNeg 0) 5 r2.toNatClampNeg x2))))) (z_up M 9 x1.toNatClampNeg ((M 9 x1.toNatClampNeg) + 1)) x1 x3)))
def w_X7_append_59 (post : z_Md → Prop) (M : z_Md) (x1 : Int32) (x2 : Int32) (x3 : Int32) (x4 : Int32) : Prop := (vp_in x4 40 ∧ (w_X7_append_89 post (z_up M 2 x4.toNatClampNeg 1) x1 x2 x3))
def w_X7_append (post : z_Md → Prop) (M : z_Md) (x1 : Int32) (x2 : Int32) : Prop := (vp_in x1 48 ∧ (∀ x3_1 : Int32, x3_1 = M 9 x1.toNatClampNeg → ((¬ (x3_1 - x3_1 / 4 * 4) = 0 → (w_X7_entryAt (fun r4 M3 => (vp_in (r4 / 4) 40 ∧ (vp_in (r4 / 4) 40 ∧ (w_X7_append_89 post (z_up M3 2 (r4 / 4).toNatClampNeg ((M3 2 (r4 / 4).toNatClampNeg) + 1)) x1 x2 x3_1)))) M x1 (x3_1 - 1))) ∧ ((x3_1 - x3_1 / 4 * 4) = 0 → (w_X7_freeBlock (fun r8 M7 => (vp_in r8 40 ∧ ((¬ x3_1 = 0 → (w_X7_entryAt (fun r11 M10 => (vp_in (r11 / 4) 40 ∧ (w_X7_append_59 post (z_up M10 3 (r11 / 4).toNatClampNeg r8) x1 x2 x3_1 r8))) (z_up M7 3 r8.toNatClampNeg (-1)) x1 (x3_1 - 1))) ∧ (x3_1 = 0 → (vp_in x1 48 ∧ (w_X7_append_59 post (z_up (z_up M7 3 r8.toNatClampNeg (-1)) 8 x1.toNatClampNeg r8) x1 x2 x3_1 r8)))))) M )))))
set_option maxRecDepth 20000 in
theorem mb_X7_append_89 {p : Program} {l : Launch} {e : Env} {s : State} {m : MethodId} {args : Array Value} {below : List Frame} {meth : Method} {c : Code} {D : va_G} {cy : Nat → ClassId} {A : Nat → Prop} {o : Nat} {ad : Nat → Nat} (S : CallFix p m c cX7_append 5 s args z_T RX7) (hlk : meth.locks = false) (hr : meth.sig.returnType = none) (hE : z_EM D cy s) {post : z_Md → Prop}  (M : z_Md) (x1 : Int32) (x2 : Int32) (x3 : Int32) (hw : w_X7_append_89 post M x1 x2 x3) : z_V A (z_hM D cy A o ad) p l e rm_X7_append s m args below meth c 5 (MQ below (va_Qv post (fun (u' : z_Md) t => z_hM D cy A o ad u' t.heap) A) args s 0 0 A) 0 0 M 89 [(0, va_rf (some o)), (1, .int x1), (2, .int x2), (3, .int x3)] [] := by
  refine z_aload_n (x := some o) S 0 dX7_append_89 rfl rfl ?_
  refine zm_g_35 S hE dX7_append_90 ?_
  refine z_iload_n S 1 dX7_append_93 rfl rfl ?_
  refine z_dup2 S dX7_append_94 rfl rfl ?_
  obtain ⟨hi6, hw⟩ := hw
  refine z_mald (j := 9) S hE rfl rfl hi6 dX7_append_95 ?_
  refine z_iconst (v := 1) S dX7_append_96 (by decide) ?_
  refine z_iadd S dX7_append_97 ?_
  obtain ⟨hi5, hw⟩ := hw
  refine z_mast (j := 9) S hE rfl rfl hi5 dX7_append_98 ?_
  refine z_aload_n (x := some o) S 0 dX7_append_99 rfl rfl ?_
  refine z_iload_n S 1 dX7_append_100 rfl rfl ?_
  refine z_iload_n S 3 dX7_append_101 rfl rfl ?_
  refine z_callVi (As := [.int x1, .int x3]) (st := []) S (z_EMok D cy A) hE (me_X7_entryAt l D cy A o ad _ (z_up M 9 x1.toNatClampNeg ((M 9 x1.toNatClampNeg) + 1)) x1 x3 hw) gV_X7_107 hdV_X7_entryAt ⟨Nat.le_of_ble_eq_true rfl, Nat.le_of_ble_eq_true rfl⟩ rfl rfl (z_recvM hE) (fun _ h => h) (fun _ _ _ _ h => h) rfl (Nat.le_trans z_s0 (by decide)) dX7_append_102 ⟨Nat.le_of_ble_eq_true rfl, Nat.le_of_ble_eq_true rfl⟩ rfl (fun r2 M1 hw => ?_)
  refine z_istore S [(4, .int r2), (0, va_rf (some o)), (1, .int x1), (2, .int x2), (3, .int x3)] dX7_append_105 (by decide) rfl ?_
  refine z_lv (lv' := [(0, va_rf (some o)), (1, .int x1), (2, .int x2), (3, .int x3), (4, .int r2)]) [1, 2, 3, 4, 0] rfl ?_
  refine z_aload_n (x := some o) S 0 dX7_append_107 rfl rfl ?_
  refine zm_g_19 S hE dX7_append_108 ?_
  refine z_iload S 4 dX7_append_111 rfl ?_
  refine z_iconst (v := 0) S dX7_append_113 (by decide) ?_
  obtain ⟨hi4, hw⟩ := hw
  refine z_mast (j := 4) S hE rfl rfl hi4 dX7_append_114 ?_
  refine z_aload_n (x := some o) S 0 dX7_append_115 rfl rfl ?_
  refine zm_g_22 S hE dX7_append_116 ?_
  refine z_iload S 4 dX7_append_119 rfl ?_
  refine z_iload_n S 2 dX7_append_121 rfl rfl ?_
  obtain ⟨hi3, hw⟩ := hw
  refine z_mast (j := 5) S hE rfl rfl hi3 dX7_append_122 ?_
  exact z_vret S hr hlk dX7_append_123 (Nat.le_refl 0) (Nat.le_refl 0) hw
set_option maxRecDepth 20000 in
theorem mb_X7_append_59 {p : Program} {l : Launch} {e : Env} {s : State} {m : MethodId} {args : Array Value} {below : List Frame} {meth : Method} {c : Code} {D : va_G} {cy : Nat → ClassId} {A : Nat → Prop} {o : Nat} {ad : Nat → Nat} (S : CallFix p m c cX7_append 5 s args z_T RX7) (hlk : meth.locks = false) (hr : meth.sig.returnType = none) (hE : z_EM D cy s) {post : z_Md → Prop}  (M : z_Md) (x1 : Int32) (x2 : Int32) (x3 : Int32) (x4 : Int32) (hw : w_X7_append_59 post M x1 x2 x3 x4) : z_V A (z_hM D cy A o ad) p l e rm_X7_append s m args below meth c 5 (MQ below (va_Qv post (fun (u' : z_Md) t => z_hM D cy A o ad u' t.heap) A) args s 0 0 A) 0 0 M 59 [(0, va_rf (some o)), (1, .int x1), (2, .int x2), (3, .int x3), (4, .int x4)] [] := by
  refine z_aload_n (x := some o) S 0 dX7_append_59 rfl rfl ?_
  refine zm_g_13 S hE dX7_append_60 ?_
  refine z_iload S 4 dX7_append_63 rfl ?_
  refine z_iconst (v := 1) S dX7_append_65 (by decide) ?_
  obtain ⟨hi1, hw⟩ := hw
  refine z_mast (j := 2) S hE rfl rfl hi1 dX7_append_66 ?_
  refine z_goto S 89 dX7_append_67 (by decide) ?_
  refine z_lv (lv' := [(0, va_rf (some o)), (1, .int x1), (2, .int x2), (3, .int x3)]) [0, 1, 2, 3] rfl ?_
  exact mb_X7_append_89 S hlk hr hE (z_up M 2 x4.toNatClampNeg 1) x1 x2 x3 hw
set_option maxRecDepth 20000 in
theorem mb_X7_append {p : Program} {l : Launch} {e : Env} {s : State} {m : MethodId} {args : Array Value} {below : List Frame} {meth : Method} {c : Code} {D : va_G} {cy : Nat → ClassId} {A : Nat → Prop} {o : Nat} {ad : Nat → Nat} (S : CallFix p m c cX7_append 5 s args z_T RX7) (hlk : meth.locks = false) (hr : meth.sig.returnType = none) (hE : z_EM D cy s) {post : z_Md → Prop}  (M : z_Md) (x1 : Int32) (x2 : Int32) (hw : w_X7_append post M x1 x2) : z_V A (z_hM D cy A o ad) p l e rm_X7_append s m args below meth c 5 (MQ below (va_Qv post (fun (u' : z_Md) t => z_hM D cy A o ad u' t.heap) A) args s 0 0 A) 0 0 M 0 [(0, va_rf (some o)), (1, .int x1), (2, .int x2)] [] := by
  refine z_aload_n (x := some o) S 0 dX7_append_0 rfl rfl ?_
  refine zm_g_35 S hE dX7_append_1 ?_
  refine z_iload_n S 1 dX7_append_4 rfl rfl ?_
  obtain ⟨hi15, hw⟩ := hw
  refine z_mald (j := 9) S hE rfl rfl hi15 dX7_append_5 ?_
  refine z_top (fun x3_1 ex3_1 => ?_)
  have hw := hw x3_1 ex3_1
  refine z_istore_n S [(3, .int x3_1), (0, va_rf (some o)), (1, .int x1), (2, .int x2)] dX7_append_6 rfl (by decide) rfl ?_
  refine z_lv (lv' := [(0, va_rf (some o)), (1, .int x1), (2, .int x2), (3, .int x3_1)]) [1, 2, 3, 0] rfl ?_
  refine z_iload_n S 3 dX7_append_7 rfl rfl ?_
  refine z_iconst (v := 4) S dX7_append_8 (by decide) ?_
  refine z_irem S dX7_append_9 (by decide) ?_
  refine z_if_ne S 70 dX7_append_10 (by decide) (fun c2 => ?_) (fun c2 => ?_)
  · have hw := hw.1 c2
    refine z_aload_n (x := some o) S 0 dX7_append_70 rfl rfl ?_
    refine zm_g_13 S hE dX7_append_71 ?_
    refine z_aload_n (x := some o) S 0 dX7_append_74 rfl rfl ?_
    refine z_iload_n S 1 dX7_append_75 rfl rfl ?_
    refine z_iload_n S 3 dX7_append_76 rfl rfl ?_
    refine z_iconst (v := 1) S dX7_append_77 (by decide) ?_
    refine z_isub S dX7_append_78 ?_
    refine z_callVi (As := [.int x1, .int (x3_1 - 1)]) (st := [.ref (ad 2)]) S (z_EMok D cy A) hE (me_X7_entryAt l D cy A o ad _ M x1 (x3_1 - 1) hw) gV_X7_107 hdV_X7_entryAt ⟨Nat.le_of_ble_eq_true rfl, Nat.le_of_ble_eq_true rfl⟩ rfl rfl (z_recvM hE) (fun _ h => h) (fun _ _ _ _ h => h) rfl (Nat.le_trans (z_sr z_s0) (by decide)) dX7_append_79 ⟨Nat.le_of_ble_eq_true rfl, Nat.le_of_ble_eq_true rfl⟩ rfl (fun r4 M3 hw => ?_)
    refine z_iconst (v := 4) S dX7_append_82 (by decide) ?_
    refine z_idiv S dX7_append_83 (by decide) ?_
    refine z_dup2 S dX7_append_84 rfl rfl ?_
    obtain ⟨hi6, hw⟩ := hw
    refine z_mald (j := 2) S hE rfl rfl hi6 dX7_append_85 ?_
    refine z_iconst (v := 1) S dX7_append_86 (by decide) ?_
    refine z_iadd S dX7_append_87 ?_
    obtain ⟨hi5, hw⟩ := hw
    refine z_mast (j := 2) S hE rfl rfl hi5 dX7_append_88 ?_
    exact mb_X7_append_89 S hlk hr hE (z_up M3 2 (r4 / 4).toNatClampNeg ((M3 2 (r4 / 4).toNatClampNeg) + 1)) x1 x2 x3_1 hw
  · have hw := hw.2 c2
    refine z_aload_n (x := some o) S 0 dX7_append_13 rfl rfl ?_
    refine z_callVi (As := []) (st := []) S (z_EMok D cy A) hE (me_X7_freeBlock l D cy A o ad _ M  hw) gV_X7_103 hdV_X7_freeBlock ⟨Nat.le_of_ble_eq_true rfl, Nat.le_of_ble_eq_true rfl⟩ rfl rfl (z_recvM hE) (fun _ h => h) (fun _ _ _ _ h => h) rfl (Nat.le_trans z_s0 (by decide)) dX7_append_14 ⟨Nat.le_of_ble_eq_true rfl, Nat.le_of_ble_eq_true rfl⟩ rfl (fun r8 M7 hw => ?_)
    refine z_istore S [(4, .int r8), (0, va_rf (some o)), (1, .int x1), (2, .int x2), (3, .int x3_1)] dX7_append_17 (by decide) rfl ?_
    refine z_lv (lv' := [(0, va_rf (some o)), (1, .int x1), (2, .int x2), (3, .int x3_1), (4, .int r8)]) [1, 2, 3, 4, 0] rfl ?_
    refine z_aload_n (x := some o) S 0 dX7_append_19 rfl rfl ?_
    refine zm_g_16 S hE dX7_append_20 ?_
    refine z_iload S 4 dX7_append_23 rfl ?_
    refine z_iconst (v := (-1)) S dX7_append_25 (by decide) ?_
    obtain ⟨hi14, hw⟩ := hw
    refine z_mast (j := 3) S hE rfl rfl hi14 dX7_append_26 ?_
    refine z_iload_n S 3 dX7_append_27 rfl rfl ?_
    refine z_if_ne S 42 dX7_append_28 (by decide) (fun c9 => ?_) (fun c9 => ?_)
    · have hw := hw.1 c9
      refine z_aload_n (x := some o) S 0 dX7_append_42 rfl rfl ?_
      refine zm_g_16 S hE dX7_append_43 ?_
      refine z_aload_n (x := some o) S 0 dX7_append_46 rfl rfl ?_
      refine z_iload_n S 1 dX7_append_47 rfl rfl ?_
      refine z_iload_n S 3 dX7_append_48 rfl rfl ?_
      refine z_iconst (v := 1) S dX7_append_49 (by decide) ?_
      refine z_isub S dX7_append_50 ?_
      refine z_callVi (As := [.int x1, .int (x3_1 - 1)]) (st := [.ref (ad 3)]) S (z_EMok D cy A) hE (me_X7_entryAt l D cy A o ad _ (z_up M7 3 r8.toNatClampNeg (-1)) x1 (x3_1 - 1) hw) gV_X7_107 hdV_X7_entryAt ⟨Nat.le_of_ble_eq_true rfl, Nat.le_of_ble_eq_true rfl⟩ rfl rfl (z_recvM hE) (fun _ h => h) (fun _ _ _ _ h => h) rfl (Nat.le_trans (z_sr z_s0) (by decide)) dX7_append_51 ⟨Nat.le_of_ble_eq_true rfl, Nat.le_of_ble_eq_true rfl⟩ rfl (fun r11 M10 hw => ?_)
      refine z_iconst (v := 4) S dX7_append_54 (by decide) ?_
      refine z_idiv S dX7_append_55 (by decide) ?_
      refine z_iload S 4 dX7_append_56 rfl ?_
      obtain ⟨hi12, hw⟩ := hw
      refine z_mast (j := 3) S hE rfl rfl hi12 dX7_append_58 ?_
      exact mb_X7_append_59 S hlk hr hE (z_up M10 3 (r11 / 4).toNatClampNeg r8) x1 x2 x3_1 r8 hw
    · have hw := hw.2 c9
      refine z_aload_n (x := some o) S 0 dX7_append_31 rfl rfl ?_
      refine zm_g_32 S hE dX7_append_32 ?_
      refine z_iload_n S 1 dX7_append_35 rfl rfl ?_
      refine z_iload S 4 dX7_append_36 rfl ?_
      obtain ⟨hi13, hw⟩ := hw
      refine z_mast (j := 8) S hE rfl rfl hi13 dX7_append_38 ?_
      refine z_goto S 59 dX7_append_39 (by decide) ?_
      exact mb_X7_append_59 S hlk hr hE (z_up (z_up M7 3 r8.toNatClampNeg (-1)) 8 x1.toNatClampNeg r8) x1 x2 x3_1 r8 hw
theorem me_X7_append (l : Launch) (D : va_G) (cy : Nat → ClassId) (A : Nat → Prop) (o : Nat) (ad : Nat → Nat) (post : z_Md → Prop) (M : z_Md) (x1 : Int32) (x2 : Int32) (hw : w_X7_append post M x1 x2) : z_Mv l yX7_append (Cond.code yX7_append cX7_append 5 none :: z_T) rm_X7_append [.ref o, .int x1, .int x2] (z_EM D cy) (z_hM D cy A o ad) M post 0 0 A :=
  z_met (by decide) (Nat.le_of_ble_eq_true rfl) (fun p e s m args below meth c S hlk hr hnm hE => mb_X7_append S hlk hr hE M x1 x2 hw)
abbrev rm_X7_dropLast : Room := { frames := 1, cells := 0, slots := 0, locals := 24 }
def w_X7_dropLast (post : z_Md → Prop) (M : z_Md) (x1 : Int32) : Prop := (vp_in x1 48 ∧ (w_X7_entryAt (fun r2 M1 => (vp_in x1 48 ∧ (vp_in x1 48 ∧ (vp_in (r2 / 4) 40 ∧ (vp_in (r2 / 4) 40 ∧ (vp_in (r2 / 4) 40 ∧ ((¬ ((z_up (z_up M1 9 x1.toNatClampNeg ((M1 9 x1.toNatClampNeg) - 1)) 2 (r2 / 4).toNatClampNeg (((z_up M1 9 x1.toNatClampNeg ((M1 9 x1.toNatClampNeg) - 1)) 2 (r2 / 4).toNatClampNeg) - 1)) 2 (r2 / 4).toNatClampNeg) = 0 → (post (z_up (z_up M1 9 x1.toNatClampNeg ((M1 9 x1.toNatClampNeg) - 1)) 2 (r2 / 4).toNatClampNeg (((z_up M1 9 x1.toNatClampNeg ((M1 9 x1.toNatClampNeg) - 1)) 2 (r2 / 4).toNatClampNeg) - 1)))) ∧ (((z_up (z_up M1 9 x1.toNatClampNeg ((M1 9 x1.toNatClampNeg) - 1)) 2 (r2 / 4).toNatClampNeg (((z_up M1 9 x1.toNatClampNeg ((M1 9 x1.toNatClampNeg) - 1)) 2 (r2 / 4).toNatClampNeg) - 1)) 2 (r2 / 4).toNatClampNeg) = 0 → (vp_in x1 48 ∧ ((((z_up (z_up M1 9 x1.toNatClampNeg ((M1 9 x1.toNatClampNeg) - 1)) 2 (r2 / 4).toNatClampNeg (((z_up M1 9 x1.toNatClampNeg ((M1 9 x1.toNatClampNeg) - 1)) 2 (r2 / 4).toNatClampNeg) - 1)) 9 x1.toNatClampNeg) ≤ 0 → (post (z_up (z_up M1 9 x1.toNatClampNeg ((M1 9 x1.toNatClampNeg) - 1)) 2 (r2 / 4).toNatClampNeg (((z_up M1 9 x1.toNatClampNeg ((M1 9 x1.toNatClampNeg) - 1)) 2 (r2 / 4).toNatClampNeg) - 1)))) ∧ (¬ ((z_up (z_up M1 9 x1.toNatClampNeg ((M1 9 x1.toNatClampNeg) - 1)) 2 (r2 / 4).toNatClampNeg (((z_up M1 9 x1.toNatClampNeg ((M1 9 x1.toNatClampNeg) - 1)) 2 (r2 / 4).toNatClampNeg) - 1)) 9 x1.toNatClampNeg) ≤ 0 → (vp_in x1 48 ∧ (w_X7_entryAt (fun r6 M5 => (vp_in (r6 / 4) 40 ∧ (post (z_up M5 3 (r6 / 4).toNatClampNeg (-1))))) (z_up (z_up M1 9 x1.toNatClampNeg ((M1 9 x1.toNatClampNeg) - 1)) 2 (r2 / 4).toNatClampNeg (((z_up M1 9 x1.toNatClampNeg ((M1 9 x1.toNatClampNeg) - 1)) 2 (r2 / 4).toNatClampNeg) - 1)) x1 (((z_up (z_up M1 9 x1.toNatClampNeg ((M1 9 x1.toNatClampNeg) - 1)) 2 (r2 / 4).toNatClampNeg (((z_up M1 9 x1.toNatClampNeg ((M1 9 x1.toNatClampNeg) - 1)) 2 (r2 / 4).toNatClampNeg) - 1)) 9 x1.toNatClampNeg) - 1)))))))))))))) M x1 ((M 9 x1.toNatClampNeg) - 1)))
set_option maxRecDepth 20000 in
theorem mb_X7_dropLast {p : Program} {l : Launch} {e : Env} {s : State} {m : MethodId} {args : Array Value} {below : List Frame} {meth : Method} {c : Code} {D : va_G} {cy : Nat → ClassId} {A : Nat → Prop} {o : Nat} {ad : Nat → Nat} (S : CallFix p m c cX7_dropLast 3 s args z_T RX7) (hlk : meth.locks = false) (hr : meth.sig.returnType = none) (hE : z_EM D cy s) {post : z_Md → Prop}  (M : z_Md) (x1 : Int32) (hw : w_X7_dropLast post M x1) : z_V A (z_hM D cy A o ad) p l e rm_X7_dropLast s m args below meth c 3 (MQ below (va_Qv post (fun (u' : z_Md) t => z_hM D cy A o ad u' t.heap) A) args s 0 0 A) 0 0 M 0 [(0, va_rf (some o)), (1, .int x1)] [] := by
  refine z_aload_n (x := some o) S 0 dX7_dropLast_0 rfl rfl ?_
  refine z_iload_n S 1 dX7_dropLast_1 rfl rfl ?_
  refine z_aload_n (x := some o) S 0 dX7_dropLast_2 rfl rfl ?_
  refine zm_g_35 S hE dX7_dropLast_3 ?_
  refine z_iload_n S 1 dX7_dropLast_6 rfl rfl ?_
  obtain ⟨hi15, hw⟩ := hw
  refine z_mald (j := 9) S hE rfl rfl hi15 dX7_dropLast_7 ?_
  refine z_iconst (v := 1) S dX7_dropLast_8 (by decide) ?_
  refine z_isub S dX7_dropLast_9 ?_
  refine z_callVi (As := [.int x1, .int ((M 9 x1.toNatClampNeg) - 1)]) (st := []) S (z_EMok D cy A) hE (me_X7_entryAt l D cy A o ad _ M x1 ((M 9 x1.toNatClampNeg) - 1) hw) gV_X7_107 hdV_X7_entryAt ⟨Nat.le_of_ble_eq_true rfl, Nat.le_of_ble_eq_true rfl⟩ rfl rfl (z_recvM hE) (fun _ h => h) (fun _ _ _ _ h => h) rfl (Nat.le_trans z_s0 (by decide)) dX7_dropLast_10 ⟨Nat.le_of_ble_eq_true rfl, Nat.le_of_ble_eq_true rfl⟩ rfl (fun r2 M1 hw => ?_)
  refine z_iconst (v := 4) S dX7_dropLast_13 (by decide) ?_
  refine z_idiv S dX7_dropLast_14 (by decide) ?_
  refine z_istore_n S [(2, .int (r2 / 4)), (0, va_rf (some o)), (1, .int x1)] dX7_dropLast_15 rfl (by decide) rfl ?_
  refine z_lv (lv' := [(0, va_rf (some o)), (1, .int x1), (2, .int (r2 / 4))]) [1, 2, 0] rfl ?_
  refine z_aload_n (x := some o) S 0 dX7_dropLast_16 rfl rfl ?_
  refine zm_g_35 S hE dX7_dropLast_17 ?_
  refine z_iload_n S 1 dX7_dropLast_20 rfl rfl ?_
  refine z_dup2 S dX7_dropLast_21 rfl rfl ?_
  obtain ⟨hi14, hw⟩ := hw
  refine z_mald (j := 9) S hE rfl rfl hi14 dX7_dropLast_22 ?_
  refine z_iconst (v := 1) S dX7_dropLast_23 (by decide) ?_
  refine z_isub S dX7_dropLast_24 ?_
  obtain ⟨hi13, hw⟩ := hw
  refine z_mast (j := 9) S hE rfl rfl hi13 dX7_dropLast_25 ?_
  refine z_aload_n (x := some o) S 0 dX7_dropLast_26 rfl rfl ?_
  refine zm_g_13 S hE dX7_dropLast_27 ?_
  refine z_iload_n S 2 dX7_dropLast_30 rfl rfl ?_
  refine z_dup2 S dX7_dropLast_31 rfl rfl ?_
  obtain ⟨hi12, hw⟩ := hw
  refine z_mald (j := 2) S hE rfl rfl hi12 dX7_dropLast_32 ?_
  refine z_iconst (v := 1) S dX7_dropLast_33 (by decide) ?_
  refine z_isub S dX7_dropLast_34 ?_
  obtain ⟨hi11, hw⟩ := hw
  refine z_mast (j := 2) S hE rfl rfl hi11 dX7_dropLast_35 ?_
  refine z_aload_n (x := some o) S 0 dX7_dropLast_36 rfl rfl ?_
  refine zm_g_13 S hE dX7_dropLast_37 ?_
  refine z_iload_n S 2 dX7_dropLast_40 rfl rfl ?_
  obtain ⟨hi10, hw⟩ := hw
  refine z_mald (j := 2) S hE rfl rfl hi10 dX7_dropLast_41 ?_
  refine z_if_ne S 75 dX7_dropLast_42 (by decide) (fun c3 => ?_) (fun c3 => ?_)
  · have hw := hw.1 c3
    exact z_vret S hr hlk dX7_dropLast_75 (Nat.le_refl 0) (Nat.le_refl 0) hw
  · have hw := hw.2 c3
    refine z_aload_n (x := some o) S 0 dX7_dropLast_45 rfl rfl ?_
    refine zm_g_35 S hE dX7_dropLast_46 ?_
    refine z_iload_n S 1 dX7_dropLast_49 rfl rfl ?_
    obtain ⟨hi9, hw⟩ := hw
    refine z_mald (j := 9) S hE rfl rfl hi9 dX7_dropLast_50 ?_
    refine z_if_le S 75 dX7_dropLast_51 (by decide) (fun c4 => ?_) (fun c4 => ?_)
    · have hw := hw.1 c4
      exact z_vret S hr hlk dX7_dropLast_75 (Nat.le_refl 0) (Nat.le_refl 0) hw
    · have hw := hw.2 c4
      refine z_aload_n (x := some o) S 0 dX7_dropLast_54 rfl rfl ?_
      refine zm_g_16 S hE dX7_dropLast_55 ?_
      refine z_aload_n (x := some o) S 0 dX7_dropLast_58 rfl rfl ?_
      refine z_iload_n S 1 dX7_dropLast_59 rfl rfl ?_
      refine z_aload_n (x := some o) S 0 dX7_dropLast_60 rfl rfl ?_
      refine zm_g_35 S hE dX7_dropLast_61 ?_
      refine z_iload_n S 1 dX7_dropLast_64 rfl rfl ?_
      obtain ⟨hi8, hw⟩ := hw
      refine z_mald (j := 9) S hE rfl rfl hi8 dX7_dropLast_65 ?_
      refine z_iconst (v := 1) S dX7_dropLast_66 (by decide) ?_
      refine z_isub S dX7_dropLast_67 ?_
      refine z_callVi (As := [.int x1, .int (((z_up (z_up M1 9 x1.toNatClampNeg ((M1 9 x1.toNatClampNeg) - 1)) 2 (r2 / 4).toNatClampNeg (((z_up M1 9 x1.toNatClampNeg ((M1 9 x1.toNatClampNeg) - 1)) 2 (r2 / 4).toNatClampNeg) - 1)) 9 x1.toNatClampNeg) - 1)]) (st := [.ref (ad 3)]) S (z_EMok D cy A) hE (me_X7_entryAt l D cy A o ad _ (z_up (z_up M1 9 x1.toNatClampNeg ((M1 9 x1.toNatClampNeg) - 1)) 2 (r2 / 4).toNatClampNeg (((z_up M1 9 x1.toNatClampNeg ((M1 9 x1.toNatClampNeg) - 1)) 2 (r2 / 4).toNatClampNeg) - 1)) x1 (((z_up (z_up M1 9 x1.toNatClampNeg ((M1 9 x1.toNatClampNeg) - 1)) 2 (r2 / 4).toNatClampNeg (((z_up M1 9 x1.toNatClampNeg ((M1 9 x1.toNatClampNeg) - 1)) 2 (r2 / 4).toNatClampNeg) - 1)) 9 x1.toNatClampNeg) - 1) hw) gV_X7_107 hdV_X7_entryAt ⟨Nat.le_of_ble_eq_true rfl, Nat.le_of_ble_eq_true rfl⟩ rfl rfl (z_recvM hE) (fun _ h => h) (fun _ _ _ _ h => h) rfl (Nat.le_trans (z_sr z_s0) (by decide)) dX7_dropLast_68 ⟨Nat.le_of_ble_eq_true rfl, Nat.le_of_ble_eq_true rfl⟩ rfl (fun r6 M5 hw => ?_)
      refine z_iconst (v := 4) S dX7_dropLast_71 (by decide) ?_
      refine z_idiv S dX7_dropLast_72 (by decide) ?_
      refine z_iconst (v := (-1)) S dX7_dropLast_73 (by decide) ?_
      obtain ⟨hi7, hw⟩ := hw
      refine z_mast (j := 3) S hE rfl rfl hi7 dX7_dropLast_74 ?_
      exact z_vret S hr hlk dX7_dropLast_75 (Nat.le_refl 0) (Nat.le_refl 0) hw
theorem me_X7_dropLast (l : Launch) (D : va_G) (cy : Nat → ClassId) (A : Nat → Prop) (o : Nat) (ad : Nat → Nat) (post : z_Md → Prop) (M : z_Md) (x1 : Int32) (hw : w_X7_dropLast post M x1) : z_Mv l yX7_dropLast (Cond.code yX7_dropLast cX7_dropLast 3 none :: z_T) rm_X7_dropLast [.ref o, .int x1] (z_EM D cy) (z_hM D cy A o ad) M post 0 0 A :=
  z_met (by decide) (Nat.le_of_ble_eq_true rfl) (fun p e s m args below meth c S hlk hr hnm hE => mb_X7_dropLast S hlk hr hE M x1 hw)
abbrev rm_X7_release : Room := { frames := 0, cells := 0, slots := 0, locals := 0 }
def w_X7_release_12 (post : Int32 → z_Md → Prop) : Nat → z_Md → Int32 → Int32 → Int32 → Int32 → Prop
  | 0 => fun _ _ _ _ _ => False
  | n + 1 => fun M x1 x2 x3 x4 => (vp_in x1 48 ∧ (((M 9 x1.toNatClampNeg) ≤ x4 → (vp_in x1 48 ∧ (post x2 (z_up M 9 x1.toNatClampNeg 0)))) ∧ (¬ (M 9 x1.toNatClampNeg) ≤ x4 → (vp_in x3 40 ∧ (vp_in x3 40 ∧ (∀ x3_3 : Int32, x3_3 = (z_up M 2 x3.toNatClampNeg 0) 3 x3.toNatClampNeg → (w_X7_release_12 post n (z_up M 2 x3.toNatClampNeg 0) x1 (x2 + 1) x3_3 (x4 + 4))))))))
def w_X7_release (post : Int32 → z_Md → Prop) (M : z_Md) (x1 : Int32) : Prop := (vp_in x1 48 ∧ (∀ x3_1 : Int32, x3_1 = M 8 x1.toNatClampNeg → (∃ n0 : Nat, w_X7_release_12 post n0 M x1 0 x3_1 0)))
set_option maxRecDepth 20000 in
theorem mb_X7_release_12 {p : Program} {l : Launch} {e : Env} {s : State} {m : MethodId} {args : Array Value} {below : List Frame} {meth : Method} {c : Code} {D : va_G} {cy : Nat → ClassId} {A : Nat → Prop} {o : Nat} {ad : Nat → Nat} (S : CallFix p m c cX7_release 5 s args z_T RX7) (hlk : meth.locks = false) (hr : meth.sig.returnType = some .int) (hE : z_EM D cy s) {post : Int32 → z_Md → Prop}  : ∀ (n : Nat) (M : z_Md) (x1 : Int32) (x2 : Int32) (x3 : Int32) (x4 : Int32), w_X7_release_12 post n M x1 x2 x3 x4 → z_V A (z_hM D cy A o ad) p l e rm_X7_release s m args below meth c 5 (MQ below (va_Qi post (fun (u' : z_Md) t => z_hM D cy A o ad u' t.heap) A) args s 0 0 A) 0 0 M 12 [(0, va_rf (some o)), (1, .int x1), (2, .int x2), (3, .int x3), (4, .int x4)] [] := by
  intro n
  induction n with
  | zero => intro M x1 x2 x3 x4 hw; exact hw.elim
  | succ n ih =>
    intro M x1 x2 x3 x4 hw
    refine z_iload S 4 dX7_release_12 rfl ?_
    refine z_aload_n (x := some o) S 0 dX7_release_14 rfl rfl ?_
    refine zm_g_35 S hE dX7_release_15 ?_
    refine z_iload_n S 1 dX7_release_18 rfl rfl ?_
    obtain ⟨hi6, hw⟩ := hw
    refine z_mald (j := 9) S hE rfl rfl hi6 dX7_release_19 ?_
    refine z_icmp_ge S 46 dX7_release_20 (by decide) (fun c1 => ?_) (fun c1 => ?_)
    · have hw := hw.1 c1
      refine z_aload_n (x := some o) S 0 dX7_release_46 rfl rfl ?_
      refine zm_g_35 S hE dX7_release_47 ?_
      refine z_iload_n S 1 dX7_release_50 rfl rfl ?_
      refine z_iconst (v := 0) S dX7_release_51 (by decide) ?_
      obtain ⟨hi2, hw⟩ := hw
      refine z_mast (j := 9) S hE rfl rfl hi2 dX7_release_52 ?_
      refine z_iload_n S 2 dX7_release_53 rfl rfl ?_
      exact z_iret S hr hlk dX7_release_54 (Nat.le_refl 0) (Nat.le_refl 0) hw
    · have hw := hw.2 c1
      refine z_aload_n (x := some o) S 0 dX7_release_23 rfl rfl ?_
      refine zm_g_13 S hE dX7_release_24 ?_
      refine z_iload_n S 3 dX7_release_27 rfl rfl ?_
      refine z_iconst (v := 0) S dX7_release_28 (by decide) ?_
      obtain ⟨hi5, hw⟩ := hw
      refine z_mast (j := 2) S hE rfl rfl hi5 dX7_release_29 ?_
      refine z_aload_n (x := some o) S 0 dX7_release_30 rfl rfl ?_
      refine zm_g_16 S hE dX7_release_31 ?_
      refine z_iload_n S 3 dX7_release_34 rfl rfl ?_
      obtain ⟨hi4, hw⟩ := hw
      refine z_mald (j := 3) S hE rfl rfl hi4 dX7_release_35 ?_
      refine z_top (fun x3_3 ex3_3 => ?_)
      have hw := hw x3_3 ex3_3
      refine z_istore_n S [(3, .int x3_3), (0, va_rf (some o)), (1, .int x1), (2, .int x2), (4, .int x4)] dX7_release_36 rfl (by decide) rfl ?_
      refine z_lv (lv' := [(0, va_rf (some o)), (1, .int x1), (2, .int x2), (3, .int x3_3), (4, .int x4)]) [1, 2, 3, 0, 4] rfl ?_
      refine z_iinc (v := x2 + 1) (pl := 2) S [(2, .int (x2 + 1)), (0, va_rf (some o)), (1, .int x1), (3, .int x3_3), (4, .int x4)] dX7_release_37 rfl rfl (by decide) rfl ?_
      refine z_lv (lv' := [(0, va_rf (some o)), (1, .int x1), (2, .int (x2 + 1)), (3, .int x3_3), (4, .int x4)]) [1, 2, 0, 3, 4] rfl ?_
      refine z_iinc (v := x4 + 4) (pl := 4) S [(4, .int (x4 + 4)), (0, va_rf (some o)), (1, .int x1), (2, .int (x2 + 1)), (3, .int x3_3)] dX7_release_40 rfl rfl (by decide) rfl ?_
      refine z_lv (lv' := [(0, va_rf (some o)), (1, .int x1), (2, .int (x2 + 1)), (3, .int x3_3), (4, .int (x4 + 4))]) [1, 2, 3, 4, 0] rfl ?_
      refine z_goto S 12 dX7_release_43 (by decide) ?_
      exact ih (z_up M 2 x3.toNatClampNeg 0) x1 (x2 + 1) x3_3 (x4 + 4) hw
set_option maxRecDepth 20000 in
theorem mb_X7_release {p : Program} {l : Launch} {e : Env} {s : State} {m : MethodId} {args : Array Value} {below : List Frame} {meth : Method} {c : Code} {D : va_G} {cy : Nat → ClassId} {A : Nat → Prop} {o : Nat} {ad : Nat → Nat} (S : CallFix p m c cX7_release 5 s args z_T RX7) (hlk : meth.locks = false) (hr : meth.sig.returnType = some .int) (hE : z_EM D cy s) {post : Int32 → z_Md → Prop}  (M : z_Md) (x1 : Int32) (hw : w_X7_release post M x1) : z_V A (z_hM D cy A o ad) p l e rm_X7_release s m args below meth c 5 (MQ below (va_Qi post (fun (u' : z_Md) t => z_hM D cy A o ad u' t.heap) A) args s 0 0 A) 0 0 M 0 [(0, va_rf (some o)), (1, .int x1)] [] := by
  refine z_iconst (v := 0) S dX7_release_0 (by decide) ?_
  refine z_istore_n S [(2, .int 0), (0, va_rf (some o)), (1, .int x1)] dX7_release_1 rfl (by decide) rfl ?_
  refine z_lv (lv' := [(0, va_rf (some o)), (1, .int x1), (2, .int 0)]) [1, 2, 0] rfl ?_
  refine z_aload_n (x := some o) S 0 dX7_release_2 rfl rfl ?_
  refine zm_g_32 S hE dX7_release_3 ?_
  refine z_iload_n S 1 dX7_release_6 rfl rfl ?_
  obtain ⟨hi2, hw⟩ := hw
  refine z_mald (j := 8) S hE rfl rfl hi2 dX7_release_7 ?_
  refine z_top (fun x3_1 ex3_1 => ?_)
  have hw := hw x3_1 ex3_1
  refine z_istore_n S [(3, .int x3_1), (0, va_rf (some o)), (1, .int x1), (2, .int 0)] dX7_release_8 rfl (by decide) rfl ?_
  refine z_lv (lv' := [(0, va_rf (some o)), (1, .int x1), (2, .int 0), (3, .int x3_1)]) [1, 2, 3, 0] rfl ?_
  refine z_iconst (v := 0) S dX7_release_9 (by decide) ?_
  refine z_istore S [(4, .int 0), (0, va_rf (some o)), (1, .int x1), (2, .int 0), (3, .int x3_1)] dX7_release_10 (by decide) rfl ?_
  refine z_lv (lv' := [(0, va_rf (some o)), (1, .int x1), (2, .int 0), (3, .int x3_1), (4, .int 0)]) [1, 2, 3, 4, 0] rfl ?_
  obtain ⟨n0, hw⟩ := hw
  exact mb_X7_release_12 S hlk hr hE n0 M x1 0 x3_1 0 hw
theorem me_X7_release (l : Launch) (D : va_G) (cy : Nat → ClassId) (A : Nat → Prop) (o : Nat) (ad : Nat → Nat) (post : Int32 → z_Md → Prop) (M : z_Md) (x1 : Int32) (hw : w_X7_release post M x1) : z_Mi l yX7_release (Cond.code yX7_release cX7_release 5 (some .int) :: z_T) rm_X7_release [.ref o, .int x1] (z_EM D cy) (z_hM D cy A o ad) M post 0 0 A :=
  z_met (by decide) (Nat.le_of_ble_eq_true rfl) (fun p e s m args below meth c S hlk hr hnm hE => mb_X7_release S hlk hr hE M x1 hw)
abbrev rm_X7_letGo : Room := { frames := 1, cells := 0, slots := 0, locals := 24 }
def w_X7_letGo (post : Int32 → z_Md → Prop) (M : z_Md) (x1 : Int32) : Prop := ((0 ≤ x1 → (vp_in x1 48 ∧ (vp_in x1 48 ∧ (vp_in x1 48 ∧ ((¬ ((z_up M 6 x1.toNatClampNeg ((M 6 x1.toNatClampNeg) - 1)) 6 x1.toNatClampNeg) = 0 → (post 0 (z_up M 6 x1.toNatClampNeg ((M 6 x1.toNatClampNeg) - 1)))) ∧ (((z_up M 6 x1.toNatClampNeg ((M 6 x1.toNatClampNeg) - 1)) 6 x1.toNatClampNeg) = 0 → (w_X7_release (fun r4 M3 => (post r4 M3)) (z_up M 6 x1.toNatClampNeg ((M 6 x1.toNatClampNeg) - 1)) x1))))))) ∧ (¬ 0 ≤ x1 → (post 0 M)))
set_option maxRecDepth 20000 in
theorem mb_X7_letGo {p : Program} {l : Launch} {e : Env} {s : State} {m : MethodId} {args : Array Value} {below : List Frame} {meth : Method} {c : Code} {D : va_G} {cy : Nat → ClassId} {A : Nat → Prop} {o : Nat} {ad : Nat → Nat} (S : CallFix p m c cX7_letGo 2 s args z_T RX7) (hlk : meth.locks = false) (hr : meth.sig.returnType = some .int) (hE : z_EM D cy s) {post : Int32 → z_Md → Prop}  (M : z_Md) (x1 : Int32) (hw : w_X7_letGo post M x1) : z_V A (z_hM D cy A o ad) p l e rm_X7_letGo s m args below meth c 2 (MQ below (va_Qi post (fun (u' : z_Md) t => z_hM D cy A o ad u' t.heap) A) args s 0 0 A) 0 0 M 0 [(0, va_rf (some o)), (1, .int x1)] [] := by
  refine z_iload_n S 1 dX7_letGo_0 rfl rfl ?_
  refine z_if_ge S 6 dX7_letGo_1 (by decide) (fun c1 => ?_) (fun c1 => ?_)
  · have hw := hw.1 c1
    refine z_aload_n (x := some o) S 0 dX7_letGo_6 rfl rfl ?_
    refine zm_g_25 S hE dX7_letGo_7 ?_
    refine z_iload_n S 1 dX7_letGo_10 rfl rfl ?_
    refine z_dup2 S dX7_letGo_11 rfl rfl ?_
    obtain ⟨hi7, hw⟩ := hw
    refine z_mald (j := 6) S hE rfl rfl hi7 dX7_letGo_12 ?_
    refine z_iconst (v := 1) S dX7_letGo_13 (by decide) ?_
    refine z_isub S dX7_letGo_14 ?_
    obtain ⟨hi6, hw⟩ := hw
    refine z_mast (j := 6) S hE rfl rfl hi6 dX7_letGo_15 ?_
    refine z_aload_n (x := some o) S 0 dX7_letGo_16 rfl rfl ?_
    refine zm_g_25 S hE dX7_letGo_17 ?_
    refine z_iload_n S 1 dX7_letGo_20 rfl rfl ?_
    obtain ⟨hi5, hw⟩ := hw
    refine z_mald (j := 6) S hE rfl rfl hi5 dX7_letGo_21 ?_
    refine z_if_ne S 33 dX7_letGo_22 (by decide) (fun c2 => ?_) (fun c2 => ?_)
    · have hw := hw.1 c2
      refine z_iconst (v := 0) S dX7_letGo_33 (by decide) ?_
      exact z_iret S hr hlk dX7_letGo_34 (Nat.le_refl 0) (Nat.le_refl 0) hw
    · have hw := hw.2 c2
      refine z_aload_n (x := some o) S 0 dX7_letGo_25 rfl rfl ?_
      refine z_iload_n S 1 dX7_letGo_26 rfl rfl ?_
      refine z_callVi (As := [.int x1]) (st := []) S (z_EMok D cy A) hE (me_X7_release l D cy A o ad _ (z_up M 6 x1.toNatClampNeg ((M 6 x1.toNatClampNeg) - 1)) x1 hw) gV_X7_111 hdV_X7_release ⟨Nat.le_of_ble_eq_true rfl, Nat.le_of_ble_eq_true rfl⟩ rfl rfl (z_recvM hE) (fun _ h => h) (fun _ _ _ _ h => h) rfl (Nat.le_trans z_s0 (by decide)) dX7_letGo_27 ⟨Nat.le_of_ble_eq_true rfl, Nat.le_of_ble_eq_true rfl⟩ rfl (fun r4 M3 hw => ?_)
      refine z_goto S 34 dX7_letGo_30 (by decide) ?_
      exact z_iret S hr hlk dX7_letGo_34 (Nat.le_refl 0) (Nat.le_refl 0) hw
  · have hw := hw.2 c1
    refine z_iconst (v := 0) S dX7_letGo_4 (by decide) ?_
    exact z_iret S hr hlk dX7_letGo_5 (Nat.le_refl 0) (Nat.le_refl 0) hw
theorem me_X7_letGo (l : Launch) (D : va_G) (cy : Nat → ClassId) (A : Nat → Prop) (o : Nat) (ad : Nat → Nat) (post : Int32 → z_Md → Prop) (M : z_Md) (x1 : Int32) (hw : w_X7_letGo post M x1) : z_Mi l yX7_letGo (Cond.code yX7_letGo cX7_letGo 2 (some .int) :: z_T) rm_X7_letGo [.ref o, .int x1] (z_EM D cy) (z_hM D cy A o ad) M post 0 0 A :=
  z_met (by decide) (Nat.le_of_ble_eq_true rfl) (fun p e s m args below meth c S hlk hr hnm hE => mb_X7_letGo S hlk hr hE M x1 hw)
abbrev rm_X7_costOfGap : Room := { frames := 0, cells := 0, slots := 0, locals := 0 }
def w_X7_costOfGap (post : Int32 → z_Md → Prop) (M : z_Md) (x0 : Int32) : Prop := (post ((x0 + 3) / 4) M)
set_option maxRecDepth 20000 in
theorem mb_X7_costOfGap {p : Program} {l : Launch} {e : Env} {s : State} {m : MethodId} {args : Array Value} {below : List Frame} {meth : Method} {c : Code} {D : va_G} {cy : Nat → ClassId} {A : Nat → Prop} {o : Nat} {ad : Nat → Nat} (S : CallFix p m c cX7_costOfGap 1 s args z_T RX7) (hlk : meth.locks = false) (hr : meth.sig.returnType = some .int) (hE : z_EM D cy s) {post : Int32 → z_Md → Prop}  (M : z_Md) (x0 : Int32) (hw : w_X7_costOfGap post M x0) : z_V A (z_hM D cy A o ad) p l e rm_X7_costOfGap s m args below meth c 1 (MQ below (va_Qi post (fun (u' : z_Md) t => z_hM D cy A o ad u' t.heap) A) args s 0 0 A) 0 0 M 0 [(0, .int x0)] [] := by
  refine z_iload_n S 0 dX7_costOfGap_0 rfl rfl ?_
  refine z_iconst (v := 3) S dX7_costOfGap_1 (by decide) ?_
  refine z_iadd S dX7_costOfGap_2 ?_
  refine z_iconst (v := 4) S dX7_costOfGap_3 (by decide) ?_
  refine z_idiv S dX7_costOfGap_4 (by decide) ?_
  exact z_iret S hr hlk dX7_costOfGap_5 (Nat.le_refl 0) (Nat.le_refl 0) hw
theorem me_X7_costOfGap (l : Launch) (D : va_G) (cy : Nat → ClassId) (A : Nat → Prop) (o : Nat) (ad : Nat → Nat) (post : Int32 → z_Md → Prop) (M : z_Md) (x0 : Int32) (hw : w_X7_costOfGap post M x0) : z_Mi l yX7_costOfGap (Cond.code yX7_costOfGap cX7_costOfGap 1 (some .int) :: z_T) rm_X7_costOfGap [.int x0] (z_EM D cy) (z_hM D cy A o ad) M post 0 0 A :=
  z_met (by decide) (Nat.le_of_ble_eq_true rfl) (fun p e s m args below meth c S hlk hr hnm hE => mb_X7_costOfGap S hlk hr hE M x0 hw)
abbrev rm_X7_cost : Room := { frames := 1, cells := 0, slots := 0, locals := 24 }
def w_X7_cost_46 (post : Int32 → z_Md → Prop) (J4 : z_Md → Int32 → Int32 → Int32 → Prop) (M : z_Md) (x1 : Int32) (x3 : Int32) (z0 : Int32) (z1 : Int32) : Prop := (J4 M x1 (z1 + z0) (x3 + 1))
def w_X7_cost_4 (post : Int32 → z_Md → Prop) : Nat → z_Md → Int32 → Int32 → Int32 → Prop
  | 0 => fun _ _ _ _ => False
  | n + 1 => fun M x1 x2 x3 => ((x1 < 0 → (post x2 M)) ∧ (¬ x1 < 0 → (vp_in x1 48 ∧ (((M 9 x1.toNatClampNeg) ≤ x3 → (post x2 M)) ∧ (¬ (M 9 x1.toNatClampNeg) ≤ x3 → (w_X7_entryAt (fun r4 M3 => (vp_in r4 160 ∧ (∀ x4_5 : Int32, x4_5 = M3 4 r4.toNatClampNeg → ((¬ x4_5 = 0 → (w_X7_costOfGap (fun r8 M7 => (w_X7_cost_46 post (w_X7_cost_4 post n) M7 x1 x3 r8 x2)) M3 x4_5)) ∧ (x4_5 = 0 → (w_X7_cost_46 post (w_X7_cost_4 post n) M3 x1 x3 1 x2)))))) M x1 x3))))))
def w_X7_cost (post : Int32 → z_Md → Prop) (M : z_Md) (x1 : Int32) : Prop := (∃ n0 : Nat, w_X7_cost_4 post n0 M x1 0 0)
set_option maxRecDepth 20000 in
theorem mb_X7_cost_46 {p : Program} {l : Launch} {e : Env} {s : State} {m : MethodId} {args : Array Value} {below : List Frame} {meth : Method} {c : Code} {D : va_G} {cy : Nat → ClassId} {A : Nat → Prop} {o : Nat} {ad : Nat → Nat} (S : CallFix p m c cX7_cost 5 s args z_T RX7) (hlk : meth.locks = false) (hr : meth.sig.returnType = some .int) (hE : z_EM D cy s) {post : Int32 → z_Md → Prop} {J4 : z_Md → Int32 → Int32 → Int32 → Prop} (hJ4 : ∀ (M : z_Md) (x1 : Int32) (x2 : Int32) (x3 : Int32), J4 M x1 x2 x3 → z_V A (z_hM D cy A o ad) p l e rm_X7_cost s m args below meth c 5 (MQ below (va_Qi post (fun (u' : z_Md) t => z_hM D cy A o ad u' t.heap) A) args s 0 0 A) 0 0 M 4 [(0, va_rf (some o)), (1, .int x1), (2, .int x2), (3, .int x3)] []) (M : z_Md) (x1 : Int32) (x3 : Int32) (z0 : Int32) (z1 : Int32) (hw : w_X7_cost_46 post J4 M x1 x3 z0 z1) : z_V A (z_hM D cy A o ad) p l e rm_X7_cost s m args below meth c 5 (MQ below (va_Qi post (fun (u' : z_Md) t => z_hM D cy A o ad u' t.heap) A) args s 0 0 A) 0 0 M 46 [(0, va_rf (some o)), (1, .int x1), (3, .int x3)] [.int z0, .int z1] := by
  refine z_iadd S dX7_cost_46 ?_
  refine z_istore_n S [(2, .int (z1 + z0)), (0, va_rf (some o)), (1, .int x1), (3, .int x3)] dX7_cost_47 rfl (by decide) rfl ?_
  refine z_lv (lv' := [(0, va_rf (some o)), (1, .int x1), (2, .int (z1 + z0)), (3, .int x3)]) [1, 2, 0, 3] rfl ?_
  refine z_iinc (v := x3 + 1) (pl := 3) S [(3, .int (x3 + 1)), (0, va_rf (some o)), (1, .int x1), (2, .int (z1 + z0))] dX7_cost_48 rfl rfl (by decide) rfl ?_
  refine z_lv (lv' := [(0, va_rf (some o)), (1, .int x1), (2, .int (z1 + z0)), (3, .int (x3 + 1))]) [1, 2, 3, 0] rfl ?_
  refine z_goto S 4 dX7_cost_51 (by decide) ?_
  exact hJ4 M x1 (z1 + z0) (x3 + 1) hw
set_option maxRecDepth 20000 in
theorem mb_X7_cost_4 {p : Program} {l : Launch} {e : Env} {s : State} {m : MethodId} {args : Array Value} {below : List Frame} {meth : Method} {c : Code} {D : va_G} {cy : Nat → ClassId} {A : Nat → Prop} {o : Nat} {ad : Nat → Nat} (S : CallFix p m c cX7_cost 5 s args z_T RX7) (hlk : meth.locks = false) (hr : meth.sig.returnType = some .int) (hE : z_EM D cy s) {post : Int32 → z_Md → Prop}  : ∀ (n : Nat) (M : z_Md) (x1 : Int32) (x2 : Int32) (x3 : Int32), w_X7_cost_4 post n M x1 x2 x3 → z_V A (z_hM D cy A o ad) p l e rm_X7_cost s m args below meth c 5 (MQ below (va_Qi post (fun (u' : z_Md) t => z_hM D cy A o ad u' t.heap) A) args s 0 0 A) 0 0 M 4 [(0, va_rf (some o)), (1, .int x1), (2, .int x2), (3, .int x3)] [] := by
  intro n
  induction n with
  | zero => intro M x1 x2 x3 hw; exact hw.elim
  | succ n ih =>
    intro M x1 x2 x3 hw
    refine z_iload_n S 1 dX7_cost_4 rfl rfl ?_
    refine z_if_lt S 54 dX7_cost_5 (by decide) (fun c1 => ?_) (fun c1 => ?_)
    · have hw := hw.1 c1
      refine z_iload_n S 2 dX7_cost_54 rfl rfl ?_
      exact z_iret S hr hlk dX7_cost_55 (Nat.le_refl 0) (Nat.le_refl 0) hw
    · have hw := hw.2 c1
      refine z_iload_n S 3 dX7_cost_8 rfl rfl ?_
      refine z_aload_n (x := some o) S 0 dX7_cost_9 rfl rfl ?_
      refine zm_g_35 S hE dX7_cost_10 ?_
      refine z_iload_n S 1 dX7_cost_13 rfl rfl ?_
      obtain ⟨hi10, hw⟩ := hw
      refine z_mald (j := 9) S hE rfl rfl hi10 dX7_cost_14 ?_
      refine z_icmp_ge S 54 dX7_cost_15 (by decide) (fun c2 => ?_) (fun c2 => ?_)
      · have hw := hw.1 c2
        refine z_iload_n S 2 dX7_cost_54 rfl rfl ?_
        exact z_iret S hr hlk dX7_cost_55 (Nat.le_refl 0) (Nat.le_refl 0) hw
      · have hw := hw.2 c2
        refine z_aload_n (x := some o) S 0 dX7_cost_18 rfl rfl ?_
        refine zm_g_19 S hE dX7_cost_19 ?_
        refine z_aload_n (x := some o) S 0 dX7_cost_22 rfl rfl ?_
        refine z_iload_n S 1 dX7_cost_23 rfl rfl ?_
        refine z_iload_n S 3 dX7_cost_24 rfl rfl ?_
        refine z_callVi (As := [.int x1, .int x3]) (st := [.ref (ad 4)]) S (z_EMok D cy A) hE (me_X7_entryAt l D cy A o ad _ M x1 x3 hw) gV_X7_107 hdV_X7_entryAt ⟨Nat.le_of_ble_eq_true rfl, Nat.le_of_ble_eq_true rfl⟩ rfl rfl (z_recvM hE) (fun _ h => h) (fun _ _ _ _ h => h) rfl (Nat.le_trans (z_sr z_s0) (by decide)) dX7_cost_25 ⟨Nat.le_of_ble_eq_true rfl, Nat.le_of_ble_eq_true rfl⟩ rfl (fun r4 M3 hw => ?_)
        obtain ⟨hi9, hw⟩ := hw
        refine z_mald (j := 4) S hE rfl rfl hi9 dX7_cost_28 ?_
        refine z_top (fun x4_5 ex4_5 => ?_)
        have hw := hw x4_5 ex4_5
        refine z_istore S [(4, .int x4_5), (0, va_rf (some o)), (1, .int x1), (2, .int x2), (3, .int x3)] dX7_cost_29 (by decide) rfl ?_
        refine z_lv (lv' := [(0, va_rf (some o)), (1, .int x1), (2, .int x2), (3, .int x3), (4, .int x4_5)]) [1, 2, 3, 4, 0] rfl ?_
        refine z_iload_n S 2 dX7_cost_31 rfl rfl ?_
        refine z_iload S 4 dX7_cost_32 rfl ?_
        refine z_if_ne S 41 dX7_cost_34 (by decide) (fun c6 => ?_) (fun c6 => ?_)
        · have hw := hw.1 c6
          refine z_iload S 4 dX7_cost_41 rfl ?_
          refine z_callSi (As := [.int x4_5]) (st := [.int x2]) S (z_EMok D cy A) hE (me_X7_costOfGap l D cy A o ad _ M3 x4_5 hw) gS_X7_115 hdS_X7_costOfGap ⟨Nat.le_of_ble_eq_true rfl, Nat.le_of_ble_eq_true rfl⟩ rfl rfl (fun _ h => h) (fun _ _ _ _ h => h) rfl (Nat.le_trans (z_s1 z_s0) (by decide)) dX7_cost_43 ⟨Nat.le_of_ble_eq_true rfl, Nat.le_of_ble_eq_true rfl⟩ rfl (fun r8 M7 hw => ?_)
          refine z_lv (lv' := [(0, va_rf (some o)), (1, .int x1), (3, .int x3)]) [0, 1, 3] rfl ?_
          exact mb_X7_cost_46 S hlk hr hE ih M7 x1 x3 r8 x2 hw
        · have hw := hw.2 c6
          refine z_iconst (v := 1) S dX7_cost_37 (by decide) ?_
          refine z_goto S 46 dX7_cost_38 (by decide) ?_
          refine z_lv (lv' := [(0, va_rf (some o)), (1, .int x1), (3, .int x3)]) [0, 1, 3] rfl ?_
          exact mb_X7_cost_46 S hlk hr hE ih M3 x1 x3 1 x2 hw
set_option maxRecDepth 20000 in
theorem mb_X7_cost {p : Program} {l : Launch} {e : Env} {s : State} {m : MethodId} {args : Array Value} {below : List Frame} {meth : Method} {c : Code} {D : va_G} {cy : Nat → ClassId} {A : Nat → Prop} {o : Nat} {ad : Nat → Nat} (S : CallFix p m c cX7_cost 5 s args z_T RX7) (hlk : meth.locks = false) (hr : meth.sig.returnType = some .int) (hE : z_EM D cy s) {post : Int32 → z_Md → Prop}  (M : z_Md) (x1 : Int32) (hw : w_X7_cost post M x1) : z_V A (z_hM D cy A o ad) p l e rm_X7_cost s m args below meth c 5 (MQ below (va_Qi post (fun (u' : z_Md) t => z_hM D cy A o ad u' t.heap) A) args s 0 0 A) 0 0 M 0 [(0, va_rf (some o)), (1, .int x1)] [] := by
  refine z_iconst (v := 0) S dX7_cost_0 (by decide) ?_
  refine z_istore_n S [(2, .int 0), (0, va_rf (some o)), (1, .int x1)] dX7_cost_1 rfl (by decide) rfl ?_
  refine z_lv (lv' := [(0, va_rf (some o)), (1, .int x1), (2, .int 0)]) [1, 2, 0] rfl ?_
  refine z_iconst (v := 0) S dX7_cost_2 (by decide) ?_
  refine z_istore_n S [(3, .int 0), (0, va_rf (some o)), (1, .int x1), (2, .int 0)] dX7_cost_3 rfl (by decide) rfl ?_
  refine z_lv (lv' := [(0, va_rf (some o)), (1, .int x1), (2, .int 0), (3, .int 0)]) [1, 2, 3, 0] rfl ?_
  obtain ⟨n0, hw⟩ := hw
  exact mb_X7_cost_4 S hlk hr hE n0 M x1 0 0 hw
theorem me_X7_cost (l : Launch) (D : va_G) (cy : Nat → ClassId) (A : Nat → Prop) (o : Nat) (ad : Nat → Nat) (post : Int32 → z_Md → Prop) (M : z_Md) (x1 : Int32) (hw : w_X7_cost post M x1) : z_Mi l yX7_cost (Cond.code yX7_cost cX7_cost 5 (some .int) :: z_T) rm_X7_cost [.ref o, .int x1] (z_EM D cy) (z_hM D cy A o ad) M post 0 0 A :=
  z_met (by decide) (Nat.le_of_ble_eq_true rfl) (fun p e s m args below meth c S hlk hr hnm hE => mb_X7_cost S hlk hr hE M x1 hw)
abbrev rm_X7_frames : Room := { frames := 1, cells := 0, slots := 0, locals := 24 }
def w_X7_frames_4 (post : Int32 → z_Md → Prop) : Nat → z_Md → Int32 → Int32 → Int32 → Prop
  | 0 => fun _ _ _ _ => False
  | n + 1 => fun M x1 x2 x3 => ((x1 < 0 → (post x2 M)) ∧ (¬ x1 < 0 → (vp_in x1 48 ∧ (((M 9 x1.toNatClampNeg) ≤ x3 → (post x2 M)) ∧ (¬ (M 9 x1.toNatClampNeg) ≤ x3 → (w_X7_entryAt (fun r4 M3 => (vp_in r4 160 ∧ (∀ x4_5 : Int32, x4_5 = M3 4 r4.toNatClampNeg → (∀ y6 : Int32, y6 = (if x4_5 = 0 then 1 else x4_5) → (w_X7_frames_4 post n M3 x1 (x2 + y6) (x3 + 1)))))) M x1 x3))))))
def w_X7_frames (post : Int32 → z_Md → Prop) (M : z_Md) (x1 : Int32) : Prop := (∃ n0 : Nat, w_X7_frames_4 post n0 M x1 0 0)
set_option maxRecDepth 20000 in
theorem mb_X7_frames_4 {p : Program} {l : Launch} {e : Env} {s : State} {m : MethodId} {args : Array Value} {below : List Frame} {meth : Method} {c : Code} {D : va_G} {cy : Nat → ClassId} {A : Nat → Prop} {o : Nat} {ad : Nat → Nat} (S : CallFix p m c cX7_frames 5 s args z_T RX7) (hlk : meth.locks = false) (hr : meth.sig.returnType = some .int) (hE : z_EM D cy s) {post : Int32 → z_Md → Prop}  : ∀ (n : Nat) (M : z_Md) (x1 : Int32) (x2 : Int32) (x3 : Int32), w_X7_frames_4 post n M x1 x2 x3 → z_V A (z_hM D cy A o ad) p l e rm_X7_frames s m args below meth c 5 (MQ below (va_Qi post (fun (u' : z_Md) t => z_hM D cy A o ad u' t.heap) A) args s 0 0 A) 0 0 M 4 [(0, va_rf (some o)), (1, .int x1), (2, .int x2), (3, .int x3)] [] := by
  intro n
  induction n with
  | zero => intro M x1 x2 x3 hw; exact hw.elim
  | succ n ih =>
    intro M x1 x2 x3 hw
    refine z_iload_n S 1 dX7_frames_4 rfl rfl ?_
    refine z_if_lt S 51 dX7_frames_5 (by decide) (fun c1 => ?_) (fun c1 => ?_)
    · have hw := hw.1 c1
      refine z_iload_n S 2 dX7_frames_51 rfl rfl ?_
      exact z_iret S hr hlk dX7_frames_52 (Nat.le_refl 0) (Nat.le_refl 0) hw
    · have hw := hw.2 c1
      refine z_iload_n S 3 dX7_frames_8 rfl rfl ?_
      refine z_aload_n (x := some o) S 0 dX7_frames_9 rfl rfl ?_
      refine zm_g_35 S hE dX7_frames_10 ?_
      refine z_iload_n S 1 dX7_frames_13 rfl rfl ?_
      obtain ⟨hi9, hw⟩ := hw
      refine z_mald (j := 9) S hE rfl rfl hi9 dX7_frames_14 ?_
      refine z_icmp_ge S 51 dX7_frames_15 (by decide) (fun c2 => ?_) (fun c2 => ?_)
      · have hw := hw.1 c2
        refine z_iload_n S 2 dX7_frames_51 rfl rfl ?_
        exact z_iret S hr hlk dX7_frames_52 (Nat.le_refl 0) (Nat.le_refl 0) hw
      · have hw := hw.2 c2
        refine z_aload_n (x := some o) S 0 dX7_frames_18 rfl rfl ?_
        refine zm_g_19 S hE dX7_frames_19 ?_
        refine z_aload_n (x := some o) S 0 dX7_frames_22 rfl rfl ?_
        refine z_iload_n S 1 dX7_frames_23 rfl rfl ?_
        refine z_iload_n S 3 dX7_frames_24 rfl rfl ?_
        refine z_callVi (As := [.int x1, .int x3]) (st := [.ref (ad 4)]) S (z_EMok D cy A) hE (me_X7_entryAt l D cy A o ad _ M x1 x3 hw) gV_X7_107 hdV_X7_entryAt ⟨Nat.le_of_ble_eq_true rfl, Nat.le_of_ble_eq_true rfl⟩ rfl rfl (z_recvM hE) (fun _ h => h) (fun _ _ _ _ h => h) rfl (Nat.le_trans (z_sr z_s0) (by decide)) dX7_frames_25 ⟨Nat.le_of_ble_eq_true rfl, Nat.le_of_ble_eq_true rfl⟩ rfl (fun r4 M3 hw => ?_)
        obtain ⟨hi8, hw⟩ := hw
        refine z_mald (j := 4) S hE rfl rfl hi8 dX7_frames_28 ?_
        refine z_top (fun x4_5 ex4_5 => ?_)
        have hw := hw x4_5 ex4_5
        refine z_istore S [(4, .int x4_5), (0, va_rf (some o)), (1, .int x1), (2, .int x2), (3, .int x3)] dX7_frames_29 (by decide) rfl ?_
        refine z_lv (lv' := [(0, va_rf (some o)), (1, .int x1), (2, .int x2), (3, .int x3), (4, .int x4_5)]) [1, 2, 3, 4, 0] rfl ?_
        refine z_iload_n S 2 dX7_frames_31 rfl rfl ?_
        refine z_iload S 4 dX7_frames_32 rfl ?_
        suffices hJ : ∀ y6 : Int32, y6 = (if x4_5 = 0 then 1 else x4_5) → z_V A (z_hM D cy A o ad) p l e rm_X7_frames s m args below meth c 5 (MQ below (va_Qi post (fun (u' : z_Md) t => z_hM D cy A o ad u' t.heap) A) args s 0 0 A) 0 0 M3 43 [(0, va_rf (some o)), (1, .int x1), (3, .int x3)] [.int y6, .int x2] from by
          refine z_if_ne S 41 dX7_frames_34 (by decide) (fun c7 => ?_) (fun c7 => ?_)
          · refine z_iload S 4 dX7_frames_41 rfl ?_
            refine z_lv (lv' := [(0, va_rf (some o)), (1, .int x1), (3, .int x3)]) [0, 1, 3] rfl ?_
            exact hJ _ (by rw [if_neg c7])
          · refine z_iconst (v := 1) S dX7_frames_37 (by decide) ?_
            refine z_goto S 43 dX7_frames_38 (by decide) ?_
            refine z_lv (lv' := [(0, va_rf (some o)), (1, .int x1), (3, .int x3)]) [0, 1, 3] rfl ?_
            exact hJ _ (by rw [if_pos c7])
        intro y6 ey6
        have hw := hw y6 ey6
        refine z_iadd S dX7_frames_43 ?_
        refine z_istore_n S [(2, .int (x2 + y6)), (0, va_rf (some o)), (1, .int x1), (3, .int x3)] dX7_frames_44 rfl (by decide) rfl ?_
        refine z_lv (lv' := [(0, va_rf (some o)), (1, .int x1), (2, .int (x2 + y6)), (3, .int x3)]) [1, 2, 0, 3] rfl ?_
        refine z_iinc (v := x3 + 1) (pl := 3) S [(3, .int (x3 + 1)), (0, va_rf (some o)), (1, .int x1), (2, .int (x2 + y6))] dX7_frames_45 rfl rfl (by decide) rfl ?_
        refine z_lv (lv' := [(0, va_rf (some o)), (1, .int x1), (2, .int (x2 + y6)), (3, .int (x3 + 1))]) [1, 2, 3, 0] rfl ?_
        refine z_goto S 4 dX7_frames_48 (by decide) ?_
        exact ih M3 x1 (x2 + y6) (x3 + 1) hw
set_option maxRecDepth 20000 in
theorem mb_X7_frames {p : Program} {l : Launch} {e : Env} {s : State} {m : MethodId} {args : Array Value} {below : List Frame} {meth : Method} {c : Code} {D : va_G} {cy : Nat → ClassId} {A : Nat → Prop} {o : Nat} {ad : Nat → Nat} (S : CallFix p m c cX7_frames 5 s args z_T RX7) (hlk : meth.locks = false) (hr : meth.sig.returnType = some .int) (hE : z_EM D cy s) {post : Int32 → z_Md → Prop}  (M : z_Md) (x1 : Int32) (hw : w_X7_frames post M x1) : z_V A (z_hM D cy A o ad) p l e rm_X7_frames s m args below meth c 5 (MQ below (va_Qi post (fun (u' : z_Md) t => z_hM D cy A o ad u' t.heap) A) args s 0 0 A) 0 0 M 0 [(0, va_rf (some o)), (1, .int x1)] [] := by
  refine z_iconst (v := 0) S dX7_frames_0 (by decide) ?_
  refine z_istore_n S [(2, .int 0), (0, va_rf (some o)), (1, .int x1)] dX7_frames_1 rfl (by decide) rfl ?_
  refine z_lv (lv' := [(0, va_rf (some o)), (1, .int x1), (2, .int 0)]) [1, 2, 0] rfl ?_
  refine z_iconst (v := 0) S dX7_frames_2 (by decide) ?_
  refine z_istore_n S [(3, .int 0), (0, va_rf (some o)), (1, .int x1), (2, .int 0)] dX7_frames_3 rfl (by decide) rfl ?_
  refine z_lv (lv' := [(0, va_rf (some o)), (1, .int x1), (2, .int 0), (3, .int 0)]) [1, 2, 3, 0] rfl ?_
  obtain ⟨n0, hw⟩ := hw
  exact mb_X7_frames_4 S hlk hr hE n0 M x1 0 0 hw
theorem me_X7_frames (l : Launch) (D : va_G) (cy : Nat → ClassId) (A : Nat → Prop) (o : Nat) (ad : Nat → Nat) (post : Int32 → z_Md → Prop) (M : z_Md) (x1 : Int32) (hw : w_X7_frames post M x1) : z_Mi l yX7_frames (Cond.code yX7_frames cX7_frames 5 (some .int) :: z_T) rm_X7_frames [.ref o, .int x1] (z_EM D cy) (z_hM D cy A o ad) M post 0 0 A :=
  z_met (by decide) (Nat.le_of_ble_eq_true rfl) (fun p e s m args below meth c S hlk hr hnm hE => mb_X7_frames S hlk hr hE M x1 hw)
abbrev rm_X7_sound : Room := { frames := 1, cells := 0, slots := 0, locals := 26 }
def w_X7_sound_134 (post : Int32 → z_Md → Prop) (J15 : z_Md → Int32 → Int32 → Int32 → Prop) (M : z_Md) (x1 : Int32) (x3 : Int32) (x4 : Int32) : Prop := (J15 M x1 x3 (x4 + 1))
def w_X7_sound_90 (post : Int32 → z_Md → Prop) (J15 : z_Md → Int32 → Int32 → Int32 → Prop) : Nat → z_Md → Int32 → Int32 → Int32 → Int32 → Int32 → Prop
  | 0 => fun _ _ _ _ _ _ => False
  | n + 1 => fun M x1 x3 x4 x5 x6 => ((8 ≤ x6 → (w_X7_sound_134 post J15 M x1 x3 x4)) ∧ (¬ 8 ≤ x6 → (vp_in x5 160 ∧ (w_X7_hear (fun M2 => ((¬ x3 = 0 → (w_X7_sound_90 post J15 n M2 x1 (x3 + (-1)) x4 x5 (x6 + 1))) ∧ (x3 = 0 → (post (M2 30 0) M2)))) M (((M 5 x5.toNatClampNeg) >>> ((4 * x6) &&& 31)) &&& 15)))))
def w_X7_sound_15 (post : Int32 → z_Md → Prop) : Nat → z_Md → Int32 → Int32 → Int32 → Prop
  | 0 => fun _ _ _ _ => False
  | n + 1 => fun M x1 x3 x4 => (vp_in x1 48 ∧ (((M 9 x1.toNatClampNeg) ≤ x4 → (post 0 M)) ∧ (¬ (M 9 x1.toNatClampNeg) ≤ x4 → (w_X7_entryAt (fun r3 M2 => (vp_in r3 160 ∧ (((M2 4 r3.toNatClampNeg) ≤ 0 → (∃ n0 : Nat, w_X7_sound_90 post (w_X7_sound_15 post n) n0 M2 x1 x3 x4 r3 0)) ∧ (¬ (M2 4 r3.toNatClampNeg) ≤ 0 → (vp_in r3 160 ∧ (((8 * (M2 4 r3.toNatClampNeg)) ≤ x3 → (vp_in r3 160 ∧ (∀ x3_6 : Int32, x3_6 = x3 - (8 * (M2 4 r3.toNatClampNeg)) → (w_X7_sound_134 post (w_X7_sound_15 post n) (z_up (z_up M2 30 0 0) 31 0 0) x1 x3_6 x4)))) ∧ (¬ (8 * (M2 4 r3.toNatClampNeg)) ≤ x3 → (post 0 M2)))))))) M x1 x4))))
def w_X7_sound (post : Int32 → z_Md → Prop) (M : z_Md) (x1 : Int32) (x2 : Int32) : Prop := (∃ n0 : Nat, w_X7_sound_15 post n0 (z_up (z_up M 30 0 0) 31 0 0) x1 x2 0)
set_option maxRecDepth 20000 in
theorem mb_X7_sound_134 {p : Program} {l : Launch} {e : Env} {s : State} {m : MethodId} {args : Array Value} {below : List Frame} {meth : Method} {c : Code} {D : va_G} {cy : Nat → ClassId} {A : Nat → Prop} {o : Nat} {ad : Nat → Nat} (S : CallFix p m c cX7_sound 7 s args z_T RX7) (hlk : meth.locks = false) (hr : meth.sig.returnType = some .int) (hE : z_EM D cy s) {post : Int32 → z_Md → Prop} {J15 : z_Md → Int32 → Int32 → Int32 → Prop} (hJ15 : ∀ (M : z_Md) (x1 : Int32) (x3 : Int32) (x4 : Int32), J15 M x1 x3 x4 → z_V A (z_hM D cy A o ad) p l e rm_X7_sound s m args below meth c 7 (MQ below (va_Qi post (fun (u' : z_Md) t => z_hM D cy A o ad u' t.heap) A) args s 0 0 A) 0 0 M 15 [(0, va_rf (some o)), (1, .int x1), (3, .int x3), (4, .int x4)] []) (M : z_Md) (x1 : Int32) (x3 : Int32) (x4 : Int32) (hw : w_X7_sound_134 post J15 M x1 x3 x4) : z_V A (z_hM D cy A o ad) p l e rm_X7_sound s m args below meth c 7 (MQ below (va_Qi post (fun (u' : z_Md) t => z_hM D cy A o ad u' t.heap) A) args s 0 0 A) 0 0 M 134 [(0, va_rf (some o)), (1, .int x1), (3, .int x3), (4, .int x4)] [] := by
  refine z_iinc (v := x4 + 1) (pl := 3) S [(4, .int (x4 + 1)), (0, va_rf (some o)), (1, .int x1), (3, .int x3)] dX7_sound_134 rfl rfl (by decide) rfl ?_
  refine z_lv (lv' := [(0, va_rf (some o)), (1, .int x1), (3, .int x3), (4, .int (x4 + 1))]) [1, 2, 3, 0] rfl ?_
  refine z_goto S 15 dX7_sound_137 (by decide) ?_
  exact hJ15 M x1 x3 (x4 + 1) hw
set_option maxRecDepth 20000 in
theorem mb_X7_sound_90 {p : Program} {l : Launch} {e : Env} {s : State} {m : MethodId} {args : Array Value} {below : List Frame} {meth : Method} {c : Code} {D : va_G} {cy : Nat → ClassId} {A : Nat → Prop} {o : Nat} {ad : Nat → Nat} (S : CallFix p m c cX7_sound 7 s args z_T RX7) (hlk : meth.locks = false) (hr : meth.sig.returnType = some .int) (hE : z_EM D cy s) {post : Int32 → z_Md → Prop} {J15 : z_Md → Int32 → Int32 → Int32 → Prop} (hJ15 : ∀ (M : z_Md) (x1 : Int32) (x3 : Int32) (x4 : Int32), J15 M x1 x3 x4 → z_V A (z_hM D cy A o ad) p l e rm_X7_sound s m args below meth c 7 (MQ below (va_Qi post (fun (u' : z_Md) t => z_hM D cy A o ad u' t.heap) A) args s 0 0 A) 0 0 M 15 [(0, va_rf (some o)), (1, .int x1), (3, .int x3), (4, .int x4)] []) : ∀ (n : Nat) (M : z_Md) (x1 : Int32) (x3 : Int32) (x4 : Int32) (x5 : Int32) (x6 : Int32), w_X7_sound_90 post J15 n M x1 x3 x4 x5 x6 → z_V A (z_hM D cy A o ad) p l e rm_X7_sound s m args below meth c 7 (MQ below (va_Qi post (fun (u' : z_Md) t => z_hM D cy A o ad u' t.heap) A) args s 0 0 A) 0 0 M 90 [(0, va_rf (some o)), (1, .int x1), (3, .int x3), (4, .int x4), (5, .int x5), (6, .int x6)] [] := by
  intro n
  induction n with
  | zero => intro M x1 x3 x4 x5 x6 hw; exact hw.elim
  | succ n ih =>
    intro M x1 x3 x4 x5 x6 hw
    refine z_iload S 5 dX7_sound_90 rfl ?_
    refine z_bipush (v := 8) S dX7_sound_92 (by decide) ?_
    refine z_icmp_ge S 134 dX7_sound_94 (by decide) (fun c1 => ?_) (fun c1 => ?_)
    · have hw := hw.1 c1
      refine z_lv (lv' := [(0, va_rf (some o)), (1, .int x1), (3, .int x3), (4, .int x4)]) [0, 1, 2, 3] rfl ?_
      exact mb_X7_sound_134 S hlk hr hE hJ15 M x1 x3 x4 hw
    · have hw := hw.2 c1
      refine z_aload_n (x := some o) S 0 dX7_sound_97 rfl rfl ?_
      refine z_aload_n (x := some o) S 0 dX7_sound_98 rfl rfl ?_
      refine zm_g_22 S hE dX7_sound_99 ?_
      refine z_iload S 4 dX7_sound_102 rfl ?_
      obtain ⟨hi5, hw⟩ := hw
      refine z_mald (j := 5) S hE rfl rfl hi5 dX7_sound_104 ?_
      refine z_iconst (v := 4) S dX7_sound_105 (by decide) ?_
      refine z_iload S 5 dX7_sound_106 rfl ?_
      refine z_imul S dX7_sound_108 ?_
      refine z_ishr S dX7_sound_109 ?_
      refine z_bipush (v := 15) S dX7_sound_110 (by decide) ?_
      refine z_iand S dX7_sound_112 ?_
      refine z_callVv (As := [.int (((M 5 x5.toNatClampNeg) >>> ((4 * x6) &&& 31)) &&& 15)]) (st := []) S (z_EMok D cy A) hE (me_X7_hear l D cy A o ad _ M (((M 5 x5.toNatClampNeg) >>> ((4 * x6) &&& 31)) &&& 15) hw) gV_X7_99 hdV_X7_hear ⟨Nat.le_of_ble_eq_true rfl, Nat.le_of_ble_eq_true rfl⟩ rfl rfl (z_recvM hE) (fun _ h => h) (fun _ _ _ _ h => h) rfl (Nat.le_trans z_s0 (by decide)) dX7_sound_113 ⟨Nat.le_of_ble_eq_true rfl, Nat.le_of_ble_eq_true rfl⟩ rfl (fun M2 hw => ?_)
      refine z_iload_n S 2 dX7_sound_116 rfl rfl ?_
      refine z_if_ne S 125 dX7_sound_117 (by decide) (fun c4 => ?_) (fun c4 => ?_)
      · have hw := hw.1 c4
        refine z_iinc (v := x3 + (-1)) (pl := 2) S [(3, .int (x3 + (-1))), (0, va_rf (some o)), (1, .int x1), (4, .int x4), (5, .int x5), (6, .int x6)] dX7_sound_125 rfl rfl (by decide) rfl ?_
        refine z_lv (lv' := [(0, va_rf (some o)), (1, .int x1), (3, .int (x3 + (-1))), (4, .int x4), (5, .int x5), (6, .int x6)]) [1, 2, 0, 3, 4, 5] rfl ?_
        refine z_iinc (v := x6 + 1) (pl := 5) S [(6, .int (x6 + 1)), (0, va_rf (some o)), (1, .int x1), (3, .int (x3 + (-1))), (4, .int x4), (5, .int x5)] dX7_sound_128 rfl rfl (by decide) rfl ?_
        refine z_lv (lv' := [(0, va_rf (some o)), (1, .int x1), (3, .int (x3 + (-1))), (4, .int x4), (5, .int x5), (6, .int (x6 + 1))]) [1, 2, 3, 4, 5, 0] rfl ?_
        refine z_goto S 90 dX7_sound_131 (by decide) ?_
        exact ih M2 x1 (x3 + (-1)) x4 x5 (x6 + 1) hw
      · have hw := hw.2 c4
        refine z_aload_n (x := some o) S 0 dX7_sound_120 rfl rfl ?_
        refine zm_g_96 S hE dX7_sound_121 ?_
        exact z_iret S hr hlk dX7_sound_124 (Nat.le_refl 0) (Nat.le_refl 0) hw
set_option maxRecDepth 20000 in
theorem mb_X7_sound_15 {p : Program} {l : Launch} {e : Env} {s : State} {m : MethodId} {args : Array Value} {below : List Frame} {meth : Method} {c : Code} {D : va_G} {cy : Nat → ClassId} {A : Nat → Prop} {o : Nat} {ad : Nat → Nat} (S : CallFix p m c cX7_sound 7 s args z_T RX7) (hlk : meth.locks = false) (hr : meth.sig.returnType = some .int) (hE : z_EM D cy s) {post : Int32 → z_Md → Prop}  : ∀ (n : Nat) (M : z_Md) (x1 : Int32) (x3 : Int32) (x4 : Int32), w_X7_sound_15 post n M x1 x3 x4 → z_V A (z_hM D cy A o ad) p l e rm_X7_sound s m args below meth c 7 (MQ below (va_Qi post (fun (u' : z_Md) t => z_hM D cy A o ad u' t.heap) A) args s 0 0 A) 0 0 M 15 [(0, va_rf (some o)), (1, .int x1), (3, .int x3), (4, .int x4)] [] := by
  intro n
  induction n with
  | zero => intro M x1 x3 x4 hw; exact hw.elim
  | succ n ih =>
    intro M x1 x3 x4 hw
    refine z_iload S 3 dX7_sound_15 rfl ?_
    refine z_aload_n (x := some o) S 0 dX7_sound_17 rfl rfl ?_
    refine zm_g_35 S hE dX7_sound_18 ?_
    refine z_iload_n S 1 dX7_sound_21 rfl rfl ?_
    obtain ⟨hi10, hw⟩ := hw
    refine z_mald (j := 9) S hE rfl rfl hi10 dX7_sound_22 ?_
    refine z_icmp_ge S 140 dX7_sound_23 (by decide) (fun c1 => ?_) (fun c1 => ?_)
    · have hw := hw.1 c1
      refine z_iconst (v := 0) S dX7_sound_140 (by decide) ?_
      exact z_iret S hr hlk dX7_sound_141 (Nat.le_refl 0) (Nat.le_refl 0) hw
    · have hw := hw.2 c1
      refine z_aload_n (x := some o) S 0 dX7_sound_26 rfl rfl ?_
      refine z_iload_n S 1 dX7_sound_27 rfl rfl ?_
      refine z_iload S 3 dX7_sound_28 rfl ?_
      refine z_callVi (As := [.int x1, .int x4]) (st := []) S (z_EMok D cy A) hE (me_X7_entryAt l D cy A o ad _ M x1 x4 hw) gV_X7_107 hdV_X7_entryAt ⟨Nat.le_of_ble_eq_true rfl, Nat.le_of_ble_eq_true rfl⟩ rfl rfl (z_recvM hE) (fun _ h => h) (fun _ _ _ _ h => h) rfl (Nat.le_trans z_s0 (by decide)) dX7_sound_30 ⟨Nat.le_of_ble_eq_true rfl, Nat.le_of_ble_eq_true rfl⟩ rfl (fun r3 M2 hw => ?_)
      refine z_istore S [(5, .int r3), (0, va_rf (some o)), (1, .int x1), (3, .int x3), (4, .int x4)] dX7_sound_33 (by decide) rfl ?_
      refine z_lv (lv' := [(0, va_rf (some o)), (1, .int x1), (3, .int x3), (4, .int x4), (5, .int r3)]) [1, 2, 3, 4, 0] rfl ?_
      refine z_aload_n (x := some o) S 0 dX7_sound_35 rfl rfl ?_
      refine zm_g_19 S hE dX7_sound_36 ?_
      refine z_iload S 4 dX7_sound_39 rfl ?_
      obtain ⟨hi9, hw⟩ := hw
      refine z_mald (j := 4) S hE rfl rfl hi9 dX7_sound_41 ?_
      refine z_if_le S 87 dX7_sound_42 (by decide) (fun c4 => ?_) (fun c4 => ?_)
      · have hw := hw.1 c4
        refine z_iconst (v := 0) S dX7_sound_87 (by decide) ?_
        refine z_istore S [(6, .int 0), (0, va_rf (some o)), (1, .int x1), (3, .int x3), (4, .int x4), (5, .int r3)] dX7_sound_88 (by decide) rfl ?_
        refine z_lv (lv' := [(0, va_rf (some o)), (1, .int x1), (3, .int x3), (4, .int x4), (5, .int r3), (6, .int 0)]) [1, 2, 3, 4, 5, 0] rfl ?_
        obtain ⟨n0, hw⟩ := hw
        exact mb_X7_sound_90 S hlk hr hE ih n0 M2 x1 x3 x4 r3 0 hw
      · have hw := hw.2 c4
        refine z_iload_n S 2 dX7_sound_45 rfl rfl ?_
        refine z_bipush (v := 8) S dX7_sound_46 (by decide) ?_
        refine z_aload_n (x := some o) S 0 dX7_sound_48 rfl rfl ?_
        refine zm_g_19 S hE dX7_sound_49 ?_
        refine z_iload S 4 dX7_sound_52 rfl ?_
        obtain ⟨hi8, hw⟩ := hw
        refine z_mald (j := 4) S hE rfl rfl hi8 dX7_sound_54 ?_
        refine z_imul S dX7_sound_55 ?_
        refine z_icmp_ge S 61 dX7_sound_56 (by decide) (fun c5 => ?_) (fun c5 => ?_)
        · have hw := hw.1 c5
          refine z_iload_n S 2 dX7_sound_61 rfl rfl ?_
          refine z_bipush (v := 8) S dX7_sound_62 (by decide) ?_
          refine z_aload_n (x := some o) S 0 dX7_sound_64 rfl rfl ?_
          refine zm_g_19 S hE dX7_sound_65 ?_
          refine z_iload S 4 dX7_sound_68 rfl ?_
          obtain ⟨hi7, hw⟩ := hw
          refine z_mald (j := 4) S hE rfl rfl hi7 dX7_sound_70 ?_
          refine z_imul S dX7_sound_71 ?_
          refine z_isub S dX7_sound_72 ?_
          refine z_top (fun x3_6 ex3_6 => ?_)
          have hw := hw x3_6 ex3_6
          refine z_istore_n S [(3, .int x3_6), (0, va_rf (some o)), (1, .int x1), (4, .int x4), (5, .int r3)] dX7_sound_73 rfl (by decide) rfl ?_
          refine z_lv (lv' := [(0, va_rf (some o)), (1, .int x1), (3, .int x3_6), (4, .int x4), (5, .int r3)]) [1, 2, 0, 3, 4] rfl ?_
          refine z_aload_n (x := some o) S 0 dX7_sound_74 rfl rfl ?_
          refine z_iconst (v := 0) S dX7_sound_75 (by decide) ?_
          refine zm_p_96 S hE dX7_sound_76 ?_
          refine z_aload_n (x := some o) S 0 dX7_sound_79 rfl rfl ?_
          refine z_iconst (v := 0) S dX7_sound_80 (by decide) ?_
          refine zm_p_93 S hE dX7_sound_81 ?_
          refine z_goto S 134 dX7_sound_84 (by decide) ?_
          refine z_lv (lv' := [(0, va_rf (some o)), (1, .int x1), (3, .int x3_6), (4, .int x4)]) [0, 1, 2, 3] rfl ?_
          exact mb_X7_sound_134 S hlk hr hE ih (z_up (z_up M2 30 0 0) 31 0 0) x1 x3_6 x4 hw
        · have hw := hw.2 c5
          refine z_iconst (v := 0) S dX7_sound_59 (by decide) ?_
          exact z_iret S hr hlk dX7_sound_60 (Nat.le_refl 0) (Nat.le_refl 0) hw
set_option maxRecDepth 20000 in
theorem mb_X7_sound {p : Program} {l : Launch} {e : Env} {s : State} {m : MethodId} {args : Array Value} {below : List Frame} {meth : Method} {c : Code} {D : va_G} {cy : Nat → ClassId} {A : Nat → Prop} {o : Nat} {ad : Nat → Nat} (S : CallFix p m c cX7_sound 7 s args z_T RX7) (hlk : meth.locks = false) (hr : meth.sig.returnType = some .int) (hE : z_EM D cy s) {post : Int32 → z_Md → Prop}  (M : z_Md) (x1 : Int32) (x2 : Int32) (hw : w_X7_sound post M x1 x2) : z_V A (z_hM D cy A o ad) p l e rm_X7_sound s m args below meth c 7 (MQ below (va_Qi post (fun (u' : z_Md) t => z_hM D cy A o ad u' t.heap) A) args s 0 0 A) 0 0 M 0 [(0, va_rf (some o)), (1, .int x1), (2, .int x2)] [] := by
  refine z_aload_n (x := some o) S 0 dX7_sound_0 rfl rfl ?_
  refine z_iconst (v := 0) S dX7_sound_1 (by decide) ?_
  refine zm_p_96 S hE dX7_sound_2 ?_
  refine z_aload_n (x := some o) S 0 dX7_sound_5 rfl rfl ?_
  refine z_iconst (v := 0) S dX7_sound_6 (by decide) ?_
  refine zm_p_93 S hE dX7_sound_7 ?_
  refine z_iload_n S 2 dX7_sound_10 rfl rfl ?_
  refine z_istore_n S [(3, .int x2), (0, va_rf (some o)), (1, .int x1), (2, .int x2)] dX7_sound_11 rfl (by decide) rfl ?_
  refine z_lv (lv' := [(0, va_rf (some o)), (1, .int x1), (2, .int x2), (3, .int x2)]) [1, 2, 3, 0] rfl ?_
  refine z_iconst (v := 0) S dX7_sound_12 (by decide) ?_
  refine z_istore S [(4, .int 0), (0, va_rf (some o)), (1, .int x1), (2, .int x2), (3, .int x2)] dX7_sound_13 (by decide) rfl ?_
  refine z_lv (lv' := [(0, va_rf (some o)), (1, .int x1), (2, .int x2), (3, .int x2), (4, .int 0)]) [1, 2, 3, 4, 0] rfl ?_
  refine z_lv (lv' := [(0, va_rf (some o)), (1, .int x1), (3, .int x2), (4, .int 0)]) [0, 1, 3, 4] rfl ?_
  obtain ⟨n0, hw⟩ := hw
  exact mb_X7_sound_15 S hlk hr hE n0 (z_up (z_up M 30 0 0) 31 0 0) x1 x2 0 hw
theorem me_X7_sound (l : Launch) (D : va_G) (cy : Nat → ClassId) (A : Nat → Prop) (o : Nat) (ad : Nat → Nat) (post : Int32 → z_Md → Prop) (M : z_Md) (x1 : Int32) (x2 : Int32) (hw : w_X7_sound post M x1 x2) : z_Mi l yX7_sound (Cond.code yX7_sound cX7_sound 7 (some .int) :: z_T) rm_X7_sound [.ref o, .int x1, .int x2] (z_EM D cy) (z_hM D cy A o ad) M post 0 0 A :=
  z_met (by decide) (Nat.le_of_ble_eq_true rfl) (fun p e s m args below meth c S hlk hr hnm hE => mb_X7_sound S hlk hr hE M x1 x2 hw)
abbrev rm_X7_isBox : Room := { frames := 0, cells := 0, slots := 0, locals := 0 }
def w_X7_isBox (post : Int32 → z_Md → Prop) (M : z_Md) (x1 : Int32) : Prop := (∀ y1 : Int32, y1 = (if x1 < 0 then 0 else (if (M 10 0) ≤ x1 then 0 else 1)) → (narrow .boolean (.int y1) = .int y1 ∧ (post y1 M)))
set_option maxRecDepth 20000 in
theorem mb_X7_isBox {p : Program} {l : Launch} {e : Env} {s : State} {m : MethodId} {args : Array Value} {below : List Frame} {meth : Method} {c : Code} {D : va_G} {cy : Nat → ClassId} {A : Nat → Prop} {o : Nat} {ad : Nat → Nat} (S : CallFix p m c cX7_isBox 2 s args z_T RX7) (hlk : meth.locks = false) (hr : meth.sig.returnType = some .boolean) (hE : z_EM D cy s) {post : Int32 → z_Md → Prop}  (M : z_Md) (x1 : Int32) (hw : w_X7_isBox post M x1) : z_V A (z_hM D cy A o ad) p l e rm_X7_isBox s m args below meth c 2 (MQ below (va_Qi post (fun (u' : z_Md) t => z_hM D cy A o ad u' t.heap) A) args s 0 0 A) 0 0 M 0 [(0, va_rf (some o)), (1, .int x1)] [] := by
  refine z_iload_n S 1 dX7_isBox_0 rfl rfl ?_
  suffices hJ : ∀ y1 : Int32, y1 = (if x1 < 0 then 0 else (if (M 10 0) ≤ x1 then 0 else 1)) → z_V A (z_hM D cy A o ad) p l e rm_X7_isBox s m args below meth c 2 (MQ below (va_Qi post (fun (u' : z_Md) t => z_hM D cy A o ad u' t.heap) A) args s 0 0 A) 0 0 M 17 [] [.int y1] from by
    refine z_if_lt S 16 dX7_isBox_1 (by decide) (fun c2 => ?_) (fun c2 => ?_)
    · refine z_iconst (v := 0) S dX7_isBox_16 (by decide) ?_
      refine z_lv (lv' := []) [] rfl ?_
      exact hJ _ (by rw [if_pos c2])
    · refine z_iload_n S 1 dX7_isBox_4 rfl rfl ?_
      refine z_aload_n (x := some o) S 0 dX7_isBox_5 rfl rfl ?_
      refine zm_g_118 S hE dX7_isBox_6 ?_
      refine z_icmp_ge S 16 dX7_isBox_9 (by decide) (fun c3 => ?_) (fun c3 => ?_)
      · refine z_iconst (v := 0) S dX7_isBox_16 (by decide) ?_
        refine z_lv (lv' := []) [] rfl ?_
        exact hJ _ (by rw [if_neg c2, if_pos c3])
      · refine z_iconst (v := 1) S dX7_isBox_12 (by decide) ?_
        refine z_goto S 17 dX7_isBox_13 (by decide) ?_
        refine z_lv (lv' := []) [] rfl ?_
        exact hJ _ (by rw [if_neg c2, if_neg c3])
  intro y1 ey1
  have hw := hw y1 ey1
  exact z_zret S hr hlk dX7_isBox_17 (Nat.le_refl 0) (Nat.le_refl 0) hw.1 hw.2
theorem me_X7_isBox (l : Launch) (D : va_G) (cy : Nat → ClassId) (A : Nat → Prop) (o : Nat) (ad : Nat → Nat) (post : Int32 → z_Md → Prop) (M : z_Md) (x1 : Int32) (hw : w_X7_isBox post M x1) : z_Mi l yX7_isBox (Cond.code yX7_isBox cX7_isBox 2 (some .boolean) :: z_T) rm_X7_isBox [.ref o, .int x1] (z_EM D cy) (z_hM D cy A o ad) M post 0 0 A :=
  z_met (by decide) (Nat.le_of_ble_eq_true rfl) (fun p e s m args below meth c S hlk hr hnm hE => mb_X7_isBox S hlk hr hE M x1 hw)
