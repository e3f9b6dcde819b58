abbrev rm_X7_usedBy : Room := { frames := 2, cells := 0, slots := 0, locals := 48 }
def w_X7_usedBy_48 (post : Int32 → z_Md → Prop) (J4 : z_Md → Int32 → Int32 → Int32 → Prop) (M : z_Md) (x1 : Int32) (x3 : Int32) (z0 : Int32) (z1 : Int32) : Prop := (J4 M x1 (z1 + z0) (x3 + 1))
def w_X7_usedBy_106 (post : Int32 → z_Md → Prop) (J58 : z_Md → Int32 → Int32 → Int32 → Prop) (M : z_Md) (x1 : Int32) (x3 : Int32) (z0 : Int32) (z1 : Int32) : Prop := (J58 M x1 (z1 + z0) (x3 + 1))
def w_X7_usedBy_105 (post : Int32 → z_Md → Prop) (J58 : z_Md → Int32 → Int32 → Int32 → Prop) (M : z_Md) (x1 : Int32) (x3 : Int32) (z0 : Int32) : Prop := (w_X7_usedBy_106 post J58 M x1 x3 0 z0)
def w_X7_usedBy_58 (post : Int32 → z_Md → Prop) : Nat → z_Md → Int32 → Int32 → Int32 → Prop
  | 0 => fun _ _ _ _ => False
  | n + 1 => fun M x1 x2 x3 => ((3 ≤ x3 → (post x2 M)) ∧ (¬ 3 ≤ x3 → (vp_in x3 3 ∧ (((M 20 x3.toNatClampNeg) = 0 → (w_X7_usedBy_105 post (w_X7_usedBy_58 post n) M x1 x3 x2)) ∧ (¬ (M 20 x3.toNatClampNeg) = 0 → (vp_in x3 3 ∧ ((¬ (M 22 x3.toNatClampNeg) = 0 → (w_X7_usedBy_105 post (w_X7_usedBy_58 post n) M x1 x3 x2)) ∧ ((M 22 x3.toNatClampNeg) = 0 → (vp_in x3 3 ∧ ((¬ (M 21 x3.toNatClampNeg) = x1 → (w_X7_usedBy_105 post (w_X7_usedBy_58 post n) M x1 x3 x2)) ∧ ((M 21 x3.toNatClampNeg) = x1 → (vp_in x3 3 ∧ (w_X7_cost (fun r6 M5 => (w_X7_usedBy_106 post (w_X7_usedBy_58 post n) M5 x1 x3 r6 x2)) M (M 23 x3.toNatClampNeg))))))))))))))
def w_X7_usedBy_4 (post : Int32 → z_Md → Prop) : Nat → z_Md → Int32 → Int32 → Int32 → Prop
  | 0 => fun _ _ _ _ => False
  | n + 1 => fun M x1 x2 x3 => (((M 13 0) ≤ x3 → (∃ n0 : Nat, w_X7_usedBy_58 post n0 M x1 x2 0)) ∧ (¬ (M 13 0) ≤ x3 → (vp_in x3 16 ∧ ((¬ (M 16 x3.toNatClampNeg) = x1 → (w_X7_usedBy_48 post (w_X7_usedBy_4 post n) M x1 x3 0 x2)) ∧ ((M 16 x3.toNatClampNeg) = x1 → (vp_in x3 16 ∧ (w_X7_cost (fun r4 M3 => (vp_in x3 16 ∧ (w_X7_cost (fun r6 M5 => (w_X7_usedBy_48 post (w_X7_usedBy_4 post n) M5 x1 x3 (r4 + r6) x2)) M3 (M3 19 x3.toNatClampNeg)))) M (M 18 x3.toNatClampNeg))))))))
def w_X7_usedBy (post : Int32 → z_Md → Prop) (M : z_Md) (x1 : Int32) : Prop := (∃ n0 : Nat, w_X7_usedBy_4 post n0 M x1 0 0)
set_option maxRecDepth 20000 in
theorem mb_X7_usedBy_48 {p : Program} {l : Launch} {e : Env} {s : State} {m : MethodId} {args : Array Value} {below : List Frame} {meth : Method} {c : Code} {D : va_G} {cy : Nat → ClassId} {A : Nat → Prop} {o : Nat} {ad : Nat → Nat} (S : CallFix p m c cX7_usedBy 4 s args z_T RX7) (hlk : meth.locks = false) (hr : meth.sig.returnType = some .int) (hE : z_EM D cy s) {post : Int32 → z_Md → Prop} {J4 : z_Md → Int32 → Int32 → Int32 → Prop} (hJ4 : ∀ (M : z_Md) (x1 : Int32) (x2 : Int32) (x3 : Int32), J4 M x1 x2 x3 → z_V A (z_hM D cy A o ad) p l e rm_X7_usedBy s m args below meth c 4 (MQ below (va_Qi post (fun (u' : z_Md) t => z_hM D cy A o ad u' t.heap) A) args s 0 0 A) 0 0 M 4 [(0, va_rf (some o)), (1, .int x1), (2, .int x2), (3, .int x3)] []) (M : z_Md) (x1 : Int32) (x3 : Int32) (z0 : Int32) (z1 : Int32) (hw : w_X7_usedBy_48 post J4 M x1 x3 z0 z1) : z_V A (z_hM D cy A o ad) p l e rm_X7_usedBy s m args below meth c 4 (MQ below (va_Qi post (fun (u' : z_Md) t => z_hM D cy A o ad u' t.heap) A) args s 0 0 A) 0 0 M 48 [(0, va_rf (some o)), (1, .int x1), (3, .int x3)] [.int z0, .int z1] := by
  refine z_iadd S dX7_usedBy_48 ?_
  refine z_istore_n S [(2, .int (z1 + z0)), (0, va_rf (some o)), (1, .int x1), (3, .int x3)] dX7_usedBy_49 rfl (by decide) rfl ?_
  refine z_lv (lv' := [(0, va_rf (some o)), (1, .int x1), (2, .int (z1 + z0)), (3, .int x3)]) [1, 2, 0, 3] rfl ?_
  refine z_iinc (v := x3 + 1) (pl := 3) S [(3, .int (x3 + 1)), (0, va_rf (some o)), (1, .int x1), (2, .int (z1 + z0))] dX7_usedBy_50 rfl rfl (by decide) rfl ?_
  refine z_lv (lv' := [(0, va_rf (some o)), (1, .int x1), (2, .int (z1 + z0)), (3, .int (x3 + 1))]) [1, 2, 3, 0] rfl ?_
  refine z_goto S 4 dX7_usedBy_53 (by decide) ?_
  exact hJ4 M x1 (z1 + z0) (x3 + 1) hw
set_option maxRecDepth 20000 in
theorem mb_X7_usedBy_106 {p : Program} {l : Launch} {e : Env} {s : State} {m : MethodId} {args : Array Value} {below : List Frame} {meth : Method} {c : Code} {D : va_G} {cy : Nat → ClassId} {A : Nat → Prop} {o : Nat} {ad : Nat → Nat} (S : CallFix p m c cX7_usedBy 4 s args z_T RX7) (hlk : meth.locks = false) (hr : meth.sig.returnType = some .int) (hE : z_EM D cy s) {post : Int32 → z_Md → Prop} {J58 : z_Md → Int32 → Int32 → Int32 → Prop} (hJ58 : ∀ (M : z_Md) (x1 : Int32) (x2 : Int32) (x3 : Int32), J58 M x1 x2 x3 → z_V A (z_hM D cy A o ad) p l e rm_X7_usedBy s m args below meth c 4 (MQ below (va_Qi post (fun (u' : z_Md) t => z_hM D cy A o ad u' t.heap) A) args s 0 0 A) 0 0 M 58 [(0, va_rf (some o)), (1, .int x1), (2, .int x2), (3, .int x3)] []) (M : z_Md) (x1 : Int32) (x3 : Int32) (z0 : Int32) (z1 : Int32) (hw : w_X7_usedBy_106 post J58 M x1 x3 z0 z1) : z_V A (z_hM D cy A o ad) p l e rm_X7_usedBy s m args below meth c 4 (MQ below (va_Qi post (fun (u' : z_Md) t => z_hM D cy A o ad u' t.heap) A) args s 0 0 A) 0 0 M 106 [(0, va_rf (some o)), (1, .int x1), (3, .int x3)] [.int z0, .int z1] := by
  refine z_iadd S dX7_usedBy_106 ?_
  refine z_istore_n S [(2, .int (z1 + z0)), (0, va_rf (some o)), (1, .int x1), (3, .int x3)] dX7_usedBy_107 rfl (by decide) rfl ?_
  refine z_lv (lv' := [(0, va_rf (some o)), (1, .int x1), (2, .int (z1 + z0)), (3, .int x3)]) [1, 2, 0, 3] rfl ?_
  refine z_iinc (v := x3 + 1) (pl := 3) S [(3, .int (x3 + 1)), (0, va_rf (some o)), (1, .int x1), (2, .int (z1 + z0))] dX7_usedBy_108 rfl rfl (by decide) rfl ?_
  refine z_lv (lv' := [(0, va_rf (some o)), (1, .int x1), (2, .int (z1 + z0)), (3, .int (x3 + 1))]) [1, 2, 3, 0] rfl ?_
  refine z_goto S 58 dX7_usedBy_111 (by decide) ?_
  exact hJ58 M x1 (z1 + z0) (x3 + 1) hw
set_option maxRecDepth 20000 in
theorem mb_X7_usedBy_105 {p : Program} {l : Launch} {e : Env} {s : State} {m : MethodId} {args : Array Value} {below : List Frame} {meth : Method} {c : Code} {D : va_G} {cy : Nat → ClassId} {A : Nat → Prop} {o : Nat} {ad : Nat → Nat} (S : CallFix p m c cX7_usedBy 4 s args z_T RX7) (hlk : meth.locks = false) (hr : meth.sig.returnType = some .int) (hE : z_EM D cy s) {post : Int32 → z_Md → Prop} {J58 : z_Md → Int32 → Int32 → Int32 → Prop} (hJ58 : ∀ (M : z_Md) (x1 : Int32) (x2 : Int32) (x3 : Int32), J58 M x1 x2 x3 → z_V A (z_hM D cy A o ad) p l e rm_X7_usedBy s m args below meth c 4 (MQ below (va_Qi post (fun (u' : z_Md) t => z_hM D cy A o ad u' t.heap) A) args s 0 0 A) 0 0 M 58 [(0, va_rf (some o)), (1, .int x1), (2, .int x2), (3, .int x3)] []) (M : z_Md) (x1 : Int32) (x3 : Int32) (z0 : Int32) (hw : w_X7_usedBy_105 post J58 M x1 x3 z0) : z_V A (z_hM D cy A o ad) p l e rm_X7_usedBy s m args below meth c 4 (MQ below (va_Qi post (fun (u' : z_Md) t => z_hM D cy A o ad u' t.heap) A) args s 0 0 A) 0 0 M 105 [(0, va_rf (some o)), (1, .int x1), (3, .int x3)] [.int z0] := by
  refine z_iconst (v := 0) S dX7_usedBy_105 (by decide) ?_
  exact mb_X7_usedBy_106 S hlk hr hE hJ58 M x1 x3 0 z0 hw
set_option maxRecDepth 20000 in
theorem mb_X7_usedBy_58 {p : Program} {l : Launch} {e : Env} {s : State} {m : MethodId} {args : Array Value} {below : List Frame} {meth : Method} {c : Code} {D : va_G} {cy : Nat → ClassId} {A : Nat → Prop} {o : Nat} {ad : Nat → Nat} (S : CallFix p m c cX7_usedBy 4 s args z_T RX7) (hlk : meth.locks = false) (hr : meth.sig.returnType = some .int) (hE : z_EM D cy s) {post : Int32 → z_Md → Prop}  : ∀ (n : Nat) (M : z_Md) (x1 : Int32) (x2 : Int32) (x3 : Int32), w_X7_usedBy_58 post n M x1 x2 x3 → z_V A (z_hM D cy A o ad) p l e rm_X7_usedBy s m args below meth c 4 (MQ below (va_Qi post (fun (u' : z_Md) t => z_hM D cy A o ad u' t.heap) A) args s 0 0 A) 0 0 M 58 [(0, va_rf (some o)), (1, .int x1), (2, .int x2), (3, .int x3)] [] := by
  intro n
  induction n with
  | zero => intro M x1 x2 x3 hw; exact hw.elim
  | succ n ih =>
    intro M x1 x2 x3 hw
    refine z_iload_n S 3 dX7_usedBy_58 rfl rfl ?_
    refine z_iconst (v := 3) S dX7_usedBy_59 (by decide) ?_
    refine z_icmp_ge S 114 dX7_usedBy_60 (by decide) (fun c1 => ?_) (fun c1 => ?_)
    · have hw := hw.1 c1
      refine z_iload_n S 2 dX7_usedBy_114 rfl rfl ?_
      exact z_iret S hr hlk dX7_usedBy_115 (Nat.le_refl 0) (Nat.le_refl 0) hw
    · have hw := hw.2 c1
      refine z_iload_n S 2 dX7_usedBy_63 rfl rfl ?_
      refine z_aload_n (x := some o) S 0 dX7_usedBy_64 rfl rfl ?_
      refine zm_g_59 S hE dX7_usedBy_65 ?_
      refine z_iload_n S 3 dX7_usedBy_68 rfl rfl ?_
      obtain ⟨hi10, hw⟩ := hw
      refine z_mzld (j := 20) S hE rfl rfl hi10 dX7_usedBy_69 ?_
      refine z_if_eq S 105 dX7_usedBy_70 (by decide) (fun c2 => ?_) (fun c2 => ?_)
      · have hw := hw.1 c2
        refine z_lv (lv' := [(0, va_rf (some o)), (1, .int x1), (3, .int x3)]) [0, 1, 3] rfl ?_
        exact mb_X7_usedBy_105 S hlk hr hE ih M x1 x3 x2 hw
      · have hw := hw.2 c2
        refine z_aload_n (x := some o) S 0 dX7_usedBy_73 rfl rfl ?_
        refine zm_g_65 S hE dX7_usedBy_74 ?_
        refine z_iload_n S 3 dX7_usedBy_77 rfl rfl ?_
        obtain ⟨hi9, hw⟩ := hw
        refine z_mald (j := 22) S hE rfl rfl hi9 dX7_usedBy_78 ?_
        refine z_if_ne S 105 dX7_usedBy_79 (by decide) (fun c3 => ?_) (fun c3 => ?_)
        · have hw := hw.1 c3
          refine z_lv (lv' := [(0, va_rf (some o)), (1, .int x1), (3, .int x3)]) [0, 1, 3] rfl ?_
          exact mb_X7_usedBy_105 S hlk hr hE ih M x1 x3 x2 hw
        · have hw := hw.2 c3
          refine z_aload_n (x := some o) S 0 dX7_usedBy_82 rfl rfl ?_
          refine zm_g_62 S hE dX7_usedBy_83 ?_
          refine z_iload_n S 3 dX7_usedBy_86 rfl rfl ?_
          obtain ⟨hi8, hw⟩ := hw
          refine z_mald (j := 21) S hE rfl rfl hi8 dX7_usedBy_87 ?_
          refine z_iload_n S 1 dX7_usedBy_88 rfl rfl ?_
          refine z_icmp_ne S 105 dX7_usedBy_89 (by decide) (fun c4 => ?_) (fun c4 => ?_)
          · have hw := hw.1 c4
            refine z_lv (lv' := [(0, va_rf (some o)), (1, .int x1), (3, .int x3)]) [0, 1, 3] rfl ?_
            exact mb_X7_usedBy_105 S hlk hr hE ih M x1 x3 x2 hw
          · have hw := hw.2 c4
            refine z_aload_n (x := some o) S 0 dX7_usedBy_92 rfl rfl ?_
            refine z_aload_n (x := some o) S 0 dX7_usedBy_93 rfl rfl ?_
            refine zm_g_68 S hE dX7_usedBy_94 ?_
            refine z_iload_n S 3 dX7_usedBy_97 rfl rfl ?_
            obtain ⟨hi7, hw⟩ := hw
            refine z_mald (j := 23) S hE rfl rfl hi7 dX7_usedBy_98 ?_
            refine z_callVi (As := [.int (M 23 x3.toNatClampNeg)]) (st := [.int x2]) S (z_EMok D cy A) hE (me_X7_cost l D cy A o ad _ M (M 23 x3.toNatClampNeg) hw) gV_X7_124 hdV_X7_cost ⟨Nat.le_of_ble_eq_true rfl, Nat.le_of_ble_eq_true rfl⟩ rfl rfl (z_recvM hE) (fun _ h => h) (fun _ _ _ _ h => h) rfl (Nat.le_trans (z_s1 z_s0) (by decide)) dX7_usedBy_99 ⟨Nat.le_of_ble_eq_true rfl, Nat.le_of_ble_eq_true rfl⟩ rfl (fun r6 M5 hw => ?_)
            refine z_goto S 106 dX7_usedBy_102 (by decide) ?_
            refine z_lv (lv' := [(0, va_rf (some o)), (1, .int x1), (3, .int x3)]) [0, 1, 3] rfl ?_
            exact mb_X7_usedBy_106 S hlk hr hE ih M5 x1 x3 r6 x2 hw
set_option maxRecDepth 20000 in
theorem mb_X7_usedBy_4 {p : Program} {l : Launch} {e : Env} {s : State} {m : MethodId} {args : Array Value} {below : List Frame} {meth : Method} {c : Code} {D : va_G} {cy : Nat → ClassId} {A : Nat → Prop} {o : Nat} {ad : Nat → Nat} (S : CallFix p m c cX7_usedBy 4 s args z_T RX7) (hlk : meth.locks = false) (hr : meth.sig.returnType = some .int) (hE : z_EM D cy s) {post : Int32 → z_Md → Prop}  : ∀ (n : Nat) (M : z_Md) (x1 : Int32) (x2 : Int32) (x3 : Int32), w_X7_usedBy_4 post n M x1 x2 x3 → z_V A (z_hM D cy A o ad) p l e rm_X7_usedBy s m args below meth c 4 (MQ below (va_Qi post (fun (u' : z_Md) t => z_hM D cy A o ad u' t.heap) A) args s 0 0 A) 0 0 M 4 [(0, va_rf (some o)), (1, .int x1), (2, .int x2), (3, .int x3)] [] := by
  intro n
  induction n with
  | zero => intro M x1 x2 x3 hw; exact hw.elim
  | succ n ih =>
    intro M x1 x2 x3 hw
    refine z_iload_n S 3 dX7_usedBy_4 rfl rfl ?_
    refine z_aload_n (x := some o) S 0 dX7_usedBy_5 rfl rfl ?_
    refine zm_g_121 S hE dX7_usedBy_6 ?_
    refine z_icmp_ge S 56 dX7_usedBy_9 (by decide) (fun c1 => ?_) (fun c1 => ?_)
    · have hw := hw.1 c1
      refine z_iconst (v := 0) S dX7_usedBy_56 (by decide) ?_
      refine z_istore_n S [(3, .int 0), (0, va_rf (some o)), (1, .int x1), (2, .int x2)] dX7_usedBy_57 rfl (by decide) rfl ?_
      refine z_lv (lv' := [(0, va_rf (some o)), (1, .int x1), (2, .int x2), (3, .int 0)]) [1, 2, 3, 0] rfl ?_
      obtain ⟨n0, hw⟩ := hw
      exact mb_X7_usedBy_58 S hlk hr hE n0 M x1 x2 0 hw
    · have hw := hw.2 c1
      refine z_iload_n S 2 dX7_usedBy_12 rfl rfl ?_
      refine z_aload_n (x := some o) S 0 dX7_usedBy_13 rfl rfl ?_
      refine zm_g_47 S hE dX7_usedBy_14 ?_
      refine z_iload_n S 3 dX7_usedBy_17 rfl rfl ?_
      obtain ⟨hi9, hw⟩ := hw
      refine z_mald (j := 16) S hE rfl rfl hi9 dX7_usedBy_18 ?_
      refine z_iload_n S 1 dX7_usedBy_19 rfl rfl ?_
      refine z_icmp_ne S 47 dX7_usedBy_20 (by decide) (fun c2 => ?_) (fun c2 => ?_)
      · have hw := hw.1 c2
        refine z_iconst (v := 0) S dX7_usedBy_47 (by decide) ?_
        refine z_lv (lv' := [(0, va_rf (some o)), (1, .int x1), (3, .int x3)]) [0, 1, 3] rfl ?_
        exact mb_X7_usedBy_48 S hlk hr hE ih M x1 x3 0 x2 hw
      · have hw := hw.2 c2
        refine z_aload_n (x := some o) S 0 dX7_usedBy_23 rfl rfl ?_
        refine z_aload_n (x := some o) S 0 dX7_usedBy_24 rfl rfl ?_
        refine zm_g_53 S hE dX7_usedBy_25 ?_
        refine z_iload_n S 3 dX7_usedBy_28 rfl rfl ?_
        obtain ⟨hi8, hw⟩ := hw
        refine z_mald (j := 18) S hE rfl rfl hi8 dX7_usedBy_29 ?_
        refine z_callVi (As := [.int (M 18 x3.toNatClampNeg)]) (st := [.int x2]) S (z_EMok D cy A) hE (me_X7_cost l D cy A o ad _ M (M 18 x3.toNatClampNeg) hw) gV_X7_124 hdV_X7_cost ⟨Nat.le_of_ble_eq_true rfl, Nat.le_of_ble_eq_true rfl⟩ rfl rfl (z_recvM hE) (fun _ h => h) (fun _ _ _ _ h => h) rfl (Nat.le_trans (z_s1 z_s0) (by decide)) dX7_usedBy_30 ⟨Nat.le_of_ble_eq_true rfl, Nat.le_of_ble_eq_true rfl⟩ rfl (fun r4 M3 hw => ?_)
        refine z_aload_n (x := some o) S 0 dX7_usedBy_33 rfl rfl ?_
        refine z_aload_n (x := some o) S 0 dX7_usedBy_34 rfl rfl ?_
        refine zm_g_56 S hE dX7_usedBy_35 ?_
        refine z_iload_n S 3 dX7_usedBy_38 rfl rfl ?_
        obtain ⟨hi7, hw⟩ := hw
        refine z_mald (j := 19) S hE rfl rfl hi7 dX7_usedBy_39 ?_
        refine z_callVi (As := [.int (M3 19 x3.toNatClampNeg)]) (st := [.int r4, .int x2]) S (z_EMok D cy A) hE (me_X7_cost l D cy A o ad _ M3 (M3 19 x3.toNatClampNeg) hw) gV_X7_124 hdV_X7_cost ⟨Nat.le_of_ble_eq_true rfl, Nat.le_of_ble_eq_true rfl⟩ rfl rfl (z_recvM hE) (fun _ h => h) (fun _ _ _ _ h => h) rfl (Nat.le_trans (z_s1 (z_s1 z_s0)) (by decide)) dX7_usedBy_40 ⟨Nat.le_of_ble_eq_true rfl, Nat.le_of_ble_eq_true rfl⟩ rfl (fun r6 M5 hw => ?_)
        refine z_iadd S dX7_usedBy_43 ?_
        refine z_goto S 48 dX7_usedBy_44 (by decide) ?_
        refine z_lv (lv' := [(0, va_rf (some o)), (1, .int x1), (3, .int x3)]) [0, 1, 3] rfl ?_
        exact mb_X7_usedBy_48 S hlk hr hE ih M5 x1 x3 (r4 + r6) x2 hw
set_option maxRecDepth 20000 in
theorem mb_X7_usedBy {p : Program} {l : Launch} {e : Env} {s : State} {m : MethodId} {args : Array Value} {below : List Frame} {meth : Method} {c : Code} {D : va_G} {cy : Nat → ClassId} {A : Nat → Prop} {o : Nat} {ad : Nat → Nat} (S : CallFix p m c cX7_usedBy 4 s args z_T RX7) (hlk : meth.locks = false) (hr : meth.sig.returnType = some .int) (hE : z_EM D cy s) {post : Int32 → z_Md → Prop}  (M : z_Md) (x1 : Int32) (hw : w_X7_usedBy post M x1) : z_V A (z_hM D cy A o ad) p l e rm_X7_usedBy s m args below meth c 4 (MQ below (va_Qi post (fun (u' : z_Md) t => z_hM D cy A o ad u' t.heap) A) args s 0 0 A) 0 0 M 0 [(0, va_rf (some o)), (1, .int x1)] [] := by
  refine z_iconst (v := 0) S dX7_usedBy_0 (by decide) ?_
  refine z_istore_n S [(2, .int 0), (0, va_rf (some o)), (1, .int x1)] dX7_usedBy_1 rfl (by decide) rfl ?_
  refine z_lv (lv' := [(0, va_rf (some o)), (1, .int x1), (2, .int 0)]) [1, 2, 0] rfl ?_
  refine z_iconst (v := 0) S dX7_usedBy_2 (by decide) ?_
  refine z_istore_n S [(3, .int 0), (0, va_rf (some o)), (1, .int x1), (2, .int 0)] dX7_usedBy_3 rfl (by decide) rfl ?_
  refine z_lv (lv' := [(0, va_rf (some o)), (1, .int x1), (2, .int 0), (3, .int 0)]) [1, 2, 3, 0] rfl ?_
  obtain ⟨n0, hw⟩ := hw
  exact mb_X7_usedBy_4 S hlk hr hE n0 M x1 0 0 hw
theorem me_X7_usedBy (l : Launch) (D : va_G) (cy : Nat → ClassId) (A : Nat → Prop) (o : Nat) (ad : Nat → Nat) (post : Int32 → z_Md → Prop) (M : z_Md) (x1 : Int32) (hw : w_X7_usedBy post M x1) : z_Mi l yX7_usedBy (Cond.code yX7_usedBy cX7_usedBy 4 (some .int) :: z_T) rm_X7_usedBy [.ref o, .int x1] (z_EM D cy) (z_hM D cy A o ad) M post 0 0 A :=
  z_met (by decide) (Nat.le_of_ble_eq_true rfl) (fun p e s m args below meth c S hlk hr hnm hE => mb_X7_usedBy S hlk hr hE M x1 hw)
abbrev rm_X7_isFull : Room := { frames := 0, cells := 0, slots := 0, locals := 0 }
def w_X7_isFull_7 (post : Int32 → z_Md → Prop) : Nat → z_Md → Int32 → Int32 → Prop
  | 0 => fun _ _ _ => False
  | n + 1 => fun M x1 x2 => ((3 ≤ x2 → (∀ y2 : Int32, y2 = (if x1 < 16 then 0 else 1) → (narrow .boolean (.int y2) = .int y2 ∧ (post y2 M)))) ∧ (¬ 3 ≤ x2 → (vp_in x2 3 ∧ ((¬ (M 20 x2.toNatClampNeg) = 0 → vp_in x2 3) ∧ (∀ y4 : Int32, y4 = (if (M 20 x2.toNatClampNeg) = 0 then x1 else (if (M 22 x2.toNatClampNeg) = 0 then x1 + 1 else x1)) → (w_X7_isFull_7 post n M y4 (x2 + 1)))))))
def w_X7_isFull (post : Int32 → z_Md → Prop) (M : z_Md)  : Prop := (∃ n0 : Nat, w_X7_isFull_7 post n0 M (M 13 0) 0)
set_option maxRecDepth 20000 in
theorem mb_X7_isFull_7 {p : Program} {l : Launch} {e : Env} {s : State} {m : MethodId} {args : Array Value} {below : List Frame} {meth : Method} {c : Code} {D : va_G} {cy : Nat → ClassId} {A : Nat → Prop} {o : Nat} {ad : Nat → Nat} (S : CallFix p m c cX7_isFull 3 s args z_T RX7) (hlk : meth.locks = false) (hr : meth.sig.returnType = some .boolean) (hE : z_EM D cy s) {post : Int32 → z_Md → Prop}  : ∀ (n : Nat) (M : z_Md) (x1 : Int32) (x2 : Int32), w_X7_isFull_7 post n M x1 x2 → z_V A (z_hM D cy A o ad) p l e rm_X7_isFull s m args below meth c 3 (MQ below (va_Qi post (fun (u' : z_Md) t => z_hM D cy A o ad u' t.heap) A) args s 0 0 A) 0 0 M 7 [(0, va_rf (some o)), (1, .int x1), (2, .int x2)] [] := by
  intro n
  induction n with
  | zero => intro M x1 x2 hw; exact hw.elim
  | succ n ih =>
    intro M x1 x2 hw
    refine z_iload_n S 2 dX7_isFull_7 rfl rfl ?_
    refine z_iconst (v := 3) S dX7_isFull_8 (by decide) ?_
    refine z_icmp_ge S 44 dX7_isFull_9 (by decide) (fun c1 => ?_) (fun c1 => ?_)
    · have hw := hw.1 c1
      refine z_iload_n S 1 dX7_isFull_44 rfl rfl ?_
      refine z_bipush (v := 16) S dX7_isFull_45 (by decide) ?_
      suffices hJ : ∀ y2 : Int32, y2 = (if x1 < 16 then 0 else 1) → z_V A (z_hM D cy A o ad) p l e rm_X7_isFull s m args below meth c 3 (MQ below (va_Qi post (fun (u' : z_Md) t => z_hM D cy A o ad u' t.heap) A) args s 0 0 A) 0 0 M 55 [] [.int y2] from by
        refine z_icmp_lt S 54 dX7_isFull_47 (by decide) (fun c3 => ?_) (fun c3 => ?_)
        · refine z_iconst (v := 0) S dX7_isFull_54 (by decide) ?_
          refine z_lv (lv' := []) [] rfl ?_
          exact hJ _ (by rw [if_pos c3])
        · refine z_iconst (v := 1) S dX7_isFull_50 (by decide) ?_
          refine z_goto S 55 dX7_isFull_51 (by decide) ?_
          refine z_lv (lv' := []) [] rfl ?_
          exact hJ _ (by rw [if_neg c3])
      intro y2 ey2
      have hw := hw y2 ey2
      exact z_zret S hr hlk dX7_isFull_55 (Nat.le_refl 0) (Nat.le_refl 0) hw.1 hw.2
    · have hw := hw.2 c1
      refine z_aload_n (x := some o) S 0 dX7_isFull_12 rfl rfl ?_
      refine zm_g_59 S hE dX7_isFull_13 ?_
      refine z_iload_n S 2 dX7_isFull_16 rfl rfl ?_
      obtain ⟨hi8, hw⟩ := hw
      refine z_mzld (j := 20) S hE rfl rfl hi8 dX7_isFull_17 ?_
      obtain ⟨hob, hw⟩ := hw
      suffices hJ : ∀ y4 : Int32, y4 = (if (M 20 x2.toNatClampNeg) = 0 then x1 else (if (M 22 x2.toNatClampNeg) = 0 then x1 + 1 else x1)) → z_V A (z_hM D cy A o ad) p l e rm_X7_isFull s m args below meth c 3 (MQ below (va_Qi post (fun (u' : z_Md) t => z_hM D cy A o ad u' t.heap) A) args s 0 0 A) 0 0 M 37 [(0, va_rf (some o)), (2, .int x2)] [.int y4] from by
        refine z_if_eq S 36 dX7_isFull_18 (by decide) (fun c5 => ?_) (fun c5 => ?_)
        · refine z_iload_n S 1 dX7_isFull_36 rfl rfl ?_
          refine z_lv (lv' := [(0, va_rf (some o)), (2, .int x2)]) [0, 2] rfl ?_
          exact hJ _ (by rw [if_pos c5])
        · have hob := hob c5
          refine z_aload_n (x := some o) S 0 dX7_isFull_21 rfl rfl ?_
          refine zm_g_65 S hE dX7_isFull_22 ?_
          refine z_iload_n S 2 dX7_isFull_25 rfl rfl ?_
          have hi6 := hob
          refine z_mald (j := 22) S hE rfl rfl hi6 dX7_isFull_26 ?_
          refine z_if_ne S 36 dX7_isFull_27 (by decide) (fun c7 => ?_) (fun c7 => ?_)
          · refine z_iload_n S 1 dX7_isFull_36 rfl rfl ?_
            refine z_lv (lv' := [(0, va_rf (some o)), (2, .int x2)]) [0, 2] rfl ?_
            exact hJ _ (by rw [if_neg c5, if_neg c7])
          · refine z_iload_n S 1 dX7_isFull_30 rfl rfl ?_
            refine z_iconst (v := 1) S dX7_isFull_31 (by decide) ?_
            refine z_iadd S dX7_isFull_32 ?_
            refine z_goto S 37 dX7_isFull_33 (by decide) ?_
            refine z_lv (lv' := [(0, va_rf (some o)), (2, .int x2)]) [0, 2] rfl ?_
            exact hJ _ (by rw [if_neg c5, if_pos c7])
      intro y4 ey4
      have hw := hw y4 ey4
      refine z_istore_n S [(1, .int y4), (0, va_rf (some o)), (2, .int x2)] dX7_isFull_37 rfl (by decide) rfl ?_
      refine z_lv (lv' := [(0, va_rf (some o)), (1, .int y4), (2, .int x2)]) [1, 0, 2] rfl ?_
      refine z_iinc (v := x2 + 1) (pl := 2) S [(2, .int (x2 + 1)), (0, va_rf (some o)), (1, .int y4)] dX7_isFull_38 rfl rfl (by decide) rfl ?_
      refine z_lv (lv' := [(0, va_rf (some o)), (1, .int y4), (2, .int (x2 + 1))]) [1, 2, 0] rfl ?_
      refine z_goto S 7 dX7_isFull_41 (by decide) ?_
      exact ih M y4 (x2 + 1) hw
set_option maxRecDepth 20000 in
theorem mb_X7_isFull {p : Program} {l : Launch} {e : Env} {s : State} {m : MethodId} {args : Array Value} {below : List Frame} {meth : Method} {c : Code} {D : va_G} {cy : Nat → ClassId} {A : Nat → Prop} {o : Nat} {ad : Nat → Nat} (S : CallFix p m c cX7_isFull 3 s args z_T RX7) (hlk : meth.locks = false) (hr : meth.sig.returnType = some .boolean) (hE : z_EM D cy s) {post : Int32 → z_Md → Prop}  (M : z_Md)  (hw : w_X7_isFull post M ) : z_V A (z_hM D cy A o ad) p l e rm_X7_isFull s m args below meth c 3 (MQ below (va_Qi post (fun (u' : z_Md) t => z_hM D cy A o ad u' t.heap) A) args s 0 0 A) 0 0 M 0 [(0, va_rf (some o))] [] := by
  refine z_aload_n (x := some o) S 0 dX7_isFull_0 rfl rfl ?_
  refine zm_g_121 S hE dX7_isFull_1 ?_
  refine z_istore_n S [(1, .int (M 13 0)), (0, va_rf (some o))] dX7_isFull_4 rfl (by decide) rfl ?_
  refine z_lv (lv' := [(0, va_rf (some o)), (1, .int (M 13 0))]) [1, 0] rfl ?_
  refine z_iconst (v := 0) S dX7_isFull_5 (by decide) ?_
  refine z_istore_n S [(2, .int 0), (0, va_rf (some o)), (1, .int (M 13 0))] dX7_isFull_6 rfl (by decide) rfl ?_
  refine z_lv (lv' := [(0, va_rf (some o)), (1, .int (M 13 0)), (2, .int 0)]) [1, 2, 0] rfl ?_
  obtain ⟨n0, hw⟩ := hw
  exact mb_X7_isFull_7 S hlk hr hE n0 M (M 13 0) 0 hw
theorem me_X7_isFull (l : Launch) (D : va_G) (cy : Nat → ClassId) (A : Nat → Prop) (o : Nat) (ad : Nat → Nat) (post : Int32 → z_Md → Prop) (M : z_Md)  (hw : w_X7_isFull post M ) : z_Mi l yX7_isFull (Cond.code yX7_isFull cX7_isFull 3 (some .boolean) :: z_T) rm_X7_isFull [.ref o] (z_EM D cy) (z_hM D cy A o ad) M post 0 0 A :=
  z_met (by decide) (Nat.le_of_ble_eq_true rfl) (fun p e s m args below meth c S hlk hr hnm hE => mb_X7_isFull S hlk hr hE M  hw)
abbrev rm_X7_box : Room := { frames := 0, cells := 0, slots := 0, locals := 0 }
def w_X7_box (post : Int32 → z_Md → Prop) (M : z_Md) (x1 : Int32) : Prop := (∀ y1 : Int32, y1 = (if x1 < 0 then 1 else (if x1 ≤ 500 then (if (M 10 0) = 4 then 2 else 0) else 1)) → ((((z_up M 0 0 y1) 0 0) ≤ 0 → (vp_in ((z_up M 0 0 y1) 10 0) 4 ∧ (post (((z_up (z_up (z_up M 0 0 y1) 11 ((z_up M 0 0 y1) 10 0).toNatClampNeg x1) 10 0 (((z_up (z_up M 0 0 y1) 11 ((z_up M 0 0 y1) 10 0).toNatClampNeg x1) 10 0) + 1)) 10 0) - 1) (z_up (z_up (z_up M 0 0 y1) 11 ((z_up M 0 0 y1) 10 0).toNatClampNeg x1) 10 0 (((z_up (z_up M 0 0 y1) 11 ((z_up M 0 0 y1) 10 0).toNatClampNeg x1) 10 0) + 1))))) ∧ (¬ ((z_up M 0 0 y1) 0 0) ≤ 0 → (post 0 (z_up M 0 0 y1)))))
set_option maxRecDepth 20000 in
theorem mb_X7_box {p : Program} {l : Launch} {e : Env} {s : State} {m : MethodId} {args : Array Value} {below : List Frame} {meth : Method} {c : Code} {D : va_G} {cy : Nat → ClassId} {A : Nat → Prop} {o : Nat} {ad : Nat → Nat} (S : CallFix p m c cX7_box 2 s args z_T RX7) (hlk : meth.locks = false) (hr : meth.sig.returnType = some .int) (hE : z_EM D cy s) {post : Int32 → z_Md → Prop}  (M : z_Md) (x1 : Int32) (hw : w_X7_box post M x1) : z_V A (z_hM D cy A o ad) p l e rm_X7_box s m args below meth c 2 (MQ below (va_Qi post (fun (u' : z_Md) t => z_hM D cy A o ad u' t.heap) A) args s 0 0 A) 0 0 M 0 [(0, va_rf (some o)), (1, .int x1)] [] := by
  refine z_aload_n (x := some o) S 0 dX7_box_0 rfl rfl ?_
  refine z_iload_n S 1 dX7_box_1 rfl rfl ?_
  suffices hJ : ∀ y1 : Int32, y1 = (if x1 < 0 then 1 else (if x1 ≤ 500 then (if (M 10 0) = 4 then 2 else 0) else 1)) → z_V A (z_hM D cy A o ad) p l e rm_X7_box s m args below meth c 2 (MQ below (va_Qi post (fun (u' : z_Md) t => z_hM D cy A o ad u' t.heap) A) args s 0 0 A) 0 0 M 29 [(0, va_rf (some o)), (1, .int x1)] [.int y1, va_rf (some o)] from by
    refine z_if_lt S 12 dX7_box_2 (by decide) (fun c4 => ?_) (fun c4 => ?_)
    · refine z_iconst (v := 1) S dX7_box_12 (by decide) ?_
      refine z_goto S 29 dX7_box_13 (by decide) ?_
      exact hJ _ (by rw [if_pos c4])
    · refine z_iload_n S 1 dX7_box_5 rfl rfl ?_
      refine z_sipush (v := 500) S dX7_box_6 (by decide) ?_
      refine z_icmp_le S 16 dX7_box_9 (by decide) (fun c5 => ?_) (fun c5 => ?_)
      · refine z_aload_n (x := some o) S 0 dX7_box_16 rfl rfl ?_
        refine zm_g_118 S hE dX7_box_17 ?_
        refine z_iconst (v := 4) S dX7_box_20 (by decide) ?_
        refine z_icmp_ne S 28 dX7_box_21 (by decide) (fun c6 => ?_) (fun c6 => ?_)
        · refine z_iconst (v := 0) S dX7_box_28 (by decide) ?_
          exact hJ _ (by rw [if_neg c4, if_pos c5, if_neg c6])
        · refine z_iconst (v := 2) S dX7_box_24 (by decide) ?_
          refine z_goto S 29 dX7_box_25 (by decide) ?_
          exact hJ _ (by rw [if_neg c4, if_pos c5, if_pos c6])
      · refine z_iconst (v := 1) S dX7_box_12 (by decide) ?_
        refine z_goto S 29 dX7_box_13 (by decide) ?_
        exact hJ _ (by rw [if_neg c4, if_neg c5])
  intro y1 ey1
  have hw := hw y1 ey1
  refine zm_p_89 S hE dX7_box_29 ?_
  refine z_aload_n (x := some o) S 0 dX7_box_32 rfl rfl ?_
  refine zm_g_89 S hE dX7_box_33 ?_
  refine z_if_le S 41 dX7_box_36 (by decide) (fun c2 => ?_) (fun c2 => ?_)
  · have hw := hw.1 c2
    refine z_aload_n (x := some o) S 0 dX7_box_41 rfl rfl ?_
    refine zm_g_38 S hE dX7_box_42 ?_
    refine z_aload_n (x := some o) S 0 dX7_box_45 rfl rfl ?_
    refine zm_g_118 S hE dX7_box_46 ?_
    refine z_iload_n S 1 dX7_box_49 rfl rfl ?_
    obtain ⟨hi3, hw⟩ := hw
    refine z_mast (j := 11) S hE rfl rfl hi3 dX7_box_50 ?_
    refine z_aload_n (x := some o) S 0 dX7_box_51 rfl rfl ?_
    refine z_dup S dX7_box_52 (z_rfc _) ?_
    refine zm_g_118 S hE dX7_box_53 ?_
    refine z_iconst (v := 1) S dX7_box_56 (by decide) ?_
    refine z_iadd S dX7_box_57 ?_
    refine zm_p_118 S hE dX7_box_58 ?_
    refine z_aload_n (x := some o) S 0 dX7_box_61 rfl rfl ?_
    refine zm_g_118 S hE dX7_box_62 ?_
    refine z_iconst (v := 1) S dX7_box_65 (by decide) ?_
    refine z_isub S dX7_box_66 ?_
    exact z_iret S hr hlk dX7_box_67 (Nat.le_refl 0) (Nat.le_refl 0) hw
  · have hw := hw.2 c2
    refine z_iconst (v := 0) S dX7_box_39 (by decide) ?_
    exact z_iret S hr hlk dX7_box_40 (Nat.le_refl 0) (Nat.le_refl 0) hw
theorem me_X7_box (l : Launch) (D : va_G) (cy : Nat → ClassId) (A : Nat → Prop) (o : Nat) (ad : Nat → Nat) (post : Int32 → z_Md → Prop) (M : z_Md) (x1 : Int32) (hw : w_X7_box post M x1) : z_Mi l yX7_box (Cond.code yX7_box cX7_box 2 (some .int) :: z_T) rm_X7_box [.ref o, .int x1] (z_EM D cy) (z_hM D cy A o ad) M post 0 0 A :=
  z_met (by decide) (Nat.le_of_ble_eq_true rfl) (fun p e s m args below meth c S hlk hr hnm hE => mb_X7_box S hlk hr hE M x1 hw)
abbrev rm_X7_isLine : Room := { frames := 0, cells := 0, slots := 0, locals := 0 }
def w_X7_isLine (post : Int32 → z_Md → Prop) (M : z_Md) (x0 : Int32) : Prop := (∀ y1 : Int32, y1 = (if x0 < 0 then 0 else (if 3 ≤ x0 then 0 else 1)) → (narrow .boolean (.int y1) = .int y1 ∧ (post y1 M)))
set_option maxRecDepth 20000 in
theorem mb_X7_isLine {p : Program} {l : Launch} {e : Env} {s : State} {m : MethodId} {args : Array Value} {below : List Frame} {meth : Method} {c : Code} {D : va_G} {cy : Nat → ClassId} {A : Nat → Prop} {o : Nat} {ad : Nat → Nat} (S : CallFix p m c cX7_isLine 1 s args z_T RX7) (hlk : meth.locks = false) (hr : meth.sig.returnType = some .boolean) (hE : z_EM D cy s) {post : Int32 → z_Md → Prop}  (M : z_Md) (x0 : Int32) (hw : w_X7_isLine post M x0) : z_V A (z_hM D cy A o ad) p l e rm_X7_isLine s m args below meth c 1 (MQ below (va_Qi post (fun (u' : z_Md) t => z_hM D cy A o ad u' t.heap) A) args s 0 0 A) 0 0 M 0 [(0, .int x0)] [] := by
  refine z_iload_n S 0 dX7_isLine_0 rfl rfl ?_
  suffices hJ : ∀ y1 : Int32, y1 = (if x0 < 0 then 0 else (if 3 ≤ x0 then 0 else 1)) → z_V A (z_hM D cy A o ad) p l e rm_X7_isLine s m args below meth c 1 (MQ below (va_Qi post (fun (u' : z_Md) t => z_hM D cy A o ad u' t.heap) A) args s 0 0 A) 0 0 M 14 [] [.int y1] from by
    refine z_if_lt S 13 dX7_isLine_1 (by decide) (fun c2 => ?_) (fun c2 => ?_)
    · refine z_iconst (v := 0) S dX7_isLine_13 (by decide) ?_
      refine z_lv (lv' := []) [] rfl ?_
      exact hJ _ (by rw [if_pos c2])
    · refine z_iload_n S 0 dX7_isLine_4 rfl rfl ?_
      refine z_iconst (v := 3) S dX7_isLine_5 (by decide) ?_
      refine z_icmp_ge S 13 dX7_isLine_6 (by decide) (fun c3 => ?_) (fun c3 => ?_)
      · refine z_iconst (v := 0) S dX7_isLine_13 (by decide) ?_
        refine z_lv (lv' := []) [] rfl ?_
        exact hJ _ (by rw [if_neg c2, if_pos c3])
      · refine z_iconst (v := 1) S dX7_isLine_9 (by decide) ?_
        refine z_goto S 14 dX7_isLine_10 (by decide) ?_
        refine z_lv (lv' := []) [] rfl ?_
        exact hJ _ (by rw [if_neg c2, if_neg c3])
  intro y1 ey1
  have hw := hw y1 ey1
  exact z_zret S hr hlk dX7_isLine_14 (Nat.le_refl 0) (Nat.le_refl 0) hw.1 hw.2
theorem me_X7_isLine (l : Launch) (D : va_G) (cy : Nat → ClassId) (A : Nat → Prop) (o : Nat) (ad : Nat → Nat) (post : Int32 → z_Md → Prop) (M : z_Md) (x0 : Int32) (hw : w_X7_isLine post M x0) : z_Mi l yX7_isLine (Cond.code yX7_isLine cX7_isLine 1 (some .boolean) :: z_T) rm_X7_isLine [.int x0] (z_EM D cy) (z_hM D cy A o ad) M post 0 0 A :=
  z_met (by decide) (Nat.le_of_ble_eq_true rfl) (fun p e s m args below meth c S hlk hr hnm hE => mb_X7_isLine S hlk hr hE M x0 hw)
abbrev rm_X7_call : Room := { frames := 1, cells := 0, slots := 0, locals := 22 }
def w_X7_call_104 (post : z_Md → Prop) (J84 : z_Md → Int32 → Int32 → Int32 → Int32 → Prop) (M : z_Md) (x1 : Int32) (x2 : Int32) (x3 : Int32) (x5 : Int32) : Prop := (J84 M x1 x2 x3 (x5 + 1))
def w_X7_call_84 (post : z_Md → Prop) : Nat → z_Md → Int32 → Int32 → Int32 → Int32 → Prop
  | 0 => fun _ _ _ _ _ => False
  | n + 1 => fun M x1 x2 x3 x5 => (vp_in x5 48 ∧ ((0 < (M 6 x5.toNatClampNeg) → (w_X7_call_104 post (w_X7_call_84 post n) M x1 x2 x3 x5)) ∧ (¬ 0 < (M 6 x5.toNatClampNeg) → (vp_in x5 48 ∧ (((M 7 x5.toNatClampNeg) = 0 → (vp_in x5 48 ∧ (vp_in x5 48 ∧ (vp_in x1 3 ∧ (vp_in x1 3 ∧ (vp_in x1 3 ∧ (vp_in x1 3 ∧ (vp_in x1 3 ∧ (vp_in x1 3 ∧ (vp_in x1 3 ∧ (vp_in x1 3 ∧ (vp_in x1 3 ∧ (post (z_up (z_up (z_up (z_up (z_up (z_up (z_up (z_up (z_up (z_up (z_up M 7 x5.toNatClampNeg 1) 9 x5.toNatClampNeg 0) 20 x1.toNatClampNeg 1) 21 x1.toNatClampNeg x2) 22 x1.toNatClampNeg x3) 23 x1.toNatClampNeg x5) 24 x1.toNatClampNeg 0) 25 x1.toNatClampNeg 0) 27 x1.toNatClampNeg 0) 28 x1.toNatClampNeg 0) 29 x1.toNatClampNeg 0)))))))))))))) ∧ (¬ (M 7 x5.toNatClampNeg) = 0 → (w_X7_call_104 post (w_X7_call_84 post n) M x1 x2 x3 x5)))))))
def w_X7_call_70 (post : z_Md → Prop) (M : z_Md) (x1 : Int32) (x2 : Int32) (x3 : Int32) (z0 : Int32) : Prop := ((((z_up M 0 0 z0) 0 0) ≤ 0 → (∃ n0 : Nat, w_X7_call_84 post n0 (z_up M 0 0 z0) x1 x2 x3 0)) ∧ (¬ ((z_up M 0 0 z0) 0 0) ≤ 0 → (post (z_up M 0 0 z0))))
def w_X7_call_65 (post : z_Md → Prop) (M : z_Md) (x1 : Int32) (x2 : Int32) (x3 : Int32) : Prop := (w_X7_call_70 post M x1 x2 x3 3)
def w_X7_call_69 (post : z_Md → Prop) (M : z_Md) (x1 : Int32) (x2 : Int32) (x3 : Int32) : Prop := (w_X7_call_70 post M x1 x2 x3 0)
def w_X7_call (post : z_Md → Prop) (M : z_Md) (x1 : Int32) (x2 : Int32) (x3 : Int32) : Prop := (w_X7_isLine (fun r2 M1 => (∀ y3 : Int32, y3 = (if r2 = 0 then 0 else (if x3 < 0 then 0 else (if 3 < x3 then 0 else 1))) → (w_X7_isBox (fun r5 M4 => ((¬ r5 = 0 → ((¬ y3 = 0 → (vp_in x1 3 ∧ ((¬ (M4 20 x1.toNatClampNeg) = 0 → (w_X7_call_65 post M4 x1 x2 x3)) ∧ ((M4 20 x1.toNatClampNeg) = 0 → ((¬ x3 = 0 → (w_X7_call_69 post M4 x1 x2 x3)) ∧ (x3 = 0 → (w_X7_isFull (fun r11 M10 => ((r11 = 0 → (w_X7_call_69 post M10 x1 x2 x3)) ∧ (¬ r11 = 0 → (w_X7_call_65 post M10 x1 x2 x3)))) M4 ))))))) ∧ (y3 = 0 → (w_X7_call_70 post M4 x1 x2 x3 2)))) ∧ (r5 = 0 → (w_X7_call_70 post M4 x1 x2 x3 1)))) M1 x2))) M x1)
set_option maxRecDepth 20000 in
theorem mb_X7_call_104 {p : Program} {l : Launch} {e : Env} {s : State} {m : MethodId} {args : Array Value} {below : List Frame} {meth : Method} {c : Code} {D : va_G} {cy : Nat → ClassId} {A : Nat → Prop} {o : Nat} {ad : Nat → Nat} (S : CallFix p m c cX7_call 6 s args z_T RX7) (hlk : meth.locks = false) (hr : meth.sig.returnType = none) (hE : z_EM D cy s) {post : z_Md → Prop} {J84 : z_Md → Int32 → Int32 → Int32 → Int32 → Prop} (hJ84 : ∀ (M : z_Md) (x1 : Int32) (x2 : Int32) (x3 : Int32) (x5 : Int32), J84 M x1 x2 x3 x5 → z_V A (z_hM D cy A o ad) p l e rm_X7_call s m args below meth c 6 (MQ below (va_Qv post (fun (u' : z_Md) t => z_hM D cy A o ad u' t.heap) A) args s 0 0 A) 0 0 M 84 [(0, va_rf (some o)), (1, .int x1), (2, .int x2), (3, .int x3), (5, .int x5)] []) (M : z_Md) (x1 : Int32) (x2 : Int32) (x3 : Int32) (x5 : Int32) (hw : w_X7_call_104 post J84 M x1 x2 x3 x5) : z_V A (z_hM D cy A o ad) p l e rm_X7_call s m args below meth c 6 (MQ below (va_Qv post (fun (u' : z_Md) t => z_hM D cy A o ad u' t.heap) A) args s 0 0 A) 0 0 M 104 [(0, va_rf (some o)), (1, .int x1), (2, .int x2), (3, .int x3), (5, .int x5)] [] := by
  refine z_iinc (v := x5 + 1) (pl := 4) S [(5, .int (x5 + 1)), (0, va_rf (some o)), (1, .int x1), (2, .int x2), (3, .int x3)] dX7_call_104 rfl rfl (by decide) rfl ?_
  refine z_lv (lv' := [(0, va_rf (some o)), (1, .int x1), (2, .int x2), (3, .int x3), (5, .int (x5 + 1))]) [1, 2, 3, 4, 0] rfl ?_
  refine z_goto S 84 dX7_call_107 (by decide) ?_
  exact hJ84 M x1 x2 x3 (x5 + 1) hw
set_option maxRecDepth 20000 in
theorem mb_X7_call_84 {p : Program} {l : Launch} {e : Env} {s : State} {m : MethodId} {args : Array Value} {below : List Frame} {meth : Method} {c : Code} {D : va_G} {cy : Nat → ClassId} {A : Nat → Prop} {o : Nat} {ad : Nat → Nat} (S : CallFix p m c cX7_call 6 s args z_T RX7) (hlk : meth.locks = false) (hr : meth.sig.returnType = none) (hE : z_EM D cy s) {post : z_Md → Prop}  : ∀ (n : Nat) (M : z_Md) (x1 : Int32) (x2 : Int32) (x3 : Int32) (x5 : Int32), w_X7_call_84 post n M x1 x2 x3 x5 → z_V A (z_hM D cy A o ad) p l e rm_X7_call s m args below meth c 6 (MQ below (va_Qv post (fun (u' : z_Md) t => z_hM D cy A o ad u' t.heap) A) args s 0 0 A) 0 0 M 84 [(0, va_rf (some o)), (1, .int x1), (2, .int x2), (3, .int x3), (5, .int x5)] [] := by
  intro n
  induction n with
  | zero => intro M x1 x2 x3 x5 hw; exact hw.elim
  | succ n ih =>
    intro M x1 x2 x3 x5 hw
    refine z_aload_n (x := some o) S 0 dX7_call_84 rfl rfl ?_
    refine zm_g_25 S hE dX7_call_85 ?_
    refine z_iload S 4 dX7_call_88 rfl ?_
    obtain ⟨hi15, hw⟩ := hw
    refine z_mald (j := 6) S hE rfl rfl hi15 dX7_call_90 ?_
    refine z_if_gt S 104 dX7_call_91 (by decide) (fun c1 => ?_) (fun c1 => ?_)
    · have hw := hw.1 c1
      exact mb_X7_call_104 S hlk hr hE ih M x1 x2 x3 x5 hw
    · have hw := hw.2 c1
      refine z_aload_n (x := some o) S 0 dX7_call_94 rfl rfl ?_
      refine zm_g_28 S hE dX7_call_95 ?_
      refine z_iload S 4 dX7_call_98 rfl ?_
      obtain ⟨hi14, hw⟩ := hw
      refine z_mzld (j := 7) S hE rfl rfl hi14 dX7_call_100 ?_
      refine z_if_eq S 110 dX7_call_101 (by decide) (fun c2 => ?_) (fun c2 => ?_)
      · have hw := hw.1 c2
        refine z_aload_n (x := some o) S 0 dX7_call_110 rfl rfl ?_
        refine zm_g_28 S hE dX7_call_111 ?_
        refine z_iload S 4 dX7_call_114 rfl ?_
        refine z_iconst (v := 1) S dX7_call_116 (by decide) ?_
        obtain ⟨hi13, hw⟩ := hw
        refine z_mzst (j := 7) S hE rfl rfl hi13 rfl dX7_call_117 ?_
        refine z_aload_n (x := some o) S 0 dX7_call_118 rfl rfl ?_
        refine zm_g_35 S hE dX7_call_119 ?_
        refine z_iload S 4 dX7_call_122 rfl ?_
        refine z_iconst (v := 0) S dX7_call_124 (by decide) ?_
        obtain ⟨hi12, hw⟩ := hw
        refine z_mast (j := 9) S hE rfl rfl hi12 dX7_call_125 ?_
        refine z_aload_n (x := some o) S 0 dX7_call_126 rfl rfl ?_
        refine zm_g_59 S hE dX7_call_127 ?_
        refine z_iload_n S 1 dX7_call_130 rfl rfl ?_
        refine z_iconst (v := 1) S dX7_call_131 (by decide) ?_
        obtain ⟨hi11, hw⟩ := hw
        refine z_mzst (j := 20) S hE rfl rfl hi11 rfl dX7_call_132 ?_
        refine z_aload_n (x := some o) S 0 dX7_call_133 rfl rfl ?_
        refine zm_g_62 S hE dX7_call_134 ?_
        refine z_iload_n S 1 dX7_call_137 rfl rfl ?_
        refine z_iload_n S 2 dX7_call_138 rfl rfl ?_
        obtain ⟨hi10, hw⟩ := hw
        refine z_mast (j := 21) S hE rfl rfl hi10 dX7_call_139 ?_
        refine z_aload_n (x := some o) S 0 dX7_call_140 rfl rfl ?_
        refine zm_g_65 S hE dX7_call_141 ?_
        refine z_iload_n S 1 dX7_call_144 rfl rfl ?_
        refine z_iload_n S 3 dX7_call_145 rfl rfl ?_
        obtain ⟨hi9, hw⟩ := hw
        refine z_mast (j := 22) S hE rfl rfl hi9 dX7_call_146 ?_
        refine z_aload_n (x := some o) S 0 dX7_call_147 rfl rfl ?_
        refine zm_g_68 S hE dX7_call_148 ?_
        refine z_iload_n S 1 dX7_call_151 rfl rfl ?_
        refine z_iload S 4 dX7_call_152 rfl ?_
        obtain ⟨hi8, hw⟩ := hw
        refine z_mast (j := 23) S hE rfl rfl hi8 dX7_call_154 ?_
        refine z_aload_n (x := some o) S 0 dX7_call_155 rfl rfl ?_
        refine zm_g_71 S hE dX7_call_156 ?_
        refine z_iload_n S 1 dX7_call_159 rfl rfl ?_
        refine z_iconst (v := 0) S dX7_call_160 (by decide) ?_
        obtain ⟨hi7, hw⟩ := hw
        refine z_mzst (j := 24) S hE rfl rfl hi7 rfl dX7_call_161 ?_
        refine z_aload_n (x := some o) S 0 dX7_call_162 rfl rfl ?_
        refine zm_g_74 S hE dX7_call_163 ?_
        refine z_iload_n S 1 dX7_call_166 rfl rfl ?_
        refine z_iconst (v := 0) S dX7_call_167 (by decide) ?_
        obtain ⟨hi6, hw⟩ := hw
        refine z_mast (j := 25) S hE rfl rfl hi6 dX7_call_168 ?_
        refine z_aload_n (x := some o) S 0 dX7_call_169 rfl rfl ?_
        refine zm_g_80 S hE dX7_call_170 ?_
        refine z_iload_n S 1 dX7_call_173 rfl rfl ?_
        refine z_iconst (v := 0) S dX7_call_174 (by decide) ?_
        obtain ⟨hi5, hw⟩ := hw
        refine z_mast (j := 27) S hE rfl rfl hi5 dX7_call_175 ?_
        refine z_aload_n (x := some o) S 0 dX7_call_176 rfl rfl ?_
        refine zm_g_83 S hE dX7_call_177 ?_
        refine z_iload_n S 1 dX7_call_180 rfl rfl ?_
        refine z_iconst (v := 0) S dX7_call_181 (by decide) ?_
        obtain ⟨hi4, hw⟩ := hw
        refine z_mast (j := 28) S hE rfl rfl hi4 dX7_call_182 ?_
        refine z_aload_n (x := some o) S 0 dX7_call_183 rfl rfl ?_
        refine zm_g_86 S hE dX7_call_184 ?_
        refine z_iload_n S 1 dX7_call_187 rfl rfl ?_
        refine z_iconst (v := 0) S dX7_call_188 (by decide) ?_
        obtain ⟨hi3, hw⟩ := hw
        refine z_mast (j := 29) S hE rfl rfl hi3 dX7_call_189 ?_
        exact z_vret S hr hlk dX7_call_190 (Nat.le_refl 0) (Nat.le_refl 0) hw
      · have hw := hw.2 c2
        exact mb_X7_call_104 S hlk hr hE ih M x1 x2 x3 x5 hw
set_option maxRecDepth 20000 in
theorem mb_X7_call_70 {p : Program} {l : Launch} {e : Env} {s : State} {m : MethodId} {args : Array Value} {below : List Frame} {meth : Method} {c : Code} {D : va_G} {cy : Nat → ClassId} {A : Nat → Prop} {o : Nat} {ad : Nat → Nat} (S : CallFix p m c cX7_call 6 s args z_T RX7) (hlk : meth.locks = false) (hr : meth.sig.returnType = none) (hE : z_EM D cy s) {post : z_Md → Prop}  (M : z_Md) (x1 : Int32) (x2 : Int32) (x3 : Int32) (z0 : Int32) (hw : w_X7_call_70 post M x1 x2 x3 z0) : z_V A (z_hM D cy A o ad) p l e rm_X7_call s m args below meth c 6 (MQ below (va_Qv post (fun (u' : z_Md) t => z_hM D cy A o ad u' t.heap) A) args s 0 0 A) 0 0 M 70 [(0, va_rf (some o)), (1, .int x1), (2, .int x2), (3, .int x3)] [.int z0, va_rf (some o)] := by
  refine zm_p_89 S hE dX7_call_70 ?_
  refine z_aload_n (x := some o) S 0 dX7_call_73 rfl rfl ?_
  refine zm_g_89 S hE dX7_call_74 ?_
  refine z_if_le S 81 dX7_call_77 (by decide) (fun c1 => ?_) (fun c1 => ?_)
  · have hw := hw.1 c1
    refine z_iconst (v := 0) S dX7_call_81 (by decide) ?_
    refine z_istore S [(5, .int 0), (0, va_rf (some o)), (1, .int x1), (2, .int x2), (3, .int x3)] dX7_call_82 (by decide) rfl ?_
    refine z_lv (lv' := [(0, va_rf (some o)), (1, .int x1), (2, .int x2), (3, .int x3), (5, .int 0)]) [1, 2, 3, 4, 0] rfl ?_
    obtain ⟨n0, hw⟩ := hw
    exact mb_X7_call_84 S hlk hr hE n0 (z_up M 0 0 z0) x1 x2 x3 0 hw
  · have hw := hw.2 c1
    exact z_vret S hr hlk dX7_call_80 (Nat.le_refl 0) (Nat.le_refl 0) hw
set_option maxRecDepth 20000 in
theorem mb_X7_call_65 {p : Program} {l : Launch} {e : Env} {s : State} {m : MethodId} {args : Array Value} {below : List Frame} {meth : Method} {c : Code} {D : va_G} {cy : Nat → ClassId} {A : Nat → Prop} {o : Nat} {ad : Nat → Nat} (S : CallFix p m c cX7_call 6 s args z_T RX7) (hlk : meth.locks = false) (hr : meth.sig.returnType = none) (hE : z_EM D cy s) {post : z_Md → Prop}  (M : z_Md) (x1 : Int32) (x2 : Int32) (x3 : Int32) (hw : w_X7_call_65 post M x1 x2 x3) : z_V A (z_hM D cy A o ad) p l e rm_X7_call s m args below meth c 6 (MQ below (va_Qv post (fun (u' : z_Md) t => z_hM D cy A o ad u' t.heap) A) args s 0 0 A) 0 0 M 65 [(0, va_rf (some o)), (1, .int x1), (2, .int x2), (3, .int x3)] [va_rf (some o)] := by
  refine z_iconst (v := 3) S dX7_call_65 (by decide) ?_
  refine z_goto S 70 dX7_call_66 (by decide) ?_
  exact mb_X7_call_70 S hlk hr hE M x1 x2 x3 3 hw
set_option maxRecDepth 20000 in
theorem mb_X7_call_69 {p : Program} {l : Launch} {e : Env} {s : State} {m : MethodId} {args : Array Value} {below : List Frame} {meth : Method} {c : Code} {D : va_G} {cy : Nat → ClassId} {A : Nat → Prop} {o : Nat} {ad : Nat → Nat} (S : CallFix p m c cX7_call 6 s args z_T RX7) (hlk : meth.locks = false) (hr : meth.sig.returnType = none) (hE : z_EM D cy s) {post : z_Md → Prop}  (M : z_Md) (x1 : Int32) (x2 : Int32) (x3 : Int32) (hw : w_X7_call_69 post M x1 x2 x3) : z_V A (z_hM D cy A o ad) p l e rm_X7_call s m args below meth c 6 (MQ below (va_Qv post (fun (u' : z_Md) t => z_hM D cy A o ad u' t.heap) A) args s 0 0 A) 0 0 M 69 [(0, va_rf (some o)), (1, .int x1), (2, .int x2), (3, .int x3)] [va_rf (some o)] := by
  refine z_iconst (v := 0) S dX7_call_69 (by decide) ?_
  exact mb_X7_call_70 S hlk hr hE M x1 x2 x3 0 hw
set_option maxRecDepth 20000 in
theorem mb_X7_call {p : Program} {l : Launch} {e : Env} {s : State} {m : MethodId} {args : Array Value} {below : List Frame} {meth : Method} {c : Code} {D : va_G} {cy : Nat → ClassId} {A : Nat → Prop} {o : Nat} {ad : Nat → Nat} (S : CallFix p m c cX7_call 6 s args z_T RX7) (hlk : meth.locks = false) (hr : meth.sig.returnType = none) (hE : z_EM D cy s) {post : z_Md → Prop}  (M : z_Md) (x1 : Int32) (x2 : Int32) (x3 : Int32) (hw : w_X7_call post M x1 x2 x3) : z_V A (z_hM D cy A o ad) p l e rm_X7_call s m args below meth c 6 (MQ below (va_Qv post (fun (u' : z_Md) t => z_hM D cy A o ad u' t.heap) A) args s 0 0 A) 0 0 M 0 [(0, va_rf (some o)), (1, .int x1), (2, .int x2), (3, .int x3)] [] := by
  refine z_iload_n S 1 dX7_call_0 rfl rfl ?_
  refine z_callSi (As := [.int x1]) (st := []) S (z_EMok D cy A) hE (me_X7_isLine l D cy A o ad _ M x1 hw) gS_X7_127 hdS_X7_isLine ⟨Nat.le_of_ble_eq_true rfl, Nat.le_of_ble_eq_true rfl⟩ rfl rfl (fun _ h => h) (fun _ _ _ _ h => h) rfl (Nat.le_trans z_s0 (by decide)) dX7_call_1 ⟨Nat.le_of_ble_eq_true rfl, Nat.le_of_ble_eq_true rfl⟩ rfl (fun r2 M1 hw => ?_)
  suffices hJ : ∀ y3 : Int32, y3 = (if r2 = 0 then 0 else (if x3 < 0 then 0 else (if 3 < x3 then 0 else 1))) → z_V A (z_hM D cy A o ad) p l e rm_X7_call s m args below meth c 6 (MQ below (va_Qv post (fun (u' : z_Md) t => z_hM D cy A o ad u' t.heap) A) args s 0 0 A) 0 0 M1 21 [(0, va_rf (some o)), (1, .int x1), (2, .int x2), (3, .int x3)] [.int y3] from by
    refine z_if_eq S 20 dX7_call_4 (by decide) (fun c14 => ?_) (fun c14 => ?_)
    · refine z_iconst (v := 0) S dX7_call_20 (by decide) ?_
      exact hJ _ (by rw [if_pos c14])
    · refine z_iload_n S 3 dX7_call_7 rfl rfl ?_
      refine z_if_lt S 20 dX7_call_8 (by decide) (fun c15 => ?_) (fun c15 => ?_)
      · refine z_iconst (v := 0) S dX7_call_20 (by decide) ?_
        exact hJ _ (by rw [if_neg c14, if_pos c15])
      · refine z_iload_n S 3 dX7_call_11 rfl rfl ?_
        refine z_iconst (v := 3) S dX7_call_12 (by decide) ?_
        refine z_icmp_gt S 20 dX7_call_13 (by decide) (fun c16 => ?_) (fun c16 => ?_)
        · refine z_iconst (v := 0) S dX7_call_20 (by decide) ?_
          exact hJ _ (by rw [if_neg c14, if_neg c15, if_pos c16])
        · refine z_iconst (v := 1) S dX7_call_16 (by decide) ?_
          refine z_goto S 21 dX7_call_17 (by decide) ?_
          exact hJ _ (by rw [if_neg c14, if_neg c15, if_neg c16])
  intro y3 ey3
  have hw := hw y3 ey3
  refine z_istore S [(4, .int y3), (0, va_rf (some o)), (1, .int x1), (2, .int x2), (3, .int x3)] dX7_call_21 (by decide) rfl ?_
  refine z_lv (lv' := [(0, va_rf (some o)), (1, .int x1), (2, .int x2), (3, .int x3), (4, .int y3)]) [1, 2, 3, 4, 0] rfl ?_
  refine z_aload_n (x := some o) S 0 dX7_call_23 rfl rfl ?_
  refine z_aload_n (x := some o) S 0 dX7_call_24 rfl rfl ?_
  refine z_iload_n S 2 dX7_call_25 rfl rfl ?_
  refine z_callVi (As := [.int x2]) (st := [va_rf (some o)]) S (z_EMok D cy A) hE (me_X7_isBox l D cy A o ad _ M1 x2 hw) gV_X7_131 hdV_X7_isBox ⟨Nat.le_of_ble_eq_true rfl, Nat.le_of_ble_eq_true rfl⟩ rfl rfl (z_recvM hE) (fun _ h => h) (fun _ _ _ _ h => h) rfl (Nat.le_trans (z_sq z_s0) (by decide)) dX7_call_26 ⟨Nat.le_of_ble_eq_true rfl, Nat.le_of_ble_eq_true rfl⟩ rfl (fun r5 M4 hw => ?_)
  refine z_if_ne S 36 dX7_call_29 (by decide) (fun c6 => ?_) (fun c6 => ?_)
  · have hw := hw.1 c6
    refine z_iload S 4 dX7_call_36 rfl ?_
    refine z_if_ne S 45 dX7_call_38 (by decide) (fun c7 => ?_) (fun c7 => ?_)
    · have hw := hw.1 c7
      refine z_aload_n (x := some o) S 0 dX7_call_45 rfl rfl ?_
      refine zm_g_59 S hE dX7_call_46 ?_
      refine z_iload_n S 1 dX7_call_49 rfl rfl ?_
      obtain ⟨hi13, hw⟩ := hw
      refine z_mzld (j := 20) S hE rfl rfl hi13 dX7_call_50 ?_
      refine z_if_ne S 65 dX7_call_51 (by decide) (fun c8 => ?_) (fun c8 => ?_)
      · have hw := hw.1 c8
        refine z_lv (lv' := [(0, va_rf (some o)), (1, .int x1), (2, .int x2), (3, .int x3)]) [0, 1, 2, 3] rfl ?_
        exact mb_X7_call_65 S hlk hr hE M4 x1 x2 x3 hw
      · have hw := hw.2 c8
        refine z_iload_n S 3 dX7_call_54 rfl rfl ?_
        refine z_if_ne S 69 dX7_call_55 (by decide) (fun c9 => ?_) (fun c9 => ?_)
        · have hw := hw.1 c9
          refine z_lv (lv' := [(0, va_rf (some o)), (1, .int x1), (2, .int x2), (3, .int x3)]) [0, 1, 2, 3] rfl ?_
          exact mb_X7_call_69 S hlk hr hE M4 x1 x2 x3 hw
        · have hw := hw.2 c9
          refine z_aload_n (x := some o) S 0 dX7_call_58 rfl rfl ?_
          refine z_callVi (As := []) (st := [va_rf (some o)]) S (z_EMok D cy A) hE (me_X7_isFull l D cy A o ad _ M4  hw) gV_X7_134 hdV_X7_isFull ⟨Nat.le_of_ble_eq_true rfl, Nat.le_of_ble_eq_true rfl⟩ rfl rfl (z_recvM hE) (fun _ h => h) (fun _ _ _ _ h => h) rfl (Nat.le_trans (z_sq z_s0) (by decide)) dX7_call_59 ⟨Nat.le_of_ble_eq_true rfl, Nat.le_of_ble_eq_true rfl⟩ rfl (fun r11 M10 hw => ?_)
          refine z_if_eq S 69 dX7_call_62 (by decide) (fun c12 => ?_) (fun c12 => ?_)
          · have hw := hw.1 c12
            refine z_lv (lv' := [(0, va_rf (some o)), (1, .int x1), (2, .int x2), (3, .int x3)]) [0, 1, 2, 3] rfl ?_
            exact mb_X7_call_69 S hlk hr hE M10 x1 x2 x3 hw
          · have hw := hw.2 c12
            refine z_lv (lv' := [(0, va_rf (some o)), (1, .int x1), (2, .int x2), (3, .int x3)]) [0, 1, 2, 3] rfl ?_
            exact mb_X7_call_65 S hlk hr hE M10 x1 x2 x3 hw
    · have hw := hw.2 c7
      refine z_iconst (v := 2) S dX7_call_41 (by decide) ?_
      refine z_goto S 70 dX7_call_42 (by decide) ?_
      refine z_lv (lv' := [(0, va_rf (some o)), (1, .int x1), (2, .int x2), (3, .int x3)]) [0, 1, 2, 3] rfl ?_
      exact mb_X7_call_70 S hlk hr hE M4 x1 x2 x3 2 hw
  · have hw := hw.2 c6
    refine z_iconst (v := 1) S dX7_call_32 (by decide) ?_
    refine z_goto S 70 dX7_call_33 (by decide) ?_
    refine z_lv (lv' := [(0, va_rf (some o)), (1, .int x1), (2, .int x2), (3, .int x3)]) [0, 1, 2, 3] rfl ?_
    exact mb_X7_call_70 S hlk hr hE M4 x1 x2 x3 1 hw
theorem me_X7_call (l : Launch) (D : va_G) (cy : Nat → ClassId) (A : Nat → Prop) (o : Nat) (ad : Nat → Nat) (post : z_Md → Prop) (M : z_Md) (x1 : Int32) (x2 : Int32) (x3 : Int32) (hw : w_X7_call post M x1 x2 x3) : z_Mv l yX7_call (Cond.code yX7_call cX7_call 6 none :: z_T) rm_X7_call [.ref o, .int x1, .int x2, .int x3] (z_EM D cy) (z_hM D cy A o ad) M post 0 0 A :=
  z_met (by decide) (Nat.le_of_ble_eq_true rfl) (fun p e s m args below meth c S hlk hr hnm hE => mb_X7_call S hlk hr hE M x1 x2 x3 hw)
abbrev rm_X7_isPaid : Room := { frames := 3, cells := 0, slots := 0, locals := 71 }
def w_X7_isPaid_35 (post : Int32 → z_Md → Prop) (M : z_Md)  : Prop := (post 1 M)
def w_X7_isPaid (post : Int32 → z_Md → Prop) (M : z_Md) (x1 : Int32) (x2 : Int32) : Prop := (vp_in x1 3 ∧ ((0 < (M 22 x1.toNatClampNeg) → (w_X7_isPaid_35 post M )) ∧ (¬ 0 < (M 22 x1.toNatClampNeg) → (vp_in x1 3 ∧ (w_X7_usedBy (fun r3 M2 => (vp_in x1 3 ∧ (vp_in (M2 21 x1.toNatClampNeg) 4 ∧ (((M2 11 (M2 21 x1.toNatClampNeg).toNatClampNeg) < (r3 + x2) → (post 0 M2)) ∧ (¬ (M2 11 (M2 21 x1.toNatClampNeg).toNatClampNeg) < (r3 + x2) → (w_X7_isPaid_35 post M2 )))))) M (M 21 x1.toNatClampNeg))))))
set_option maxRecDepth 20000 in
theorem mb_X7_isPaid_35 {p : Program} {l : Launch} {e : Env} {s : State} {m : MethodId} {args : Array Value} {below : List Frame} {meth : Method} {c : Code} {D : va_G} {cy : Nat → ClassId} {A : Nat → Prop} {o : Nat} {ad : Nat → Nat} (S : CallFix p m c cX7_isPaid 3 s args z_T RX7) (hlk : meth.locks = false) (hr : meth.sig.returnType = some .boolean) (hE : z_EM D cy s) {post : Int32 → z_Md → Prop}  (M : z_Md)  (hw : w_X7_isPaid_35 post M ) : z_V A (z_hM D cy A o ad) p l e rm_X7_isPaid s m args below meth c 3 (MQ below (va_Qi post (fun (u' : z_Md) t => z_hM D cy A o ad u' t.heap) A) args s 0 0 A) 0 0 M 35 [] [] := by
  refine z_iconst (v := 1) S dX7_isPaid_35 (by decide) ?_
  refine z_goto S 40 dX7_isPaid_36 (by decide) ?_
  exact z_zret S hr hlk dX7_isPaid_40 (Nat.le_refl 0) (Nat.le_refl 0) rfl hw
set_option maxRecDepth 20000 in
theorem mb_X7_isPaid {p : Program} {l : Launch} {e : Env} {s : State} {m : MethodId} {args : Array Value} {below : List Frame} {meth : Method} {c : Code} {D : va_G} {cy : Nat → ClassId} {A : Nat → Prop} {o : Nat} {ad : Nat → Nat} (S : CallFix p m c cX7_isPaid 3 s args z_T RX7) (hlk : meth.locks = false) (hr : meth.sig.returnType = some .boolean) (hE : z_EM D cy s) {post : Int32 → z_Md → Prop}  (M : z_Md) (x1 : Int32) (x2 : Int32) (hw : w_X7_isPaid post M x1 x2) : z_V A (z_hM D cy A o ad) p l e rm_X7_isPaid s m args below meth c 3 (MQ below (va_Qi post (fun (u' : z_Md) t => z_hM D cy A o ad u' t.heap) A) args s 0 0 A) 0 0 M 0 [(0, va_rf (some o)), (1, .int x1), (2, .int x2)] [] := by
  refine z_aload_n (x := some o) S 0 dX7_isPaid_0 rfl rfl ?_
  refine zm_g_65 S hE dX7_isPaid_1 ?_
  refine z_iload_n S 1 dX7_isPaid_4 rfl rfl ?_
  obtain ⟨hi8, hw⟩ := hw
  refine z_mald (j := 22) S hE rfl rfl hi8 dX7_isPaid_5 ?_
  refine z_if_gt S 35 dX7_isPaid_6 (by decide) (fun c1 => ?_) (fun c1 => ?_)
  · have hw := hw.1 c1
    refine z_lv (lv' := []) [] rfl ?_
    exact mb_X7_isPaid_35 S hlk hr hE M  hw
  · have hw := hw.2 c1
    refine z_aload_n (x := some o) S 0 dX7_isPaid_9 rfl rfl ?_
    refine z_aload_n (x := some o) S 0 dX7_isPaid_10 rfl rfl ?_
    refine zm_g_62 S hE dX7_isPaid_11 ?_
    refine z_iload_n S 1 dX7_isPaid_14 rfl rfl ?_
    obtain ⟨hi7, hw⟩ := hw
    refine z_mald (j := 21) S hE rfl rfl hi7 dX7_isPaid_15 ?_
    refine z_callVi (As := [.int (M 21 x1.toNatClampNeg)]) (st := []) S (z_EMok D cy A) hE (me_X7_usedBy l D cy A o ad _ M (M 21 x1.toNatClampNeg) hw) gV_X7_138 hdV_X7_usedBy ⟨Nat.le_of_ble_eq_true rfl, Nat.le_of_ble_eq_true rfl⟩ rfl rfl (z_recvM hE) (fun _ h => h) (fun _ _ _ _ h => h) rfl (Nat.le_trans z_s0 (by decide)) dX7_isPaid_16 ⟨Nat.le_of_ble_eq_true rfl, Nat.le_of_ble_eq_true rfl⟩ rfl (fun r3 M2 hw => ?_)
    refine z_iload_n S 2 dX7_isPaid_19 rfl rfl ?_
    refine z_iadd S dX7_isPaid_20 ?_
    refine z_aload_n (x := some o) S 0 dX7_isPaid_21 rfl rfl ?_
    refine zm_g_38 S hE dX7_isPaid_22 ?_
    refine z_aload_n (x := some o) S 0 dX7_isPaid_25 rfl rfl ?_
    refine zm_g_62 S hE dX7_isPaid_26 ?_
    refine z_iload_n S 1 dX7_isPaid_29 rfl rfl ?_
    obtain ⟨hi6, hw⟩ := hw
    refine z_mald (j := 21) S hE rfl rfl hi6 dX7_isPaid_30 ?_
    obtain ⟨hi5, hw⟩ := hw
    refine z_mald (j := 11) S hE rfl rfl hi5 dX7_isPaid_31 ?_
    refine z_icmp_gt S 39 dX7_isPaid_32 (by decide) (fun c4 => ?_) (fun c4 => ?_)
    · have hw := hw.1 c4
      refine z_iconst (v := 0) S dX7_isPaid_39 (by decide) ?_
      exact z_zret S hr hlk dX7_isPaid_40 (Nat.le_refl 0) (Nat.le_refl 0) rfl hw
    · have hw := hw.2 c4
      refine z_lv (lv' := []) [] rfl ?_
      exact mb_X7_isPaid_35 S hlk hr hE M2  hw
theorem me_X7_isPaid (l : Launch) (D : va_G) (cy : Nat → ClassId) (A : Nat → Prop) (o : Nat) (ad : Nat → Nat) (post : Int32 → z_Md → Prop) (M : z_Md) (x1 : Int32) (x2 : Int32) (hw : w_X7_isPaid post M x1 x2) : z_Mi l yX7_isPaid (Cond.code yX7_isPaid cX7_isPaid 3 (some .boolean) :: z_T) rm_X7_isPaid [.ref o, .int x1, .int x2] (z_EM D cy) (z_hM D cy A o ad) M post 0 0 A :=
  z_met (by decide) (Nat.le_of_ble_eq_true rfl) (fun p e s m args below meth c S hlk hr hnm hE => mb_X7_isPaid S hlk hr hE M x1 x2 hw)
abbrev rm_X7_codeFrame : Room := { frames := 4, cells := 0, slots := 0, locals := 93 }
def w_X7_codeFrame_34 (post : z_Md → Prop) (M : z_Md) (x1 : Int32) : Prop := (vp_in x1 3 ∧ (post (z_up M 24 x1.toNatClampNeg 1)))
def w_X7_codeFrame_67 (post : z_Md → Prop) : Nat → z_Md → Int32 → Int32 → Int32 → Int32 → Prop
  | 0 => fun _ _ _ _ _ => False
  | n + 1 => fun M x1 x2 x3 x4 => ((8 ≤ x4 → (w_X7_append (fun M2 => (vp_in x1 3 ∧ (vp_in x1 3 ∧ (post (z_up (z_up M2 28 x1.toNatClampNeg (M2 30 0)) 29 x1.toNatClampNeg ((z_up M2 28 x1.toNatClampNeg (M2 30 0)) 31 0)))))) M x2 x3)) ∧ (¬ 8 ≤ x4 → (vp_in ((8 * x1) + x4) 24 ∧ (w_X7_code (fun r7 M6 => (∀ x3_8 : Int32, x3_8 = x3 ||| (r7 <<< ((4 * x4) &&& 31)) → (w_X7_codeFrame_67 post n M6 x1 x2 x3_8 (x4 + 1)))) M (M 26 ((8 * x1) + x4).toNatClampNeg)))))
def w_X7_codeFrame_25 (post : z_Md → Prop) (M : z_Md) (x1 : Int32) (x2 : Int32) : Prop := (w_X7_isPaid (fun r2 M1 => ((¬ r2 = 0 → (vp_in x1 3 ∧ (vp_in x1 3 ∧ (∃ n0 : Nat, w_X7_codeFrame_67 post n0 (z_up (z_up M1 30 0 (M1 28 x1.toNatClampNeg)) 31 0 ((z_up M1 30 0 (M1 28 x1.toNatClampNeg)) 29 x1.toNatClampNeg)) x1 x2 0 0)))) ∧ (r2 = 0 → (w_X7_codeFrame_34 post M1 x1)))) M x1 1)
def w_X7_codeFrame (post : z_Md → Prop) (M : z_Md) (x1 : Int32) : Prop := (vp_in x1 3 ∧ (∀ x2_1 : Int32, x2_1 = M 23 x1.toNatClampNeg → (vp_in x2_1 48 ∧ ((¬ ((M 9 x2_1.toNatClampNeg) - (M 9 x2_1.toNatClampNeg) / 4 * 4) = 0 → (w_X7_codeFrame_25 post M x1 x2_1)) ∧ (((M 9 x2_1.toNatClampNeg) - (M 9 x2_1.toNatClampNeg) / 4 * 4) = 0 → (w_X7_freeBlock (fun r4 M3 => ((r4 < 0 → (w_X7_codeFrame_34 post M3 x1)) ∧ (¬ r4 < 0 → (w_X7_codeFrame_25 post M3 x1 x2_1)))) M ))))))
set_option maxRecDepth 20000 in
theorem mb_X7_codeFrame_34 {p : Program} {l : Launch} {e : Env} {s : State} {m : MethodId} {args : Array Value} {below : List Frame} {meth : Method} {c : Code} {D : va_G} {cy : Nat → ClassId} {A : Nat → Prop} {o : Nat} {ad : Nat → Nat} (S : CallFix p m c cX7_codeFrame 5 s args z_T RX7) (hlk : meth.locks = false) (hr : meth.sig.returnType = none) (hE : z_EM D cy s) {post : z_Md → Prop}  (M : z_Md) (x1 : Int32) (hw : w_X7_codeFrame_34 post M x1) : z_V A (z_hM D cy A o ad) p l e rm_X7_codeFrame s m args below meth c 5 (MQ below (va_Qv post (fun (u' : z_Md) t => z_hM D cy A o ad u' t.heap) A) args s 0 0 A) 0 0 M 34 [(0, va_rf (some o)), (1, .int x1)] [] := by
  refine z_aload_n (x := some o) S 0 dX7_codeFrame_34 rfl rfl ?_
  refine zm_g_71 S hE dX7_codeFrame_35 ?_
  refine z_iload_n S 1 dX7_codeFrame_38 rfl rfl ?_
  refine z_iconst (v := 1) S dX7_codeFrame_39 (by decide) ?_
  obtain ⟨hi1, hw⟩ := hw
  refine z_mzst (j := 24) S hE rfl rfl hi1 rfl dX7_codeFrame_40 ?_
  exact z_vret S hr hlk dX7_codeFrame_41 (Nat.le_refl 0) (Nat.le_refl 0) hw
set_option maxRecDepth 20000 in
theorem mb_X7_codeFrame_67 {p : Program} {l : Launch} {e : Env} {s : State} {m : MethodId} {args : Array Value} {below : List Frame} {meth : Method} {c : Code} {D : va_G} {cy : Nat → ClassId} {A : Nat → Prop} {o : Nat} {ad : Nat → Nat} (S : CallFix p m c cX7_codeFrame 5 s args z_T RX7) (hlk : meth.locks = false) (hr : meth.sig.returnType = none) (hE : z_EM D cy s) {post : z_Md → Prop}  : ∀ (n : Nat) (M : z_Md) (x1 : Int32) (x2 : Int32) (x3 : Int32) (x4 : Int32), w_X7_codeFrame_67 post n M x1 x2 x3 x4 → z_V A (z_hM D cy A o ad) p l e rm_X7_codeFrame s m args below meth c 5 (MQ below (va_Qv post (fun (u' : z_Md) t => z_hM D cy A o ad u' t.heap) A) args s 0 0 A) 0 0 M 67 [(0, va_rf (some o)), (1, .int x1), (2, .int x2), (3, .int x3), (4, .int x4)] [] := by
  intro n
  induction n with
  | zero => intro M x1 x2 x3 x4 hw; exact hw.elim
  | succ n ih =>
    intro M x1 x2 x3 x4 hw
    refine z_iload S 4 dX7_codeFrame_67 rfl ?_
    refine z_bipush (v := 8) S dX7_codeFrame_69 (by decide) ?_
    refine z_icmp_ge S 104 dX7_codeFrame_71 (by decide) (fun c1 => ?_) (fun c1 => ?_)
    · have hw := hw.1 c1
      refine z_aload_n (x := some o) S 0 dX7_codeFrame_104 rfl rfl ?_
      refine z_iload_n S 2 dX7_codeFrame_105 rfl rfl ?_
      refine z_iload_n S 3 dX7_codeFrame_106 rfl rfl ?_
      refine z_callVv (As := [.int x2, .int x3]) (st := []) S (z_EMok D cy A) hE (me_X7_append l D cy A o ad _ M x2 x3 hw) gV_X7_148 hdV_X7_append ⟨Nat.le_of_ble_eq_true rfl, Nat.le_of_ble_eq_true rfl⟩ rfl rfl (z_recvM hE) (fun _ h => h) (fun _ _ _ _ h => h) rfl (Nat.le_trans z_s0 (by decide)) dX7_codeFrame_107 ⟨Nat.le_of_ble_eq_true rfl, Nat.le_of_ble_eq_true rfl⟩ rfl (fun M2 hw => ?_)
      refine z_aload_n (x := some o) S 0 dX7_codeFrame_110 rfl rfl ?_
      refine zm_g_83 S hE dX7_codeFrame_111 ?_
      refine z_iload_n S 1 dX7_codeFrame_114 rfl rfl ?_
      refine z_aload_n (x := some o) S 0 dX7_codeFrame_115 rfl rfl ?_
      refine zm_g_96 S hE dX7_codeFrame_116 ?_
      obtain ⟨hi5, hw⟩ := hw
      refine z_mast (j := 28) S hE rfl rfl hi5 dX7_codeFrame_119 ?_
      refine z_aload_n (x := some o) S 0 dX7_codeFrame_120 rfl rfl ?_
      refine zm_g_86 S hE dX7_codeFrame_121 ?_
      refine z_iload_n S 1 dX7_codeFrame_124 rfl rfl ?_
      refine z_aload_n (x := some o) S 0 dX7_codeFrame_125 rfl rfl ?_
      refine zm_g_93 S hE dX7_codeFrame_126 ?_
      obtain ⟨hi4, hw⟩ := hw
      refine z_mast (j := 29) S hE rfl rfl hi4 dX7_codeFrame_129 ?_
      exact z_vret S hr hlk dX7_codeFrame_130 (Nat.le_refl 0) (Nat.le_refl 0) hw
    · have hw := hw.2 c1
      refine z_iload_n S 3 dX7_codeFrame_74 rfl rfl ?_
      refine z_aload_n (x := some o) S 0 dX7_codeFrame_75 rfl rfl ?_
      refine z_aload_n (x := some o) S 0 dX7_codeFrame_76 rfl rfl ?_
      refine zm_g_77 S hE dX7_codeFrame_77 ?_
      refine z_bipush (v := 8) S dX7_codeFrame_80 (by decide) ?_
      refine z_iload_n S 1 dX7_codeFrame_82 rfl rfl ?_
      refine z_imul S dX7_codeFrame_83 ?_
      refine z_iload S 4 dX7_codeFrame_84 rfl ?_
      refine z_iadd S dX7_codeFrame_86 ?_
      obtain ⟨hi9, hw⟩ := hw
      refine z_mald (j := 26) S hE rfl rfl hi9 dX7_codeFrame_87 ?_
      refine z_callVi (As := [.int (M 26 ((8 * x1) + x4).toNatClampNeg)]) (st := [.int x3]) S (z_EMok D cy A) hE (me_X7_code l D cy A o ad _ M (M 26 ((8 * x1) + x4).toNatClampNeg) hw) gV_X7_145 hdV_X7_code ⟨Nat.le_of_ble_eq_true rfl, Nat.le_of_ble_eq_true rfl⟩ rfl rfl (z_recvM hE) (fun _ h => h) (fun _ _ _ _ h => h) rfl (Nat.le_trans (z_s1 z_s0) (by decide)) dX7_codeFrame_88 ⟨Nat.le_of_ble_eq_true rfl, Nat.le_of_ble_eq_true rfl⟩ rfl (fun r7 M6 hw => ?_)
      refine z_iconst (v := 4) S dX7_codeFrame_91 (by decide) ?_
      refine z_iload S 4 dX7_codeFrame_92 rfl ?_
      refine z_imul S dX7_codeFrame_94 ?_
      refine z_ishl S dX7_codeFrame_95 ?_
      refine z_ior S dX7_codeFrame_96 ?_
      refine z_top (fun x3_8 ex3_8 => ?_)
      have hw := hw x3_8 ex3_8
      refine z_istore_n S [(3, .int x3_8), (0, va_rf (some o)), (1, .int x1), (2, .int x2), (4, .int x4)] dX7_codeFrame_97 rfl (by decide) rfl ?_
      refine z_lv (lv' := [(0, va_rf (some o)), (1, .int x1), (2, .int x2), (3, .int x3_8), (4, .int x4)]) [1, 2, 3, 0, 4] rfl ?_
      refine z_iinc (v := x4 + 1) (pl := 4) S [(4, .int (x4 + 1)), (0, va_rf (some o)), (1, .int x1), (2, .int x2), (3, .int x3_8)] dX7_codeFrame_98 rfl rfl (by decide) rfl ?_
      refine z_lv (lv' := [(0, va_rf (some o)), (1, .int x1), (2, .int x2), (3, .int x3_8), (4, .int (x4 + 1))]) [1, 2, 3, 4, 0] rfl ?_
      refine z_goto S 67 dX7_codeFrame_101 (by decide) ?_
      exact ih M6 x1 x2 x3_8 (x4 + 1) hw
set_option maxRecDepth 20000 in
theorem mb_X7_codeFrame_25 {p : Program} {l : Launch} {e : Env} {s : State} {m : MethodId} {args : Array Value} {below : List Frame} {meth : Method} {c : Code} {D : va_G} {cy : Nat → ClassId} {A : Nat → Prop} {o : Nat} {ad : Nat → Nat} (S : CallFix p m c cX7_codeFrame 5 s args z_T RX7) (hlk : meth.locks = false) (hr : meth.sig.returnType = none) (hE : z_EM D cy s) {post : z_Md → Prop}  (M : z_Md) (x1 : Int32) (x2 : Int32) (hw : w_X7_codeFrame_25 post M x1 x2) : z_V A (z_hM D cy A o ad) p l e rm_X7_codeFrame s m args below meth c 5 (MQ below (va_Qv post (fun (u' : z_Md) t => z_hM D cy A o ad u' t.heap) A) args s 0 0 A) 0 0 M 25 [(0, va_rf (some o)), (1, .int x1), (2, .int x2)] [] := by
  refine z_aload_n (x := some o) S 0 dX7_codeFrame_25 rfl rfl ?_
  refine z_iload_n S 1 dX7_codeFrame_26 rfl rfl ?_
  refine z_iconst (v := 1) S dX7_codeFrame_27 (by decide) ?_
  refine z_callVi (As := [.int x1, .int 1]) (st := []) S (z_EMok D cy A) hE (me_X7_isPaid l D cy A o ad _ M x1 1 hw) gV_X7_141 hdV_X7_isPaid ⟨Nat.le_of_ble_eq_true rfl, Nat.le_of_ble_eq_true rfl⟩ rfl rfl (z_recvM hE) (fun _ h => h) (fun _ _ _ _ h => h) rfl (Nat.le_trans z_s0 (by decide)) dX7_codeFrame_28 ⟨Nat.le_of_ble_eq_true rfl, Nat.le_of_ble_eq_true rfl⟩ rfl (fun r2 M1 hw => ?_)
  refine z_if_ne S 42 dX7_codeFrame_31 (by decide) (fun c3 => ?_) (fun c3 => ?_)
  · have hw := hw.1 c3
    refine z_aload_n (x := some o) S 0 dX7_codeFrame_42 rfl rfl ?_
    refine z_aload_n (x := some o) S 0 dX7_codeFrame_43 rfl rfl ?_
    refine zm_g_83 S hE dX7_codeFrame_44 ?_
    refine z_iload_n S 1 dX7_codeFrame_47 rfl rfl ?_
    obtain ⟨hi5, hw⟩ := hw
    refine z_mald (j := 28) S hE rfl rfl hi5 dX7_codeFrame_48 ?_
    refine zm_p_96 S hE dX7_codeFrame_49 ?_
    refine z_aload_n (x := some o) S 0 dX7_codeFrame_52 rfl rfl ?_
    refine z_aload_n (x := some o) S 0 dX7_codeFrame_53 rfl rfl ?_
    refine zm_g_86 S hE dX7_codeFrame_54 ?_
    refine z_iload_n S 1 dX7_codeFrame_57 rfl rfl ?_
    obtain ⟨hi4, hw⟩ := hw
    refine z_mald (j := 29) S hE rfl rfl hi4 dX7_codeFrame_58 ?_
    refine zm_p_93 S hE dX7_codeFrame_59 ?_
    refine z_iconst (v := 0) S dX7_codeFrame_62 (by decide) ?_
    refine z_istore_n S [(3, .int 0), (0, va_rf (some o)), (1, .int x1), (2, .int x2)] dX7_codeFrame_63 rfl (by decide) rfl ?_
    refine z_lv (lv' := [(0, va_rf (some o)), (1, .int x1), (2, .int x2), (3, .int 0)]) [1, 2, 3, 0] rfl ?_
    refine z_iconst (v := 0) S dX7_codeFrame_64 (by decide) ?_
    refine z_istore S [(4, .int 0), (0, va_rf (some o)), (1, .int x1), (2, .int x2), (3, .int 0)] dX7_codeFrame_65 (by decide) rfl ?_
    refine z_lv (lv' := [(0, va_rf (some o)), (1, .int x1), (2, .int x2), (3, .int 0), (4, .int 0)]) [1, 2, 3, 4, 0] rfl ?_
    obtain ⟨n0, hw⟩ := hw
    exact mb_X7_codeFrame_67 S hlk hr hE n0 (z_up (z_up M1 30 0 (M1 28 x1.toNatClampNeg)) 31 0 ((z_up M1 30 0 (M1 28 x1.toNatClampNeg)) 29 x1.toNatClampNeg)) x1 x2 0 0 hw
  · have hw := hw.2 c3
    refine z_lv (lv' := [(0, va_rf (some o)), (1, .int x1)]) [0, 1] rfl ?_
    exact mb_X7_codeFrame_34 S hlk hr hE M1 x1 hw
set_option maxRecDepth 20000 in
theorem mb_X7_codeFrame {p : Program} {l : Launch} {e : Env} {s : State} {m : MethodId} {args : Array Value} {below : List Frame} {meth : Method} {c : Code} {D : va_G} {cy : Nat → ClassId} {A : Nat → Prop} {o : Nat} {ad : Nat → Nat} (S : CallFix p m c cX7_codeFrame 5 s args z_T RX7) (hlk : meth.locks = false) (hr : meth.sig.returnType = none) (hE : z_EM D cy s) {post : z_Md → Prop}  (M : z_Md) (x1 : Int32) (hw : w_X7_codeFrame post M x1) : z_V A (z_hM D cy A o ad) p l e rm_X7_codeFrame s m args below meth c 5 (MQ below (va_Qv post (fun (u' : z_Md) t => z_hM D cy A o ad u' t.heap) A) args s 0 0 A) 0 0 M 0 [(0, va_rf (some o)), (1, .int x1)] [] := by
  refine z_aload_n (x := some o) S 0 dX7_codeFrame_0 rfl rfl ?_
  refine zm_g_68 S hE dX7_codeFrame_1 ?_
  refine z_iload_n S 1 dX7_codeFrame_4 rfl rfl ?_
  obtain ⟨hi7, hw⟩ := hw
  refine z_mald (j := 23) S hE rfl rfl hi7 dX7_codeFrame_5 ?_
  refine z_top (fun x2_1 ex2_1 => ?_)
  have hw := hw x2_1 ex2_1
  refine z_istore_n S [(2, .int x2_1), (0, va_rf (some o)), (1, .int x1)] dX7_codeFrame_6 rfl (by decide) rfl ?_
  refine z_lv (lv' := [(0, va_rf (some o)), (1, .int x1), (2, .int x2_1)]) [1, 2, 0] rfl ?_
  refine z_aload_n (x := some o) S 0 dX7_codeFrame_7 rfl rfl ?_
  refine zm_g_35 S hE dX7_codeFrame_8 ?_
  refine z_iload_n S 2 dX7_codeFrame_11 rfl rfl ?_
  obtain ⟨hi6, hw⟩ := hw
  refine z_mald (j := 9) S hE rfl rfl hi6 dX7_codeFrame_12 ?_
  refine z_iconst (v := 4) S dX7_codeFrame_13 (by decide) ?_
  refine z_irem S dX7_codeFrame_14 (by decide) ?_
  refine z_if_ne S 25 dX7_codeFrame_15 (by decide) (fun c2 => ?_) (fun c2 => ?_)
  · have hw := hw.1 c2
    exact mb_X7_codeFrame_25 S hlk hr hE M x1 x2_1 hw
  · have hw := hw.2 c2
    refine z_aload_n (x := some o) S 0 dX7_codeFrame_18 rfl rfl ?_
    refine z_callVi (As := []) (st := []) S (z_EMok D cy A) hE (me_X7_freeBlock l D cy A o ad _ M  hw) gV_X7_103 hdV_X7_freeBlock ⟨Nat.le_of_ble_eq_true rfl, Nat.le_of_ble_eq_true rfl⟩ rfl rfl (z_recvM hE) (fun _ h => h) (fun _ _ _ _ h => h) rfl (Nat.le_trans z_s0 (by decide)) dX7_codeFrame_19 ⟨Nat.le_of_ble_eq_true rfl, Nat.le_of_ble_eq_true rfl⟩ rfl (fun r4 M3 hw => ?_)
    refine z_if_lt S 34 dX7_codeFrame_22 (by decide) (fun c5 => ?_) (fun c5 => ?_)
    · have hw := hw.1 c5
      refine z_lv (lv' := [(0, va_rf (some o)), (1, .int x1)]) [0, 1] rfl ?_
      exact mb_X7_codeFrame_34 S hlk hr hE M3 x1 hw
    · have hw := hw.2 c5
      exact mb_X7_codeFrame_25 S hlk hr hE M3 x1 x2_1 hw
theorem me_X7_codeFrame (l : Launch) (D : va_G) (cy : Nat → ClassId) (A : Nat → Prop) (o : Nat) (ad : Nat → Nat) (post : z_Md → Prop) (M : z_Md) (x1 : Int32) (hw : w_X7_codeFrame post M x1) : z_Mv l yX7_codeFrame (Cond.code yX7_codeFrame cX7_codeFrame 5 none :: z_T) rm_X7_codeFrame [.ref o, .int x1] (z_EM D cy) (z_hM D cy A o ad) M post 0 0 A :=
  z_met (by decide) (Nat.le_of_ble_eq_true rfl) (fun p e s m args below meth c S hlk hr hnm hE => mb_X7_codeFrame S hlk hr hE M x1 hw)
abbrev rm_X7_growGap : Room := { frames := 4, cells := 0, slots := 0, locals := 93 }
def w_X7_growGap_123 (post : z_Md → Prop) (M : z_Md) (x1 : Int32) : Prop := (vp_in x1 3 ∧ (vp_in x1 3 ∧ (post (z_up (z_up M 28 x1.toNatClampNeg 0) 29 x1.toNatClampNeg 0))))
def w_X7_growGap_91 (post : z_Md → Prop) (M : z_Md) (x1 : Int32) (x2 : Int32) (x3 : Int32) (x4 : Int32) (x5 : Int32) (z0 : Int32) (z1 : Int32) : Prop := (w_X7_isPaid (fun r2 M1 => ((¬ r2 = 0 → (vp_in x4 160 ∧ ((x3 = 0 → (w_X7_growGap_123 post (z_up M1 4 x4.toNatClampNeg x5) x1)) ∧ (¬ x3 = 0 → (w_X7_dropLast (fun M5 => (w_X7_growGap_123 post M5 x1)) (z_up M1 4 x4.toNatClampNeg x5) x2))))) ∧ (r2 = 0 → (vp_in x1 3 ∧ (post (z_up M1 24 x1.toNatClampNeg 1)))))) M z1 z0)
def w_X7_growGap (post : z_Md → Prop) (M : z_Md) (x1 : Int32) : Prop := (vp_in x1 3 ∧ (∀ x2_1 : Int32, x2_1 = M 23 x1.toNatClampNeg → (vp_in x1 3 ∧ (∀ y2 : Int32, y2 = (if (M 27 x1.toNatClampNeg) = 2 then 1 else 0) → (vp_in x2_1 48 ∧ (∀ y3 : Int32, y3 = (if y2 = 0 then 1 else 2) → (w_X7_entryAt (fun r5 M4 => ((y2 = 0 → vp_in r5 160) ∧ (∀ y6 : Int32, y6 = (if y2 = 0 then (M4 4 r5.toNatClampNeg) + 1 else 3) → ((y2 = 0 → (w_X7_costOfGap (fun r9 M8 => (vp_in r5 160 ∧ (w_X7_costOfGap (fun r11 M10 => (w_X7_growGap_91 post M10 x1 x2_1 y2 r5 y6 (r9 - r11) x1)) M8 (M8 4 r5.toNatClampNeg)))) M4 y6)) ∧ (¬ y2 = 0 → (w_X7_growGap_91 post M4 x1 x2_1 y2 r5 y6 (-1) x1)))))) M x2_1 ((M 9 x2_1.toNatClampNeg) - y3))))))))
set_option maxRecDepth 20000 in
theorem mb_X7_growGap_123 {p : Program} {l : Launch} {e : Env} {s : State} {m : MethodId} {args : Array Value} {below : List Frame} {meth : Method} {c : Code} {D : va_G} {cy : Nat → ClassId} {A : Nat → Prop} {o : Nat} {ad : Nat → Nat} (S : CallFix p m c cX7_growGap 6 s args z_T RX7) (hlk : meth.locks = false) (hr : meth.sig.returnType = none) (hE : z_EM D cy s) {post : z_Md → Prop}  (M : z_Md) (x1 : Int32) (hw : w_X7_growGap_123 post M x1) : z_V A (z_hM D cy A o ad) p l e rm_X7_growGap s m args below meth c 6 (MQ below (va_Qv post (fun (u' : z_Md) t => z_hM D cy A o ad u' t.heap) A) args s 0 0 A) 0 0 M 123 [(0, va_rf (some o)), (1, .int x1)] [] := by
  refine z_aload_n (x := some o) S 0 dX7_growGap_123 rfl rfl ?_
  refine zm_g_83 S hE dX7_growGap_124 ?_
  refine z_iload_n S 1 dX7_growGap_127 rfl rfl ?_
  refine z_iconst (v := 0) S dX7_growGap_128 (by decide) ?_
  obtain ⟨hi2, hw⟩ := hw
  refine z_mast (j := 28) S hE rfl rfl hi2 dX7_growGap_129 ?_
  refine z_aload_n (x := some o) S 0 dX7_growGap_130 rfl rfl ?_
  refine zm_g_86 S hE dX7_growGap_131 ?_
  refine z_iload_n S 1 dX7_growGap_134 rfl rfl ?_
  refine z_iconst (v := 0) S dX7_growGap_135 (by decide) ?_
  obtain ⟨hi1, hw⟩ := hw
  refine z_mast (j := 29) S hE rfl rfl hi1 dX7_growGap_136 ?_
  exact z_vret S hr hlk dX7_growGap_137 (Nat.le_refl 0) (Nat.le_refl 0) hw
set_option maxRecDepth 20000 in
theorem mb_X7_growGap_91 {p : Program} {l : Launch} {e : Env} {s : State} {m : MethodId} {args : Array Value} {below : List Frame} {meth : Method} {c : Code} {D : va_G} {cy : Nat → ClassId} {A : Nat → Prop} {o : Nat} {ad : Nat → Nat} (S : CallFix p m c cX7_growGap 6 s args z_T RX7) (hlk : meth.locks = false) (hr : meth.sig.returnType = none) (hE : z_EM D cy s) {post : z_Md → Prop}  (M : z_Md) (x1 : Int32) (x2 : Int32) (x3 : Int32) (x4 : Int32) (x5 : Int32) (z0 : Int32) (z1 : Int32) (hw : w_X7_growGap_91 post M x1 x2 x3 x4 x5 z0 z1) : z_V A (z_hM D cy A o ad) p l e rm_X7_growGap s m args below meth c 6 (MQ below (va_Qv post (fun (u' : z_Md) t => z_hM D cy A o ad u' t.heap) A) args s 0 0 A) 0 0 M 91 [(0, va_rf (some o)), (1, .int x1), (2, .int x2), (3, .int x3), (4, .int x4), (5, .int x5)] [.int z0, .int z1, va_rf (some o)] := by
  refine z_callVi (As := [.int z1, .int z0]) (st := []) S (z_EMok D cy A) hE (me_X7_isPaid l D cy A o ad _ M z1 z0 hw) gV_X7_141 hdV_X7_isPaid ⟨Nat.le_of_ble_eq_true rfl, Nat.le_of_ble_eq_true rfl⟩ rfl rfl (z_recvM hE) (fun _ h => h) (fun _ _ _ _ h => h) rfl (Nat.le_trans z_s0 (by decide)) dX7_growGap_91 ⟨Nat.le_of_ble_eq_true rfl, Nat.le_of_ble_eq_true rfl⟩ rfl (fun r2 M1 hw => ?_)
  refine z_if_ne S 105 dX7_growGap_94 (by decide) (fun c3 => ?_) (fun c3 => ?_)
  · have hw := hw.1 c3
    refine z_aload_n (x := some o) S 0 dX7_growGap_105 rfl rfl ?_
    refine zm_g_19 S hE dX7_growGap_106 ?_
    refine z_iload S 4 dX7_growGap_109 rfl ?_
    refine z_iload S 5 dX7_growGap_111 rfl ?_
    obtain ⟨hi7, hw⟩ := hw
    refine z_mast (j := 4) S hE rfl rfl hi7 dX7_growGap_113 ?_
    refine z_iload_n S 3 dX7_growGap_114 rfl rfl ?_
    refine z_if_eq S 123 dX7_growGap_115 (by decide) (fun c4 => ?_) (fun c4 => ?_)
    · have hw := hw.1 c4
      refine z_lv (lv' := [(0, va_rf (some o)), (1, .int x1)]) [0, 1] rfl ?_
      exact mb_X7_growGap_123 S hlk hr hE (z_up M1 4 x4.toNatClampNeg x5) x1 hw
    · have hw := hw.2 c4
      refine z_aload_n (x := some o) S 0 dX7_growGap_118 rfl rfl ?_
      refine z_iload_n S 2 dX7_growGap_119 rfl rfl ?_
      refine z_callVv (As := [.int x2]) (st := []) S (z_EMok D cy A) hE (me_X7_dropLast l D cy A o ad _ (z_up M1 4 x4.toNatClampNeg x5) x2 hw) gV_X7_152 hdV_X7_dropLast ⟨Nat.le_of_ble_eq_true rfl, Nat.le_of_ble_eq_true rfl⟩ rfl rfl (z_recvM hE) (fun _ h => h) (fun _ _ _ _ h => h) rfl (Nat.le_trans z_s0 (by decide)) dX7_growGap_120 ⟨Nat.le_of_ble_eq_true rfl, Nat.le_of_ble_eq_true rfl⟩ rfl (fun M5 hw => ?_)
      refine z_lv (lv' := [(0, va_rf (some o)), (1, .int x1)]) [0, 1] rfl ?_
      exact mb_X7_growGap_123 S hlk hr hE M5 x1 hw
  · have hw := hw.2 c3
    refine z_aload_n (x := some o) S 0 dX7_growGap_97 rfl rfl ?_
    refine zm_g_71 S hE dX7_growGap_98 ?_
    refine z_iload_n S 1 dX7_growGap_101 rfl rfl ?_
    refine z_iconst (v := 1) S dX7_growGap_102 (by decide) ?_
    obtain ⟨hi8, hw⟩ := hw
    refine z_mzst (j := 24) S hE rfl rfl hi8 rfl dX7_growGap_103 ?_
    exact z_vret S hr hlk dX7_growGap_104 (Nat.le_refl 0) (Nat.le_refl 0) hw
set_option maxRecDepth 20000 in
theorem mb_X7_growGap {p : Program} {l : Launch} {e : Env} {s : State} {m : MethodId} {args : Array Value} {below : List Frame} {meth : Method} {c : Code} {D : va_G} {cy : Nat → ClassId} {A : Nat → Prop} {o : Nat} {ad : Nat → Nat} (S : CallFix p m c cX7_growGap 6 s args z_T RX7) (hlk : meth.locks = false) (hr : meth.sig.returnType = none) (hE : z_EM D cy s) {post : z_Md → Prop}  (M : z_Md) (x1 : Int32) (hw : w_X7_growGap post M x1) : z_V A (z_hM D cy A o ad) p l e rm_X7_growGap s m args below meth c 6 (MQ below (va_Qv post (fun (u' : z_Md) t => z_hM D cy A o ad u' t.heap) A) args s 0 0 A) 0 0 M 0 [(0, va_rf (some o)), (1, .int x1)] [] := by
  refine z_aload_n (x := some o) S 0 dX7_growGap_0 rfl rfl ?_
  refine zm_g_68 S hE dX7_growGap_1 ?_
  refine z_iload_n S 1 dX7_growGap_4 rfl rfl ?_
  obtain ⟨hi19, hw⟩ := hw
  refine z_mald (j := 23) S hE rfl rfl hi19 dX7_growGap_5 ?_
  refine z_top (fun x2_1 ex2_1 => ?_)
  have hw := hw x2_1 ex2_1
  refine z_istore_n S [(2, .int x2_1), (0, va_rf (some o)), (1, .int x1)] dX7_growGap_6 rfl (by decide) rfl ?_
  refine z_lv (lv' := [(0, va_rf (some o)), (1, .int x1), (2, .int x2_1)]) [1, 2, 0] rfl ?_
  refine z_aload_n (x := some o) S 0 dX7_growGap_7 rfl rfl ?_
  refine zm_g_80 S hE dX7_growGap_8 ?_
  refine z_iload_n S 1 dX7_growGap_11 rfl rfl ?_
  obtain ⟨hi18, hw⟩ := hw
  refine z_mald (j := 27) S hE rfl rfl hi18 dX7_growGap_12 ?_
  refine z_iconst (v := 2) S dX7_growGap_13 (by decide) ?_
  suffices hJ : ∀ y2 : Int32, y2 = (if (M 27 x1.toNatClampNeg) = 2 then 1 else 0) → z_V A (z_hM D cy A o ad) p l e rm_X7_growGap s m args below meth c 6 (MQ below (va_Qv post (fun (u' : z_Md) t => z_hM D cy A o ad u' t.heap) A) args s 0 0 A) 0 0 M 22 [(0, va_rf (some o)), (1, .int x1), (2, .int x2_1)] [.int y2] from by
    refine z_icmp_ne S 21 dX7_growGap_14 (by decide) (fun c17 => ?_) (fun c17 => ?_)
    · refine z_iconst (v := 0) S dX7_growGap_21 (by decide) ?_
      exact hJ _ (by rw [if_neg c17])
    · refine z_iconst (v := 1) S dX7_growGap_17 (by decide) ?_
      refine z_goto S 22 dX7_growGap_18 (by decide) ?_
      exact hJ _ (by rw [if_pos c17])
  intro y2 ey2
  have hw := hw y2 ey2
  refine z_istore_n S [(3, .int y2), (0, va_rf (some o)), (1, .int x1), (2, .int x2_1)] dX7_growGap_22 rfl (by decide) rfl ?_
  refine z_lv (lv' := [(0, va_rf (some o)), (1, .int x1), (2, .int x2_1), (3, .int y2)]) [1, 2, 3, 0] rfl ?_
  refine z_aload_n (x := some o) S 0 dX7_growGap_23 rfl rfl ?_
  refine z_iload_n S 2 dX7_growGap_24 rfl rfl ?_
  refine z_aload_n (x := some o) S 0 dX7_growGap_25 rfl rfl ?_
  refine zm_g_35 S hE dX7_growGap_26 ?_
  refine z_iload_n S 2 dX7_growGap_29 rfl rfl ?_
  obtain ⟨hi16, hw⟩ := hw
  refine z_mald (j := 9) S hE rfl rfl hi16 dX7_growGap_30 ?_
  refine z_iload_n S 3 dX7_growGap_31 rfl rfl ?_
  suffices hJ : ∀ y3 : Int32, y3 = (if y2 = 0 then 1 else 2) → z_V A (z_hM D cy A o ad) p l e rm_X7_growGap s m args below meth c 6 (MQ below (va_Qv post (fun (u' : z_Md) t => z_hM D cy A o ad u' t.heap) A) args s 0 0 A) 0 0 M 40 [(0, va_rf (some o)), (1, .int x1), (2, .int x2_1), (3, .int y2)] [.int y3, .int (M 9 x2_1.toNatClampNeg), .int x2_1, va_rf (some o)] from by
    refine z_if_eq S 39 dX7_growGap_32 (by decide) (fun c15 => ?_) (fun c15 => ?_)
    · refine z_iconst (v := 1) S dX7_growGap_39 (by decide) ?_
      exact hJ _ (by rw [if_pos c15])
    · refine z_iconst (v := 2) S dX7_growGap_35 (by decide) ?_
      refine z_goto S 40 dX7_growGap_36 (by decide) ?_
      exact hJ _ (by rw [if_neg c15])
  intro y3 ey3
  have hw := hw y3 ey3
  refine z_isub S dX7_growGap_40 ?_
  refine z_callVi (As := [.int x2_1, .int ((M 9 x2_1.toNatClampNeg) - y3)]) (st := []) S (z_EMok D cy A) hE (me_X7_entryAt l D cy A o ad _ M x2_1 ((M 9 x2_1.toNatClampNeg) - y3) hw) gV_X7_107 hdV_X7_entryAt ⟨Nat.le_of_ble_eq_true rfl, Nat.le_of_ble_eq_true rfl⟩ rfl rfl (z_recvM hE) (fun _ h => h) (fun _ _ _ _ h => h) rfl (Nat.le_trans z_s0 (by decide)) dX7_growGap_41 ⟨Nat.le_of_ble_eq_true rfl, Nat.le_of_ble_eq_true rfl⟩ rfl (fun r5 M4 hw => ?_)
  refine z_istore S [(4, .int r5), (0, va_rf (some o)), (1, .int x1), (2, .int x2_1), (3, .int y2)] dX7_growGap_44 (by decide) rfl ?_
  refine z_lv (lv' := [(0, va_rf (some o)), (1, .int x1), (2, .int x2_1), (3, .int y2), (4, .int r5)]) [1, 2, 3, 4, 0] rfl ?_
  refine z_iload_n S 3 dX7_growGap_46 rfl rfl ?_
  obtain ⟨hob, hw⟩ := hw
  suffices hJ : ∀ y6 : Int32, y6 = (if y2 = 0 then (M4 4 r5.toNatClampNeg) + 1 else 3) → z_V A (z_hM D cy A o ad) p l e rm_X7_growGap s m args below meth c 6 (MQ below (va_Qv post (fun (u' : z_Md) t => z_hM D cy A o ad u' t.heap) A) args s 0 0 A) 0 0 M4 63 [(0, va_rf (some o)), (1, .int x1), (2, .int x2_1), (3, .int y2), (4, .int r5)] [.int y6] from by
    refine z_if_eq S 54 dX7_growGap_47 (by decide) (fun c13 => ?_) (fun c13 => ?_)
    · have hob := hob c13
      refine z_aload_n (x := some o) S 0 dX7_growGap_54 rfl rfl ?_
      refine zm_g_19 S hE dX7_growGap_55 ?_
      refine z_iload S 4 dX7_growGap_58 rfl ?_
      have hi14 := hob
      refine z_mald (j := 4) S hE rfl rfl hi14 dX7_growGap_60 ?_
      refine z_iconst (v := 1) S dX7_growGap_61 (by decide) ?_
      refine z_iadd S dX7_growGap_62 ?_
      exact hJ _ (by rw [if_pos c13])
    · refine z_iconst (v := 3) S dX7_growGap_50 (by decide) ?_
      refine z_goto S 63 dX7_growGap_51 (by decide) ?_
      exact hJ _ (by rw [if_neg c13])
  intro y6 ey6
  have hw := hw y6 ey6
  refine z_istore S [(5, .int y6), (0, va_rf (some o)), (1, .int x1), (2, .int x2_1), (3, .int y2), (4, .int r5)] dX7_growGap_63 (by decide) rfl ?_
  refine z_lv (lv' := [(0, va_rf (some o)), (1, .int x1), (2, .int x2_1), (3, .int y2), (4, .int r5), (5, .int y6)]) [1, 2, 3, 4, 5, 0] rfl ?_
  refine z_aload_n (x := some o) S 0 dX7_growGap_65 rfl rfl ?_
  refine z_iload_n S 1 dX7_growGap_66 rfl rfl ?_
  refine z_iload_n S 3 dX7_growGap_67 rfl rfl ?_
  refine z_if_eq S 75 dX7_growGap_68 (by decide) (fun c7 => ?_) (fun c7 => ?_)
  · have hw := hw.1 c7
    refine z_iload S 5 dX7_growGap_75 rfl ?_
    refine z_callSi (As := [.int y6]) (st := [.int x1, va_rf (some o)]) S (z_EMok D cy A) hE (me_X7_costOfGap l D cy A o ad _ M4 y6 hw) gS_X7_115 hdS_X7_costOfGap ⟨Nat.le_of_ble_eq_true rfl, Nat.le_of_ble_eq_true rfl⟩ rfl rfl (fun _ h => h) (fun _ _ _ _ h => h) rfl (Nat.le_trans (z_s1 (z_sq z_s0)) (by decide)) dX7_growGap_77 ⟨Nat.le_of_ble_eq_true rfl, Nat.le_of_ble_eq_true rfl⟩ rfl (fun r9 M8 hw => ?_)
    refine z_aload_n (x := some o) S 0 dX7_growGap_80 rfl rfl ?_
    refine zm_g_19 S hE dX7_growGap_81 ?_
    refine z_iload S 4 dX7_growGap_84 rfl ?_
    obtain ⟨hi12, hw⟩ := hw
    refine z_mald (j := 4) S hE rfl rfl hi12 dX7_growGap_86 ?_
    refine z_callSi (As := [.int (M8 4 r5.toNatClampNeg)]) (st := [.int r9, .int x1, va_rf (some o)]) S (z_EMok D cy A) hE (me_X7_costOfGap l D cy A o ad _ M8 (M8 4 r5.toNatClampNeg) hw) gS_X7_115 hdS_X7_costOfGap ⟨Nat.le_of_ble_eq_true rfl, Nat.le_of_ble_eq_true rfl⟩ rfl rfl (fun _ h => h) (fun _ _ _ _ h => h) rfl (Nat.le_trans (z_s1 (z_s1 (z_sq z_s0))) (by decide)) dX7_growGap_87 ⟨Nat.le_of_ble_eq_true rfl, Nat.le_of_ble_eq_true rfl⟩ rfl (fun r11 M10 hw => ?_)
    refine z_isub S dX7_growGap_90 ?_
    exact mb_X7_growGap_91 S hlk hr hE M10 x1 x2_1 y2 r5 y6 (r9 - r11) x1 hw
  · have hw := hw.2 c7
    refine z_iconst (v := (-1)) S dX7_growGap_71 (by decide) ?_
    refine z_goto S 91 dX7_growGap_72 (by decide) ?_
    exact mb_X7_growGap_91 S hlk hr hE M4 x1 x2_1 y2 r5 y6 (-1) x1 hw
theorem me_X7_growGap (l : Launch) (D : va_G) (cy : Nat → ClassId) (A : Nat → Prop) (o : Nat) (ad : Nat → Nat) (post : z_Md → Prop) (M : z_Md) (x1 : Int32) (hw : w_X7_growGap post M x1) : z_Mv l yX7_growGap (Cond.code yX7_growGap cX7_growGap 6 none :: z_T) rm_X7_growGap [.ref o, .int x1] (z_EM D cy) (z_hM D cy A o ad) M post 0 0 A :=
  z_met (by decide) (Nat.le_of_ble_eq_true rfl) (fun p e s m args below meth c S hlk hr hnm hE => mb_X7_growGap S hlk hr hE M x1 hw)
abbrev rm_X7_frame : Room := { frames := 5, cells := 0, slots := 0, locals := 118 }
def w_X7_frame_80 (post : z_Md → Prop) (M : z_Md) (x1 : Int32) (x2 : Int32) : Prop := (vp_in x1 3 ∧ ((¬ 3 ≤ (M 27 x1.toNatClampNeg) → vp_in x1 3) ∧ (∀ y1 : Int32, y1 = (if 3 ≤ (M 27 x1.toNatClampNeg) then 3 else (M 27 x1.toNatClampNeg) + 1) → (∀ y2 : Int32, y2 = (if x2 = 0 then 0 else y1) → (vp_in x1 3 ∧ (vp_in x1 3 ∧ (post (z_up (z_up M 27 x1.toNatClampNeg y2) 25 x1.toNatClampNeg 0))))))))
def w_X7_frame_75 (post : z_Md → Prop) (M : z_Md) (x1 : Int32) (x2 : Int32) : Prop := (w_X7_codeFrame (fun M1 => (w_X7_frame_80 post M1 x1 x2)) M x1)
def w_X7_frame_4 (post : z_Md → Prop) : Nat → z_Md → Int32 → Int32 → Int32 → Prop
  | 0 => fun _ _ _ _ => False
  | n + 1 => fun M x1 x2 x3 => ((8 ≤ x3 → ((x2 = 0 → (w_X7_frame_75 post M x1 x2)) ∧ (¬ x2 = 0 → (vp_in x1 3 ∧ (((M 27 x1.toNatClampNeg) < 2 → (w_X7_frame_75 post M x1 x2)) ∧ (¬ (M 27 x1.toNatClampNeg) < 2 → (w_X7_growGap (fun M4 => (w_X7_frame_80 post M4 x1 x2)) M x1))))))) ∧ (¬ 8 ≤ x3 → (vp_in ((8 * x1) + x3) 24 ∧ (∀ x4_7 : Int32, x4_7 = M 26 ((8 * x1) + x3).toNatClampNeg → (∀ y8 : Int32, y8 = (if x2 = 0 then 0 else (if x4_7 < (-48) then 0 else (if 48 < x4_7 then 0 else 1))) → (w_X7_frame_4 post n M x1 y8 (x3 + 1)))))))
def w_X7_frame (post : z_Md → Prop) (M : z_Md) (x1 : Int32) : Prop := (∃ n0 : Nat, w_X7_frame_4 post n0 M x1 1 0)
set_option maxRecDepth 20000 in
theorem mb_X7_frame_80 {p : Program} {l : Launch} {e : Env} {s : State} {m : MethodId} {args : Array Value} {below : List Frame} {meth : Method} {c : Code} {D : va_G} {cy : Nat → ClassId} {A : Nat → Prop} {o : Nat} {ad : Nat → Nat} (S : CallFix p m c cX7_frame 5 s args z_T RX7) (hlk : meth.locks = false) (hr : meth.sig.returnType = none) (hE : z_EM D cy s) {post : z_Md → Prop}  (M : z_Md) (x1 : Int32) (x2 : Int32) (hw : w_X7_frame_80 post M x1 x2) : z_V A (z_hM D cy A o ad) p l e rm_X7_frame s m args below meth c 5 (MQ below (va_Qv post (fun (u' : z_Md) t => z_hM D cy A o ad u' t.heap) A) args s 0 0 A) 0 0 M 80 [(0, va_rf (some o)), (1, .int x1), (2, .int x2)] [] := by
  refine z_aload_n (x := some o) S 0 dX7_frame_80 rfl rfl ?_
  refine zm_g_80 S hE dX7_frame_81 ?_
  refine z_iload_n S 1 dX7_frame_84 rfl rfl ?_
  obtain ⟨hi8, hw⟩ := hw
  refine z_mald (j := 27) S hE rfl rfl hi8 dX7_frame_85 ?_
  refine z_iconst (v := 3) S dX7_frame_86 (by decide) ?_
  obtain ⟨hob, hw⟩ := hw
  suffices hJ : ∀ y1 : Int32, y1 = (if 3 ≤ (M 27 x1.toNatClampNeg) then 3 else (M 27 x1.toNatClampNeg) + 1) → z_V A (z_hM D cy A o ad) p l e rm_X7_frame s m args below meth c 5 (MQ below (va_Qv post (fun (u' : z_Md) t => z_hM D cy A o ad u' t.heap) A) args s 0 0 A) 0 0 M 102 [(0, va_rf (some o)), (1, .int x1), (2, .int x2)] [.int y1] from by
    refine z_icmp_ge S 101 dX7_frame_87 (by decide) (fun c6 => ?_) (fun c6 => ?_)
    · refine z_iconst (v := 3) S dX7_frame_101 (by decide) ?_
      exact hJ _ (by rw [if_pos c6])
    · have hob := hob c6
      refine z_aload_n (x := some o) S 0 dX7_frame_90 rfl rfl ?_
      refine zm_g_80 S hE dX7_frame_91 ?_
      refine z_iload_n S 1 dX7_frame_94 rfl rfl ?_
      have hi7 := hob
      refine z_mald (j := 27) S hE rfl rfl hi7 dX7_frame_95 ?_
      refine z_iconst (v := 1) S dX7_frame_96 (by decide) ?_
      refine z_iadd S dX7_frame_97 ?_
      refine z_goto S 102 dX7_frame_98 (by decide) ?_
      exact hJ _ (by rw [if_neg c6])
  intro y1 ey1
  have hw := hw y1 ey1
  refine z_istore_n S [(3, .int y1), (0, va_rf (some o)), (1, .int x1), (2, .int x2)] dX7_frame_102 rfl (by decide) rfl ?_
  refine z_lv (lv' := [(0, va_rf (some o)), (1, .int x1), (2, .int x2), (3, .int y1)]) [1, 2, 3, 0] rfl ?_
  refine z_aload_n (x := some o) S 0 dX7_frame_103 rfl rfl ?_
  refine zm_g_80 S hE dX7_frame_104 ?_
  refine z_iload_n S 1 dX7_frame_107 rfl rfl ?_
  refine z_iload_n S 2 dX7_frame_108 rfl rfl ?_
  suffices hJ : ∀ y2 : Int32, y2 = (if x2 = 0 then 0 else y1) → z_V A (z_hM D cy A o ad) p l e rm_X7_frame s m args below meth c 5 (MQ below (va_Qv post (fun (u' : z_Md) t => z_hM D cy A o ad u' t.heap) A) args s 0 0 A) 0 0 M 117 [(0, va_rf (some o)), (1, .int x1)] [.int y2, .int x1, .ref (ad 27)] from by
    refine z_if_eq S 116 dX7_frame_109 (by decide) (fun c5 => ?_) (fun c5 => ?_)
    · refine z_iconst (v := 0) S dX7_frame_116 (by decide) ?_
      refine z_lv (lv' := [(0, va_rf (some o)), (1, .int x1)]) [0, 1] rfl ?_
      exact hJ _ (by rw [if_pos c5])
    · refine z_iload_n S 3 dX7_frame_112 rfl rfl ?_
      refine z_goto S 117 dX7_frame_113 (by decide) ?_
      refine z_lv (lv' := [(0, va_rf (some o)), (1, .int x1)]) [0, 1] rfl ?_
      exact hJ _ (by rw [if_neg c5])
  intro y2 ey2
  have hw := hw y2 ey2
  obtain ⟨hi4, hw⟩ := hw
  refine z_mast (j := 27) S hE rfl rfl hi4 dX7_frame_117 ?_
  refine z_aload_n (x := some o) S 0 dX7_frame_118 rfl rfl ?_
  refine zm_g_74 S hE dX7_frame_119 ?_
  refine z_iload_n S 1 dX7_frame_122 rfl rfl ?_
  refine z_iconst (v := 0) S dX7_frame_123 (by decide) ?_
  obtain ⟨hi3, hw⟩ := hw
  refine z_mast (j := 25) S hE rfl rfl hi3 dX7_frame_124 ?_
  exact z_vret S hr hlk dX7_frame_125 (Nat.le_refl 0) (Nat.le_refl 0) hw
set_option maxRecDepth 20000 in
theorem mb_X7_frame_75 {p : Program} {l : Launch} {e : Env} {s : State} {m : MethodId} {args : Array Value} {below : List Frame} {meth : Method} {c : Code} {D : va_G} {cy : Nat → ClassId} {A : Nat → Prop} {o : Nat} {ad : Nat → Nat} (S : CallFix p m c cX7_frame 5 s args z_T RX7) (hlk : meth.locks = false) (hr : meth.sig.returnType = none) (hE : z_EM D cy s) {post : z_Md → Prop}  (M : z_Md) (x1 : Int32) (x2 : Int32) (hw : w_X7_frame_75 post M x1 x2) : z_V A (z_hM D cy A o ad) p l e rm_X7_frame s m args below meth c 5 (MQ below (va_Qv post (fun (u' : z_Md) t => z_hM D cy A o ad u' t.heap) A) args s 0 0 A) 0 0 M 75 [(0, va_rf (some o)), (1, .int x1), (2, .int x2)] [] := by
  refine z_aload_n (x := some o) S 0 dX7_frame_75 rfl rfl ?_
  refine z_iload_n S 1 dX7_frame_76 rfl rfl ?_
  refine z_callVv (As := [.int x1]) (st := []) S (z_EMok D cy A) hE (me_X7_codeFrame l D cy A o ad _ M x1 hw) gV_X7_158 hdV_X7_codeFrame ⟨Nat.le_of_ble_eq_true rfl, Nat.le_of_ble_eq_true rfl⟩ rfl rfl (z_recvM hE) (fun _ h => h) (fun _ _ _ _ h => h) rfl (Nat.le_trans z_s0 (by decide)) dX7_frame_77 ⟨Nat.le_of_ble_eq_true rfl, Nat.le_of_ble_eq_true rfl⟩ rfl (fun M1 hw => ?_)
  exact mb_X7_frame_80 S hlk hr hE M1 x1 x2 hw
set_option maxRecDepth 20000 in
theorem mb_X7_frame_4 {p : Program} {l : Launch} {e : Env} {s : State} {m : MethodId} {args : Array Value} {below : List Frame} {meth : Method} {c : Code} {D : va_G} {cy : Nat → ClassId} {A : Nat → Prop} {o : Nat} {ad : Nat → Nat} (S : CallFix p m c cX7_frame 5 s args z_T RX7) (hlk : meth.locks = false) (hr : meth.sig.returnType = none) (hE : z_EM D cy s) {post : z_Md → Prop}  : ∀ (n : Nat) (M : z_Md) (x1 : Int32) (x2 : Int32) (x3 : Int32), w_X7_frame_4 post n M x1 x2 x3 → z_V A (z_hM D cy A o ad) p l e rm_X7_frame s m args below meth c 5 (MQ below (va_Qv post (fun (u' : z_Md) t => z_hM D cy A o ad u' t.heap) A) args s 0 0 A) 0 0 M 4 [(0, va_rf (some o)), (1, .int x1), (2, .int x2), (3, .int x3)] [] := by
  intro n
  induction n with
  | zero => intro M x1 x2 x3 hw; exact hw.elim
  | succ n ih =>
    intro M x1 x2 x3 hw
    refine z_iload_n S 3 dX7_frame_4 rfl rfl ?_
    refine z_bipush (v := 8) S dX7_frame_5 (by decide) ?_
    refine z_icmp_ge S 53 dX7_frame_7 (by decide) (fun c1 => ?_) (fun c1 => ?_)
    · have hw := hw.1 c1
      refine z_iload_n S 2 dX7_frame_53 rfl rfl ?_
      refine z_if_eq S 75 dX7_frame_54 (by decide) (fun c2 => ?_) (fun c2 => ?_)
      · have hw := hw.1 c2
        refine z_lv (lv' := [(0, va_rf (some o)), (1, .int x1), (2, .int x2)]) [0, 1, 2] rfl ?_
        exact mb_X7_frame_75 S hlk hr hE M x1 x2 hw
      · have hw := hw.2 c2
        refine z_aload_n (x := some o) S 0 dX7_frame_57 rfl rfl ?_
        refine zm_g_80 S hE dX7_frame_58 ?_
        refine z_iload_n S 1 dX7_frame_61 rfl rfl ?_
        obtain ⟨hi6, hw⟩ := hw
        refine z_mald (j := 27) S hE rfl rfl hi6 dX7_frame_62 ?_
        refine z_iconst (v := 2) S dX7_frame_63 (by decide) ?_
        refine z_icmp_lt S 75 dX7_frame_64 (by decide) (fun c3 => ?_) (fun c3 => ?_)
        · have hw := hw.1 c3
          refine z_lv (lv' := [(0, va_rf (some o)), (1, .int x1), (2, .int x2)]) [0, 1, 2] rfl ?_
          exact mb_X7_frame_75 S hlk hr hE M x1 x2 hw
        · have hw := hw.2 c3
          refine z_aload_n (x := some o) S 0 dX7_frame_67 rfl rfl ?_
          refine z_iload_n S 1 dX7_frame_68 rfl rfl ?_
          refine z_callVv (As := [.int x1]) (st := []) S (z_EMok D cy A) hE (me_X7_growGap l D cy A o ad _ M x1 hw) gV_X7_155 hdV_X7_growGap ⟨Nat.le_of_ble_eq_true rfl, Nat.le_of_ble_eq_true rfl⟩ rfl rfl (z_recvM hE) (fun _ h => h) (fun _ _ _ _ h => h) rfl (Nat.le_trans z_s0 (by decide)) dX7_frame_69 ⟨Nat.le_of_ble_eq_true rfl, Nat.le_of_ble_eq_true rfl⟩ rfl (fun M4 hw => ?_)
          refine z_goto S 80 dX7_frame_72 (by decide) ?_
          refine z_lv (lv' := [(0, va_rf (some o)), (1, .int x1), (2, .int x2)]) [0, 1, 2] rfl ?_
          exact mb_X7_frame_80 S hlk hr hE M4 x1 x2 hw
    · have hw := hw.2 c1
      refine z_aload_n (x := some o) S 0 dX7_frame_10 rfl rfl ?_
      refine zm_g_77 S hE dX7_frame_11 ?_
      refine z_bipush (v := 8) S dX7_frame_14 (by decide) ?_
      refine z_iload_n S 1 dX7_frame_16 rfl rfl ?_
      refine z_imul S dX7_frame_17 ?_
      refine z_iload_n S 3 dX7_frame_18 rfl rfl ?_
      refine z_iadd S dX7_frame_19 ?_
      obtain ⟨hi12, hw⟩ := hw
      refine z_mald (j := 26) S hE rfl rfl hi12 dX7_frame_20 ?_
      refine z_top (fun x4_7 ex4_7 => ?_)
      have hw := hw x4_7 ex4_7
      refine z_istore S [(4, .int x4_7), (0, va_rf (some o)), (1, .int x1), (2, .int x2), (3, .int x3)] dX7_frame_21 (by decide) rfl ?_
      refine z_lv (lv' := [(0, va_rf (some o)), (1, .int x1), (2, .int x2), (3, .int x3), (4, .int x4_7)]) [1, 2, 3, 4, 0] rfl ?_
      refine z_iload_n S 2 dX7_frame_23 rfl rfl ?_
      suffices hJ : ∀ y8 : Int32, y8 = (if x2 = 0 then 0 else (if x4_7 < (-48) then 0 else (if 48 < x4_7 then 0 else 1))) → z_V A (z_hM D cy A o ad) p l e rm_X7_frame s m args below meth c 5 (MQ below (va_Qv post (fun (u' : z_Md) t => z_hM D cy A o ad u' t.heap) A) args s 0 0 A) 0 0 M 46 [(0, va_rf (some o)), (1, .int x1), (3, .int x3)] [.int y8] from by
        refine z_if_eq S 45 dX7_frame_24 (by decide) (fun c9 => ?_) (fun c9 => ?_)
        · refine z_iconst (v := 0) S dX7_frame_45 (by decide) ?_
          refine z_lv (lv' := [(0, va_rf (some o)), (1, .int x1), (3, .int x3)]) [0, 1, 3] rfl ?_
          exact hJ _ (by rw [if_pos c9])
        · refine z_iload S 4 dX7_frame_27 rfl ?_
          refine z_bipush (v := (-48)) S dX7_frame_29 (by decide) ?_
          refine z_icmp_lt S 45 dX7_frame_31 (by decide) (fun c10 => ?_) (fun c10 => ?_)
          · refine z_iconst (v := 0) S dX7_frame_45 (by decide) ?_
            refine z_lv (lv' := [(0, va_rf (some o)), (1, .int x1), (3, .int x3)]) [0, 1, 3] rfl ?_
            exact hJ _ (by rw [if_neg c9, if_pos c10])
          · refine z_iload S 4 dX7_frame_34 rfl ?_
            refine z_bipush (v := 48) S dX7_frame_36 (by decide) ?_
            refine z_icmp_gt S 45 dX7_frame_38 (by decide) (fun c11 => ?_) (fun c11 => ?_)
            · refine z_iconst (v := 0) S dX7_frame_45 (by decide) ?_
              refine z_lv (lv' := [(0, va_rf (some o)), (1, .int x1), (3, .int x3)]) [0, 1, 3] rfl ?_
              exact hJ _ (by rw [if_neg c9, if_neg c10, if_pos c11])
            · refine z_iconst (v := 1) S dX7_frame_41 (by decide) ?_
              refine z_goto S 46 dX7_frame_42 (by decide) ?_
              refine z_lv (lv' := [(0, va_rf (some o)), (1, .int x1), (3, .int x3)]) [0, 1, 3] rfl ?_
              exact hJ _ (by rw [if_neg c9, if_neg c10, if_neg c11])
      intro y8 ey8
      have hw := hw y8 ey8
      refine z_istore_n S [(2, .int y8), (0, va_rf (some o)), (1, .int x1), (3, .int x3)] dX7_frame_46 rfl (by decide) rfl ?_
      refine z_lv (lv' := [(0, va_rf (some o)), (1, .int x1), (2, .int y8), (3, .int x3)]) [1, 2, 0, 3] rfl ?_
      refine z_iinc (v := x3 + 1) (pl := 3) S [(3, .int (x3 + 1)), (0, va_rf (some o)), (1, .int x1), (2, .int y8)] dX7_frame_47 rfl rfl (by decide) rfl ?_
      refine z_lv (lv' := [(0, va_rf (some o)), (1, .int x1), (2, .int y8), (3, .int (x3 + 1))]) [1, 2, 3, 0] rfl ?_
      refine z_goto S 4 dX7_frame_50 (by decide) ?_
      exact ih M x1 y8 (x3 + 1) hw
set_option maxRecDepth 20000 in
theorem mb_X7_frame {p : Program} {l : Launch} {e : Env} {s : State} {m : MethodId} {args : Array Value} {below : List Frame} {meth : Method} {c : Code} {D : va_G} {cy : Nat → ClassId} {A : Nat → Prop} {o : Nat} {ad : Nat → Nat} (S : CallFix p m c cX7_frame 5 s args z_T RX7) (hlk : meth.locks = false) (hr : meth.sig.returnType = none) (hE : z_EM D cy s) {post : z_Md → Prop}  (M : z_Md) (x1 : Int32) (hw : w_X7_frame post M x1) : z_V A (z_hM D cy A o ad) p l e rm_X7_frame s m args below meth c 5 (MQ below (va_Qv post (fun (u' : z_Md) t => z_hM D cy A o ad u' t.heap) A) args s 0 0 A) 0 0 M 0 [(0, va_rf (some o)), (1, .int x1)] [] := by
  refine z_iconst (v := 1) S dX7_frame_0 (by decide) ?_
  refine z_istore_n S [(2, .int 1), (0, va_rf (some o)), (1, .int x1)] dX7_frame_1 rfl (by decide) rfl ?_
  refine z_lv (lv' := [(0, va_rf (some o)), (1, .int x1), (2, .int 1)]) [1, 2, 0] rfl ?_
  refine z_iconst (v := 0) S dX7_frame_2 (by decide) ?_
  refine z_istore_n S [(3, .int 0), (0, va_rf (some o)), (1, .int x1), (2, .int 1)] dX7_frame_3 rfl (by decide) rfl ?_
  refine z_lv (lv' := [(0, va_rf (some o)), (1, .int x1), (2, .int 1), (3, .int 0)]) [1, 2, 3, 0] rfl ?_
  obtain ⟨n0, hw⟩ := hw
  exact mb_X7_frame_4 S hlk hr hE n0 M x1 1 0 hw
theorem me_X7_frame (l : Launch) (D : va_G) (cy : Nat → ClassId) (A : Nat → Prop) (o : Nat) (ad : Nat → Nat) (post : z_Md → Prop) (M : z_Md) (x1 : Int32) (hw : w_X7_frame post M x1) : z_Mv l yX7_frame (Cond.code yX7_frame cX7_frame 5 none :: z_T) rm_X7_frame [.ref o, .int x1] (z_EM D cy) (z_hM D cy A o ad) M post 0 0 A :=
  z_met (by decide) (Nat.le_of_ble_eq_true rfl) (fun p e s m args below meth c S hlk hr hnm hE => mb_X7_frame S hlk hr hE M x1 hw)
abbrev rm_X7_sample : Room := { frames := 6, cells := 0, slots := 0, locals := 142 }
def w_X7_sample_118 (post : Int32 → z_Md → Prop) (M : z_Md) (x1 : Int32) : Prop := (vp_in x1 3 ∧ (narrow .boolean (.int (M 24 x1.toNatClampNeg)) = .int (M 24 x1.toNatClampNeg) ∧ (post (M 24 x1.toNatClampNeg) M)))
def w_X7_sample (post : Int32 → z_Md → Prop) (M : z_Md) (x1 : Int32) (x2 : Int32) : Prop := (w_X7_isLine (fun r2 M1 => ((¬ r2 = 0 → vp_in x1 3) ∧ (∀ y3 : Int32, y3 = (if r2 = 0 then 1 else (if (M1 20 x1.toNatClampNeg) = 0 then 2 else 0)) → ((((z_up M1 0 0 y3) 0 0) ≤ 0 → (vp_in x1 3 ∧ ((((z_up M1 0 0 y3) 24 x1.toNatClampNeg) = 0 → (vp_in x1 3 ∧ (∀ y6 : Int32, y6 = (if (-32768) ≤ x2 then (if x2 ≤ 32767 then x2 else 32767) else (-32768)) → (vp_in ((8 * x1) + ((z_up M1 0 0 y3) 25 x1.toNatClampNeg)) 24 ∧ (vp_in x1 3 ∧ (vp_in x1 3 ∧ (vp_in x1 3 ∧ ((¬ ((z_up (z_up (z_up M1 0 0 y3) 26 ((8 * x1) + ((z_up M1 0 0 y3) 25 x1.toNatClampNeg)).toNatClampNeg y6) 25 x1.toNatClampNeg (((z_up (z_up M1 0 0 y3) 26 ((8 * x1) + ((z_up M1 0 0 y3) 25 x1.toNatClampNeg)).toNatClampNeg y6) 25 x1.toNatClampNeg) + 1)) 25 x1.toNatClampNeg) = 8 → (w_X7_sample_118 post (z_up (z_up (z_up M1 0 0 y3) 26 ((8 * x1) + ((z_up M1 0 0 y3) 25 x1.toNatClampNeg)).toNatClampNeg y6) 25 x1.toNatClampNeg (((z_up (z_up M1 0 0 y3) 26 ((8 * x1) + ((z_up M1 0 0 y3) 25 x1.toNatClampNeg)).toNatClampNeg y6) 25 x1.toNatClampNeg) + 1)) x1)) ∧ (((z_up (z_up (z_up M1 0 0 y3) 26 ((8 * x1) + ((z_up M1 0 0 y3) 25 x1.toNatClampNeg)).toNatClampNeg y6) 25 x1.toNatClampNeg (((z_up (z_up M1 0 0 y3) 26 ((8 * x1) + ((z_up M1 0 0 y3) 25 x1.toNatClampNeg)).toNatClampNeg y6) 25 x1.toNatClampNeg) + 1)) 25 x1.toNatClampNeg) = 8 → (w_X7_frame (fun M8 => (w_X7_sample_118 post M8 x1)) (z_up (z_up (z_up M1 0 0 y3) 26 ((8 * x1) + ((z_up M1 0 0 y3) 25 x1.toNatClampNeg)).toNatClampNeg y6) 25 x1.toNatClampNeg (((z_up (z_up M1 0 0 y3) 26 ((8 * x1) + ((z_up M1 0 0 y3) 25 x1.toNatClampNeg)).toNatClampNeg y6) 25 x1.toNatClampNeg) + 1)) x1)))))))))) ∧ (¬ ((z_up M1 0 0 y3) 24 x1.toNatClampNeg) = 0 → (post 1 (z_up M1 0 0 y3)))))) ∧ (¬ ((z_up M1 0 0 y3) 0 0) ≤ 0 → (post 0 (z_up M1 0 0 y3))))))) M x1)
set_option maxRecDepth 20000 in
theorem mb_X7_sample_118 {p : Program} {l : Launch} {e : Env} {s : State} {m : MethodId} {args : Array Value} {below : List Frame} {meth : Method} {c : Code} {D : va_G} {cy : Nat → ClassId} {A : Nat → Prop} {o : Nat} {ad : Nat → Nat} (S : CallFix p m c cX7_sample 3 s args z_T RX7) (hlk : meth.locks = false) (hr : meth.sig.returnType = some .boolean) (hE : z_EM D cy s) {post : Int32 → z_Md → Prop}  (M : z_Md) (x1 : Int32) (hw : w_X7_sample_118 post M x1) : z_V A (z_hM D cy A o ad) p l e rm_X7_sample s m args below meth c 3 (MQ below (va_Qi post (fun (u' : z_Md) t => z_hM D cy A o ad u' t.heap) A) args s 0 0 A) 0 0 M 118 [(0, va_rf (some o)), (1, .int x1)] [] := by
  refine z_aload_n (x := some o) S 0 dX7_sample_118 rfl rfl ?_
  refine zm_g_71 S hE dX7_sample_119 ?_
  refine z_iload_n S 1 dX7_sample_122 rfl rfl ?_
  obtain ⟨hi1, hw⟩ := hw
  refine z_mzld (j := 24) S hE rfl rfl hi1 dX7_sample_123 ?_
  exact z_zret S hr hlk dX7_sample_124 (Nat.le_refl 0) (Nat.le_refl 0) hw.1 hw.2
set_option maxRecDepth 20000 in
theorem mb_X7_sample {p : Program} {l : Launch} {e : Env} {s : State} {m : MethodId} {args : Array Value} {below : List Frame} {meth : Method} {c : Code} {D : va_G} {cy : Nat → ClassId} {A : Nat → Prop} {o : Nat} {ad : Nat → Nat} (S : CallFix p m c cX7_sample 3 s args z_T RX7) (hlk : meth.locks = false) (hr : meth.sig.returnType = some .boolean) (hE : z_EM D cy s) {post : Int32 → z_Md → Prop}  (M : z_Md) (x1 : Int32) (x2 : Int32) (hw : w_X7_sample post M x1 x2) : z_V A (z_hM D cy A o ad) p l e rm_X7_sample s m args below meth c 3 (MQ below (va_Qi post (fun (u' : z_Md) t => z_hM D cy A o ad u' t.heap) A) args s 0 0 A) 0 0 M 0 [(0, va_rf (some o)), (1, .int x1), (2, .int x2)] [] := by
  refine z_aload_n (x := some o) S 0 dX7_sample_0 rfl rfl ?_
  refine z_iload_n S 1 dX7_sample_1 rfl rfl ?_
  refine z_callSi (As := [.int x1]) (st := [va_rf (some o)]) S (z_EMok D cy A) hE (me_X7_isLine l D cy A o ad _ M x1 hw) gS_X7_127 hdS_X7_isLine ⟨Nat.le_of_ble_eq_true rfl, Nat.le_of_ble_eq_true rfl⟩ rfl rfl (fun _ h => h) (fun _ _ _ _ h => h) rfl (Nat.le_trans (z_sq z_s0) (by decide)) dX7_sample_2 ⟨Nat.le_of_ble_eq_true rfl, Nat.le_of_ble_eq_true rfl⟩ rfl (fun r2 M1 hw => ?_)
  obtain ⟨hob, hw⟩ := hw
  suffices hJ : ∀ y3 : Int32, y3 = (if r2 = 0 then 1 else (if (M1 20 x1.toNatClampNeg) = 0 then 2 else 0)) → z_V A (z_hM D cy A o ad) p l e rm_X7_sample s m args below meth c 3 (MQ below (va_Qi post (fun (u' : z_Md) t => z_hM D cy A o ad u' t.heap) A) args s 0 0 A) 0 0 M1 26 [(0, va_rf (some o)), (1, .int x1), (2, .int x2)] [.int y3, va_rf (some o)] from by
    refine z_if_ne S 12 dX7_sample_5 (by decide) (fun c18 => ?_) (fun c18 => ?_)
    · have hob := hob c18
      refine z_aload_n (x := some o) S 0 dX7_sample_12 rfl rfl ?_
      refine zm_g_59 S hE dX7_sample_13 ?_
      refine z_iload_n S 1 dX7_sample_16 rfl rfl ?_
      have hi19 := hob
      refine z_mzld (j := 20) S hE rfl rfl hi19 dX7_sample_17 ?_
      refine z_if_ne S 25 dX7_sample_18 (by decide) (fun c20 => ?_) (fun c20 => ?_)
      · refine z_iconst (v := 0) S dX7_sample_25 (by decide) ?_
        exact hJ _ (by rw [if_neg c18, if_neg c20])
      · refine z_iconst (v := 2) S dX7_sample_21 (by decide) ?_
        refine z_goto S 26 dX7_sample_22 (by decide) ?_
        exact hJ _ (by rw [if_neg c18, if_pos c20])
    · refine z_iconst (v := 1) S dX7_sample_8 (by decide) ?_
      refine z_goto S 26 dX7_sample_9 (by decide) ?_
      exact hJ _ (by rw [if_pos c18])
  intro y3 ey3
  have hw := hw y3 ey3
  refine zm_p_89 S hE dX7_sample_26 ?_
  refine z_aload_n (x := some o) S 0 dX7_sample_29 rfl rfl ?_
  refine zm_g_89 S hE dX7_sample_30 ?_
  refine z_if_le S 38 dX7_sample_33 (by decide) (fun c4 => ?_) (fun c4 => ?_)
  · have hw := hw.1 c4
    refine z_aload_n (x := some o) S 0 dX7_sample_38 rfl rfl ?_
    refine zm_g_71 S hE dX7_sample_39 ?_
    refine z_iload_n S 1 dX7_sample_42 rfl rfl ?_
    obtain ⟨hi17, hw⟩ := hw
    refine z_mzld (j := 24) S hE rfl rfl hi17 dX7_sample_43 ?_
    refine z_if_eq S 49 dX7_sample_44 (by decide) (fun c5 => ?_) (fun c5 => ?_)
    · have hw := hw.1 c5
      refine z_aload_n (x := some o) S 0 dX7_sample_49 rfl rfl ?_
      refine zm_g_77 S hE dX7_sample_50 ?_
      refine z_bipush (v := 8) S dX7_sample_53 (by decide) ?_
      refine z_iload_n S 1 dX7_sample_55 rfl rfl ?_
      refine z_imul S dX7_sample_56 ?_
      refine z_aload_n (x := some o) S 0 dX7_sample_57 rfl rfl ?_
      refine zm_g_74 S hE dX7_sample_58 ?_
      refine z_iload_n S 1 dX7_sample_61 rfl rfl ?_
      obtain ⟨hi16, hw⟩ := hw
      refine z_mald (j := 25) S hE rfl rfl hi16 dX7_sample_62 ?_
      refine z_iadd S dX7_sample_63 ?_
      refine z_iload_n S 2 dX7_sample_64 rfl rfl ?_
      refine z_sipush (v := (-32768)) S dX7_sample_65 (by decide) ?_
      suffices hJ : ∀ y6 : Int32, y6 = (if (-32768) ≤ x2 then (if x2 ≤ 32767 then x2 else 32767) else (-32768)) → z_V A (z_hM D cy A o ad) p l e rm_X7_sample s m args below meth c 3 (MQ below (va_Qi post (fun (u' : z_Md) t => z_hM D cy A o ad u' t.heap) A) args s 0 0 A) 0 0 (z_up M1 0 0 y3) 91 [(0, va_rf (some o)), (1, .int x1)] [.int y6, .int ((8 * x1) + ((z_up M1 0 0 y3) 25 x1.toNatClampNeg)), .ref (ad 26)] from by
        refine z_icmp_ge S 77 dX7_sample_68 (by decide) (fun c14 => ?_) (fun c14 => ?_)
        · refine z_iload_n S 2 dX7_sample_77 rfl rfl ?_
          refine z_sipush (v := 32767) S dX7_sample_78 (by decide) ?_
          refine z_icmp_le S 90 dX7_sample_81 (by decide) (fun c15 => ?_) (fun c15 => ?_)
          · refine z_iload_n S 2 dX7_sample_90 rfl rfl ?_
            refine z_lv (lv' := [(0, va_rf (some o)), (1, .int x1)]) [0, 1] rfl ?_
            exact hJ _ (by rw [if_pos c14, if_pos c15])
          · refine z_sipush (v := 32767) S dX7_sample_84 (by decide) ?_
            refine z_goto S 91 dX7_sample_87 (by decide) ?_
            refine z_lv (lv' := [(0, va_rf (some o)), (1, .int x1)]) [0, 1] rfl ?_
            exact hJ _ (by rw [if_pos c14, if_neg c15])
        · refine z_sipush (v := (-32768)) S dX7_sample_71 (by decide) ?_
          refine z_goto S 91 dX7_sample_74 (by decide) ?_
          refine z_lv (lv' := [(0, va_rf (some o)), (1, .int x1)]) [0, 1] rfl ?_
          exact hJ _ (by rw [if_neg c14])
      intro y6 ey6
      have hw := hw y6 ey6
      obtain ⟨hi13, hw⟩ := hw
      refine z_mast (j := 26) S hE rfl rfl hi13 dX7_sample_91 ?_
      refine z_aload_n (x := some o) S 0 dX7_sample_92 rfl rfl ?_
      refine zm_g_74 S hE dX7_sample_93 ?_
      refine z_iload_n S 1 dX7_sample_96 rfl rfl ?_
      refine z_dup2 S dX7_sample_97 rfl rfl ?_
      obtain ⟨hi12, hw⟩ := hw
      refine z_mald (j := 25) S hE rfl rfl hi12 dX7_sample_98 ?_
      refine z_iconst (v := 1) S dX7_sample_99 (by decide) ?_
      refine z_iadd S dX7_sample_100 ?_
      obtain ⟨hi11, hw⟩ := hw
      refine z_mast (j := 25) S hE rfl rfl hi11 dX7_sample_101 ?_
      refine z_aload_n (x := some o) S 0 dX7_sample_102 rfl rfl ?_
      refine zm_g_74 S hE dX7_sample_103 ?_
      refine z_iload_n S 1 dX7_sample_106 rfl rfl ?_
      obtain ⟨hi10, hw⟩ := hw
      refine z_mald (j := 25) S hE rfl rfl hi10 dX7_sample_107 ?_
      refine z_bipush (v := 8) S dX7_sample_108 (by decide) ?_
      refine z_icmp_ne S 118 dX7_sample_110 (by decide) (fun c7 => ?_) (fun c7 => ?_)
      · have hw := hw.1 c7
        exact mb_X7_sample_118 S hlk hr hE (z_up (z_up (z_up M1 0 0 y3) 26 ((8 * x1) + ((z_up M1 0 0 y3) 25 x1.toNatClampNeg)).toNatClampNeg y6) 25 x1.toNatClampNeg (((z_up (z_up M1 0 0 y3) 26 ((8 * x1) + ((z_up M1 0 0 y3) 25 x1.toNatClampNeg)).toNatClampNeg y6) 25 x1.toNatClampNeg) + 1)) x1 hw
      · have hw := hw.2 c7
        refine z_aload_n (x := some o) S 0 dX7_sample_113 rfl rfl ?_
        refine z_iload_n S 1 dX7_sample_114 rfl rfl ?_
        refine z_callVv (As := [.int x1]) (st := []) S (z_EMok D cy A) hE (me_X7_frame l D cy A o ad _ (z_up (z_up (z_up M1 0 0 y3) 26 ((8 * x1) + ((z_up M1 0 0 y3) 25 x1.toNatClampNeg)).toNatClampNeg y6) 25 x1.toNatClampNeg (((z_up (z_up M1 0 0 y3) 26 ((8 * x1) + ((z_up M1 0 0 y3) 25 x1.toNatClampNeg)).toNatClampNeg y6) 25 x1.toNatClampNeg) + 1)) x1 hw) gV_X7_161 hdV_X7_frame ⟨Nat.le_of_ble_eq_true rfl, Nat.le_of_ble_eq_true rfl⟩ rfl rfl (z_recvM hE) (fun _ h => h) (fun _ _ _ _ h => h) rfl (Nat.le_trans z_s0 (by decide)) dX7_sample_115 ⟨Nat.le_of_ble_eq_true rfl, Nat.le_of_ble_eq_true rfl⟩ rfl (fun M8 hw => ?_)
        exact mb_X7_sample_118 S hlk hr hE M8 x1 hw
    · have hw := hw.2 c5
      refine z_iconst (v := 1) S dX7_sample_47 (by decide) ?_
      exact z_zret S hr hlk dX7_sample_48 (Nat.le_refl 0) (Nat.le_refl 0) rfl hw
  · have hw := hw.2 c4
    refine z_iconst (v := 0) S dX7_sample_36 (by decide) ?_
    exact z_zret S hr hlk dX7_sample_37 (Nat.le_refl 0) (Nat.le_refl 0) rfl hw
theorem me_X7_sample (l : Launch) (D : va_G) (cy : Nat → ClassId) (A : Nat → Prop) (o : Nat) (ad : Nat → Nat) (post : Int32 → z_Md → Prop) (M : z_Md) (x1 : Int32) (x2 : Int32) (hw : w_X7_sample post M x1 x2) : z_Mi l yX7_sample (Cond.code yX7_sample cX7_sample 3 (some .boolean) :: z_T) rm_X7_sample [.ref o, .int x1, .int x2] (z_EM D cy) (z_hM D cy A o ad) M post 0 0 A :=
  z_met (by decide) (Nat.le_of_ble_eq_true rfl) (fun p e s m args below meth c S hlk hr hnm hE => mb_X7_sample S hlk hr hE M x1 x2 hw)
abbrev rm_X7_add : Room := { frames := 0, cells := 0, slots := 0, locals := 0 }
def w_X7_add (post : Int32 → z_Md → Prop) (M : z_Md) (x1 : Int32) (x2 : Int32) (x3 : Int32) : Prop := (vp_in (M 13 0) 16 ∧ (vp_in ((z_up M 15 (M 13 0).toNatClampNeg (M 14 0)) 13 0) 16 ∧ (vp_in ((z_up (z_up M 15 (M 13 0).toNatClampNeg (M 14 0)) 16 ((z_up M 15 (M 13 0).toNatClampNeg (M 14 0)) 13 0).toNatClampNeg x1) 13 0) 16 ∧ (vp_in ((z_up (z_up (z_up M 15 (M 13 0).toNatClampNeg (M 14 0)) 16 ((z_up M 15 (M 13 0).toNatClampNeg (M 14 0)) 13 0).toNatClampNeg x1) 17 ((z_up (z_up M 15 (M 13 0).toNatClampNeg (M 14 0)) 16 ((z_up M 15 (M 13 0).toNatClampNeg (M 14 0)) 13 0).toNatClampNeg x1) 13 0).toNatClampNeg 0) 13 0) 16 ∧ (vp_in ((z_up (z_up (z_up (z_up M 15 (M 13 0).toNatClampNeg (M 14 0)) 16 ((z_up M 15 (M 13 0).toNatClampNeg (M 14 0)) 13 0).toNatClampNeg x1) 17 ((z_up (z_up M 15 (M 13 0).toNatClampNeg (M 14 0)) 16 ((z_up M 15 (M 13 0).toNatClampNeg (M 14 0)) 13 0).toNatClampNeg x1) 13 0).toNatClampNeg 0) 18 ((z_up (z_up (z_up M 15 (M 13 0).toNatClampNeg (M 14 0)) 16 ((z_up M 15 (M 13 0).toNatClampNeg (M 14 0)) 13 0).toNatClampNeg x1) 17 ((z_up (z_up M 15 (M 13 0).toNatClampNeg (M 14 0)) 16 ((z_up M 15 (M 13 0).toNatClampNeg (M 14 0)) 13 0).toNatClampNeg x1) 13 0).toNatClampNeg 0) 13 0).toNatClampNeg x2) 13 0) 16 ∧ (post (((z_up (z_up (z_up (z_up (z_up (z_up (z_up M 15 (M 13 0).toNatClampNeg (M 14 0)) 16 ((z_up M 15 (M 13 0).toNatClampNeg (M 14 0)) 13 0).toNatClampNeg x1) 17 ((z_up (z_up M 15 (M 13 0).toNatClampNeg (M 14 0)) 16 ((z_up M 15 (M 13 0).toNatClampNeg (M 14 0)) 13 0).toNatClampNeg x1) 13 0).toNatClampNeg 0) 18 ((z_up (z_up (z_up M 15 (M 13 0).toNatClampNeg (M 14 0)) 16 ((z_up M 15 (M 13 0).toNatClampNeg (M 14 0)) 13 0).toNatClampNeg x1) 17 ((z_up (z_up M 15 (M 13 0).toNatClampNeg (M 14 0)) 16 ((z_up M 15 (M 13 0).toNatClampNeg (M 14 0)) 13 0).toNatClampNeg x1) 13 0).toNatClampNeg 0) 13 0).toNatClampNeg x2) 19 ((z_up (z_up (z_up (z_up M 15 (M 13 0).toNatClampNeg (M 14 0)) 16 ((z_up M 15 (M 13 0).toNatClampNeg (M 14 0)) 13 0).toNatClampNeg x1) 17 ((z_up (z_up M 15 (M 13 0).toNatClampNeg (M 14 0)) 16 ((z_up M 15 (M 13 0).toNatClampNeg (M 14 0)) 13 0).toNatClampNeg x1) 13 0).toNatClampNeg 0) 18 ((z_up (z_up (z_up M 15 (M 13 0).toNatClampNeg (M 14 0)) 16 ((z_up M 15 (M 13 0).toNatClampNeg (M 14 0)) 13 0).toNatClampNeg x1) 17 ((z_up (z_up M 15 (M 13 0).toNatClampNeg (M 14 0)) 16 ((z_up M 15 (M 13 0).toNatClampNeg (M 14 0)) 13 0).toNatClampNeg x1) 13 0).toNatClampNeg 0) 13 0).toNatClampNeg x2) 13 0).toNatClampNeg x3) 13 0 (((z_up (z_up (z_up (z_up (z_up M 15 (M 13 0).toNatClampNeg (M 14 0)) 16 ((z_up M 15 (M 13 0).toNatClampNeg (M 14 0)) 13 0).toNatClampNeg x1) 17 ((z_up (z_up M 15 (M 13 0).toNatClampNeg (M 14 0)) 16 ((z_up M 15 (M 13 0).toNatClampNeg (M 14 0)) 13 0).toNatClampNeg x1) 13 0).toNatClampNeg 0) 18 ((z_up (z_up (z_up M 15 (M 13 0).toNatClampNeg (M 14 0)) 16 ((z_up M 15 (M 13 0).toNatClampNeg (M 14 0)) 13 0).toNatClampNeg x1) 17 ((z_up (z_up M 15 (M 13 0).toNatClampNeg (M 14 0)) 16 ((z_up M 15 (M 13 0).toNatClampNeg (M 14 0)) 13 0).toNatClampNeg x1) 13 0).toNatClampNeg 0) 13 0).toNatClampNeg x2) 19 ((z_up (z_up (z_up (z_up M 15 (M 13 0).toNatClampNeg (M 14 0)) 16 ((z_up M 15 (M 13 0).toNatClampNeg (M 14 0)) 13 0).toNatClampNeg x1) 17 ((z_up (z_up M 15 (M 13 0).toNatClampNeg (M 14 0)) 16 ((z_up M 15 (M 13 0).toNatClampNeg (M 14 0)) 13 0).toNatClampNeg x1) 13 0).toNatClampNeg 0) 18 ((z_up (z_up (z_up M 15 (M 13 0).toNatClampNeg (M 14 0)) 16 ((z_up M 15 (M 13 0).toNatClampNeg (M 14 0)) 13 0).toNatClampNeg x1) 17 ((z_up (z_up M 15 (M 13 0).toNatClampNeg (M 14 0)) 16 ((z_up M 15 (M 13 0).toNatClampNeg (M 14 0)) 13 0).toNatClampNeg x1) 13 0).toNatClampNeg 0) 13 0).toNatClampNeg x2) 13 0).toNatClampNeg x3) 13 0) + 1)) 14 0 (((z_up (z_up (z_up (z_up (z_up (z_up M 15 (M 13 0).toNatClampNeg (M 14 0)) 16 ((z_up M 15 (M 13 0).toNatClampNeg (M 14 0)) 13 0).toNatClampNeg x1) 17 ((z_up (z_up M 15 (M 13 0).toNatClampNeg (M 14 0)) 16 ((z_up M 15 (M 13 0).toNatClampNeg (M 14 0)) 13 0).toNatClampNeg x1) 13 0).toNatClampNeg 0) 18 ((z_up (z_up (z_up M 15 (M 13 0).toNatClampNeg (M 14 0)) 16 ((z_up M 15 (M 13 0).toNatClampNeg (M 14 0)) 13 0).toNatClampNeg x1) 17 ((z_up (z_up M 15 (M 13 0).toNatClampNeg (M 14 0)) 16 ((z_up M 15 (M 13 0).toNatClampNeg (M 14 0)) 13 0).toNatClampNeg x1) 13 0).toNatClampNeg 0) 13 0).toNatClampNeg x2) 19 ((z_up (z_up (z_up (z_up M 15 (M 13 0).toNatClampNeg (M 14 0)) 16 ((z_up M 15 (M 13 0).toNatClampNeg (M 14 0)) 13 0).toNatClampNeg x1) 17 ((z_up (z_up M 15 (M 13 0).toNatClampNeg (M 14 0)) 16 ((z_up M 15 (M 13 0).toNatClampNeg (M 14 0)) 13 0).toNatClampNeg x1) 13 0).toNatClampNeg 0) 18 ((z_up (z_up (z_up M 15 (M 13 0).toNatClampNeg (M 14 0)) 16 ((z_up M 15 (M 13 0).toNatClampNeg (M 14 0)) 13 0).toNatClampNeg x1) 17 ((z_up (z_up M 15 (M 13 0).toNatClampNeg (M 14 0)) 16 ((z_up M 15 (M 13 0).toNatClampNeg (M 14 0)) 13 0).toNatClampNeg x1) 13 0).toNatClampNeg 0) 13 0).toNatClampNeg x2) 13 0).toNatClampNeg x3) 13 0 (((z_up (z_up (z_up (z_up (z_up M 15 (M 13 0).toNatClampNeg (M 14 0)) 16 ((z_up M 15 (M 13 0).toNatClampNeg (M 14 0)) 13 0).toNatClampNeg x1) 17 ((z_up (z_up M 15 (M 13 0).toNatClampNeg (M 14 0)) 16 ((z_up M 15 (M 13 0).toNatClampNeg (M 14 0)) 13 0).toNatClampNeg x1) 13 0).toNatClampNeg 0) 18 ((z_up (z_up (z_up M 15 (M 13 0).toNatClampNeg (M 14 0)) 16 ((z_up M 15 (M 13 0).toNatClampNeg (M 14 0)) 13 0).toNatClampNeg x1) 17 ((z_up (z_up M 15 (M 13 0).toNatClampNeg (M 14 0)) 16 ((z_up M 15 (M 13 0).toNatClampNeg (M 14 0)) 13 0).toNatClampNeg x1) 13 0).toNatClampNeg 0) 13 0).toNatClampNeg x2) 19 ((z_up (z_up (z_up (z_up M 15 (M 13 0).toNatClampNeg (M 14 0)) 16 ((z_up M 15 (M 13 0).toNatClampNeg (M 14 0)) 13 0).toNatClampNeg x1) 17 ((z_up (z_up M 15 (M 13 0).toNatClampNeg (M 14 0)) 16 ((z_up M 15 (M 13 0).toNatClampNeg (M 14 0)) 13 0).toNatClampNeg x1) 13 0).toNatClampNeg 0) 18 ((z_up (z_up (z_up M 15 (M 13 0).toNatClampNeg (M 14 0)) 16 ((z_up M 15 (M 13 0).toNatClampNeg (M 14 0)) 13 0).toNatClampNeg x1) 17 ((z_up (z_up M 15 (M 13 0).toNatClampNeg (M 14 0)) 16 ((z_up M 15 (M 13 0).toNatClampNeg (M 14 0)) 13 0).toNatClampNeg x1) 13 0).toNatClampNeg 0) 13 0).toNatClampNeg x2) 13 0).toNatClampNeg x3) 13 0) + 1)) 14 0) + 1)) 14 0) - 1) (z_up (z_up (z_up (z_up (z_up (z_up (z_up M 15 (M 13 0).toNatClampNeg (M 14 0)) 16 ((z_up M 15 (M 13 0).toNatClampNeg (M 14 0)) 13 0).toNatClampNeg x1) 17 ((z_up (z_up M 15 (M 13 0).toNatClampNeg (M 14 0)) 16 ((z_up M 15 (M 13 0).toNatClampNeg (M 14 0)) 13 0).toNatClampNeg x1) 13 0).toNatClampNeg 0) 18 ((z_up (z_up (z_up M 15 (M 13 0).toNatClampNeg (M 14 0)) 16 ((z_up M 15 (M 13 0).toNatClampNeg (M 14 0)) 13 0).toNatClampNeg x1) 17 ((z_up (z_up M 15 (M 13 0).toNatClampNeg (M 14 0)) 16 ((z_up M 15 (M 13 0).toNatClampNeg (M 14 0)) 13 0).toNatClampNeg x1) 13 0).toNatClampNeg 0) 13 0).toNatClampNeg x2) 19 ((z_up (z_up (z_up (z_up M 15 (M 13 0).toNatClampNeg (M 14 0)) 16 ((z_up M 15 (M 13 0).toNatClampNeg (M 14 0)) 13 0).toNatClampNeg x1) 17 ((z_up (z_up M 15 (M 13 0).toNatClampNeg (M 14 0)) 16 ((z_up M 15 (M 13 0).toNatClampNeg (M 14 0)) 13 0).toNatClampNeg x1) 13 0).toNatClampNeg 0) 18 ((z_up (z_up (z_up M 15 (M 13 0).toNatClampNeg (M 14 0)) 16 ((z_up M 15 (M 13 0).toNatClampNeg (M 14 0)) 13 0).toNatClampNeg x1) 17 ((z_up (z_up M 15 (M 13 0).toNatClampNeg (M 14 0)) 16 ((z_up M 15 (M 13 0).toNatClampNeg (M 14 0)) 13 0).toNatClampNeg x1) 13 0).toNatClampNeg 0) 13 0).toNatClampNeg x2) 13 0).toNatClampNeg x3) 13 0 (((z_up (z_up (z_up (z_up (z_up M 15 (M 13 0).toNatClampNeg (M 14 0)) 16 ((z_up M 15 (M 13 0).toNatClampNeg (M 14 0)) 13 0).toNatClampNeg x1) 17 ((z_up (z_up M 15 (M 13 0).toNatClampNeg (M 14 0)) 16 ((z_up M 15 (M 13 0).toNatClampNeg (M 14 0)) 13 0).toNatClampNeg x1) 13 0).toNatClampNeg 0) 18 ((z_up (z_up (z_up M 15 (M 13 0).toNatClampNeg (M 14 0)) 16 ((z_up M 15 (M 13 0).toNatClampNeg (M 14 0)) 13 0).toNatClampNeg x1) 17 ((z_up (z_up M 15 (M 13 0).toNatClampNeg (M 14 0)) 16 ((z_up M 15 (M 13 0).toNatClampNeg (M 14 0)) 13 0).toNatClampNeg x1) 13 0).toNatClampNeg 0) 13 0).toNatClampNeg x2) 19 ((z_up (z_up (z_up (z_up M 15 (M 13 0).toNatClampNeg (M 14 0)) 16 ((z_up M 15 (M 13 0).toNatClampNeg (M 14 0)) 13 0).toNatClampNeg x1) 17 ((z_up (z_up M 15 (M 13 0).toNatClampNeg (M 14 0)) 16 ((z_up M 15 (M 13 0).toNatClampNeg (M 14 0)) 13 0).toNatClampNeg x1) 13 0).toNatClampNeg 0) 18 ((z_up (z_up (z_up M 15 (M 13 0).toNatClampNeg (M 14 0)) 16 ((z_up M 15 (M 13 0).toNatClampNeg (M 14 0)) 13 0).toNatClampNeg x1) 17 ((z_up (z_up M 15 (M 13 0).toNatClampNeg (M 14 0)) 16 ((z_up M 15 (M 13 0).toNatClampNeg (M 14 0)) 13 0).toNatClampNeg x1) 13 0).toNatClampNeg 0) 13 0).toNatClampNeg x2) 13 0).toNatClampNeg x3) 13 0) + 1)) 14 0 (((z_up (z_up (z_up (z_up (z_up (z_up M 15 (M 13 0).toNatClampNeg (M 14 0)) 16 ((z_up M 15 (M 13 0).toNatClampNeg (M 14 0)) 13 0).toNatClampNeg x1) 17 ((z_up (z_up M 15 (M 13 0).toNatClampNeg (M 14 0)) 16 ((z_up M 15 (M 13 0).toNatClampNeg (M 14 0)) 13 0).toNatClampNeg x1) 13 0).toNatClampNeg 0) 18 ((z_up (z_up (z_up M 15 (M 13 0).toNatClampNeg (M 14 0)) 16 ((z_up M 15 (M 13 0).toNatClampNeg (M 14 0)) 13 0).toNatClampNeg x1) 17 ((z_up (z_up M 15 (M 13 0).toNatClampNeg (M 14 0)) 16 ((z_up M 15 (M 13 0).toNatClampNeg (M 14 0)) 13 0).toNatClampNeg x1) 13 0).toNatClampNeg 0) 13 0).toNatClampNeg x2) 19 ((z_up (z_up (z_up (z_up M 15 (M 13 0).toNatClampNeg (M 14 0)) 16 ((z_up M 15 (M 13 0).toNatClampNeg (M 14 0)) 13 0).toNatClampNeg x1) 17 ((z_up (z_up M 15 (M 13 0).toNatClampNeg (M 14 0)) 16 ((z_up M 15 (M 13 0).toNatClampNeg (M 14 0)) 13 0).toNatClampNeg x1) 13 0).toNatClampNeg 0) 18 ((z_up (z_up (z_up M 15 (M 13 0).toNatClampNeg (M 14 0)) 16 ((z_up M 15 (M 13 0).toNatClampNeg (M 14 0)) 13 0).toNatClampNeg x1) 17 ((z_up (z_up M 15 (M 13 0).toNatClampNeg (M 14 0)) 16 ((z_up M 15 (M 13 0).toNatClampNeg (M 14 0)) 13 0).toNatClampNeg x1) 13 0).toNatClampNeg 0) 13 0).toNatClampNeg x2) 13 0).toNatClampNeg x3) 13 0 (((z_up (z_up (z_up (z_up (z_up M 15 (M 13 0).toNatClampNeg (M 14 0)) 16 ((z_up M 15 (M 13 0).toNatClampNeg (M 14 0)) 13 0).toNatClampNeg x1) 17 ((z_up (z_up M 15 (M 13 0).toNatClampNeg (M 14 0)) 16 ((z_up M 15 (M 13 0).toNatClampNeg (M 14 0)) 13 0).toNatClampNeg x1) 13 0).toNatClampNeg 0) 18 ((z_up (z_up (z_up M 15 (M 13 0).toNatClampNeg (M 14 0)) 16 ((z_up M 15 (M 13 0).toNatClampNeg (M 14 0)) 13 0).toNatClampNeg x1) 17 ((z_up (z_up M 15 (M 13 0).toNatClampNeg (M 14 0)) 16 ((z_up M 15 (M 13 0).toNatClampNeg (M 14 0)) 13 0).toNatClampNeg x1) 13 0).toNatClampNeg 0) 13 0).toNatClampNeg x2) 19 ((z_up (z_up (z_up (z_up M 15 (M 13 0).toNatClampNeg (M 14 0)) 16 ((z_up M 15 (M 13 0).toNatClampNeg (M 14 0)) 13 0).toNatClampNeg x1) 17 ((z_up (z_up M 15 (M 13 0).toNatClampNeg (M 14 0)) 16 ((z_up M 15 (M 13 0).toNatClampNeg (M 14 0)) 13 0).toNatClampNeg x1) 13 0).toNatClampNeg 0) 18 ((z_up (z_up (z_up M 15 (M 13 0).toNatClampNeg (M 14 0)) 16 ((z_up M 15 (M 13 0).toNatClampNeg (M 14 0)) 13 0).toNatClampNeg x1) 17 ((z_up (z_up M 15 (M 13 0).toNatClampNeg (M 14 0)) 16 ((z_up M 15 (M 13 0).toNatClampNeg (M 14 0)) 13 0).toNatClampNeg x1) 13 0).toNatClampNeg 0) 13 0).toNatClampNeg x2) 13 0).toNatClampNeg x3) 13 0) + 1)) 14 0) + 1))))))))
set_option maxRecDepth 20000 in
theorem mb_X7_add {p : Program} {l : Launch} {e : Env} {s : State} {m : MethodId} {args : Array Value} {below : List Frame} {meth : Method} {c : Code} {D : va_G} {cy : Nat → ClassId} {A : Nat → Prop} {o : Nat} {ad : Nat → Nat} (S : CallFix p m c cX7_add 4 s args z_T RX7) (hlk : meth.locks = false) (hr : meth.sig.returnType = some .int) (hE : z_EM D cy s) {post : Int32 → z_Md → Prop}  (M : z_Md) (x1 : Int32) (x2 : Int32) (x3 : Int32) (hw : w_X7_add post M x1 x2 x3) : z_V A (z_hM D cy A o ad) p l e rm_X7_add s m args below meth c 4 (MQ below (va_Qi post (fun (u' : z_Md) t => z_hM D cy A o ad u' t.heap) A) args s 0 0 A) 0 0 M 0 [(0, va_rf (some o)), (1, .int x1), (2, .int x2), (3, .int x3)] [] := by
  refine z_aload_n (x := some o) S 0 dX7_add_0 rfl rfl ?_
  refine zm_g_44 S hE dX7_add_1 ?_
  refine z_aload_n (x := some o) S 0 dX7_add_4 rfl rfl ?_
  refine zm_g_121 S hE dX7_add_5 ?_
  refine z_aload_n (x := some o) S 0 dX7_add_8 rfl rfl ?_
  refine zm_g_171 S hE dX7_add_9 ?_
  obtain ⟨hi5, hw⟩ := hw
  refine z_mast (j := 15) S hE rfl rfl hi5 dX7_add_12 ?_
  refine z_aload_n (x := some o) S 0 dX7_add_13 rfl rfl ?_
  refine zm_g_47 S hE dX7_add_14 ?_
  refine z_aload_n (x := some o) S 0 dX7_add_17 rfl rfl ?_
  refine zm_g_121 S hE dX7_add_18 ?_
  refine z_iload_n S 1 dX7_add_21 rfl rfl ?_
  obtain ⟨hi4, hw⟩ := hw
  refine z_mast (j := 16) S hE rfl rfl hi4 dX7_add_22 ?_
  refine z_aload_n (x := some o) S 0 dX7_add_23 rfl rfl ?_
  refine zm_g_50 S hE dX7_add_24 ?_
  refine z_aload_n (x := some o) S 0 dX7_add_27 rfl rfl ?_
  refine zm_g_121 S hE dX7_add_28 ?_
  refine z_iconst (v := 0) S dX7_add_31 (by decide) ?_
  obtain ⟨hi3, hw⟩ := hw
  refine z_mast (j := 17) S hE rfl rfl hi3 dX7_add_32 ?_
  refine z_aload_n (x := some o) S 0 dX7_add_33 rfl rfl ?_
  refine zm_g_53 S hE dX7_add_34 ?_
  refine z_aload_n (x := some o) S 0 dX7_add_37 rfl rfl ?_
  refine zm_g_121 S hE dX7_add_38 ?_
  refine z_iload_n S 2 dX7_add_41 rfl rfl ?_
  obtain ⟨hi2, hw⟩ := hw
  refine z_mast (j := 18) S hE rfl rfl hi2 dX7_add_42 ?_
  refine z_aload_n (x := some o) S 0 dX7_add_43 rfl rfl ?_
  refine zm_g_56 S hE dX7_add_44 ?_
  refine z_aload_n (x := some o) S 0 dX7_add_47 rfl rfl ?_
  refine zm_g_121 S hE dX7_add_48 ?_
  refine z_iload_n S 3 dX7_add_51 rfl rfl ?_
  obtain ⟨hi1, hw⟩ := hw
  refine z_mast (j := 19) S hE rfl rfl hi1 dX7_add_52 ?_
  refine z_aload_n (x := some o) S 0 dX7_add_53 rfl rfl ?_
  refine z_dup S dX7_add_54 (z_rfc _) ?_
  refine zm_g_121 S hE dX7_add_55 ?_
  refine z_iconst (v := 1) S dX7_add_58 (by decide) ?_
  refine z_iadd S dX7_add_59 ?_
  refine zm_p_121 S hE dX7_add_60 ?_
  refine z_aload_n (x := some o) S 0 dX7_add_63 rfl rfl ?_
  refine z_dup S dX7_add_64 (z_rfc _) ?_
  refine zm_g_171 S hE dX7_add_65 ?_
  refine z_iconst (v := 1) S dX7_add_68 (by decide) ?_
  refine z_iadd S dX7_add_69 ?_
  refine zm_p_171 S hE dX7_add_70 ?_
  refine z_aload_n (x := some o) S 0 dX7_add_73 rfl rfl ?_
  refine zm_g_171 S hE dX7_add_74 ?_
  refine z_iconst (v := 1) S dX7_add_77 (by decide) ?_
  refine z_isub S dX7_add_78 ?_
  exact z_iret S hr hlk dX7_add_79 (Nat.le_refl 0) (Nat.le_refl 0) hw
theorem me_X7_add (l : Launch) (D : va_G) (cy : Nat → ClassId) (A : Nat → Prop) (o : Nat) (ad : Nat → Nat) (post : Int32 → z_Md → Prop) (M : z_Md) (x1 : Int32) (x2 : Int32) (x3 : Int32) (hw : w_X7_add post M x1 x2 x3) : z_Mi l yX7_add (Cond.code yX7_add cX7_add 4 (some .int) :: z_T) rm_X7_add [.ref o, .int x1, .int x2, .int x3] (z_EM D cy) (z_hM D cy A o ad) M post 0 0 A :=
  z_met (by decide) (Nat.le_of_ble_eq_true rfl) (fun p e s m args below meth c S hlk hr hnm hE => mb_X7_add S hlk hr hE M x1 x2 x3 hw)
abbrev rm_X7_hang : Room := { frames := 6, cells := 0, slots := 0, locals := 142 }
def w_X7_hang_83 (post : Int32 → z_Md → Prop) (M : z_Md) (x1 : Int32) : Prop := (vp_in x1 3 ∧ (∀ x2_1 : Int32, x2_1 = M 23 x1.toNatClampNeg → (vp_in x1 3 ∧ (vp_in x2_1 48 ∧ (vp_in x2_1 48 ∧ ((¬ ((z_up (z_up M 20 x1.toNatClampNeg 0) 7 x2_1.toNatClampNeg 0) 9 x2_1.toNatClampNeg) = 0 → (vp_in x2_1 48 ∧ (vp_in x1 3 ∧ ((¬ ((z_up (z_up (z_up M 20 x1.toNatClampNeg 0) 7 x2_1.toNatClampNeg 0) 6 x2_1.toNatClampNeg 1) 22 x1.toNatClampNeg) = 0 → (vp_in x1 3 ∧ (vp_in x1 3 ∧ (∀ x3_4 : Int32, x3_4 = ((3 * ((z_up (z_up (z_up M 20 x1.toNatClampNeg 0) 7 x2_1.toNatClampNeg 0) 6 x2_1.toNatClampNeg 1) 21 x1.toNatClampNeg)) + ((z_up (z_up (z_up M 20 x1.toNatClampNeg 0) 7 x2_1.toNatClampNeg 0) 6 x2_1.toNatClampNeg 1) 22 x1.toNatClampNeg)) - 1 → (vp_in x3_4 12 ∧ (w_X7_letGo (fun r6 M5 => (vp_in x3_4 12 ∧ (post 0 (z_up M5 12 x3_4.toNatClampNeg x2_1)))) (z_up (z_up (z_up M 20 x1.toNatClampNeg 0) 7 x2_1.toNatClampNeg 0) 6 x2_1.toNatClampNeg 1) ((z_up (z_up (z_up M 20 x1.toNatClampNeg 0) 7 x2_1.toNatClampNeg 0) 6 x2_1.toNatClampNeg 1) 12 x3_4.toNatClampNeg))))))) ∧ (((z_up (z_up (z_up M 20 x1.toNatClampNeg 0) 7 x2_1.toNatClampNeg 0) 6 x2_1.toNatClampNeg 1) 22 x1.toNatClampNeg) = 0 → (vp_in x1 3 ∧ (w_X7_add (fun r12 M11 => (post r12 M11)) (z_up (z_up (z_up M 20 x1.toNatClampNeg 0) 7 x2_1.toNatClampNeg 0) 6 x2_1.toNatClampNeg 1) ((z_up (z_up (z_up M 20 x1.toNatClampNeg 0) 7 x2_1.toNatClampNeg 0) 6 x2_1.toNatClampNeg 1) 21 x1.toNatClampNeg) x2_1 (-1)))))))) ∧ (((z_up (z_up M 20 x1.toNatClampNeg 0) 7 x2_1.toNatClampNeg 0) 9 x2_1.toNatClampNeg) = 0 → (post (-1) (z_up (z_up M 20 x1.toNatClampNeg 0) 7 x2_1.toNatClampNeg 0)))))))))
def w_X7_hang_54 (post : Int32 → z_Md → Prop) : Nat → z_Md → Int32 → Int32 → Prop
  | 0 => fun _ _ _ => False
  | n + 1 => fun M x1 x2 => ((8 ≤ x2 → (w_X7_frame (fun M2 => (w_X7_hang_83 post M2 x1)) M x1)) ∧ (¬ 8 ≤ x2 → (vp_in ((8 * x1) + x2) 24 ∧ (w_X7_hang_54 post n (z_up M 26 ((8 * x1) + x2).toNatClampNeg 0) x1 (x2 + 1)))))
def w_X7_hang (post : Int32 → z_Md → Prop) (M : z_Md) (x1 : Int32) : Prop := (w_X7_isLine (fun r2 M1 => ((¬ r2 = 0 → vp_in x1 3) ∧ (∀ y3 : Int32, y3 = (if r2 = 0 then 1 else (if (M1 20 x1.toNatClampNeg) = 0 then 2 else 0)) → ((((z_up M1 0 0 y3) 0 0) ≤ 0 → (vp_in x1 3 ∧ ((((z_up M1 0 0 y3) 25 x1.toNatClampNeg) ≤ 0 → (w_X7_hang_83 post (z_up M1 0 0 y3) x1)) ∧ (¬ ((z_up M1 0 0 y3) 25 x1.toNatClampNeg) ≤ 0 → (vp_in x1 3 ∧ (∀ x2_6 : Int32, x2_6 = (z_up M1 0 0 y3) 25 x1.toNatClampNeg → (∃ n0 : Nat, w_X7_hang_54 post n0 (z_up M1 0 0 y3) x1 x2_6))))))) ∧ (¬ ((z_up M1 0 0 y3) 0 0) ≤ 0 → (post 0 (z_up M1 0 0 y3))))))) M x1)
set_option maxRecDepth 20000 in
theorem mb_X7_hang_83 {p : Program} {l : Launch} {e : Env} {s : State} {m : MethodId} {args : Array Value} {below : List Frame} {meth : Method} {c : Code} {D : va_G} {cy : Nat → ClassId} {A : Nat → Prop} {o : Nat} {ad : Nat → Nat} (S : CallFix p m c cX7_hang 5 s args z_T RX7) (hlk : meth.locks = false) (hr : meth.sig.returnType = some .int) (hE : z_EM D cy s) {post : Int32 → z_Md → Prop}  (M : z_Md) (x1 : Int32) (hw : w_X7_hang_83 post M x1) : z_V A (z_hM D cy A o ad) p l e rm_X7_hang s m args below meth c 5 (MQ below (va_Qi post (fun (u' : z_Md) t => z_hM D cy A o ad u' t.heap) A) args s 0 0 A) 0 0 M 83 [(0, va_rf (some o)), (1, .int x1)] [] := by
  refine z_aload_n (x := some o) S 0 dX7_hang_83 rfl rfl ?_
  refine zm_g_68 S hE dX7_hang_84 ?_
  refine z_iload_n S 1 dX7_hang_87 rfl rfl ?_
  obtain ⟨hi19, hw⟩ := hw
  refine z_mald (j := 23) S hE rfl rfl hi19 dX7_hang_88 ?_
  refine z_top (fun x2_1 ex2_1 => ?_)
  have hw := hw x2_1 ex2_1
  refine z_istore_n S [(2, .int x2_1), (0, va_rf (some o)), (1, .int x1)] dX7_hang_89 rfl (by decide) rfl ?_
  refine z_lv (lv' := [(0, va_rf (some o)), (1, .int x1), (2, .int x2_1)]) [1, 2, 0] rfl ?_
  refine z_aload_n (x := some o) S 0 dX7_hang_90 rfl rfl ?_
  refine zm_g_59 S hE dX7_hang_91 ?_
  refine z_iload_n S 1 dX7_hang_94 rfl rfl ?_
  refine z_iconst (v := 0) S dX7_hang_95 (by decide) ?_
  obtain ⟨hi18, hw⟩ := hw
  refine z_mzst (j := 20) S hE rfl rfl hi18 rfl dX7_hang_96 ?_
  refine z_aload_n (x := some o) S 0 dX7_hang_97 rfl rfl ?_
  refine zm_g_28 S hE dX7_hang_98 ?_
  refine z_iload_n S 2 dX7_hang_101 rfl rfl ?_
  refine z_iconst (v := 0) S dX7_hang_102 (by decide) ?_
  obtain ⟨hi17, hw⟩ := hw
  refine z_mzst (j := 7) S hE rfl rfl hi17 rfl dX7_hang_103 ?_
  refine z_aload_n (x := some o) S 0 dX7_hang_104 rfl rfl ?_
  refine zm_g_35 S hE dX7_hang_105 ?_
  refine z_iload_n S 2 dX7_hang_108 rfl rfl ?_
  obtain ⟨hi16, hw⟩ := hw
  refine z_mald (j := 9) S hE rfl rfl hi16 dX7_hang_109 ?_
  refine z_if_ne S 115 dX7_hang_110 (by decide) (fun c2 => ?_) (fun c2 => ?_)
  · have hw := hw.1 c2
    refine z_aload_n (x := some o) S 0 dX7_hang_115 rfl rfl ?_
    refine zm_g_25 S hE dX7_hang_116 ?_
    refine z_iload_n S 2 dX7_hang_119 rfl rfl ?_
    refine z_iconst (v := 1) S dX7_hang_120 (by decide) ?_
    obtain ⟨hi15, hw⟩ := hw
    refine z_mast (j := 6) S hE rfl rfl hi15 dX7_hang_121 ?_
    refine z_aload_n (x := some o) S 0 dX7_hang_122 rfl rfl ?_
    refine zm_g_65 S hE dX7_hang_123 ?_
    refine z_iload_n S 1 dX7_hang_126 rfl rfl ?_
    obtain ⟨hi14, hw⟩ := hw
    refine z_mald (j := 22) S hE rfl rfl hi14 dX7_hang_127 ?_
    refine z_if_ne S 144 dX7_hang_128 (by decide) (fun c3 => ?_) (fun c3 => ?_)
    · have hw := hw.1 c3
      refine z_iconst (v := 3) S dX7_hang_144 (by decide) ?_
      refine z_aload_n (x := some o) S 0 dX7_hang_145 rfl rfl ?_
      refine zm_g_62 S hE dX7_hang_146 ?_
      refine z_iload_n S 1 dX7_hang_149 rfl rfl ?_
      obtain ⟨hi10, hw⟩ := hw
      refine z_mald (j := 21) S hE rfl rfl hi10 dX7_hang_150 ?_
      refine z_imul S dX7_hang_151 ?_
      refine z_aload_n (x := some o) S 0 dX7_hang_152 rfl rfl ?_
      refine zm_g_65 S hE dX7_hang_153 ?_
      refine z_iload_n S 1 dX7_hang_156 rfl rfl ?_
      obtain ⟨hi9, hw⟩ := hw
      refine z_mald (j := 22) S hE rfl rfl hi9 dX7_hang_157 ?_
      refine z_iadd S dX7_hang_158 ?_
      refine z_iconst (v := 1) S dX7_hang_159 (by decide) ?_
      refine z_isub S dX7_hang_160 ?_
      refine z_top (fun x3_4 ex3_4 => ?_)
      have hw := hw x3_4 ex3_4
      refine z_istore_n S [(3, .int x3_4), (0, va_rf (some o)), (1, .int x1), (2, .int x2_1)] dX7_hang_161 rfl (by decide) rfl ?_
      refine z_lv (lv' := [(0, va_rf (some o)), (1, .int x1), (2, .int x2_1), (3, .int x3_4)]) [1, 2, 3, 0] rfl ?_
      refine z_aload_n (x := some o) S 0 dX7_hang_162 rfl rfl ?_
      refine z_aload_n (x := some o) S 0 dX7_hang_163 rfl rfl ?_
      refine zm_g_41 S hE dX7_hang_164 ?_
      refine z_iload_n S 3 dX7_hang_167 rfl rfl ?_
      obtain ⟨hi8, hw⟩ := hw
      refine z_mald (j := 12) S hE rfl rfl hi8 dX7_hang_168 ?_
      refine z_callVi (As := [.int ((z_up (z_up (z_up M 20 x1.toNatClampNeg 0) 7 x2_1.toNatClampNeg 0) 6 x2_1.toNatClampNeg 1) 12 x3_4.toNatClampNeg)]) (st := []) S (z_EMok D cy A) hE (me_X7_letGo l D cy A o ad _ (z_up (z_up (z_up M 20 x1.toNatClampNeg 0) 7 x2_1.toNatClampNeg 0) 6 x2_1.toNatClampNeg 1) ((z_up (z_up (z_up M 20 x1.toNatClampNeg 0) 7 x2_1.toNatClampNeg 0) 6 x2_1.toNatClampNeg 1) 12 x3_4.toNatClampNeg) hw) gV_X7_168 hdV_X7_letGo ⟨Nat.le_of_ble_eq_true rfl, Nat.le_of_ble_eq_true rfl⟩ rfl rfl (z_recvM hE) (fun _ h => h) (fun _ _ _ _ h => h) rfl (Nat.le_trans z_s0 (by decide)) dX7_hang_169 ⟨Nat.le_of_ble_eq_true rfl, Nat.le_of_ble_eq_true rfl⟩ rfl (fun r6 M5 hw => ?_)
      refine z_istore S [(4, .int r6), (0, va_rf (some o)), (1, .int x1), (2, .int x2_1), (3, .int x3_4)] dX7_hang_172 (by decide) rfl ?_
      refine z_lv (lv' := [(0, va_rf (some o)), (1, .int x1), (2, .int x2_1), (3, .int x3_4), (4, .int r6)]) [1, 2, 3, 4, 0] rfl ?_
      refine z_aload_n (x := some o) S 0 dX7_hang_174 rfl rfl ?_
      refine zm_g_41 S hE dX7_hang_175 ?_
      refine z_iload_n S 3 dX7_hang_178 rfl rfl ?_
      refine z_iload_n S 2 dX7_hang_179 rfl rfl ?_
      obtain ⟨hi7, hw⟩ := hw
      refine z_mast (j := 12) S hE rfl rfl hi7 dX7_hang_180 ?_
      refine z_iconst (v := 0) S dX7_hang_181 (by decide) ?_
      exact z_iret S hr hlk dX7_hang_182 (Nat.le_refl 0) (Nat.le_refl 0) hw
    · have hw := hw.2 c3
      refine z_aload_n (x := some o) S 0 dX7_hang_131 rfl rfl ?_
      refine z_aload_n (x := some o) S 0 dX7_hang_132 rfl rfl ?_
      refine zm_g_62 S hE dX7_hang_133 ?_
      refine z_iload_n S 1 dX7_hang_136 rfl rfl ?_
      obtain ⟨hi13, hw⟩ := hw
      refine z_mald (j := 21) S hE rfl rfl hi13 dX7_hang_137 ?_
      refine z_iload_n S 2 dX7_hang_138 rfl rfl ?_
      refine z_iconst (v := (-1)) S dX7_hang_139 (by decide) ?_
      refine z_callVi (As := [.int ((z_up (z_up (z_up M 20 x1.toNatClampNeg 0) 7 x2_1.toNatClampNeg 0) 6 x2_1.toNatClampNeg 1) 21 x1.toNatClampNeg), .int x2_1, .int (-1)]) (st := []) S (z_EMok D cy A) hE (me_X7_add l D cy A o ad _ (z_up (z_up (z_up M 20 x1.toNatClampNeg 0) 7 x2_1.toNatClampNeg 0) 6 x2_1.toNatClampNeg 1) ((z_up (z_up (z_up M 20 x1.toNatClampNeg 0) 7 x2_1.toNatClampNeg 0) 6 x2_1.toNatClampNeg 1) 21 x1.toNatClampNeg) x2_1 (-1) hw) gV_X7_164 hdV_X7_add ⟨Nat.le_of_ble_eq_true rfl, Nat.le_of_ble_eq_true rfl⟩ rfl rfl (z_recvM hE) (fun _ h => h) (fun _ _ _ _ h => h) rfl (Nat.le_trans z_s0 (by decide)) dX7_hang_140 ⟨Nat.le_of_ble_eq_true rfl, Nat.le_of_ble_eq_true rfl⟩ rfl (fun r12 M11 hw => ?_)
      exact z_iret S hr hlk dX7_hang_143 (Nat.le_refl 0) (Nat.le_refl 0) hw
  · have hw := hw.2 c2
    refine z_iconst (v := (-1)) S dX7_hang_113 (by decide) ?_
    exact z_iret S hr hlk dX7_hang_114 (Nat.le_refl 0) (Nat.le_refl 0) hw
set_option maxRecDepth 20000 in
theorem mb_X7_hang_54 {p : Program} {l : Launch} {e : Env} {s : State} {m : MethodId} {args : Array Value} {below : List Frame} {meth : Method} {c : Code} {D : va_G} {cy : Nat → ClassId} {A : Nat → Prop} {o : Nat} {ad : Nat → Nat} (S : CallFix p m c cX7_hang 5 s args z_T RX7) (hlk : meth.locks = false) (hr : meth.sig.returnType = some .int) (hE : z_EM D cy s) {post : Int32 → z_Md → Prop}  : ∀ (n : Nat) (M : z_Md) (x1 : Int32) (x2 : Int32), w_X7_hang_54 post n M x1 x2 → z_V A (z_hM D cy A o ad) p l e rm_X7_hang s m args below meth c 5 (MQ below (va_Qi post (fun (u' : z_Md) t => z_hM D cy A o ad u' t.heap) A) args s 0 0 A) 0 0 M 54 [(0, va_rf (some o)), (1, .int x1), (2, .int x2)] [] := by
  intro n
  induction n with
  | zero => intro M x1 x2 hw; exact hw.elim
  | succ n ih =>
    intro M x1 x2 hw
    refine z_iload_n S 2 dX7_hang_54 rfl rfl ?_
    refine z_bipush (v := 8) S dX7_hang_55 (by decide) ?_
    refine z_icmp_ge S 78 dX7_hang_57 (by decide) (fun c1 => ?_) (fun c1 => ?_)
    · have hw := hw.1 c1
      refine z_aload_n (x := some o) S 0 dX7_hang_78 rfl rfl ?_
      refine z_iload_n S 1 dX7_hang_79 rfl rfl ?_
      refine z_callVv (As := [.int x1]) (st := []) S (z_EMok D cy A) hE (me_X7_frame l D cy A o ad _ M x1 hw) gV_X7_161 hdV_X7_frame ⟨Nat.le_of_ble_eq_true rfl, Nat.le_of_ble_eq_true rfl⟩ rfl rfl (z_recvM hE) (fun _ h => h) (fun _ _ _ _ h => h) rfl (Nat.le_trans z_s0 (by decide)) dX7_hang_80 ⟨Nat.le_of_ble_eq_true rfl, Nat.le_of_ble_eq_true rfl⟩ rfl (fun M2 hw => ?_)
      refine z_lv (lv' := [(0, va_rf (some o)), (1, .int x1)]) [0, 1] rfl ?_
      exact mb_X7_hang_83 S hlk hr hE M2 x1 hw
    · have hw := hw.2 c1
      refine z_aload_n (x := some o) S 0 dX7_hang_60 rfl rfl ?_
      refine zm_g_77 S hE dX7_hang_61 ?_
      refine z_bipush (v := 8) S dX7_hang_64 (by decide) ?_
      refine z_iload_n S 1 dX7_hang_66 rfl rfl ?_
      refine z_imul S dX7_hang_67 ?_
      refine z_iload_n S 2 dX7_hang_68 rfl rfl ?_
      refine z_iadd S dX7_hang_69 ?_
      refine z_iconst (v := 0) S dX7_hang_70 (by decide) ?_
      obtain ⟨hi4, hw⟩ := hw
      refine z_mast (j := 26) S hE rfl rfl hi4 dX7_hang_71 ?_
      refine z_iinc (v := x2 + 1) (pl := 2) S [(2, .int (x2 + 1)), (0, va_rf (some o)), (1, .int x1)] dX7_hang_72 rfl rfl (by decide) rfl ?_
      refine z_lv (lv' := [(0, va_rf (some o)), (1, .int x1), (2, .int (x2 + 1))]) [1, 2, 0] rfl ?_
      refine z_goto S 54 dX7_hang_75 (by decide) ?_
      exact ih (z_up M 26 ((8 * x1) + x2).toNatClampNeg 0) x1 (x2 + 1) hw
set_option maxRecDepth 20000 in
theorem mb_X7_hang {p : Program} {l : Launch} {e : Env} {s : State} {m : MethodId} {args : Array Value} {below : List Frame} {meth : Method} {c : Code} {D : va_G} {cy : Nat → ClassId} {A : Nat → Prop} {o : Nat} {ad : Nat → Nat} (S : CallFix p m c cX7_hang 5 s args z_T RX7) (hlk : meth.locks = false) (hr : meth.sig.returnType = some .int) (hE : z_EM D cy s) {post : Int32 → z_Md → Prop}  (M : z_Md) (x1 : Int32) (hw : w_X7_hang post M x1) : z_V A (z_hM D cy A o ad) p l e rm_X7_hang s m args below meth c 5 (MQ below (va_Qi post (fun (u' : z_Md) t => z_hM D cy A o ad u' t.heap) A) args s 0 0 A) 0 0 M 0 [(0, va_rf (some o)), (1, .int x1)] [] := by
  refine z_aload_n (x := some o) S 0 dX7_hang_0 rfl rfl ?_
  refine z_iload_n S 1 dX7_hang_1 rfl rfl ?_
  refine z_callSi (As := [.int x1]) (st := [va_rf (some o)]) S (z_EMok D cy A) hE (me_X7_isLine l D cy A o ad _ M x1 hw) gS_X7_127 hdS_X7_isLine ⟨Nat.le_of_ble_eq_true rfl, Nat.le_of_ble_eq_true rfl⟩ rfl rfl (fun _ h => h) (fun _ _ _ _ h => h) rfl (Nat.le_trans (z_sq z_s0) (by decide)) dX7_hang_2 ⟨Nat.le_of_ble_eq_true rfl, Nat.le_of_ble_eq_true rfl⟩ rfl (fun r2 M1 hw => ?_)
  obtain ⟨hob, hw⟩ := hw
  suffices hJ : ∀ y3 : Int32, y3 = (if r2 = 0 then 1 else (if (M1 20 x1.toNatClampNeg) = 0 then 2 else 0)) → z_V A (z_hM D cy A o ad) p l e rm_X7_hang s m args below meth c 5 (MQ below (va_Qi post (fun (u' : z_Md) t => z_hM D cy A o ad u' t.heap) A) args s 0 0 A) 0 0 M1 26 [(0, va_rf (some o)), (1, .int x1)] [.int y3, va_rf (some o)] from by
    refine z_if_ne S 12 dX7_hang_5 (by decide) (fun c9 => ?_) (fun c9 => ?_)
    · have hob := hob c9
      refine z_aload_n (x := some o) S 0 dX7_hang_12 rfl rfl ?_
      refine zm_g_59 S hE dX7_hang_13 ?_
      refine z_iload_n S 1 dX7_hang_16 rfl rfl ?_
      have hi10 := hob
      refine z_mzld (j := 20) S hE rfl rfl hi10 dX7_hang_17 ?_
      refine z_if_ne S 25 dX7_hang_18 (by decide) (fun c11 => ?_) (fun c11 => ?_)
      · refine z_iconst (v := 0) S dX7_hang_25 (by decide) ?_
        exact hJ _ (by rw [if_neg c9, if_neg c11])
      · refine z_iconst (v := 2) S dX7_hang_21 (by decide) ?_
        refine z_goto S 26 dX7_hang_22 (by decide) ?_
        exact hJ _ (by rw [if_neg c9, if_pos c11])
    · refine z_iconst (v := 1) S dX7_hang_8 (by decide) ?_
      refine z_goto S 26 dX7_hang_9 (by decide) ?_
      exact hJ _ (by rw [if_pos c9])
  intro y3 ey3
  have hw := hw y3 ey3
  refine zm_p_89 S hE dX7_hang_26 ?_
  refine z_aload_n (x := some o) S 0 dX7_hang_29 rfl rfl ?_
  refine zm_g_89 S hE dX7_hang_30 ?_
  refine z_if_le S 38 dX7_hang_33 (by decide) (fun c4 => ?_) (fun c4 => ?_)
  · have hw := hw.1 c4
    refine z_aload_n (x := some o) S 0 dX7_hang_38 rfl rfl ?_
    refine zm_g_74 S hE dX7_hang_39 ?_
    refine z_iload_n S 1 dX7_hang_42 rfl rfl ?_
    obtain ⟨hi8, hw⟩ := hw
    refine z_mald (j := 25) S hE rfl rfl hi8 dX7_hang_43 ?_
    refine z_if_le S 83 dX7_hang_44 (by decide) (fun c5 => ?_) (fun c5 => ?_)
    · have hw := hw.1 c5
      exact mb_X7_hang_83 S hlk hr hE (z_up M1 0 0 y3) x1 hw
    · have hw := hw.2 c5
      refine z_aload_n (x := some o) S 0 dX7_hang_47 rfl rfl ?_
      refine zm_g_74 S hE dX7_hang_48 ?_
      refine z_iload_n S 1 dX7_hang_51 rfl rfl ?_
      obtain ⟨hi7, hw⟩ := hw
      refine z_mald (j := 25) S hE rfl rfl hi7 dX7_hang_52 ?_
      refine z_top (fun x2_6 ex2_6 => ?_)
      have hw := hw x2_6 ex2_6
      refine z_istore_n S [(2, .int x2_6), (0, va_rf (some o)), (1, .int x1)] dX7_hang_53 rfl (by decide) rfl ?_
      refine z_lv (lv' := [(0, va_rf (some o)), (1, .int x1), (2, .int x2_6)]) [1, 2, 0] rfl ?_
      obtain ⟨n0, hw⟩ := hw
      exact mb_X7_hang_54 S hlk hr hE n0 (z_up M1 0 0 y3) x1 x2_6 hw
  · have hw := hw.2 c4
    refine z_iconst (v := 0) S dX7_hang_36 (by decide) ?_
    exact z_iret S hr hlk dX7_hang_37 (Nat.le_refl 0) (Nat.le_refl 0) hw
theorem me_X7_hang (l : Launch) (D : va_G) (cy : Nat → ClassId) (A : Nat → Prop) (o : Nat) (ad : Nat → Nat) (post : Int32 → z_Md → Prop) (M : z_Md) (x1 : Int32) (hw : w_X7_hang post M x1) : z_Mi l yX7_hang (Cond.code yX7_hang cX7_hang 5 (some .int) :: z_T) rm_X7_hang [.ref o, .int x1] (z_EM D cy) (z_hM D cy A o ad) M post 0 0 A :=
  z_met (by decide) (Nat.le_of_ble_eq_true rfl) (fun p e s m args below meth c S hlk hr hnm hE => mb_X7_hang S hlk hr hE M x1 hw)
