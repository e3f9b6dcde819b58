abbrev rm_X7_find : Room := { frames := 0, cells := 0, slots := 0, locals := 0 }
def w_X7_find_4 (post : Int32 → z_Md → Prop) : Nat → z_Md → Int32 → Int32 → Int32 → Prop
  | 0 => fun _ _ _ _ => False
  | n + 1 => fun M x1 x2 x3 => (((M 13 0) ≤ x3 → (post x2 M)) ∧ (¬ (M 13 0) ≤ x3 → (vp_in x3 16 ∧ (∀ y2 : Int32, y2 = (if (M 15 x3.toNatClampNeg) = x1 then x3 else x2) → (w_X7_find_4 post n M x1 y2 (x3 + 1))))))
def w_X7_find (post : Int32 → z_Md → Prop) (M : z_Md) (x1 : Int32) : Prop := (∃ n0 : Nat, w_X7_find_4 post n0 M x1 (-1) 0)
set_option maxRecDepth 20000 in
theorem mb_X7_find_4 {p : Program} {l : Launch} {e : Env} {s : State} {m : MethodId} {args : Array Value} {below : List Frame} {meth : Method} {c : Code} {D : va_G} {cy : Nat → ClassId} {A : Nat → Prop} {o : Nat} {ad : Nat → Nat} (S : CallFix p m c cX7_find 4 s args z_T RX7) (hlk : meth.locks = false) (hr : meth.sig.returnType = some .int) (hE : z_EM D cy s) {post : Int32 → z_Md → Prop}  : ∀ (n : Nat) (M : z_Md) (x1 : Int32) (x2 : Int32) (x3 : Int32), w_X7_find_4 post n M x1 x2 x3 → z_V A (z_hM D cy A o ad) p l e rm_X7_find s m args below meth c 4 (MQ below (va_Qi post (fun (u' : z_Md) t => z_hM D cy A o ad u' t.heap) A) args s 0 0 A) 0 0 M 4 [(0, va_rf (some o)), (1, .int x1), (2, .int x2), (3, .int x3)] [] := by
  intro n
  induction n with
  | zero => intro M x1 x2 x3 hw; exact hw.elim
  | succ n ih =>
    intro M x1 x2 x3 hw
    refine z_iload_n S 3 dX7_find_4 rfl rfl ?_
    refine z_aload_n (x := some o) S 0 dX7_find_5 rfl rfl ?_
    refine zm_g_121 S hE dX7_find_6 ?_
    refine z_icmp_ge S 34 dX7_find_9 (by decide) (fun c1 => ?_) (fun c1 => ?_)
    · have hw := hw.1 c1
      refine z_iload_n S 2 dX7_find_34 rfl rfl ?_
      exact z_iret S hr hlk dX7_find_35 (Nat.le_refl 0) (Nat.le_refl 0) hw
    · have hw := hw.2 c1
      refine z_aload_n (x := some o) S 0 dX7_find_12 rfl rfl ?_
      refine zm_g_44 S hE dX7_find_13 ?_
      refine z_iload_n S 3 dX7_find_16 rfl rfl ?_
      obtain ⟨hi4, hw⟩ := hw
      refine z_mald (j := 15) S hE rfl rfl hi4 dX7_find_17 ?_
      refine z_iload_n S 1 dX7_find_18 rfl rfl ?_
      suffices hJ : ∀ y2 : Int32, y2 = (if (M 15 x3.toNatClampNeg) = x1 then x3 else x2) → z_V A (z_hM D cy A o ad) p l e rm_X7_find s m args below meth c 4 (MQ below (va_Qi post (fun (u' : z_Md) t => z_hM D cy A o ad u' t.heap) A) args s 0 0 A) 0 0 M 27 [(0, va_rf (some o)), (1, .int x1), (3, .int x3)] [.int y2] from by
        refine z_icmp_ne S 26 dX7_find_19 (by decide) (fun c3 => ?_) (fun c3 => ?_)
        · refine z_iload_n S 2 dX7_find_26 rfl rfl ?_
          refine z_lv (lv' := [(0, va_rf (some o)), (1, .int x1), (3, .int x3)]) [0, 1, 3] rfl ?_
          exact hJ _ (by rw [if_neg c3])
        · refine z_iload_n S 3 dX7_find_22 rfl rfl ?_
          refine z_goto S 27 dX7_find_23 (by decide) ?_
          refine z_lv (lv' := [(0, va_rf (some o)), (1, .int x1), (3, .int x3)]) [0, 1, 3] rfl ?_
          exact hJ _ (by rw [if_pos c3])
      intro y2 ey2
      have hw := hw y2 ey2
      refine z_istore_n S [(2, .int y2), (0, va_rf (some o)), (1, .int x1), (3, .int x3)] dX7_find_27 rfl (by decide) rfl ?_
      refine z_lv (lv' := [(0, va_rf (some o)), (1, .int x1), (2, .int y2), (3, .int x3)]) [1, 2, 0, 3] rfl ?_
      refine z_iinc (v := x3 + 1) (pl := 3) S [(3, .int (x3 + 1)), (0, va_rf (some o)), (1, .int x1), (2, .int y2)] dX7_find_28 rfl rfl (by decide) rfl ?_
      refine z_lv (lv' := [(0, va_rf (some o)), (1, .int x1), (2, .int y2), (3, .int (x3 + 1))]) [1, 2, 3, 0] rfl ?_
      refine z_goto S 4 dX7_find_31 (by decide) ?_
      exact ih M x1 y2 (x3 + 1) hw
set_option maxRecDepth 20000 in
theorem mb_X7_find {p : Program} {l : Launch} {e : Env} {s : State} {m : MethodId} {args : Array Value} {below : List Frame} {meth : Method} {c : Code} {D : va_G} {cy : Nat → ClassId} {A : Nat → Prop} {o : Nat} {ad : Nat → Nat} (S : CallFix p m c cX7_find 4 s args z_T RX7) (hlk : meth.locks = false) (hr : meth.sig.returnType = some .int) (hE : z_EM D cy s) {post : Int32 → z_Md → Prop}  (M : z_Md) (x1 : Int32) (hw : w_X7_find post M x1) : z_V A (z_hM D cy A o ad) p l e rm_X7_find s m args below meth c 4 (MQ below (va_Qi post (fun (u' : z_Md) t => z_hM D cy A o ad u' t.heap) A) args s 0 0 A) 0 0 M 0 [(0, va_rf (some o)), (1, .int x1)] [] := by
  refine z_iconst (v := (-1)) S dX7_find_0 (by decide) ?_
  refine z_istore_n S [(2, .int (-1)), (0, va_rf (some o)), (1, .int x1)] dX7_find_1 rfl (by decide) rfl ?_
  refine z_lv (lv' := [(0, va_rf (some o)), (1, .int x1), (2, .int (-1))]) [1, 2, 0] rfl ?_
  refine z_iconst (v := 0) S dX7_find_2 (by decide) ?_
  refine z_istore_n S [(3, .int 0), (0, va_rf (some o)), (1, .int x1), (2, .int (-1))] dX7_find_3 rfl (by decide) rfl ?_
  refine z_lv (lv' := [(0, va_rf (some o)), (1, .int x1), (2, .int (-1)), (3, .int 0)]) [1, 2, 3, 0] rfl ?_
  obtain ⟨n0, hw⟩ := hw
  exact mb_X7_find_4 S hlk hr hE n0 M x1 (-1) 0 hw
theorem me_X7_find (l : Launch) (D : va_G) (cy : Nat → ClassId) (A : Nat → Prop) (o : Nat) (ad : Nat → Nat) (post : Int32 → z_Md → Prop) (M : z_Md) (x1 : Int32) (hw : w_X7_find post M x1) : z_Mi l yX7_find (Cond.code yX7_find cX7_find 4 (some .int) :: z_T) rm_X7_find [.ref o, .int x1] (z_EM D cy) (z_hM D cy A o ad) M post 0 0 A :=
  z_met (by decide) (Nat.le_of_ble_eq_true rfl) (fun p e s m args below meth c S hlk hr hnm hE => mb_X7_find S hlk hr hE M x1 hw)
abbrev rm_X7_next : Room := { frames := 1, cells := 0, slots := 0, locals := 21 }
def w_X7_next_93 (post : Int32 → z_Md → Prop) (J45 : z_Md → Int32 → Int32 → Int32 → Int32 → Int32 → Prop) (M : z_Md) (x1 : Int32) (x2 : Int32) (x3 : Int32) (x4 : Int32) (x5 : Int32) : Prop := (J45 M x1 x2 x3 x4 (x5 + 1))
def w_X7_next_45 (post : Int32 → z_Md → Prop) : Nat → z_Md → Int32 → Int32 → Int32 → Int32 → Int32 → Prop
  | 0 => fun _ _ _ _ _ _ => False
  | n + 1 => fun M x1 x2 x3 x4 x5 => (((M 13 0) ≤ x5 → (post 0 (z_up M 0 0 3))) ∧ (¬ (M 13 0) ≤ x5 → (vp_in x5 16 ∧ ((¬ (M 16 x5.toNatClampNeg) = x1 → (w_X7_next_93 post (w_X7_next_45 post n) M x1 x2 x3 x4 x5)) ∧ ((M 16 x5.toNatClampNeg) = x1 → (vp_in x5 16 ∧ ((¬ (M 17 x5.toNatClampNeg) = x2 → (w_X7_next_93 post (w_X7_next_45 post n) M x1 x2 x3 x4 x5)) ∧ ((M 17 x5.toNatClampNeg) = x2 → ((¬ x4 = x3 → (w_X7_next_93 post (w_X7_next_45 post n) M x1 x2 x3 (x4 + 1) x5)) ∧ (x4 = x3 → (vp_in x5 16 ∧ (post (M 15 x5.toNatClampNeg) M))))))))))))
def w_X7_next (post : Int32 → z_Md → Prop) (M : z_Md) (x1 : Int32) (x2 : Int32) (x3 : Int32) : Prop := (w_X7_isBox (fun r2 M1 => (∀ y3 : Int32, y3 = (if r2 = 0 then 1 else (if x2 < 0 then 2 else (if x2 ≤ 2 then 0 else 2))) → ((((z_up M1 0 0 y3) 0 0) ≤ 0 → (∃ n0 : Nat, w_X7_next_45 post n0 (z_up M1 0 0 y3) x1 x2 x3 0 0)) ∧ (¬ ((z_up M1 0 0 y3) 0 0) ≤ 0 → (post 0 (z_up M1 0 0 y3)))))) M x1)
set_option maxRecDepth 20000 in
theorem mb_X7_next_93 {p : Program} {l : Launch} {e : Env} {s : State} {m : MethodId} {args : Array Value} {below : List Frame} {meth : Method} {c : Code} {D : va_G} {cy : Nat → ClassId} {A : Nat → Prop} {o : Nat} {ad : Nat → Nat} (S : CallFix p m c cX7_next 6 s args z_T RX7) (hlk : meth.locks = false) (hr : meth.sig.returnType = some .int) (hE : z_EM D cy s) {post : Int32 → z_Md → Prop} {J45 : z_Md → Int32 → Int32 → Int32 → Int32 → Int32 → Prop} (hJ45 : ∀ (M : z_Md) (x1 : Int32) (x2 : Int32) (x3 : Int32) (x4 : Int32) (x5 : Int32), J45 M x1 x2 x3 x4 x5 → z_V A (z_hM D cy A o ad) p l e rm_X7_next s m args below meth c 6 (MQ below (va_Qi post (fun (u' : z_Md) t => z_hM D cy A o ad u' t.heap) A) args s 0 0 A) 0 0 M 45 [(0, va_rf (some o)), (1, .int x1), (2, .int x2), (3, .int x3), (4, .int x4), (5, .int x5)] []) (M : z_Md) (x1 : Int32) (x2 : Int32) (x3 : Int32) (x4 : Int32) (x5 : Int32) (hw : w_X7_next_93 post J45 M x1 x2 x3 x4 x5) : z_V A (z_hM D cy A o ad) p l e rm_X7_next s m args below meth c 6 (MQ below (va_Qi post (fun (u' : z_Md) t => z_hM D cy A o ad u' t.heap) A) args s 0 0 A) 0 0 M 93 [(0, va_rf (some o)), (1, .int x1), (2, .int x2), (3, .int x3), (4, .int x4), (5, .int x5)] [] := by
  refine z_iinc (v := x5 + 1) (pl := 5) S [(5, .int (x5 + 1)), (0, va_rf (some o)), (1, .int x1), (2, .int x2), (3, .int x3), (4, .int x4)] dX7_next_93 rfl rfl (by decide) rfl ?_
  refine z_lv (lv' := [(0, va_rf (some o)), (1, .int x1), (2, .int x2), (3, .int x3), (4, .int x4), (5, .int (x5 + 1))]) [1, 2, 3, 4, 5, 0] rfl ?_
  refine z_goto S 45 dX7_next_96 (by decide) ?_
  exact hJ45 M x1 x2 x3 x4 (x5 + 1) hw
set_option maxRecDepth 20000 in
theorem mb_X7_next_45 {p : Program} {l : Launch} {e : Env} {s : State} {m : MethodId} {args : Array Value} {below : List Frame} {meth : Method} {c : Code} {D : va_G} {cy : Nat → ClassId} {A : Nat → Prop} {o : Nat} {ad : Nat → Nat} (S : CallFix p m c cX7_next 6 s args z_T RX7) (hlk : meth.locks = false) (hr : meth.sig.returnType = some .int) (hE : z_EM D cy s) {post : Int32 → z_Md → Prop}  : ∀ (n : Nat) (M : z_Md) (x1 : Int32) (x2 : Int32) (x3 : Int32) (x4 : Int32) (x5 : Int32), w_X7_next_45 post n M x1 x2 x3 x4 x5 → z_V A (z_hM D cy A o ad) p l e rm_X7_next s m args below meth c 6 (MQ below (va_Qi post (fun (u' : z_Md) t => z_hM D cy A o ad u' t.heap) A) args s 0 0 A) 0 0 M 45 [(0, va_rf (some o)), (1, .int x1), (2, .int x2), (3, .int x3), (4, .int x4), (5, .int x5)] [] := by
  intro n
  induction n with
  | zero => intro M x1 x2 x3 x4 x5 hw; exact hw.elim
  | succ n ih =>
    intro M x1 x2 x3 x4 x5 hw
    refine z_iload S 5 dX7_next_45 rfl ?_
    refine z_aload_n (x := some o) S 0 dX7_next_47 rfl rfl ?_
    refine zm_g_121 S hE dX7_next_48 ?_
    refine z_icmp_ge S 99 dX7_next_51 (by decide) (fun c1 => ?_) (fun c1 => ?_)
    · have hw := hw.1 c1
      refine z_aload_n (x := some o) S 0 dX7_next_99 rfl rfl ?_
      refine z_iconst (v := 3) S dX7_next_100 (by decide) ?_
      refine zm_p_89 S hE dX7_next_101 ?_
      refine z_iconst (v := 0) S dX7_next_104 (by decide) ?_
      exact z_iret S hr hlk dX7_next_105 (Nat.le_refl 0) (Nat.le_refl 0) hw
    · have hw := hw.2 c1
      refine z_aload_n (x := some o) S 0 dX7_next_54 rfl rfl ?_
      refine zm_g_47 S hE dX7_next_55 ?_
      refine z_iload S 5 dX7_next_58 rfl ?_
      obtain ⟨hi7, hw⟩ := hw
      refine z_mald (j := 16) S hE rfl rfl hi7 dX7_next_60 ?_
      refine z_iload_n S 1 dX7_next_61 rfl rfl ?_
      refine z_icmp_ne S 93 dX7_next_62 (by decide) (fun c2 => ?_) (fun c2 => ?_)
      · have hw := hw.1 c2
        exact mb_X7_next_93 S hlk hr hE ih M x1 x2 x3 x4 x5 hw
      · have hw := hw.2 c2
        refine z_aload_n (x := some o) S 0 dX7_next_65 rfl rfl ?_
        refine zm_g_50 S hE dX7_next_66 ?_
        refine z_iload S 5 dX7_next_69 rfl ?_
        obtain ⟨hi6, hw⟩ := hw
        refine z_mald (j := 17) S hE rfl rfl hi6 dX7_next_71 ?_
        refine z_iload_n S 2 dX7_next_72 rfl rfl ?_
        refine z_icmp_ne S 93 dX7_next_73 (by decide) (fun c3 => ?_) (fun c3 => ?_)
        · have hw := hw.1 c3
          exact mb_X7_next_93 S hlk hr hE ih M x1 x2 x3 x4 x5 hw
        · have hw := hw.2 c3
          refine z_iload S 4 dX7_next_76 rfl ?_
          refine z_iload_n S 3 dX7_next_78 rfl rfl ?_
          refine z_icmp_ne S 90 dX7_next_79 (by decide) (fun c4 => ?_) (fun c4 => ?_)
          · have hw := hw.1 c4
            refine z_iinc (v := x4 + 1) (pl := 4) S [(4, .int (x4 + 1)), (0, va_rf (some o)), (1, .int x1), (2, .int x2), (3, .int x3), (5, .int x5)] dX7_next_90 rfl rfl (by decide) rfl ?_
            refine z_lv (lv' := [(0, va_rf (some o)), (1, .int x1), (2, .int x2), (3, .int x3), (4, .int (x4 + 1)), (5, .int x5)]) [1, 2, 3, 4, 0, 5] rfl ?_
            exact mb_X7_next_93 S hlk hr hE ih M x1 x2 x3 (x4 + 1) x5 hw
          · have hw := hw.2 c4
            refine z_aload_n (x := some o) S 0 dX7_next_82 rfl rfl ?_
            refine zm_g_44 S hE dX7_next_83 ?_
            refine z_iload S 5 dX7_next_86 rfl ?_
            obtain ⟨hi5, hw⟩ := hw
            refine z_mald (j := 15) S hE rfl rfl hi5 dX7_next_88 ?_
            exact z_iret S hr hlk dX7_next_89 (Nat.le_refl 0) (Nat.le_refl 0) hw
set_option maxRecDepth 20000 in
theorem mb_X7_next {p : Program} {l : Launch} {e : Env} {s : State} {m : MethodId} {args : Array Value} {below : List Frame} {meth : Method} {c : Code} {D : va_G} {cy : Nat → ClassId} {A : Nat → Prop} {o : Nat} {ad : Nat → Nat} (S : CallFix p m c cX7_next 6 s args z_T RX7) (hlk : meth.locks = false) (hr : meth.sig.returnType = some .int) (hE : z_EM D cy s) {post : Int32 → z_Md → Prop}  (M : z_Md) (x1 : Int32) (x2 : Int32) (x3 : Int32) (hw : w_X7_next post M x1 x2 x3) : z_V A (z_hM D cy A o ad) p l e rm_X7_next s m args below meth c 6 (MQ below (va_Qi post (fun (u' : z_Md) t => z_hM D cy A o ad u' t.heap) A) args s 0 0 A) 0 0 M 0 [(0, va_rf (some o)), (1, .int x1), (2, .int x2), (3, .int x3)] [] := by
  refine z_aload_n (x := some o) S 0 dX7_next_0 rfl rfl ?_
  refine z_aload_n (x := some o) S 0 dX7_next_1 rfl rfl ?_
  refine z_iload_n S 1 dX7_next_2 rfl rfl ?_
  refine z_callVi (As := [.int x1]) (st := [va_rf (some o)]) S (z_EMok D cy A) hE (me_X7_isBox l D cy A o ad _ M x1 hw) gV_X7_131 hdV_X7_isBox ⟨Nat.le_of_ble_eq_true rfl, Nat.le_of_ble_eq_true rfl⟩ rfl rfl (z_recvM hE) (fun _ h => h) (fun _ _ _ _ h => h) rfl (Nat.le_trans (z_sq z_s0) (by decide)) dX7_next_3 ⟨Nat.le_of_ble_eq_true rfl, Nat.le_of_ble_eq_true rfl⟩ rfl (fun r2 M1 hw => ?_)
  suffices hJ : ∀ y3 : Int32, y3 = (if r2 = 0 then 1 else (if x2 < 0 then 2 else (if x2 ≤ 2 then 0 else 2))) → z_V A (z_hM D cy A o ad) p l e rm_X7_next s m args below meth c 6 (MQ below (va_Qi post (fun (u' : z_Md) t => z_hM D cy A o ad u' t.heap) A) args s 0 0 A) 0 0 M1 27 [(0, va_rf (some o)), (1, .int x1), (2, .int x2), (3, .int x3)] [.int y3, va_rf (some o)] from by
    refine z_if_ne S 13 dX7_next_6 (by decide) (fun c5 => ?_) (fun c5 => ?_)
    · refine z_iload_n S 2 dX7_next_13 rfl rfl ?_
      refine z_if_lt S 22 dX7_next_14 (by decide) (fun c6 => ?_) (fun c6 => ?_)
      · refine z_iconst (v := 2) S dX7_next_22 (by decide) ?_
        refine z_goto S 27 dX7_next_23 (by decide) ?_
        exact hJ _ (by rw [if_neg c5, if_pos c6])
      · refine z_iload_n S 2 dX7_next_17 rfl rfl ?_
        refine z_iconst (v := 2) S dX7_next_18 (by decide) ?_
        refine z_icmp_le S 26 dX7_next_19 (by decide) (fun c7 => ?_) (fun c7 => ?_)
        · refine z_iconst (v := 0) S dX7_next_26 (by decide) ?_
          exact hJ _ (by rw [if_neg c5, if_neg c6, if_pos c7])
        · refine z_iconst (v := 2) S dX7_next_22 (by decide) ?_
          refine z_goto S 27 dX7_next_23 (by decide) ?_
          exact hJ _ (by rw [if_neg c5, if_neg c6, if_neg c7])
    · refine z_iconst (v := 1) S dX7_next_9 (by decide) ?_
      refine z_goto S 27 dX7_next_10 (by decide) ?_
      exact hJ _ (by rw [if_pos c5])
  intro y3 ey3
  have hw := hw y3 ey3
  refine zm_p_89 S hE dX7_next_27 ?_
  refine z_aload_n (x := some o) S 0 dX7_next_30 rfl rfl ?_
  refine zm_g_89 S hE dX7_next_31 ?_
  refine z_if_le S 39 dX7_next_34 (by decide) (fun c4 => ?_) (fun c4 => ?_)
  · have hw := hw.1 c4
    refine z_iconst (v := 0) S dX7_next_39 (by decide) ?_
    refine z_istore S [(4, .int 0), (0, va_rf (some o)), (1, .int x1), (2, .int x2), (3, .int x3)] dX7_next_40 (by decide) rfl ?_
    refine z_lv (lv' := [(0, va_rf (some o)), (1, .int x1), (2, .int x2), (3, .int x3), (4, .int 0)]) [1, 2, 3, 4, 0] rfl ?_
    refine z_iconst (v := 0) S dX7_next_42 (by decide) ?_
    refine z_istore S [(5, .int 0), (0, va_rf (some o)), (1, .int x1), (2, .int x2), (3, .int x3), (4, .int 0)] dX7_next_43 (by decide) rfl ?_
    refine z_lv (lv' := [(0, va_rf (some o)), (1, .int x1), (2, .int x2), (3, .int x3), (4, .int 0), (5, .int 0)]) [1, 2, 3, 4, 5, 0] rfl ?_
    obtain ⟨n0, hw⟩ := hw
    exact mb_X7_next_45 S hlk hr hE n0 (z_up M1 0 0 y3) x1 x2 x3 0 0 hw
  · have hw := hw.2 c4
    refine z_iconst (v := 0) S dX7_next_37 (by decide) ?_
    exact z_iret S hr hlk dX7_next_38 (Nat.le_refl 0) (Nat.le_refl 0) hw
theorem me_X7_next (l : Launch) (D : va_G) (cy : Nat → ClassId) (A : Nat → Prop) (o : Nat) (ad : Nat → Nat) (post : Int32 → z_Md → Prop) (M : z_Md) (x1 : Int32) (x2 : Int32) (x3 : Int32) (hw : w_X7_next post M x1 x2 x3) : z_Mi l yX7_next (Cond.code yX7_next cX7_next 6 (some .int) :: z_T) rm_X7_next [.ref o, .int x1, .int x2, .int x3] (z_EM D cy) (z_hM D cy A o ad) M post 0 0 A :=
  z_met (by decide) (Nat.le_of_ble_eq_true rfl) (fun p e s m args below meth c S hlk hr hnm hE => mb_X7_next S hlk hr hE M x1 x2 x3 hw)
abbrev rm_X7_mark : Room := { frames := 1, cells := 0, slots := 0, locals := 23 }
def w_X7_mark (post : Int32 → z_Md → Prop) (M : z_Md) (x1 : Int32) (x2 : Int32) : Prop := (w_X7_find (fun r2 M1 => (∀ y3 : Int32, y3 = (if 0 ≤ r2 then (if x2 < 0 then 2 else (if x2 ≤ 2 then 0 else 2)) else 1) → ((((z_up M1 0 0 y3) 0 0) ≤ 0 → (vp_in r2 16 ∧ (∀ x4_5 : Int32, x4_5 = (z_up M1 0 0 y3) 17 r2.toNatClampNeg → (vp_in r2 16 ∧ (post x4_5 (z_up (z_up M1 0 0 y3) 17 r2.toNatClampNeg x2)))))) ∧ (¬ ((z_up M1 0 0 y3) 0 0) ≤ 0 → (post 0 (z_up M1 0 0 y3)))))) M x1)
set_option maxRecDepth 20000 in
theorem mb_X7_mark {p : Program} {l : Launch} {e : Env} {s : State} {m : MethodId} {args : Array Value} {below : List Frame} {meth : Method} {c : Code} {D : va_G} {cy : Nat → ClassId} {A : Nat → Prop} {o : Nat} {ad : Nat → Nat} (S : CallFix p m c cX7_mark 5 s args z_T RX7) (hlk : meth.locks = false) (hr : meth.sig.returnType = some .int) (hE : z_EM D cy s) {post : Int32 → z_Md → Prop}  (M : z_Md) (x1 : Int32) (x2 : Int32) (hw : w_X7_mark post M x1 x2) : z_V A (z_hM D cy A o ad) p l e rm_X7_mark s m args below meth c 5 (MQ below (va_Qi post (fun (u' : z_Md) t => z_hM D cy A o ad u' t.heap) A) args s 0 0 A) 0 0 M 0 [(0, va_rf (some o)), (1, .int x1), (2, .int x2)] [] := by
  refine z_aload_n (x := some o) S 0 dX7_mark_0 rfl rfl ?_
  refine z_iload_n S 1 dX7_mark_1 rfl rfl ?_
  refine z_callVi (As := [.int x1]) (st := []) S (z_EMok D cy A) hE (me_X7_find l D cy A o ad _ M x1 hw) gV_X7_174 hdV_X7_find ⟨Nat.le_of_ble_eq_true rfl, Nat.le_of_ble_eq_true rfl⟩ rfl rfl (z_recvM hE) (fun _ h => h) (fun _ _ _ _ h => h) rfl (Nat.le_trans z_s0 (by decide)) dX7_mark_2 ⟨Nat.le_of_ble_eq_true rfl, Nat.le_of_ble_eq_true rfl⟩ rfl (fun r2 M1 hw => ?_)
  refine z_istore_n S [(3, .int r2), (0, va_rf (some o)), (1, .int x1), (2, .int x2)] dX7_mark_5 rfl (by decide) rfl ?_
  refine z_lv (lv' := [(0, va_rf (some o)), (1, .int x1), (2, .int x2), (3, .int r2)]) [1, 2, 3, 0] rfl ?_
  refine z_aload_n (x := some o) S 0 dX7_mark_6 rfl rfl ?_
  refine z_iload_n S 3 dX7_mark_7 rfl rfl ?_
  suffices hJ : ∀ y3 : Int32, y3 = (if 0 ≤ r2 then (if x2 < 0 then 2 else (if x2 ≤ 2 then 0 else 2)) else 1) → z_V A (z_hM D cy A o ad) p l e rm_X7_mark s m args below meth c 5 (MQ below (va_Qi post (fun (u' : z_Md) t => z_hM D cy A o ad u' t.heap) A) args s 0 0 A) 0 0 M1 29 [(0, va_rf (some o)), (2, .int x2), (3, .int r2)] [.int y3, va_rf (some o)] from by
    refine z_if_ge S 15 dX7_mark_8 (by decide) (fun c8 => ?_) (fun c8 => ?_)
    · refine z_iload_n S 2 dX7_mark_15 rfl rfl ?_
      refine z_if_lt S 24 dX7_mark_16 (by decide) (fun c9 => ?_) (fun c9 => ?_)
      · refine z_iconst (v := 2) S dX7_mark_24 (by decide) ?_
        refine z_goto S 29 dX7_mark_25 (by decide) ?_
        refine z_lv (lv' := [(0, va_rf (some o)), (2, .int x2), (3, .int r2)]) [0, 2, 3] rfl ?_
        exact hJ _ (by rw [if_pos c8, if_pos c9])
      · refine z_iload_n S 2 dX7_mark_19 rfl rfl ?_
        refine z_iconst (v := 2) S dX7_mark_20 (by decide) ?_
        refine z_icmp_le S 28 dX7_mark_21 (by decide) (fun c10 => ?_) (fun c10 => ?_)
        · refine z_iconst (v := 0) S dX7_mark_28 (by decide) ?_
          refine z_lv (lv' := [(0, va_rf (some o)), (2, .int x2), (3, .int r2)]) [0, 2, 3] rfl ?_
          exact hJ _ (by rw [if_pos c8, if_neg c9, if_pos c10])
        · refine z_iconst (v := 2) S dX7_mark_24 (by decide) ?_
          refine z_goto S 29 dX7_mark_25 (by decide) ?_
          refine z_lv (lv' := [(0, va_rf (some o)), (2, .int x2), (3, .int r2)]) [0, 2, 3] rfl ?_
          exact hJ _ (by rw [if_pos c8, if_neg c9, if_neg c10])
    · refine z_iconst (v := 1) S dX7_mark_11 (by decide) ?_
      refine z_goto S 29 dX7_mark_12 (by decide) ?_
      refine z_lv (lv' := [(0, va_rf (some o)), (2, .int x2), (3, .int r2)]) [0, 2, 3] rfl ?_
      exact hJ _ (by rw [if_neg c8])
  intro y3 ey3
  have hw := hw y3 ey3
  refine zm_p_89 S hE dX7_mark_29 ?_
  refine z_aload_n (x := some o) S 0 dX7_mark_32 rfl rfl ?_
  refine zm_g_89 S hE dX7_mark_33 ?_
  refine z_if_le S 41 dX7_mark_36 (by decide) (fun c4 => ?_) (fun c4 => ?_)
  · have hw := hw.1 c4
    refine z_aload_n (x := some o) S 0 dX7_mark_41 rfl rfl ?_
    refine zm_g_50 S hE dX7_mark_42 ?_
    refine z_iload_n S 2 dX7_mark_45 rfl rfl ?_
    obtain ⟨hi7, hw⟩ := hw
    refine z_mald (j := 17) S hE rfl rfl hi7 dX7_mark_46 ?_
    refine z_top (fun x4_5 ex4_5 => ?_)
    have hw := hw x4_5 ex4_5
    refine z_istore S [(4, .int x4_5), (0, va_rf (some o)), (2, .int x2), (3, .int r2)] dX7_mark_47 (by decide) rfl ?_
    refine z_lv (lv' := [(0, va_rf (some o)), (2, .int x2), (3, .int r2), (4, .int x4_5)]) [1, 2, 3, 0] rfl ?_
    refine z_aload_n (x := some o) S 0 dX7_mark_49 rfl rfl ?_
    refine zm_g_50 S hE dX7_mark_50 ?_
    refine z_iload_n S 2 dX7_mark_53 rfl rfl ?_
    refine z_iload_n S 1 dX7_mark_54 rfl rfl ?_
    obtain ⟨hi6, hw⟩ := hw
    refine z_mast (j := 17) S hE rfl rfl hi6 dX7_mark_55 ?_
    refine z_iload S 3 dX7_mark_56 rfl ?_
    exact z_iret S hr hlk dX7_mark_58 (Nat.le_refl 0) (Nat.le_refl 0) hw
  · have hw := hw.2 c4
    refine z_iconst (v := 0) S dX7_mark_39 (by decide) ?_
    exact z_iret S hr hlk dX7_mark_40 (Nat.le_refl 0) (Nat.le_refl 0) hw
theorem me_X7_mark (l : Launch) (D : va_G) (cy : Nat → ClassId) (A : Nat → Prop) (o : Nat) (ad : Nat → Nat) (post : Int32 → z_Md → Prop) (M : z_Md) (x1 : Int32) (x2 : Int32) (hw : w_X7_mark post M x1 x2) : z_Mi l yX7_mark (Cond.code yX7_mark cX7_mark 5 (some .int) :: z_T) rm_X7_mark [.ref o, .int x1, .int x2] (z_EM D cy) (z_hM D cy A o ad) M post 0 0 A :=
  z_met (by decide) (Nat.le_of_ble_eq_true rfl) (fun p e s m args below meth c S hlk hr hnm hE => mb_X7_mark S hlk hr hE M x1 x2 hw)
abbrev rm_X7_erase : Room := { frames := 2, cells := 0, slots := 0, locals := 45 }
def w_X7_erase_63 (post : Int32 → z_Md → Prop) : Nat → z_Md → Int32 → Int32 → Prop
  | 0 => fun _ _ _ => False
  | n + 1 => fun M x3 x4 => (((M 13 0) ≤ x4 → (post x3 M)) ∧ (¬ (M 13 0) ≤ x4 → (vp_in (x4 + 1) 16 ∧ (vp_in x4 16 ∧ (vp_in (x4 + 1) 16 ∧ (vp_in x4 16 ∧ (vp_in (x4 + 1) 16 ∧ (vp_in x4 16 ∧ (vp_in (x4 + 1) 16 ∧ (vp_in x4 16 ∧ (vp_in (x4 + 1) 16 ∧ (vp_in x4 16 ∧ (w_X7_erase_63 post n (z_up (z_up (z_up (z_up (z_up M 15 x4.toNatClampNeg (M 15 (x4 + 1).toNatClampNeg)) 16 x4.toNatClampNeg ((z_up M 15 x4.toNatClampNeg (M 15 (x4 + 1).toNatClampNeg)) 16 (x4 + 1).toNatClampNeg)) 17 x4.toNatClampNeg ((z_up (z_up M 15 x4.toNatClampNeg (M 15 (x4 + 1).toNatClampNeg)) 16 x4.toNatClampNeg ((z_up M 15 x4.toNatClampNeg (M 15 (x4 + 1).toNatClampNeg)) 16 (x4 + 1).toNatClampNeg)) 17 (x4 + 1).toNatClampNeg)) 18 x4.toNatClampNeg ((z_up (z_up (z_up M 15 x4.toNatClampNeg (M 15 (x4 + 1).toNatClampNeg)) 16 x4.toNatClampNeg ((z_up M 15 x4.toNatClampNeg (M 15 (x4 + 1).toNatClampNeg)) 16 (x4 + 1).toNatClampNeg)) 17 x4.toNatClampNeg ((z_up (z_up M 15 x4.toNatClampNeg (M 15 (x4 + 1).toNatClampNeg)) 16 x4.toNatClampNeg ((z_up M 15 x4.toNatClampNeg (M 15 (x4 + 1).toNatClampNeg)) 16 (x4 + 1).toNatClampNeg)) 17 (x4 + 1).toNatClampNeg)) 18 (x4 + 1).toNatClampNeg)) 19 x4.toNatClampNeg ((z_up (z_up (z_up (z_up M 15 x4.toNatClampNeg (M 15 (x4 + 1).toNatClampNeg)) 16 x4.toNatClampNeg ((z_up M 15 x4.toNatClampNeg (M 15 (x4 + 1).toNatClampNeg)) 16 (x4 + 1).toNatClampNeg)) 17 x4.toNatClampNeg ((z_up (z_up M 15 x4.toNatClampNeg (M 15 (x4 + 1).toNatClampNeg)) 16 x4.toNatClampNeg ((z_up M 15 x4.toNatClampNeg (M 15 (x4 + 1).toNatClampNeg)) 16 (x4 + 1).toNatClampNeg)) 17 (x4 + 1).toNatClampNeg)) 18 x4.toNatClampNeg ((z_up (z_up (z_up M 15 x4.toNatClampNeg (M 15 (x4 + 1).toNatClampNeg)) 16 x4.toNatClampNeg ((z_up M 15 x4.toNatClampNeg (M 15 (x4 + 1).toNatClampNeg)) 16 (x4 + 1).toNatClampNeg)) 17 x4.toNatClampNeg ((z_up (z_up M 15 x4.toNatClampNeg (M 15 (x4 + 1).toNatClampNeg)) 16 x4.toNatClampNeg ((z_up M 15 x4.toNatClampNeg (M 15 (x4 + 1).toNatClampNeg)) 16 (x4 + 1).toNatClampNeg)) 17 (x4 + 1).toNatClampNeg)) 18 (x4 + 1).toNatClampNeg)) 19 (x4 + 1).toNatClampNeg)) x3 (x4 + 1))))))))))))))
def w_X7_erase (post : Int32 → z_Md → Prop) (M : z_Md) (x1 : Int32) : Prop := (w_X7_find (fun r2 M1 => (∀ y3 : Int32, y3 = (if 0 ≤ r2 then 0 else 1) → ((((z_up M1 0 0 y3) 0 0) ≤ 0 → (vp_in r2 16 ∧ (w_X7_letGo (fun r6 M5 => (vp_in r2 16 ∧ (w_X7_letGo (fun r8 M7 => (∃ n0 : Nat, w_X7_erase_63 post n0 (z_up M7 13 0 ((M7 13 0) - 1)) (r6 + r8) r2)) M5 (M5 19 r2.toNatClampNeg)))) (z_up M1 0 0 y3) ((z_up M1 0 0 y3) 18 r2.toNatClampNeg)))) ∧ (¬ ((z_up M1 0 0 y3) 0 0) ≤ 0 → (post 0 (z_up M1 0 0 y3)))))) M x1)
set_option maxRecDepth 20000 in
theorem mb_X7_erase_63 {p : Program} {l : Launch} {e : Env} {s : State} {m : MethodId} {args : Array Value} {below : List Frame} {meth : Method} {c : Code} {D : va_G} {cy : Nat → ClassId} {A : Nat → Prop} {o : Nat} {ad : Nat → Nat} (S : CallFix p m c cX7_erase 5 s args z_T RX7) (hlk : meth.locks = false) (hr : meth.sig.returnType = some .int) (hE : z_EM D cy s) {post : Int32 → z_Md → Prop}  : ∀ (n : Nat) (M : z_Md) (x3 : Int32) (x4 : Int32), w_X7_erase_63 post n M x3 x4 → z_V A (z_hM D cy A o ad) p l e rm_X7_erase s m args below meth c 5 (MQ below (va_Qi post (fun (u' : z_Md) t => z_hM D cy A o ad u' t.heap) A) args s 0 0 A) 0 0 M 63 [(0, va_rf (some o)), (3, .int x3), (4, .int x4)] [] := by
  intro n
  induction n with
  | zero => intro M x3 x4 hw; exact hw.elim
  | succ n ih =>
    intro M x3 x4 hw
    refine z_iload S 2 dX7_erase_63 rfl ?_
    refine z_aload_n (x := some o) S 0 dX7_erase_65 rfl rfl ?_
    refine zm_g_121 S hE dX7_erase_66 ?_
    refine z_icmp_ge S 158 dX7_erase_69 (by decide) (fun c1 => ?_) (fun c1 => ?_)
    · have hw := hw.1 c1
      refine z_iload_n S 1 dX7_erase_158 rfl rfl ?_
      exact z_iret S hr hlk dX7_erase_159 (Nat.le_refl 0) (Nat.le_refl 0) hw
    · have hw := hw.2 c1
      refine z_aload_n (x := some o) S 0 dX7_erase_72 rfl rfl ?_
      refine zm_g_44 S hE dX7_erase_73 ?_
      refine z_iload S 2 dX7_erase_76 rfl ?_
      refine z_aload_n (x := some o) S 0 dX7_erase_78 rfl rfl ?_
      refine zm_g_44 S hE dX7_erase_79 ?_
      refine z_iload S 2 dX7_erase_82 rfl ?_
      refine z_iconst (v := 1) S dX7_erase_84 (by decide) ?_
      refine z_iadd S dX7_erase_85 ?_
      obtain ⟨hi11, hw⟩ := hw
      refine z_mald (j := 15) S hE rfl rfl hi11 dX7_erase_86 ?_
      obtain ⟨hi10, hw⟩ := hw
      refine z_mast (j := 15) S hE rfl rfl hi10 dX7_erase_87 ?_
      refine z_aload_n (x := some o) S 0 dX7_erase_88 rfl rfl ?_
      refine zm_g_47 S hE dX7_erase_89 ?_
      refine z_iload S 2 dX7_erase_92 rfl ?_
      refine z_aload_n (x := some o) S 0 dX7_erase_94 rfl rfl ?_
      refine zm_g_47 S hE dX7_erase_95 ?_
      refine z_iload S 2 dX7_erase_98 rfl ?_
      refine z_iconst (v := 1) S dX7_erase_100 (by decide) ?_
      refine z_iadd S dX7_erase_101 ?_
      obtain ⟨hi9, hw⟩ := hw
      refine z_mald (j := 16) S hE rfl rfl hi9 dX7_erase_102 ?_
      obtain ⟨hi8, hw⟩ := hw
      refine z_mast (j := 16) S hE rfl rfl hi8 dX7_erase_103 ?_
      refine z_aload_n (x := some o) S 0 dX7_erase_104 rfl rfl ?_
      refine zm_g_50 S hE dX7_erase_105 ?_
      refine z_iload S 2 dX7_erase_108 rfl ?_
      refine z_aload_n (x := some o) S 0 dX7_erase_110 rfl rfl ?_
      refine zm_g_50 S hE dX7_erase_111 ?_
      refine z_iload S 2 dX7_erase_114 rfl ?_
      refine z_iconst (v := 1) S dX7_erase_116 (by decide) ?_
      refine z_iadd S dX7_erase_117 ?_
      obtain ⟨hi7, hw⟩ := hw
      refine z_mald (j := 17) S hE rfl rfl hi7 dX7_erase_118 ?_
      obtain ⟨hi6, hw⟩ := hw
      refine z_mast (j := 17) S hE rfl rfl hi6 dX7_erase_119 ?_
      refine z_aload_n (x := some o) S 0 dX7_erase_120 rfl rfl ?_
      refine zm_g_53 S hE dX7_erase_121 ?_
      refine z_iload S 2 dX7_erase_124 rfl ?_
      refine z_aload_n (x := some o) S 0 dX7_erase_126 rfl rfl ?_
      refine zm_g_53 S hE dX7_erase_127 ?_
      refine z_iload S 2 dX7_erase_130 rfl ?_
      refine z_iconst (v := 1) S dX7_erase_132 (by decide) ?_
      refine z_iadd S dX7_erase_133 ?_
      obtain ⟨hi5, hw⟩ := hw
      refine z_mald (j := 18) S hE rfl rfl hi5 dX7_erase_134 ?_
      obtain ⟨hi4, hw⟩ := hw
      refine z_mast (j := 18) S hE rfl rfl hi4 dX7_erase_135 ?_
      refine z_aload_n (x := some o) S 0 dX7_erase_136 rfl rfl ?_
      refine zm_g_56 S hE dX7_erase_137 ?_
      refine z_iload S 2 dX7_erase_140 rfl ?_
      refine z_aload_n (x := some o) S 0 dX7_erase_142 rfl rfl ?_
      refine zm_g_56 S hE dX7_erase_143 ?_
      refine z_iload S 2 dX7_erase_146 rfl ?_
      refine z_iconst (v := 1) S dX7_erase_148 (by decide) ?_
      refine z_iadd S dX7_erase_149 ?_
      obtain ⟨hi3, hw⟩ := hw
      refine z_mald (j := 19) S hE rfl rfl hi3 dX7_erase_150 ?_
      obtain ⟨hi2, hw⟩ := hw
      refine z_mast (j := 19) S hE rfl rfl hi2 dX7_erase_151 ?_
      refine z_iinc (v := x4 + 1) (pl := 2) S [(4, .int (x4 + 1)), (0, va_rf (some o)), (3, .int x3)] dX7_erase_152 rfl rfl (by decide) rfl ?_
      refine z_lv (lv' := [(0, va_rf (some o)), (3, .int x3), (4, .int (x4 + 1))]) [1, 2, 0] rfl ?_
      refine z_goto S 63 dX7_erase_155 (by decide) ?_
      exact ih (z_up (z_up (z_up (z_up (z_up M 15 x4.toNatClampNeg (M 15 (x4 + 1).toNatClampNeg)) 16 x4.toNatClampNeg ((z_up M 15 x4.toNatClampNeg (M 15 (x4 + 1).toNatClampNeg)) 16 (x4 + 1).toNatClampNeg)) 17 x4.toNatClampNeg ((z_up (z_up M 15 x4.toNatClampNeg (M 15 (x4 + 1).toNatClampNeg)) 16 x4.toNatClampNeg ((z_up M 15 x4.toNatClampNeg (M 15 (x4 + 1).toNatClampNeg)) 16 (x4 + 1).toNatClampNeg)) 17 (x4 + 1).toNatClampNeg)) 18 x4.toNatClampNeg ((z_up (z_up (z_up M 15 x4.toNatClampNeg (M 15 (x4 + 1).toNatClampNeg)) 16 x4.toNatClampNeg ((z_up M 15 x4.toNatClampNeg (M 15 (x4 + 1).toNatClampNeg)) 16 (x4 + 1).toNatClampNeg)) 17 x4.toNatClampNeg ((z_up (z_up M 15 x4.toNatClampNeg (M 15 (x4 + 1).toNatClampNeg)) 16 x4.toNatClampNeg ((z_up M 15 x4.toNatClampNeg (M 15 (x4 + 1).toNatClampNeg)) 16 (x4 + 1).toNatClampNeg)) 17 (x4 + 1).toNatClampNeg)) 18 (x4 + 1).toNatClampNeg)) 19 x4.toNatClampNeg ((z_up (z_up (z_up (z_up M 15 x4.toNatClampNeg (M 15 (x4 + 1).toNatClampNeg)) 16 x4.toNatClampNeg ((z_up M 15 x4.toNatClampNeg (M 15 (x4 + 1).toNatClampNeg)) 16 (x4 + 1).toNatClampNeg)) 17 x4.toNatClampNeg ((z_up (z_up M 15 x4.toNatClampNeg (M 15 (x4 + 1).toNatClampNeg)) 16 x4.toNatClampNeg ((z_up M 15 x4.toNatClampNeg (M 15 (x4 + 1).toNatClampNeg)) 16 (x4 + 1).toNatClampNeg)) 17 (x4 + 1).toNatClampNeg)) 18 x4.toNatClampNeg ((z_up (z_up (z_up M 15 x4.toNatClampNeg (M 15 (x4 + 1).toNatClampNeg)) 16 x4.toNatClampNeg ((z_up M 15 x4.toNatClampNeg (M 15 (x4 + 1).toNatClampNeg)) 16 (x4 + 1).toNatClampNeg)) 17 x4.toNatClampNeg ((z_up (z_up M 15 x4.toNatClampNeg (M 15 (x4 + 1).toNatClampNeg)) 16 x4.toNatClampNeg ((z_up M 15 x4.toNatClampNeg (M 15 (x4 + 1).toNatClampNeg)) 16 (x4 + 1).toNatClampNeg)) 17 (x4 + 1).toNatClampNeg)) 18 (x4 + 1).toNatClampNeg)) 19 (x4 + 1).toNatClampNeg)) x3 (x4 + 1) hw
set_option maxRecDepth 20000 in
theorem mb_X7_erase {p : Program} {l : Launch} {e : Env} {s : State} {m : MethodId} {args : Array Value} {below : List Frame} {meth : Method} {c : Code} {D : va_G} {cy : Nat → ClassId} {A : Nat → Prop} {o : Nat} {ad : Nat → Nat} (S : CallFix p m c cX7_erase 5 s args z_T RX7) (hlk : meth.locks = false) (hr : meth.sig.returnType = some .int) (hE : z_EM D cy s) {post : Int32 → z_Md → Prop}  (M : z_Md) (x1 : Int32) (hw : w_X7_erase post M x1) : z_V A (z_hM D cy A o ad) p l e rm_X7_erase s m args below meth c 5 (MQ below (va_Qi post (fun (u' : z_Md) t => z_hM D cy A o ad u' t.heap) A) args s 0 0 A) 0 0 M 0 [(0, va_rf (some o)), (1, .int x1)] [] := by
  refine z_aload_n (x := some o) S 0 dX7_erase_0 rfl rfl ?_
  refine z_iload_n S 1 dX7_erase_1 rfl rfl ?_
  refine z_callVi (As := [.int x1]) (st := []) S (z_EMok D cy A) hE (me_X7_find l D cy A o ad _ M x1 hw) gV_X7_174 hdV_X7_find ⟨Nat.le_of_ble_eq_true rfl, Nat.le_of_ble_eq_true rfl⟩ rfl rfl (z_recvM hE) (fun _ h => h) (fun _ _ _ _ h => h) rfl (Nat.le_trans z_s0 (by decide)) dX7_erase_2 ⟨Nat.le_of_ble_eq_true rfl, Nat.le_of_ble_eq_true rfl⟩ rfl (fun r2 M1 hw => ?_)
  refine z_istore_n S [(2, .int r2), (0, va_rf (some o)), (1, .int x1)] dX7_erase_5 rfl (by decide) rfl ?_
  refine z_lv (lv' := [(0, va_rf (some o)), (1, .int x1), (2, .int r2)]) [1, 2, 0] rfl ?_
  refine z_aload_n (x := some o) S 0 dX7_erase_6 rfl rfl ?_
  refine z_iload_n S 2 dX7_erase_7 rfl rfl ?_
  suffices hJ : ∀ y3 : Int32, y3 = (if 0 ≤ r2 then 0 else 1) → z_V A (z_hM D cy A o ad) p l e rm_X7_erase s m args below meth c 5 (MQ below (va_Qi post (fun (u' : z_Md) t => z_hM D cy A o ad u' t.heap) A) args s 0 0 A) 0 0 M1 16 [(0, va_rf (some o)), (2, .int r2)] [.int y3, va_rf (some o)] from by
    refine z_if_ge S 15 dX7_erase_8 (by decide) (fun c11 => ?_) (fun c11 => ?_)
    · refine z_iconst (v := 0) S dX7_erase_15 (by decide) ?_
      refine z_lv (lv' := [(0, va_rf (some o)), (2, .int r2)]) [0, 2] rfl ?_
      exact hJ _ (by rw [if_pos c11])
    · refine z_iconst (v := 1) S dX7_erase_11 (by decide) ?_
      refine z_goto S 16 dX7_erase_12 (by decide) ?_
      refine z_lv (lv' := [(0, va_rf (some o)), (2, .int r2)]) [0, 2] rfl ?_
      exact hJ _ (by rw [if_neg c11])
  intro y3 ey3
  have hw := hw y3 ey3
  refine zm_p_89 S hE dX7_erase_16 ?_
  refine z_aload_n (x := some o) S 0 dX7_erase_19 rfl rfl ?_
  refine zm_g_89 S hE dX7_erase_20 ?_
  refine z_if_le S 28 dX7_erase_23 (by decide) (fun c4 => ?_) (fun c4 => ?_)
  · have hw := hw.1 c4
    refine z_aload_n (x := some o) S 0 dX7_erase_28 rfl rfl ?_
    refine z_aload_n (x := some o) S 0 dX7_erase_29 rfl rfl ?_
    refine zm_g_53 S hE dX7_erase_30 ?_
    refine z_iload_n S 1 dX7_erase_33 rfl rfl ?_
    obtain ⟨hi10, hw⟩ := hw
    refine z_mald (j := 18) S hE rfl rfl hi10 dX7_erase_34 ?_
    refine z_callVi (As := [.int ((z_up M1 0 0 y3) 18 r2.toNatClampNeg)]) (st := []) S (z_EMok D cy A) hE (me_X7_letGo l D cy A o ad _ (z_up M1 0 0 y3) ((z_up M1 0 0 y3) 18 r2.toNatClampNeg) hw) gV_X7_168 hdV_X7_letGo ⟨Nat.le_of_ble_eq_true rfl, Nat.le_of_ble_eq_true rfl⟩ rfl rfl (z_recvM hE) (fun _ h => h) (fun _ _ _ _ h => h) rfl (Nat.le_trans z_s0 (by decide)) dX7_erase_35 ⟨Nat.le_of_ble_eq_true rfl, Nat.le_of_ble_eq_true rfl⟩ rfl (fun r6 M5 hw => ?_)
    refine z_aload_n (x := some o) S 0 dX7_erase_38 rfl rfl ?_
    refine z_aload_n (x := some o) S 0 dX7_erase_39 rfl rfl ?_
    refine zm_g_56 S hE dX7_erase_40 ?_
    refine z_iload_n S 1 dX7_erase_43 rfl rfl ?_
    obtain ⟨hi9, hw⟩ := hw
    refine z_mald (j := 19) S hE rfl rfl hi9 dX7_erase_44 ?_
    refine z_callVi (As := [.int (M5 19 r2.toNatClampNeg)]) (st := [.int r6]) S (z_EMok D cy A) hE (me_X7_letGo l D cy A o ad _ M5 (M5 19 r2.toNatClampNeg) hw) gV_X7_168 hdV_X7_letGo ⟨Nat.le_of_ble_eq_true rfl, Nat.le_of_ble_eq_true rfl⟩ rfl rfl (z_recvM hE) (fun _ h => h) (fun _ _ _ _ h => h) rfl (Nat.le_trans (z_s1 z_s0) (by decide)) dX7_erase_45 ⟨Nat.le_of_ble_eq_true rfl, Nat.le_of_ble_eq_true rfl⟩ rfl (fun r8 M7 hw => ?_)
    refine z_iadd S dX7_erase_48 ?_
    refine z_istore_n S [(3, .int (r6 + r8)), (0, va_rf (some o)), (2, .int r2)] dX7_erase_49 rfl (by decide) rfl ?_
    refine z_lv (lv' := [(0, va_rf (some o)), (2, .int r2), (3, .int (r6 + r8))]) [1, 2, 0] rfl ?_
    refine z_aload_n (x := some o) S 0 dX7_erase_50 rfl rfl ?_
    refine z_dup S dX7_erase_51 (z_rfc _) ?_
    refine zm_g_121 S hE dX7_erase_52 ?_
    refine z_iconst (v := 1) S dX7_erase_55 (by decide) ?_
    refine z_isub S dX7_erase_56 ?_
    refine zm_p_121 S hE dX7_erase_57 ?_
    refine z_iload_n S 1 dX7_erase_60 rfl rfl ?_
    refine z_istore S [(4, .int r2), (0, va_rf (some o)), (2, .int r2), (3, .int (r6 + r8))] dX7_erase_61 (by decide) rfl ?_
    refine z_lv (lv' := [(0, va_rf (some o)), (2, .int r2), (3, .int (r6 + r8)), (4, .int r2)]) [1, 2, 3, 0] rfl ?_
    refine z_lv (lv' := [(0, va_rf (some o)), (3, .int (r6 + r8)), (4, .int r2)]) [0, 2, 3] rfl ?_
    obtain ⟨n0, hw⟩ := hw
    exact mb_X7_erase_63 S hlk hr hE n0 (z_up M7 13 0 ((M7 13 0) - 1)) (r6 + r8) r2 hw
  · have hw := hw.2 c4
    refine z_iconst (v := 0) S dX7_erase_26 (by decide) ?_
    exact z_iret S hr hlk dX7_erase_27 (Nat.le_refl 0) (Nat.le_refl 0) hw
theorem me_X7_erase (l : Launch) (D : va_G) (cy : Nat → ClassId) (A : Nat → Prop) (o : Nat) (ad : Nat → Nat) (post : Int32 → z_Md → Prop) (M : z_Md) (x1 : Int32) (hw : w_X7_erase post M x1) : z_Mi l yX7_erase (Cond.code yX7_erase cX7_erase 5 (some .int) :: z_T) rm_X7_erase [.ref o, .int x1] (z_EM D cy) (z_hM D cy A o ad) M post 0 0 A :=
  z_met (by decide) (Nat.le_of_ble_eq_true rfl) (fun p e s m args below meth c S hlk hr hnm hE => mb_X7_erase S hlk hr hE M x1 hw)
abbrev rm_X7_forward : Room := { frames := 3, cells := 0, slots := 0, locals := 71 }
def w_X7_forward_96 (post : Int32 → z_Md → Prop) (M : z_Md)  : Prop := (post 0 (z_up M 0 0 2))
def w_X7_forward_134 (post : Int32 → z_Md → Prop) (M : z_Md) (x2 : Int32) (x3 : Int32) (x4 : Int32) : Prop := (vp_in x3 16 ∧ (w_X7_add (fun r2 M1 => (post r2 M1)) M x2 (M 18 x3.toNatClampNeg) x4))
def w_X7_forward_24 (post : Int32 → z_Md → Prop) (M : z_Md) (x2 : Int32) (x3 : Int32) (z0 : Int32) : Prop := ((((z_up M 0 0 z0) 0 0) ≤ 0 → (vp_in x3 16 ∧ (vp_in ((3 * ((z_up M 0 0 z0) 16 x3.toNatClampNeg)) + 2) 12 ∧ (∀ x4_2 : Int32, x4_2 = (z_up M 0 0 z0) 12 ((3 * ((z_up M 0 0 z0) 16 x3.toNatClampNeg)) + 2).toNatClampNeg → (vp_in x3 16 ∧ (w_X7_cost (fun r4 M3 => (w_X7_cost (fun r6 M5 => (w_X7_isFull (fun r8 M7 => ((¬ r8 = 0 → (w_X7_forward_96 post M7 )) ∧ (r8 = 0 → (w_X7_usedBy (fun r11 M10 => (vp_in x2 4 ∧ (((r11 + (r4 + r6)) ≤ (M10 11 x2.toNatClampNeg) → (vp_in x3 16 ∧ (vp_in (M10 18 x3.toNatClampNeg) 48 ∧ (vp_in (M10 18 x3.toNatClampNeg) 48 ∧ ((x4_2 < 0 → (w_X7_forward_134 post (z_up M10 6 (M10 18 x3.toNatClampNeg).toNatClampNeg ((M10 6 (M10 18 x3.toNatClampNeg).toNatClampNeg) + 1)) x2 x3 x4_2)) ∧ (¬ x4_2 < 0 → (vp_in x4_2 48 ∧ (vp_in x4_2 48 ∧ (w_X7_forward_134 post (z_up (z_up M10 6 (M10 18 x3.toNatClampNeg).toNatClampNeg ((M10 6 (M10 18 x3.toNatClampNeg).toNatClampNeg) + 1)) 6 x4_2.toNatClampNeg (((z_up M10 6 (M10 18 x3.toNatClampNeg).toNatClampNeg ((M10 6 (M10 18 x3.toNatClampNeg).toNatClampNeg) + 1)) 6 x4_2.toNatClampNeg) + 1)) x2 x3 x4_2))))))))) ∧ (¬ (r11 + (r4 + r6)) ≤ (M10 11 x2.toNatClampNeg) → (w_X7_forward_96 post M10 ))))) M7 x2)))) M5 )) M3 x4_2)) (z_up M 0 0 z0) ((z_up M 0 0 z0) 18 x3.toNatClampNeg))))))) ∧ (¬ ((z_up M 0 0 z0) 0 0) ≤ 0 → (post 0 (z_up M 0 0 z0))))
def w_X7_forward_19 (post : Int32 → z_Md → Prop) (M : z_Md) (x2 : Int32) (x3 : Int32) : Prop := (w_X7_forward_24 post M x2 x3 1)
def w_X7_forward (post : Int32 → z_Md → Prop) (M : z_Md) (x1 : Int32) (x2 : Int32) : Prop := (w_X7_find (fun r2 M1 => ((r2 < 0 → (w_X7_forward_19 post M1 x2 r2)) ∧ (¬ r2 < 0 → (w_X7_isBox (fun r5 M4 => ((¬ r5 = 0 → (w_X7_forward_24 post M4 x2 r2 0)) ∧ (r5 = 0 → (w_X7_forward_19 post M4 x2 r2)))) M1 x2)))) M x1)
set_option maxRecDepth 20000 in
theorem mb_X7_forward_96 {p : Program} {l : Launch} {e : Env} {s : State} {m : MethodId} {args : Array Value} {below : List Frame} {meth : Method} {c : Code} {D : va_G} {cy : Nat → ClassId} {A : Nat → Prop} {o : Nat} {ad : Nat → Nat} (S : CallFix p m c cX7_forward 6 s args z_T RX7) (hlk : meth.locks = false) (hr : meth.sig.returnType = some .int) (hE : z_EM D cy s) {post : Int32 → z_Md → Prop}  (M : z_Md)  (hw : w_X7_forward_96 post M ) : z_V A (z_hM D cy A o ad) p l e rm_X7_forward s m args below meth c 6 (MQ below (va_Qi post (fun (u' : z_Md) t => z_hM D cy A o ad u' t.heap) A) args s 0 0 A) 0 0 M 96 [(0, va_rf (some o))] [] := by
  refine z_aload_n (x := some o) S 0 dX7_forward_96 rfl rfl ?_
  refine z_iconst (v := 2) S dX7_forward_97 (by decide) ?_
  refine zm_p_89 S hE dX7_forward_98 ?_
  refine z_iconst (v := 0) S dX7_forward_101 (by decide) ?_
  exact z_iret S hr hlk dX7_forward_102 (Nat.le_refl 0) (Nat.le_refl 0) hw
set_option maxRecDepth 20000 in
theorem mb_X7_forward_134 {p : Program} {l : Launch} {e : Env} {s : State} {m : MethodId} {args : Array Value} {below : List Frame} {meth : Method} {c : Code} {D : va_G} {cy : Nat → ClassId} {A : Nat → Prop} {o : Nat} {ad : Nat → Nat} (S : CallFix p m c cX7_forward 6 s args z_T RX7) (hlk : meth.locks = false) (hr : meth.sig.returnType = some .int) (hE : z_EM D cy s) {post : Int32 → z_Md → Prop}  (M : z_Md) (x2 : Int32) (x3 : Int32) (x4 : Int32) (hw : w_X7_forward_134 post M x2 x3 x4) : z_V A (z_hM D cy A o ad) p l e rm_X7_forward s m args below meth c 6 (MQ below (va_Qi post (fun (u' : z_Md) t => z_hM D cy A o ad u' t.heap) A) args s 0 0 A) 0 0 M 134 [(0, va_rf (some o)), (2, .int x2), (3, .int x3), (4, .int x4)] [] := by
  refine z_aload_n (x := some o) S 0 dX7_forward_134 rfl rfl ?_
  refine z_iload_n S 1 dX7_forward_135 rfl rfl ?_
  refine z_aload_n (x := some o) S 0 dX7_forward_136 rfl rfl ?_
  refine zm_g_53 S hE dX7_forward_137 ?_
  refine z_iload_n S 2 dX7_forward_140 rfl rfl ?_
  obtain ⟨hi3, hw⟩ := hw
  refine z_mald (j := 18) S hE rfl rfl hi3 dX7_forward_141 ?_
  refine z_iload S 3 dX7_forward_142 rfl ?_
  refine z_callVi (As := [.int x2, .int (M 18 x3.toNatClampNeg), .int x4]) (st := []) S (z_EMok D cy A) hE (me_X7_add l D cy A o ad _ M x2 (M 18 x3.toNatClampNeg) x4 hw) gV_X7_164 hdV_X7_add ⟨Nat.le_of_ble_eq_true rfl, Nat.le_of_ble_eq_true rfl⟩ rfl rfl (z_recvM hE) (fun _ h => h) (fun _ _ _ _ h => h) rfl (Nat.le_trans z_s0 (by decide)) dX7_forward_144 ⟨Nat.le_of_ble_eq_true rfl, Nat.le_of_ble_eq_true rfl⟩ rfl (fun r2 M1 hw => ?_)
  exact z_iret S hr hlk dX7_forward_147 (Nat.le_refl 0) (Nat.le_refl 0) hw
set_option maxRecDepth 20000 in
theorem mb_X7_forward_24 {p : Program} {l : Launch} {e : Env} {s : State} {m : MethodId} {args : Array Value} {below : List Frame} {meth : Method} {c : Code} {D : va_G} {cy : Nat → ClassId} {A : Nat → Prop} {o : Nat} {ad : Nat → Nat} (S : CallFix p m c cX7_forward 6 s args z_T RX7) (hlk : meth.locks = false) (hr : meth.sig.returnType = some .int) (hE : z_EM D cy s) {post : Int32 → z_Md → Prop}  (M : z_Md) (x2 : Int32) (x3 : Int32) (z0 : Int32) (hw : w_X7_forward_24 post M x2 x3 z0) : z_V A (z_hM D cy A o ad) p l e rm_X7_forward s m args below meth c 6 (MQ below (va_Qi post (fun (u' : z_Md) t => z_hM D cy A o ad u' t.heap) A) args s 0 0 A) 0 0 M 24 [(0, va_rf (some o)), (2, .int x2), (3, .int x3)] [.int z0, va_rf (some o)] := by
  refine zm_p_89 S hE dX7_forward_24 ?_
  refine z_aload_n (x := some o) S 0 dX7_forward_27 rfl rfl ?_
  refine zm_g_89 S hE dX7_forward_28 ?_
  refine z_if_le S 36 dX7_forward_31 (by decide) (fun c1 => ?_) (fun c1 => ?_)
  · have hw := hw.1 c1
    refine z_aload_n (x := some o) S 0 dX7_forward_36 rfl rfl ?_
    refine zm_g_41 S hE dX7_forward_37 ?_
    refine z_iconst (v := 3) S dX7_forward_40 (by decide) ?_
    refine z_aload_n (x := some o) S 0 dX7_forward_41 rfl rfl ?_
    refine zm_g_47 S hE dX7_forward_42 ?_
    refine z_iload_n S 2 dX7_forward_45 rfl rfl ?_
    obtain ⟨hi22, hw⟩ := hw
    refine z_mald (j := 16) S hE rfl rfl hi22 dX7_forward_46 ?_
    refine z_imul S dX7_forward_47 ?_
    refine z_iconst (v := 2) S dX7_forward_48 (by decide) ?_
    refine z_iadd S dX7_forward_49 ?_
    obtain ⟨hi21, hw⟩ := hw
    refine z_mald (j := 12) S hE rfl rfl hi21 dX7_forward_50 ?_
    refine z_top (fun x4_2 ex4_2 => ?_)
    have hw := hw x4_2 ex4_2
    refine z_istore S [(4, .int x4_2), (0, va_rf (some o)), (2, .int x2), (3, .int x3)] dX7_forward_51 (by decide) rfl ?_
    refine z_lv (lv' := [(0, va_rf (some o)), (2, .int x2), (3, .int x3), (4, .int x4_2)]) [1, 2, 3, 0] rfl ?_
    refine z_aload_n (x := some o) S 0 dX7_forward_53 rfl rfl ?_
    refine z_aload_n (x := some o) S 0 dX7_forward_54 rfl rfl ?_
    refine zm_g_53 S hE dX7_forward_55 ?_
    refine z_iload_n S 2 dX7_forward_58 rfl rfl ?_
    obtain ⟨hi20, hw⟩ := hw
    refine z_mald (j := 18) S hE rfl rfl hi20 dX7_forward_59 ?_
    refine z_callVi (As := [.int ((z_up M 0 0 z0) 18 x3.toNatClampNeg)]) (st := []) S (z_EMok D cy A) hE (me_X7_cost l D cy A o ad _ (z_up M 0 0 z0) ((z_up M 0 0 z0) 18 x3.toNatClampNeg) hw) gV_X7_124 hdV_X7_cost ⟨Nat.le_of_ble_eq_true rfl, Nat.le_of_ble_eq_true rfl⟩ rfl rfl (z_recvM hE) (fun _ h => h) (fun _ _ _ _ h => h) rfl (Nat.le_trans z_s0 (by decide)) dX7_forward_60 ⟨Nat.le_of_ble_eq_true rfl, Nat.le_of_ble_eq_true rfl⟩ rfl (fun r4 M3 hw => ?_)
    refine z_aload_n (x := some o) S 0 dX7_forward_63 rfl rfl ?_
    refine z_iload S 3 dX7_forward_64 rfl ?_
    refine z_callVi (As := [.int x4_2]) (st := [.int r4]) S (z_EMok D cy A) hE (me_X7_cost l D cy A o ad _ M3 x4_2 hw) gV_X7_124 hdV_X7_cost ⟨Nat.le_of_ble_eq_true rfl, Nat.le_of_ble_eq_true rfl⟩ rfl rfl (z_recvM hE) (fun _ h => h) (fun _ _ _ _ h => h) rfl (Nat.le_trans (z_s1 z_s0) (by decide)) dX7_forward_66 ⟨Nat.le_of_ble_eq_true rfl, Nat.le_of_ble_eq_true rfl⟩ rfl (fun r6 M5 hw => ?_)
    refine z_iadd S dX7_forward_69 ?_
    refine z_istore S [(5, .int (r4 + r6)), (0, va_rf (some o)), (2, .int x2), (3, .int x3), (4, .int x4_2)] dX7_forward_70 (by decide) rfl ?_
    refine z_lv (lv' := [(0, va_rf (some o)), (2, .int x2), (3, .int x3), (4, .int x4_2), (5, .int (r4 + r6))]) [1, 2, 3, 4, 0] rfl ?_
    refine z_aload_n (x := some o) S 0 dX7_forward_72 rfl rfl ?_
    refine z_callVi (As := []) (st := []) S (z_EMok D cy A) hE (me_X7_isFull l D cy A o ad _ M5  hw) gV_X7_134 hdV_X7_isFull ⟨Nat.le_of_ble_eq_true rfl, Nat.le_of_ble_eq_true rfl⟩ rfl rfl (z_recvM hE) (fun _ h => h) (fun _ _ _ _ h => h) rfl (Nat.le_trans z_s0 (by decide)) dX7_forward_73 ⟨Nat.le_of_ble_eq_true rfl, Nat.le_of_ble_eq_true rfl⟩ rfl (fun r8 M7 hw => ?_)
    refine z_if_ne S 96 dX7_forward_76 (by decide) (fun c9 => ?_) (fun c9 => ?_)
    · have hw := hw.1 c9
      refine z_lv (lv' := [(0, va_rf (some o))]) [0] rfl ?_
      exact mb_X7_forward_96 S hlk hr hE M7  hw
    · have hw := hw.2 c9
      refine z_aload_n (x := some o) S 0 dX7_forward_79 rfl rfl ?_
      refine z_iload_n S 1 dX7_forward_80 rfl rfl ?_
      refine z_callVi (As := [.int x2]) (st := []) S (z_EMok D cy A) hE (me_X7_usedBy l D cy A o ad _ M7 x2 hw) gV_X7_138 hdV_X7_usedBy ⟨Nat.le_of_ble_eq_true rfl, Nat.le_of_ble_eq_true rfl⟩ rfl rfl (z_recvM hE) (fun _ h => h) (fun _ _ _ _ h => h) rfl (Nat.le_trans z_s0 (by decide)) dX7_forward_81 ⟨Nat.le_of_ble_eq_true rfl, Nat.le_of_ble_eq_true rfl⟩ rfl (fun r11 M10 hw => ?_)
      refine z_iload S 4 dX7_forward_84 rfl ?_
      refine z_iadd S dX7_forward_86 ?_
      refine z_aload_n (x := some o) S 0 dX7_forward_87 rfl rfl ?_
      refine zm_g_38 S hE dX7_forward_88 ?_
      refine z_iload_n S 1 dX7_forward_91 rfl rfl ?_
      obtain ⟨hi19, hw⟩ := hw
      refine z_mald (j := 11) S hE rfl rfl hi19 dX7_forward_92 ?_
      refine z_icmp_le S 103 dX7_forward_93 (by decide) (fun c12 => ?_) (fun c12 => ?_)
      · have hw := hw.1 c12
        refine z_aload_n (x := some o) S 0 dX7_forward_103 rfl rfl ?_
        refine zm_g_25 S hE dX7_forward_104 ?_
        refine z_aload_n (x := some o) S 0 dX7_forward_107 rfl rfl ?_
        refine zm_g_53 S hE dX7_forward_108 ?_
        refine z_iload_n S 2 dX7_forward_111 rfl rfl ?_
        obtain ⟨hi18, hw⟩ := hw
        refine z_mald (j := 18) S hE rfl rfl hi18 dX7_forward_112 ?_
        refine z_dup2 S dX7_forward_113 rfl rfl ?_
        obtain ⟨hi17, hw⟩ := hw
        refine z_mald (j := 6) S hE rfl rfl hi17 dX7_forward_114 ?_
        refine z_iconst (v := 1) S dX7_forward_115 (by decide) ?_
        refine z_iadd S dX7_forward_116 ?_
        obtain ⟨hi16, hw⟩ := hw
        refine z_mast (j := 6) S hE rfl rfl hi16 dX7_forward_117 ?_
        refine z_iload S 3 dX7_forward_118 rfl ?_
        refine z_if_lt S 134 dX7_forward_120 (by decide) (fun c13 => ?_) (fun c13 => ?_)
        · have hw := hw.1 c13
          refine z_lv (lv' := [(0, va_rf (some o)), (2, .int x2), (3, .int x3), (4, .int x4_2)]) [0, 1, 2, 3] rfl ?_
          exact mb_X7_forward_134 S hlk hr hE (z_up M10 6 (M10 18 x3.toNatClampNeg).toNatClampNeg ((M10 6 (M10 18 x3.toNatClampNeg).toNatClampNeg) + 1)) x2 x3 x4_2 hw
        · have hw := hw.2 c13
          refine z_aload_n (x := some o) S 0 dX7_forward_123 rfl rfl ?_
          refine zm_g_25 S hE dX7_forward_124 ?_
          refine z_iload S 3 dX7_forward_127 rfl ?_
          refine z_dup2 S dX7_forward_129 rfl rfl ?_
          obtain ⟨hi15, hw⟩ := hw
          refine z_mald (j := 6) S hE rfl rfl hi15 dX7_forward_130 ?_
          refine z_iconst (v := 1) S dX7_forward_131 (by decide) ?_
          refine z_iadd S dX7_forward_132 ?_
          obtain ⟨hi14, hw⟩ := hw
          refine z_mast (j := 6) S hE rfl rfl hi14 dX7_forward_133 ?_
          refine z_lv (lv' := [(0, va_rf (some o)), (2, .int x2), (3, .int x3), (4, .int x4_2)]) [0, 1, 2, 3] rfl ?_
          exact mb_X7_forward_134 S hlk hr hE (z_up (z_up M10 6 (M10 18 x3.toNatClampNeg).toNatClampNeg ((M10 6 (M10 18 x3.toNatClampNeg).toNatClampNeg) + 1)) 6 x4_2.toNatClampNeg (((z_up M10 6 (M10 18 x3.toNatClampNeg).toNatClampNeg ((M10 6 (M10 18 x3.toNatClampNeg).toNatClampNeg) + 1)) 6 x4_2.toNatClampNeg) + 1)) x2 x3 x4_2 hw
      · have hw := hw.2 c12
        refine z_lv (lv' := [(0, va_rf (some o))]) [0] rfl ?_
        exact mb_X7_forward_96 S hlk hr hE M10  hw
  · have hw := hw.2 c1
    refine z_iconst (v := 0) S dX7_forward_34 (by decide) ?_
    exact z_iret S hr hlk dX7_forward_35 (Nat.le_refl 0) (Nat.le_refl 0) hw
set_option maxRecDepth 20000 in
theorem mb_X7_forward_19 {p : Program} {l : Launch} {e : Env} {s : State} {m : MethodId} {args : Array Value} {below : List Frame} {meth : Method} {c : Code} {D : va_G} {cy : Nat → ClassId} {A : Nat → Prop} {o : Nat} {ad : Nat → Nat} (S : CallFix p m c cX7_forward 6 s args z_T RX7) (hlk : meth.locks = false) (hr : meth.sig.returnType = some .int) (hE : z_EM D cy s) {post : Int32 → z_Md → Prop}  (M : z_Md) (x2 : Int32) (x3 : Int32) (hw : w_X7_forward_19 post M x2 x3) : z_V A (z_hM D cy A o ad) p l e rm_X7_forward s m args below meth c 6 (MQ below (va_Qi post (fun (u' : z_Md) t => z_hM D cy A o ad u' t.heap) A) args s 0 0 A) 0 0 M 19 [(0, va_rf (some o)), (2, .int x2), (3, .int x3)] [va_rf (some o)] := by
  refine z_iconst (v := 1) S dX7_forward_19 (by decide) ?_
  refine z_goto S 24 dX7_forward_20 (by decide) ?_
  exact mb_X7_forward_24 S hlk hr hE M x2 x3 1 hw
set_option maxRecDepth 20000 in
theorem mb_X7_forward {p : Program} {l : Launch} {e : Env} {s : State} {m : MethodId} {args : Array Value} {below : List Frame} {meth : Method} {c : Code} {D : va_G} {cy : Nat → ClassId} {A : Nat → Prop} {o : Nat} {ad : Nat → Nat} (S : CallFix p m c cX7_forward 6 s args z_T RX7) (hlk : meth.locks = false) (hr : meth.sig.returnType = some .int) (hE : z_EM D cy s) {post : Int32 → z_Md → Prop}  (M : z_Md) (x1 : Int32) (x2 : Int32) (hw : w_X7_forward post M x1 x2) : z_V A (z_hM D cy A o ad) p l e rm_X7_forward s m args below meth c 6 (MQ below (va_Qi post (fun (u' : z_Md) t => z_hM D cy A o ad u' t.heap) A) args s 0 0 A) 0 0 M 0 [(0, va_rf (some o)), (1, .int x1), (2, .int x2)] [] := by
  refine z_aload_n (x := some o) S 0 dX7_forward_0 rfl rfl ?_
  refine z_iload_n S 1 dX7_forward_1 rfl rfl ?_
  refine z_callVi (As := [.int x1]) (st := []) S (z_EMok D cy A) hE (me_X7_find l D cy A o ad _ M x1 hw) gV_X7_174 hdV_X7_find ⟨Nat.le_of_ble_eq_true rfl, Nat.le_of_ble_eq_true rfl⟩ rfl rfl (z_recvM hE) (fun _ h => h) (fun _ _ _ _ h => h) rfl (Nat.le_trans z_s0 (by decide)) dX7_forward_2 ⟨Nat.le_of_ble_eq_true rfl, Nat.le_of_ble_eq_true rfl⟩ rfl (fun r2 M1 hw => ?_)
  refine z_istore_n S [(3, .int r2), (0, va_rf (some o)), (1, .int x1), (2, .int x2)] dX7_forward_5 rfl (by decide) rfl ?_
  refine z_lv (lv' := [(0, va_rf (some o)), (1, .int x1), (2, .int x2), (3, .int r2)]) [1, 2, 3, 0] rfl ?_
  refine z_aload_n (x := some o) S 0 dX7_forward_6 rfl rfl ?_
  refine z_iload_n S 3 dX7_forward_7 rfl rfl ?_
  refine z_if_lt S 19 dX7_forward_8 (by decide) (fun c3 => ?_) (fun c3 => ?_)
  · have hw := hw.1 c3
    refine z_lv (lv' := [(0, va_rf (some o)), (2, .int x2), (3, .int r2)]) [0, 2, 3] rfl ?_
    exact mb_X7_forward_19 S hlk hr hE M1 x2 r2 hw
  · have hw := hw.2 c3
    refine z_aload_n (x := some o) S 0 dX7_forward_11 rfl rfl ?_
    refine z_iload_n S 2 dX7_forward_12 rfl rfl ?_
    refine z_callVi (As := [.int x2]) (st := [va_rf (some o)]) S (z_EMok D cy A) hE (me_X7_isBox l D cy A o ad _ M1 x2 hw) gV_X7_131 hdV_X7_isBox ⟨Nat.le_of_ble_eq_true rfl, Nat.le_of_ble_eq_true rfl⟩ rfl rfl (z_recvM hE) (fun _ h => h) (fun _ _ _ _ h => h) rfl (Nat.le_trans (z_sq z_s0) (by decide)) dX7_forward_13 ⟨Nat.le_of_ble_eq_true rfl, Nat.le_of_ble_eq_true rfl⟩ rfl (fun r5 M4 hw => ?_)
    refine z_if_ne S 23 dX7_forward_16 (by decide) (fun c6 => ?_) (fun c6 => ?_)
    · have hw := hw.1 c6
      refine z_iconst (v := 0) S dX7_forward_23 (by decide) ?_
      refine z_lv (lv' := [(0, va_rf (some o)), (2, .int x2), (3, .int r2)]) [0, 2, 3] rfl ?_
      exact mb_X7_forward_24 S hlk hr hE M4 x2 r2 0 hw
    · have hw := hw.2 c6
      refine z_lv (lv' := [(0, va_rf (some o)), (2, .int x2), (3, .int r2)]) [0, 2, 3] rfl ?_
      exact mb_X7_forward_19 S hlk hr hE M4 x2 r2 hw
theorem me_X7_forward (l : Launch) (D : va_G) (cy : Nat → ClassId) (A : Nat → Prop) (o : Nat) (ad : Nat → Nat) (post : Int32 → z_Md → Prop) (M : z_Md) (x1 : Int32) (x2 : Int32) (hw : w_X7_forward post M x1 x2) : z_Mi l yX7_forward (Cond.code yX7_forward cX7_forward 6 (some .int) :: z_T) rm_X7_forward [.ref o, .int x1, .int x2] (z_EM D cy) (z_hM D cy A o ad) M post 0 0 A :=
  z_met (by decide) (Nat.le_of_ble_eq_true rfl) (fun p e s m args below meth c S hlk hr hnm hE => mb_X7_forward S hlk hr hE M x1 x2 hw)
abbrev rm_X7_duration : Room := { frames := 2, cells := 0, slots := 0, locals := 48 }
def w_X7_duration (post : Int32 → z_Md → Prop) (M : z_Md) (x1 : Int32) : Prop := (w_X7_find (fun r2 M1 => (∀ y3 : Int32, y3 = (if 0 ≤ r2 then 0 else 1) → ((0 ≤ r2 → (vp_in r2 16 ∧ (w_X7_frames (fun r6 M5 => (vp_in r2 16 ∧ (w_X7_frames (fun r8 M7 => (post (8 * (r6 + r8)) M7)) M5 (M5 19 r2.toNatClampNeg)))) (z_up M1 0 0 y3) ((z_up M1 0 0 y3) 18 r2.toNatClampNeg)))) ∧ (¬ 0 ≤ r2 → (post 0 (z_up M1 0 0 y3)))))) M x1)
set_option maxRecDepth 20000 in
theorem mb_X7_duration {p : Program} {l : Launch} {e : Env} {s : State} {m : MethodId} {args : Array Value} {below : List Frame} {meth : Method} {c : Code} {D : va_G} {cy : Nat → ClassId} {A : Nat → Prop} {o : Nat} {ad : Nat → Nat} (S : CallFix p m c cX7_duration 3 s args z_T RX7) (hlk : meth.locks = false) (hr : meth.sig.returnType = some .int) (hE : z_EM D cy s) {post : Int32 → z_Md → Prop}  (M : z_Md) (x1 : Int32) (hw : w_X7_duration post M x1) : z_V A (z_hM D cy A o ad) p l e rm_X7_duration s m args below meth c 3 (MQ below (va_Qi post (fun (u' : z_Md) t => z_hM D cy A o ad u' t.heap) A) args s 0 0 A) 0 0 M 0 [(0, va_rf (some o)), (1, .int x1)] [] := by
  refine z_aload_n (x := some o) S 0 dX7_duration_0 rfl rfl ?_
  refine z_iload_n S 1 dX7_duration_1 rfl rfl ?_
  refine z_callVi (As := [.int x1]) (st := []) S (z_EMok D cy A) hE (me_X7_find l D cy A o ad _ M x1 hw) gV_X7_174 hdV_X7_find ⟨Nat.le_of_ble_eq_true rfl, Nat.le_of_ble_eq_true rfl⟩ rfl rfl (z_recvM hE) (fun _ h => h) (fun _ _ _ _ h => h) rfl (Nat.le_trans z_s0 (by decide)) dX7_duration_2 ⟨Nat.le_of_ble_eq_true rfl, Nat.le_of_ble_eq_true rfl⟩ rfl (fun r2 M1 hw => ?_)
  refine z_istore_n S [(2, .int r2), (0, va_rf (some o)), (1, .int x1)] dX7_duration_5 rfl (by decide) rfl ?_
  refine z_lv (lv' := [(0, va_rf (some o)), (1, .int x1), (2, .int r2)]) [1, 2, 0] rfl ?_
  refine z_aload_n (x := some o) S 0 dX7_duration_6 rfl rfl ?_
  refine z_iload_n S 2 dX7_duration_7 rfl rfl ?_
  suffices hJ : ∀ y3 : Int32, y3 = (if 0 ≤ r2 then 0 else 1) → z_V A (z_hM D cy A o ad) p l e rm_X7_duration s m args below meth c 3 (MQ below (va_Qi post (fun (u' : z_Md) t => z_hM D cy A o ad u' t.heap) A) args s 0 0 A) 0 0 M1 16 [(0, va_rf (some o)), (2, .int r2)] [.int y3, va_rf (some o)] from by
    refine z_if_ge S 15 dX7_duration_8 (by decide) (fun c11 => ?_) (fun c11 => ?_)
    · refine z_iconst (v := 0) S dX7_duration_15 (by decide) ?_
      refine z_lv (lv' := [(0, va_rf (some o)), (2, .int r2)]) [0, 2] rfl ?_
      exact hJ _ (by rw [if_pos c11])
    · refine z_iconst (v := 1) S dX7_duration_11 (by decide) ?_
      refine z_goto S 16 dX7_duration_12 (by decide) ?_
      refine z_lv (lv' := [(0, va_rf (some o)), (2, .int r2)]) [0, 2] rfl ?_
      exact hJ _ (by rw [if_neg c11])
  intro y3 ey3
  have hw := hw y3 ey3
  refine zm_p_89 S hE dX7_duration_16 ?_
  refine z_iload_n S 1 dX7_duration_19 rfl rfl ?_
  refine z_if_ge S 27 dX7_duration_20 (by decide) (fun c4 => ?_) (fun c4 => ?_)
  · have hw := hw.1 c4
    refine z_bipush (v := 8) S dX7_duration_27 (by decide) ?_
    refine z_aload_n (x := some o) S 0 dX7_duration_29 rfl rfl ?_
    refine z_aload_n (x := some o) S 0 dX7_duration_30 rfl rfl ?_
    refine zm_g_53 S hE dX7_duration_31 ?_
    refine z_iload_n S 1 dX7_duration_34 rfl rfl ?_
    obtain ⟨hi10, hw⟩ := hw
    refine z_mald (j := 18) S hE rfl rfl hi10 dX7_duration_35 ?_
    refine z_callVi (As := [.int ((z_up M1 0 0 y3) 18 r2.toNatClampNeg)]) (st := [.int 8]) S (z_EMok D cy A) hE (me_X7_frames l D cy A o ad _ (z_up M1 0 0 y3) ((z_up M1 0 0 y3) 18 r2.toNatClampNeg) hw) gV_X7_177 hdV_X7_frames ⟨Nat.le_of_ble_eq_true rfl, Nat.le_of_ble_eq_true rfl⟩ rfl rfl (z_recvM hE) (fun _ h => h) (fun _ _ _ _ h => h) rfl (Nat.le_trans (z_s1 z_s0) (by decide)) dX7_duration_36 ⟨Nat.le_of_ble_eq_true rfl, Nat.le_of_ble_eq_true rfl⟩ rfl (fun r6 M5 hw => ?_)
    refine z_aload_n (x := some o) S 0 dX7_duration_39 rfl rfl ?_
    refine z_aload_n (x := some o) S 0 dX7_duration_40 rfl rfl ?_
    refine zm_g_56 S hE dX7_duration_41 ?_
    refine z_iload_n S 1 dX7_duration_44 rfl rfl ?_
    obtain ⟨hi9, hw⟩ := hw
    refine z_mald (j := 19) S hE rfl rfl hi9 dX7_duration_45 ?_
    refine z_callVi (As := [.int (M5 19 r2.toNatClampNeg)]) (st := [.int r6, .int 8]) S (z_EMok D cy A) hE (me_X7_frames l D cy A o ad _ M5 (M5 19 r2.toNatClampNeg) hw) gV_X7_177 hdV_X7_frames ⟨Nat.le_of_ble_eq_true rfl, Nat.le_of_ble_eq_true rfl⟩ rfl rfl (z_recvM hE) (fun _ h => h) (fun _ _ _ _ h => h) rfl (Nat.le_trans (z_s1 (z_s1 z_s0)) (by decide)) dX7_duration_46 ⟨Nat.le_of_ble_eq_true rfl, Nat.le_of_ble_eq_true rfl⟩ rfl (fun r8 M7 hw => ?_)
    refine z_iadd S dX7_duration_49 ?_
    refine z_imul S dX7_duration_50 ?_
    exact z_iret S hr hlk dX7_duration_51 (Nat.le_refl 0) (Nat.le_refl 0) hw
  · have hw := hw.2 c4
    refine z_iconst (v := 0) S dX7_duration_23 (by decide) ?_
    refine z_goto S 51 dX7_duration_24 (by decide) ?_
    exact z_iret S hr hlk dX7_duration_51 (Nat.le_refl 0) (Nat.le_refl 0) hw
theorem me_X7_duration (l : Launch) (D : va_G) (cy : Nat → ClassId) (A : Nat → Prop) (o : Nat) (ad : Nat → Nat) (post : Int32 → z_Md → Prop) (M : z_Md) (x1 : Int32) (hw : w_X7_duration post M x1) : z_Mi l yX7_duration (Cond.code yX7_duration cX7_duration 3 (some .int) :: z_T) rm_X7_duration [.ref o, .int x1] (z_EM D cy) (z_hM D cy A o ad) M post 0 0 A :=
  z_met (by decide) (Nat.le_of_ble_eq_true rfl) (fun p e s m args below meth c S hlk hr hnm hE => mb_X7_duration S hlk hr hE M x1 hw)
abbrev rm_X7_play : Room := { frames := 2, cells := 0, slots := 0, locals := 52 }
def w_X7_play_53 (post : Int32 → z_Md → Prop) (M : z_Md) (x2 : Int32) (x3 : Int32) (x4 : Int32) (z0 : Int32) : Prop := (∀ y1 : Int32, y1 = (if 0 ≤ x3 then (if x2 < 0 then 2 else (if x2 < z0 then 0 else 2)) else 1) → ((((z_up M 0 0 y1) 0 0) ≤ 0 → ((x4 ≤ x2 → (vp_in x3 16 ∧ (w_X7_sound (fun r5 M4 => (post r5 M4)) (z_up M 0 0 y1) ((z_up M 0 0 y1) 18 x3.toNatClampNeg) (x2 - x4)))) ∧ (¬ x4 ≤ x2 → (vp_in x3 16 ∧ (w_X7_sound (fun r8 M7 => (post r8 M7)) (z_up M 0 0 y1) ((z_up M 0 0 y1) 19 x3.toNatClampNeg) x2))))) ∧ (¬ ((z_up M 0 0 y1) 0 0) ≤ 0 → (post 0 (z_up M 0 0 y1)))))
def w_X7_play_27 (post : Int32 → z_Md → Prop) (M : z_Md) (x2 : Int32) (x3 : Int32) (z0 : Int32) : Prop := ((0 ≤ x3 → (vp_in x3 16 ∧ (w_X7_frames (fun r3 M2 => (w_X7_play_53 post M2 x2 x3 z0 (z0 + (8 * r3)))) M (M 18 x3.toNatClampNeg)))) ∧ (¬ 0 ≤ x3 → (w_X7_play_53 post M x2 x3 z0 0)))
def w_X7_play (post : Int32 → z_Md → Prop) (M : z_Md) (x1 : Int32) (x2 : Int32) : Prop := (w_X7_find (fun r2 M1 => ((0 ≤ r2 → (vp_in r2 16 ∧ (w_X7_frames (fun r5 M4 => (w_X7_play_27 post M4 x2 r2 (8 * r5))) M1 (M1 19 r2.toNatClampNeg)))) ∧ (¬ 0 ≤ r2 → (w_X7_play_27 post M1 x2 r2 0)))) M x1)
set_option maxRecDepth 20000 in
theorem mb_X7_play_53 {p : Program} {l : Launch} {e : Env} {s : State} {m : MethodId} {args : Array Value} {below : List Frame} {meth : Method} {c : Code} {D : va_G} {cy : Nat → ClassId} {A : Nat → Prop} {o : Nat} {ad : Nat → Nat} (S : CallFix p m c cX7_play 6 s args z_T RX7) (hlk : meth.locks = false) (hr : meth.sig.returnType = some .int) (hE : z_EM D cy s) {post : Int32 → z_Md → Prop}  (M : z_Md) (x2 : Int32) (x3 : Int32) (x4 : Int32) (z0 : Int32) (hw : w_X7_play_53 post M x2 x3 x4 z0) : z_V A (z_hM D cy A o ad) p l e rm_X7_play s m args below meth c 6 (MQ below (va_Qi post (fun (u' : z_Md) t => z_hM D cy A o ad u' t.heap) A) args s 0 0 A) 0 0 M 53 [(0, va_rf (some o)), (2, .int x2), (3, .int x3), (4, .int x4)] [.int z0] := by
  refine z_istore S [(5, .int z0), (0, va_rf (some o)), (2, .int x2), (3, .int x3), (4, .int x4)] dX7_play_53 (by decide) rfl ?_
  refine z_lv (lv' := [(0, va_rf (some o)), (2, .int x2), (3, .int x3), (4, .int x4), (5, .int z0)]) [1, 2, 3, 4, 0] rfl ?_
  refine z_aload_n (x := some o) S 0 dX7_play_55 rfl rfl ?_
  refine z_iload_n S 2 dX7_play_56 rfl rfl ?_
  suffices hJ : ∀ y1 : Int32, y1 = (if 0 ≤ x3 then (if x2 < 0 then 2 else (if x2 < z0 then 0 else 2)) else 1) → z_V A (z_hM D cy A o ad) p l e rm_X7_play s m args below meth c 6 (MQ below (va_Qi post (fun (u' : z_Md) t => z_hM D cy A o ad u' t.heap) A) args s 0 0 A) 0 0 M 79 [(0, va_rf (some o)), (2, .int x2), (3, .int x3), (4, .int x4)] [.int y1, va_rf (some o)] from by
    refine z_if_ge S 64 dX7_play_57 (by decide) (fun c10 => ?_) (fun c10 => ?_)
    · refine z_iload_n S 1 dX7_play_64 rfl rfl ?_
      refine z_if_lt S 74 dX7_play_65 (by decide) (fun c11 => ?_) (fun c11 => ?_)
      · refine z_iconst (v := 2) S dX7_play_74 (by decide) ?_
        refine z_goto S 79 dX7_play_75 (by decide) ?_
        refine z_lv (lv' := [(0, va_rf (some o)), (2, .int x2), (3, .int x3), (4, .int x4)]) [0, 1, 2, 3] rfl ?_
        exact hJ _ (by rw [if_pos c10, if_pos c11])
      · refine z_iload_n S 1 dX7_play_68 rfl rfl ?_
        refine z_iload S 4 dX7_play_69 rfl ?_
        refine z_icmp_lt S 78 dX7_play_71 (by decide) (fun c12 => ?_) (fun c12 => ?_)
        · refine z_iconst (v := 0) S dX7_play_78 (by decide) ?_
          refine z_lv (lv' := [(0, va_rf (some o)), (2, .int x2), (3, .int x3), (4, .int x4)]) [0, 1, 2, 3] rfl ?_
          exact hJ _ (by rw [if_pos c10, if_neg c11, if_pos c12])
        · refine z_iconst (v := 2) S dX7_play_74 (by decide) ?_
          refine z_goto S 79 dX7_play_75 (by decide) ?_
          refine z_lv (lv' := [(0, va_rf (some o)), (2, .int x2), (3, .int x3), (4, .int x4)]) [0, 1, 2, 3] rfl ?_
          exact hJ _ (by rw [if_pos c10, if_neg c11, if_neg c12])
    · refine z_iconst (v := 1) S dX7_play_60 (by decide) ?_
      refine z_goto S 79 dX7_play_61 (by decide) ?_
      refine z_lv (lv' := [(0, va_rf (some o)), (2, .int x2), (3, .int x3), (4, .int x4)]) [0, 1, 2, 3] rfl ?_
      exact hJ _ (by rw [if_neg c10])
  intro y1 ey1
  have hw := hw y1 ey1
  refine zm_p_89 S hE dX7_play_79 ?_
  refine z_aload_n (x := some o) S 0 dX7_play_82 rfl rfl ?_
  refine zm_g_89 S hE dX7_play_83 ?_
  refine z_if_le S 91 dX7_play_86 (by decide) (fun c2 => ?_) (fun c2 => ?_)
  · have hw := hw.1 c2
    refine z_iload_n S 1 dX7_play_91 rfl rfl ?_
    refine z_iload S 3 dX7_play_92 rfl ?_
    refine z_icmp_ge S 111 dX7_play_94 (by decide) (fun c3 => ?_) (fun c3 => ?_)
    · have hw := hw.1 c3
      refine z_aload_n (x := some o) S 0 dX7_play_111 rfl rfl ?_
      refine z_aload_n (x := some o) S 0 dX7_play_112 rfl rfl ?_
      refine zm_g_53 S hE dX7_play_113 ?_
      refine z_iload_n S 2 dX7_play_116 rfl rfl ?_
      obtain ⟨hi6, hw⟩ := hw
      refine z_mald (j := 18) S hE rfl rfl hi6 dX7_play_117 ?_
      refine z_iload_n S 1 dX7_play_118 rfl rfl ?_
      refine z_iload S 3 dX7_play_119 rfl ?_
      refine z_isub S dX7_play_121 ?_
      refine z_callVi (As := [.int ((z_up M 0 0 y1) 18 x3.toNatClampNeg), .int (x2 - x4)]) (st := []) S (z_EMok D cy A) hE (me_X7_sound l D cy A o ad _ (z_up M 0 0 y1) ((z_up M 0 0 y1) 18 x3.toNatClampNeg) (x2 - x4) hw) gV_X7_180 hdV_X7_sound ⟨Nat.le_of_ble_eq_true rfl, Nat.le_of_ble_eq_true rfl⟩ rfl rfl (z_recvM hE) (fun _ h => h) (fun _ _ _ _ h => h) rfl (Nat.le_trans z_s0 (by decide)) dX7_play_122 ⟨Nat.le_of_ble_eq_true rfl, Nat.le_of_ble_eq_true rfl⟩ rfl (fun r5 M4 hw => ?_)
      exact z_iret S hr hlk dX7_play_125 (Nat.le_refl 0) (Nat.le_refl 0) hw
    · have hw := hw.2 c3
      refine z_aload_n (x := some o) S 0 dX7_play_97 rfl rfl ?_
      refine z_aload_n (x := some o) S 0 dX7_play_98 rfl rfl ?_
      refine zm_g_56 S hE dX7_play_99 ?_
      refine z_iload_n S 2 dX7_play_102 rfl rfl ?_
      obtain ⟨hi9, hw⟩ := hw
      refine z_mald (j := 19) S hE rfl rfl hi9 dX7_play_103 ?_
      refine z_iload_n S 1 dX7_play_104 rfl rfl ?_
      refine z_callVi (As := [.int ((z_up M 0 0 y1) 19 x3.toNatClampNeg), .int x2]) (st := []) S (z_EMok D cy A) hE (me_X7_sound l D cy A o ad _ (z_up M 0 0 y1) ((z_up M 0 0 y1) 19 x3.toNatClampNeg) x2 hw) gV_X7_180 hdV_X7_sound ⟨Nat.le_of_ble_eq_true rfl, Nat.le_of_ble_eq_true rfl⟩ rfl rfl (z_recvM hE) (fun _ h => h) (fun _ _ _ _ h => h) rfl (Nat.le_trans z_s0 (by decide)) dX7_play_105 ⟨Nat.le_of_ble_eq_true rfl, Nat.le_of_ble_eq_true rfl⟩ rfl (fun r8 M7 hw => ?_)
      refine z_goto S 125 dX7_play_108 (by decide) ?_
      exact z_iret S hr hlk dX7_play_125 (Nat.le_refl 0) (Nat.le_refl 0) hw
  · have hw := hw.2 c2
    refine z_iconst (v := 0) S dX7_play_89 (by decide) ?_
    exact z_iret S hr hlk dX7_play_90 (Nat.le_refl 0) (Nat.le_refl 0) hw
set_option maxRecDepth 20000 in
theorem mb_X7_play_27 {p : Program} {l : Launch} {e : Env} {s : State} {m : MethodId} {args : Array Value} {below : List Frame} {meth : Method} {c : Code} {D : va_G} {cy : Nat → ClassId} {A : Nat → Prop} {o : Nat} {ad : Nat → Nat} (S : CallFix p m c cX7_play 6 s args z_T RX7) (hlk : meth.locks = false) (hr : meth.sig.returnType = some .int) (hE : z_EM D cy s) {post : Int32 → z_Md → Prop}  (M : z_Md) (x2 : Int32) (x3 : Int32) (z0 : Int32) (hw : w_X7_play_27 post M x2 x3 z0) : z_V A (z_hM D cy A o ad) p l e rm_X7_play s m args below meth c 6 (MQ below (va_Qi post (fun (u' : z_Md) t => z_hM D cy A o ad u' t.heap) A) args s 0 0 A) 0 0 M 27 [(0, va_rf (some o)), (2, .int x2), (3, .int x3)] [.int z0] := by
  refine z_istore S [(4, .int z0), (0, va_rf (some o)), (2, .int x2), (3, .int x3)] dX7_play_27 (by decide) rfl ?_
  refine z_lv (lv' := [(0, va_rf (some o)), (2, .int x2), (3, .int x3), (4, .int z0)]) [1, 2, 3, 0] rfl ?_
  refine z_iload_n S 2 dX7_play_29 rfl rfl ?_
  refine z_if_ge S 37 dX7_play_30 (by decide) (fun c1 => ?_) (fun c1 => ?_)
  · have hw := hw.1 c1
    refine z_iload S 3 dX7_play_37 rfl ?_
    refine z_bipush (v := 8) S dX7_play_39 (by decide) ?_
    refine z_aload_n (x := some o) S 0 dX7_play_41 rfl rfl ?_
    refine z_aload_n (x := some o) S 0 dX7_play_42 rfl rfl ?_
    refine zm_g_53 S hE dX7_play_43 ?_
    refine z_iload_n S 2 dX7_play_46 rfl rfl ?_
    obtain ⟨hi4, hw⟩ := hw
    refine z_mald (j := 18) S hE rfl rfl hi4 dX7_play_47 ?_
    refine z_callVi (As := [.int (M 18 x3.toNatClampNeg)]) (st := [.int 8, .int z0]) S (z_EMok D cy A) hE (me_X7_frames l D cy A o ad _ M (M 18 x3.toNatClampNeg) hw) gV_X7_177 hdV_X7_frames ⟨Nat.le_of_ble_eq_true rfl, Nat.le_of_ble_eq_true rfl⟩ rfl rfl (z_recvM hE) (fun _ h => h) (fun _ _ _ _ h => h) rfl (Nat.le_trans (z_s1 (z_s1 z_s0)) (by decide)) dX7_play_48 ⟨Nat.le_of_ble_eq_true rfl, Nat.le_of_ble_eq_true rfl⟩ rfl (fun r3 M2 hw => ?_)
    refine z_imul S dX7_play_51 ?_
    refine z_iadd S dX7_play_52 ?_
    exact mb_X7_play_53 S hlk hr hE M2 x2 x3 z0 (z0 + (8 * r3)) hw
  · have hw := hw.2 c1
    refine z_iconst (v := 0) S dX7_play_33 (by decide) ?_
    refine z_goto S 53 dX7_play_34 (by decide) ?_
    exact mb_X7_play_53 S hlk hr hE M x2 x3 z0 0 hw
set_option maxRecDepth 20000 in
theorem mb_X7_play {p : Program} {l : Launch} {e : Env} {s : State} {m : MethodId} {args : Array Value} {below : List Frame} {meth : Method} {c : Code} {D : va_G} {cy : Nat → ClassId} {A : Nat → Prop} {o : Nat} {ad : Nat → Nat} (S : CallFix p m c cX7_play 6 s args z_T RX7) (hlk : meth.locks = false) (hr : meth.sig.returnType = some .int) (hE : z_EM D cy s) {post : Int32 → z_Md → Prop}  (M : z_Md) (x1 : Int32) (x2 : Int32) (hw : w_X7_play post M x1 x2) : z_V A (z_hM D cy A o ad) p l e rm_X7_play s m args below meth c 6 (MQ below (va_Qi post (fun (u' : z_Md) t => z_hM D cy A o ad u' t.heap) A) args s 0 0 A) 0 0 M 0 [(0, va_rf (some o)), (1, .int x1), (2, .int x2)] [] := by
  refine z_aload_n (x := some o) S 0 dX7_play_0 rfl rfl ?_
  refine z_iload_n S 1 dX7_play_1 rfl rfl ?_
  refine z_callVi (As := [.int x1]) (st := []) S (z_EMok D cy A) hE (me_X7_find l D cy A o ad _ M x1 hw) gV_X7_174 hdV_X7_find ⟨Nat.le_of_ble_eq_true rfl, Nat.le_of_ble_eq_true rfl⟩ rfl rfl (z_recvM hE) (fun _ h => h) (fun _ _ _ _ h => h) rfl (Nat.le_trans z_s0 (by decide)) dX7_play_2 ⟨Nat.le_of_ble_eq_true rfl, Nat.le_of_ble_eq_true rfl⟩ rfl (fun r2 M1 hw => ?_)
  refine z_istore_n S [(3, .int r2), (0, va_rf (some o)), (1, .int x1), (2, .int x2)] dX7_play_5 rfl (by decide) rfl ?_
  refine z_lv (lv' := [(0, va_rf (some o)), (1, .int x1), (2, .int x2), (3, .int r2)]) [1, 2, 3, 0] rfl ?_
  refine z_iload_n S 3 dX7_play_6 rfl rfl ?_
  refine z_if_ge S 14 dX7_play_7 (by decide) (fun c3 => ?_) (fun c3 => ?_)
  · have hw := hw.1 c3
    refine z_bipush (v := 8) S dX7_play_14 (by decide) ?_
    refine z_aload_n (x := some o) S 0 dX7_play_16 rfl rfl ?_
    refine z_aload_n (x := some o) S 0 dX7_play_17 rfl rfl ?_
    refine zm_g_56 S hE dX7_play_18 ?_
    refine z_iload_n S 3 dX7_play_21 rfl rfl ?_
    obtain ⟨hi6, hw⟩ := hw
    refine z_mald (j := 19) S hE rfl rfl hi6 dX7_play_22 ?_
    refine z_callVi (As := [.int (M1 19 r2.toNatClampNeg)]) (st := [.int 8]) S (z_EMok D cy A) hE (me_X7_frames l D cy A o ad _ M1 (M1 19 r2.toNatClampNeg) hw) gV_X7_177 hdV_X7_frames ⟨Nat.le_of_ble_eq_true rfl, Nat.le_of_ble_eq_true rfl⟩ rfl rfl (z_recvM hE) (fun _ h => h) (fun _ _ _ _ h => h) rfl (Nat.le_trans (z_s1 z_s0) (by decide)) dX7_play_23 ⟨Nat.le_of_ble_eq_true rfl, Nat.le_of_ble_eq_true rfl⟩ rfl (fun r5 M4 hw => ?_)
    refine z_imul S dX7_play_26 ?_
    refine z_lv (lv' := [(0, va_rf (some o)), (2, .int x2), (3, .int r2)]) [0, 2, 3] rfl ?_
    exact mb_X7_play_27 S hlk hr hE M4 x2 r2 (8 * r5) hw
  · have hw := hw.2 c3
    refine z_iconst (v := 0) S dX7_play_10 (by decide) ?_
    refine z_goto S 27 dX7_play_11 (by decide) ?_
    refine z_lv (lv' := [(0, va_rf (some o)), (2, .int x2), (3, .int r2)]) [0, 2, 3] rfl ?_
    exact mb_X7_play_27 S hlk hr hE M1 x2 r2 0 hw
theorem me_X7_play (l : Launch) (D : va_G) (cy : Nat → ClassId) (A : Nat → Prop) (o : Nat) (ad : Nat → Nat) (post : Int32 → z_Md → Prop) (M : z_Md) (x1 : Int32) (x2 : Int32) (hw : w_X7_play post M x1 x2) : z_Mi l yX7_play (Cond.code yX7_play cX7_play 6 (some .int) :: z_T) rm_X7_play [.ref o, .int x1, .int x2] (z_EM D cy) (z_hM D cy A o ad) M post 0 0 A :=
  z_met (by decide) (Nat.le_of_ble_eq_true rfl) (fun p e s m args below meth c S hlk hr hnm hE => mb_X7_play S hlk hr hE M x1 x2 hw)
abbrev rm_X7_length : Room := { frames := 2, cells := 0, slots := 0, locals := 48 }
def w_X7_length (post : Int32 → z_Md → Prop) (M : z_Md) (x1 : Int32) (x2 : Int32) : Prop := (w_X7_isBox (fun r2 M1 => (∀ y3 : Int32, y3 = (if r2 = 0 then 1 else (if x2 < 0 then 2 else (if x2 ≤ 2 then 0 else 2))) → ((((z_up M1 0 0 y3) 0 0) ≤ 0 → (vp_in ((3 * x1) + x2) 12 ∧ (w_X7_frames (fun r6 M5 => (post (8 * r6) M5)) (z_up M1 0 0 y3) ((z_up M1 0 0 y3) 12 ((3 * x1) + x2).toNatClampNeg)))) ∧ (¬ ((z_up M1 0 0 y3) 0 0) ≤ 0 → (post 0 (z_up M1 0 0 y3)))))) M x1)
set_option maxRecDepth 20000 in
theorem mb_X7_length {p : Program} {l : Launch} {e : Env} {s : State} {m : MethodId} {args : Array Value} {below : List Frame} {meth : Method} {c : Code} {D : va_G} {cy : Nat → ClassId} {A : Nat → Prop} {o : Nat} {ad : Nat → Nat} (S : CallFix p m c cX7_length 3 s args z_T RX7) (hlk : meth.locks = false) (hr : meth.sig.returnType = some .int) (hE : z_EM D cy s) {post : Int32 → z_Md → Prop}  (M : z_Md) (x1 : Int32) (x2 : Int32) (hw : w_X7_length post M x1 x2) : z_V A (z_hM D cy A o ad) p l e rm_X7_length s m args below meth c 3 (MQ below (va_Qi post (fun (u' : z_Md) t => z_hM D cy A o ad u' t.heap) A) args s 0 0 A) 0 0 M 0 [(0, va_rf (some o)), (1, .int x1), (2, .int x2)] [] := by
  refine z_aload_n (x := some o) S 0 dX7_length_0 rfl rfl ?_
  refine z_aload_n (x := some o) S 0 dX7_length_1 rfl rfl ?_
  refine z_iload_n S 1 dX7_length_2 rfl rfl ?_
  refine z_callVi (As := [.int x1]) (st := [va_rf (some o)]) S (z_EMok D cy A) hE (me_X7_isBox l D cy A o ad _ M x1 hw) gV_X7_131 hdV_X7_isBox ⟨Nat.le_of_ble_eq_true rfl, Nat.le_of_ble_eq_true rfl⟩ rfl rfl (z_recvM hE) (fun _ h => h) (fun _ _ _ _ h => h) rfl (Nat.le_trans (z_sq z_s0) (by decide)) dX7_length_3 ⟨Nat.le_of_ble_eq_true rfl, Nat.le_of_ble_eq_true rfl⟩ rfl (fun r2 M1 hw => ?_)
  suffices hJ : ∀ y3 : Int32, y3 = (if r2 = 0 then 1 else (if x2 < 0 then 2 else (if x2 ≤ 2 then 0 else 2))) → z_V A (z_hM D cy A o ad) p l e rm_X7_length s m args below meth c 3 (MQ below (va_Qi post (fun (u' : z_Md) t => z_hM D cy A o ad u' t.heap) A) args s 0 0 A) 0 0 M1 27 [(0, va_rf (some o)), (1, .int x1), (2, .int x2)] [.int y3, va_rf (some o)] from by
    refine z_if_ne S 13 dX7_length_6 (by decide) (fun c8 => ?_) (fun c8 => ?_)
    · refine z_iload_n S 2 dX7_length_13 rfl rfl ?_
      refine z_if_lt S 22 dX7_length_14 (by decide) (fun c9 => ?_) (fun c9 => ?_)
      · refine z_iconst (v := 2) S dX7_length_22 (by decide) ?_
        refine z_goto S 27 dX7_length_23 (by decide) ?_
        exact hJ _ (by rw [if_neg c8, if_pos c9])
      · refine z_iload_n S 2 dX7_length_17 rfl rfl ?_
        refine z_iconst (v := 2) S dX7_length_18 (by decide) ?_
        refine z_icmp_le S 26 dX7_length_19 (by decide) (fun c10 => ?_) (fun c10 => ?_)
        · refine z_iconst (v := 0) S dX7_length_26 (by decide) ?_
          exact hJ _ (by rw [if_neg c8, if_neg c9, if_pos c10])
        · refine z_iconst (v := 2) S dX7_length_22 (by decide) ?_
          refine z_goto S 27 dX7_length_23 (by decide) ?_
          exact hJ _ (by rw [if_neg c8, if_neg c9, if_neg c10])
    · refine z_iconst (v := 1) S dX7_length_9 (by decide) ?_
      refine z_goto S 27 dX7_length_10 (by decide) ?_
      exact hJ _ (by rw [if_pos c8])
  intro y3 ey3
  have hw := hw y3 ey3
  refine zm_p_89 S hE dX7_length_27 ?_
  refine z_aload_n (x := some o) S 0 dX7_length_30 rfl rfl ?_
  refine zm_g_89 S hE dX7_length_31 ?_
  refine z_if_le S 41 dX7_length_34 (by decide) (fun c4 => ?_) (fun c4 => ?_)
  · have hw := hw.1 c4
    refine z_bipush (v := 8) S dX7_length_41 (by decide) ?_
    refine z_aload_n (x := some o) S 0 dX7_length_43 rfl rfl ?_
    refine z_aload_n (x := some o) S 0 dX7_length_44 rfl rfl ?_
    refine zm_g_41 S hE dX7_length_45 ?_
    refine z_iconst (v := 3) S dX7_length_48 (by decide) ?_
    refine z_iload_n S 1 dX7_length_49 rfl rfl ?_
    refine z_imul S dX7_length_50 ?_
    refine z_iload_n S 2 dX7_length_51 rfl rfl ?_
    refine z_iadd S dX7_length_52 ?_
    obtain ⟨hi7, hw⟩ := hw
    refine z_mald (j := 12) S hE rfl rfl hi7 dX7_length_53 ?_
    refine z_callVi (As := [.int ((z_up M1 0 0 y3) 12 ((3 * x1) + x2).toNatClampNeg)]) (st := [.int 8]) S (z_EMok D cy A) hE (me_X7_frames l D cy A o ad _ (z_up M1 0 0 y3) ((z_up M1 0 0 y3) 12 ((3 * x1) + x2).toNatClampNeg) hw) gV_X7_177 hdV_X7_frames ⟨Nat.le_of_ble_eq_true rfl, Nat.le_of_ble_eq_true rfl⟩ rfl rfl (z_recvM hE) (fun _ h => h) (fun _ _ _ _ h => h) rfl (Nat.le_trans (z_s1 z_s0) (by decide)) dX7_length_54 ⟨Nat.le_of_ble_eq_true rfl, Nat.le_of_ble_eq_true rfl⟩ rfl (fun r6 M5 hw => ?_)
    refine z_imul S dX7_length_57 ?_
    exact z_iret S hr hlk dX7_length_58 (Nat.le_refl 0) (Nat.le_refl 0) hw
  · have hw := hw.2 c4
    refine z_iconst (v := 0) S dX7_length_37 (by decide) ?_
    refine z_goto S 58 dX7_length_38 (by decide) ?_
    exact z_iret S hr hlk dX7_length_58 (Nat.le_refl 0) (Nat.le_refl 0) hw
theorem me_X7_length (l : Launch) (D : va_G) (cy : Nat → ClassId) (A : Nat → Prop) (o : Nat) (ad : Nat → Nat) (post : Int32 → z_Md → Prop) (M : z_Md) (x1 : Int32) (x2 : Int32) (hw : w_X7_length post M x1 x2) : z_Mi l yX7_length (Cond.code yX7_length cX7_length 3 (some .int) :: z_T) rm_X7_length [.ref o, .int x1, .int x2] (z_EM D cy) (z_hM D cy A o ad) M post 0 0 A :=
  z_met (by decide) (Nat.le_of_ble_eq_true rfl) (fun p e s m args below meth c S hlk hr hnm hE => mb_X7_length S hlk hr hE M x1 x2 hw)
abbrev rm_X7_greeting : Room := { frames := 2, cells := 0, slots := 0, locals := 52 }
def w_X7_greeting_74 (post : Int32 → z_Md → Prop) (M : z_Md) (x3 : Int32) (x4 : Int32) (z0 : Int32) : Prop := ((((z_up M 0 0 z0) 0 0) ≤ 0 → (w_X7_sound (fun r3 M2 => (post r3 M2)) (z_up M 0 0 z0) x4 x3)) ∧ (¬ ((z_up M 0 0 z0) 0 0) ≤ 0 → (post 0 (z_up M 0 0 z0))))
def w_X7_greeting_69 (post : Int32 → z_Md → Prop) (M : z_Md) (x3 : Int32) (x4 : Int32) : Prop := (w_X7_greeting_74 post M x3 x4 3)
def w_X7_greeting (post : Int32 → z_Md → Prop) (M : z_Md) (x1 : Int32) (x2 : Int32) (x3 : Int32) : Prop := (w_X7_isBox (fun r2 M1 => (∀ y3 : Int32, y3 = (if r2 = 0 then 1 else (if x2 < 0 then 2 else (if x2 ≤ 2 then 0 else 2))) → ((((z_up M1 0 0 y3) 0 0) ≤ 0 → (vp_in ((3 * x1) + x2) 12 ∧ (∀ x4_5 : Int32, x4_5 = (z_up M1 0 0 y3) 12 ((3 * x1) + x2).toNatClampNeg → ((x3 < 0 → (w_X7_greeting_69 post (z_up M1 0 0 y3) x3 x4_5)) ∧ (¬ x3 < 0 → (w_X7_frames (fun r8 M7 => ((x3 < (8 * r8) → (w_X7_greeting_74 post M7 x3 x4_5 0)) ∧ (¬ x3 < (8 * r8) → (w_X7_greeting_69 post M7 x3 x4_5)))) (z_up M1 0 0 y3) x4_5)))))) ∧ (¬ ((z_up M1 0 0 y3) 0 0) ≤ 0 → (post 0 (z_up M1 0 0 y3)))))) M x1)
set_option maxRecDepth 20000 in
theorem mb_X7_greeting_74 {p : Program} {l : Launch} {e : Env} {s : State} {m : MethodId} {args : Array Value} {below : List Frame} {meth : Method} {c : Code} {D : va_G} {cy : Nat → ClassId} {A : Nat → Prop} {o : Nat} {ad : Nat → Nat} (S : CallFix p m c cX7_greeting 5 s args z_T RX7) (hlk : meth.locks = false) (hr : meth.sig.returnType = some .int) (hE : z_EM D cy s) {post : Int32 → z_Md → Prop}  (M : z_Md) (x3 : Int32) (x4 : Int32) (z0 : Int32) (hw : w_X7_greeting_74 post M x3 x4 z0) : z_V A (z_hM D cy A o ad) p l e rm_X7_greeting s m args below meth c 5 (MQ below (va_Qi post (fun (u' : z_Md) t => z_hM D cy A o ad u' t.heap) A) args s 0 0 A) 0 0 M 74 [(0, va_rf (some o)), (3, .int x3), (4, .int x4)] [.int z0, va_rf (some o)] := by
  refine zm_p_89 S hE dX7_greeting_74 ?_
  refine z_aload_n (x := some o) S 0 dX7_greeting_77 rfl rfl ?_
  refine zm_g_89 S hE dX7_greeting_78 ?_
  refine z_if_le S 88 dX7_greeting_81 (by decide) (fun c1 => ?_) (fun c1 => ?_)
  · have hw := hw.1 c1
    refine z_aload_n (x := some o) S 0 dX7_greeting_88 rfl rfl ?_
    refine z_iload S 2 dX7_greeting_89 rfl ?_
    refine z_iload_n S 1 dX7_greeting_91 rfl rfl ?_
    refine z_callVi (As := [.int x4, .int x3]) (st := []) S (z_EMok D cy A) hE (me_X7_sound l D cy A o ad _ (z_up M 0 0 z0) x4 x3 hw) gV_X7_180 hdV_X7_sound ⟨Nat.le_of_ble_eq_true rfl, Nat.le_of_ble_eq_true rfl⟩ rfl rfl (z_recvM hE) (fun _ h => h) (fun _ _ _ _ h => h) rfl (Nat.le_trans z_s0 (by decide)) dX7_greeting_92 ⟨Nat.le_of_ble_eq_true rfl, Nat.le_of_ble_eq_true rfl⟩ rfl (fun r3 M2 hw => ?_)
    exact z_iret S hr hlk dX7_greeting_95 (Nat.le_refl 0) (Nat.le_refl 0) hw
  · have hw := hw.2 c1
    refine z_iconst (v := 0) S dX7_greeting_84 (by decide) ?_
    refine z_goto S 95 dX7_greeting_85 (by decide) ?_
    exact z_iret S hr hlk dX7_greeting_95 (Nat.le_refl 0) (Nat.le_refl 0) hw
set_option maxRecDepth 20000 in
theorem mb_X7_greeting_69 {p : Program} {l : Launch} {e : Env} {s : State} {m : MethodId} {args : Array Value} {below : List Frame} {meth : Method} {c : Code} {D : va_G} {cy : Nat → ClassId} {A : Nat → Prop} {o : Nat} {ad : Nat → Nat} (S : CallFix p m c cX7_greeting 5 s args z_T RX7) (hlk : meth.locks = false) (hr : meth.sig.returnType = some .int) (hE : z_EM D cy s) {post : Int32 → z_Md → Prop}  (M : z_Md) (x3 : Int32) (x4 : Int32) (hw : w_X7_greeting_69 post M x3 x4) : z_V A (z_hM D cy A o ad) p l e rm_X7_greeting s m args below meth c 5 (MQ below (va_Qi post (fun (u' : z_Md) t => z_hM D cy A o ad u' t.heap) A) args s 0 0 A) 0 0 M 69 [(0, va_rf (some o)), (3, .int x3), (4, .int x4)] [va_rf (some o)] := by
  refine z_iconst (v := 3) S dX7_greeting_69 (by decide) ?_
  refine z_goto S 74 dX7_greeting_70 (by decide) ?_
  exact mb_X7_greeting_74 S hlk hr hE M x3 x4 3 hw
set_option maxRecDepth 20000 in
theorem mb_X7_greeting {p : Program} {l : Launch} {e : Env} {s : State} {m : MethodId} {args : Array Value} {below : List Frame} {meth : Method} {c : Code} {D : va_G} {cy : Nat → ClassId} {A : Nat → Prop} {o : Nat} {ad : Nat → Nat} (S : CallFix p m c cX7_greeting 5 s args z_T RX7) (hlk : meth.locks = false) (hr : meth.sig.returnType = some .int) (hE : z_EM D cy s) {post : Int32 → z_Md → Prop}  (M : z_Md) (x1 : Int32) (x2 : Int32) (x3 : Int32) (hw : w_X7_greeting post M x1 x2 x3) : z_V A (z_hM D cy A o ad) p l e rm_X7_greeting s m args below meth c 5 (MQ below (va_Qi post (fun (u' : z_Md) t => z_hM D cy A o ad u' t.heap) A) args s 0 0 A) 0 0 M 0 [(0, va_rf (some o)), (1, .int x1), (2, .int x2), (3, .int x3)] [] := by
  refine z_aload_n (x := some o) S 0 dX7_greeting_0 rfl rfl ?_
  refine z_aload_n (x := some o) S 0 dX7_greeting_1 rfl rfl ?_
  refine z_iload_n S 1 dX7_greeting_2 rfl rfl ?_
  refine z_callVi (As := [.int x1]) (st := [va_rf (some o)]) S (z_EMok D cy A) hE (me_X7_isBox l D cy A o ad _ M x1 hw) gV_X7_131 hdV_X7_isBox ⟨Nat.le_of_ble_eq_true rfl, Nat.le_of_ble_eq_true rfl⟩ rfl rfl (z_recvM hE) (fun _ h => h) (fun _ _ _ _ h => h) rfl (Nat.le_trans (z_sq z_s0) (by decide)) dX7_greeting_3 ⟨Nat.le_of_ble_eq_true rfl, Nat.le_of_ble_eq_true rfl⟩ rfl (fun r2 M1 hw => ?_)
  suffices hJ : ∀ y3 : Int32, y3 = (if r2 = 0 then 1 else (if x2 < 0 then 2 else (if x2 ≤ 2 then 0 else 2))) → z_V A (z_hM D cy A o ad) p l e rm_X7_greeting s m args below meth c 5 (MQ below (va_Qi post (fun (u' : z_Md) t => z_hM D cy A o ad u' t.heap) A) args s 0 0 A) 0 0 M1 27 [(0, va_rf (some o)), (1, .int x1), (2, .int x2), (3, .int x3)] [.int y3, va_rf (some o)] from by
    refine z_if_ne S 13 dX7_greeting_6 (by decide) (fun c11 => ?_) (fun c11 => ?_)
    · refine z_iload_n S 2 dX7_greeting_13 rfl rfl ?_
      refine z_if_lt S 22 dX7_greeting_14 (by decide) (fun c12 => ?_) (fun c12 => ?_)
      · refine z_iconst (v := 2) S dX7_greeting_22 (by decide) ?_
        refine z_goto S 27 dX7_greeting_23 (by decide) ?_
        exact hJ _ (by rw [if_neg c11, if_pos c12])
      · refine z_iload_n S 2 dX7_greeting_17 rfl rfl ?_
        refine z_iconst (v := 2) S dX7_greeting_18 (by decide) ?_
        refine z_icmp_le S 26 dX7_greeting_19 (by decide) (fun c13 => ?_) (fun c13 => ?_)
        · refine z_iconst (v := 0) S dX7_greeting_26 (by decide) ?_
          exact hJ _ (by rw [if_neg c11, if_neg c12, if_pos c13])
        · refine z_iconst (v := 2) S dX7_greeting_22 (by decide) ?_
          refine z_goto S 27 dX7_greeting_23 (by decide) ?_
          exact hJ _ (by rw [if_neg c11, if_neg c12, if_neg c13])
    · refine z_iconst (v := 1) S dX7_greeting_9 (by decide) ?_
      refine z_goto S 27 dX7_greeting_10 (by decide) ?_
      exact hJ _ (by rw [if_pos c11])
  intro y3 ey3
  have hw := hw y3 ey3
  refine zm_p_89 S hE dX7_greeting_27 ?_
  refine z_aload_n (x := some o) S 0 dX7_greeting_30 rfl rfl ?_
  refine zm_g_89 S hE dX7_greeting_31 ?_
  refine z_if_le S 39 dX7_greeting_34 (by decide) (fun c4 => ?_) (fun c4 => ?_)
  · have hw := hw.1 c4
    refine z_aload_n (x := some o) S 0 dX7_greeting_39 rfl rfl ?_
    refine zm_g_41 S hE dX7_greeting_40 ?_
    refine z_iconst (v := 3) S dX7_greeting_43 (by decide) ?_
    refine z_iload_n S 1 dX7_greeting_44 rfl rfl ?_
    refine z_imul S dX7_greeting_45 ?_
    refine z_iload_n S 2 dX7_greeting_46 rfl rfl ?_
    refine z_iadd S dX7_greeting_47 ?_
    obtain ⟨hi10, hw⟩ := hw
    refine z_mald (j := 12) S hE rfl rfl hi10 dX7_greeting_48 ?_
    refine z_top (fun x4_5 ex4_5 => ?_)
    have hw := hw x4_5 ex4_5
    refine z_istore S [(4, .int x4_5), (0, va_rf (some o)), (1, .int x1), (2, .int x2), (3, .int x3)] dX7_greeting_49 (by decide) rfl ?_
    refine z_lv (lv' := [(0, va_rf (some o)), (1, .int x1), (2, .int x2), (3, .int x3), (4, .int x4_5)]) [1, 2, 3, 4, 0] rfl ?_
    refine z_aload_n (x := some o) S 0 dX7_greeting_51 rfl rfl ?_
    refine z_iload_n S 3 dX7_greeting_52 rfl rfl ?_
    refine z_if_lt S 69 dX7_greeting_53 (by decide) (fun c6 => ?_) (fun c6 => ?_)
    · have hw := hw.1 c6
      refine z_lv (lv' := [(0, va_rf (some o)), (3, .int x3), (4, .int x4_5)]) [0, 3, 4] rfl ?_
      exact mb_X7_greeting_69 S hlk hr hE (z_up M1 0 0 y3) x3 x4_5 hw
    · have hw := hw.2 c6
      refine z_iload_n S 3 dX7_greeting_56 rfl rfl ?_
      refine z_bipush (v := 8) S dX7_greeting_57 (by decide) ?_
      refine z_aload_n (x := some o) S 0 dX7_greeting_59 rfl rfl ?_
      refine z_iload S 4 dX7_greeting_60 rfl ?_
      refine z_callVi (As := [.int x4_5]) (st := [.int 8, .int x3, va_rf (some o)]) S (z_EMok D cy A) hE (me_X7_frames l D cy A o ad _ (z_up M1 0 0 y3) x4_5 hw) gV_X7_177 hdV_X7_frames ⟨Nat.le_of_ble_eq_true rfl, Nat.le_of_ble_eq_true rfl⟩ rfl rfl (z_recvM hE) (fun _ h => h) (fun _ _ _ _ h => h) rfl (Nat.le_trans (z_s1 (z_s1 (z_sq z_s0))) (by decide)) dX7_greeting_62 ⟨Nat.le_of_ble_eq_true rfl, Nat.le_of_ble_eq_true rfl⟩ rfl (fun r8 M7 hw => ?_)
      refine z_imul S dX7_greeting_65 ?_
      refine z_icmp_lt S 73 dX7_greeting_66 (by decide) (fun c9 => ?_) (fun c9 => ?_)
      · have hw := hw.1 c9
        refine z_iconst (v := 0) S dX7_greeting_73 (by decide) ?_
        refine z_lv (lv' := [(0, va_rf (some o)), (3, .int x3), (4, .int x4_5)]) [0, 3, 4] rfl ?_
        exact mb_X7_greeting_74 S hlk hr hE M7 x3 x4_5 0 hw
      · have hw := hw.2 c9
        refine z_lv (lv' := [(0, va_rf (some o)), (3, .int x3), (4, .int x4_5)]) [0, 3, 4] rfl ?_
        exact mb_X7_greeting_69 S hlk hr hE M7 x3 x4_5 hw
  · have hw := hw.2 c4
    refine z_iconst (v := 0) S dX7_greeting_37 (by decide) ?_
    exact z_iret S hr hlk dX7_greeting_38 (Nat.le_refl 0) (Nat.le_refl 0) hw
theorem me_X7_greeting (l : Launch) (D : va_G) (cy : Nat → ClassId) (A : Nat → Prop) (o : Nat) (ad : Nat → Nat) (post : Int32 → z_Md → Prop) (M : z_Md) (x1 : Int32) (x2 : Int32) (x3 : Int32) (hw : w_X7_greeting post M x1 x2 x3) : z_Mi l yX7_greeting (Cond.code yX7_greeting cX7_greeting 5 (some .int) :: z_T) rm_X7_greeting [.ref o, .int x1, .int x2, .int x3] (z_EM D cy) (z_hM D cy A o ad) M post 0 0 A :=
  z_met (by decide) (Nat.le_of_ble_eq_true rfl) (fun p e s m args below meth c S hlk hr hnm hE => mb_X7_greeting S hlk hr hE M x1 x2 x3 hw)
abbrev rm_X7_used : Room := { frames := 3, cells := 0, slots := 0, locals := 71 }
def w_X7_used (post : Int32 → z_Md → Prop) (M : z_Md) (x1 : Int32) : Prop := (w_X7_isBox (fun r2 M1 => (∀ y3 : Int32, y3 = (if r2 = 0 then 1 else 0) → ((((z_up M1 0 0 y3) 0 0) ≤ 0 → (w_X7_usedBy (fun r6 M5 => (post r6 M5)) (z_up M1 0 0 y3) x1)) ∧ (¬ ((z_up M1 0 0 y3) 0 0) ≤ 0 → (post 0 (z_up M1 0 0 y3)))))) M x1)
set_option maxRecDepth 20000 in
theorem mb_X7_used {p : Program} {l : Launch} {e : Env} {s : State} {m : MethodId} {args : Array Value} {below : List Frame} {meth : Method} {c : Code} {D : va_G} {cy : Nat → ClassId} {A : Nat → Prop} {o : Nat} {ad : Nat → Nat} (S : CallFix p m c cX7_used 2 s args z_T RX7) (hlk : meth.locks = false) (hr : meth.sig.returnType = some .int) (hE : z_EM D cy s) {post : Int32 → z_Md → Prop}  (M : z_Md) (x1 : Int32) (hw : w_X7_used post M x1) : z_V A (z_hM D cy A o ad) p l e rm_X7_used s m args below meth c 2 (MQ below (va_Qi post (fun (u' : z_Md) t => z_hM D cy A o ad u' t.heap) A) args s 0 0 A) 0 0 M 0 [(0, va_rf (some o)), (1, .int x1)] [] := by
  refine z_aload_n (x := some o) S 0 dX7_used_0 rfl rfl ?_
  refine z_aload_n (x := some o) S 0 dX7_used_1 rfl rfl ?_
  refine z_iload_n S 1 dX7_used_2 rfl rfl ?_
  refine z_callVi (As := [.int x1]) (st := [va_rf (some o)]) S (z_EMok D cy A) hE (me_X7_isBox l D cy A o ad _ M x1 hw) gV_X7_131 hdV_X7_isBox ⟨Nat.le_of_ble_eq_true rfl, Nat.le_of_ble_eq_true rfl⟩ rfl rfl (z_recvM hE) (fun _ h => h) (fun _ _ _ _ h => h) rfl (Nat.le_trans (z_sq z_s0) (by decide)) dX7_used_3 ⟨Nat.le_of_ble_eq_true rfl, Nat.le_of_ble_eq_true rfl⟩ rfl (fun r2 M1 hw => ?_)
  suffices hJ : ∀ y3 : Int32, y3 = (if r2 = 0 then 1 else 0) → z_V A (z_hM D cy A o ad) p l e rm_X7_used s m args below meth c 2 (MQ below (va_Qi post (fun (u' : z_Md) t => z_hM D cy A o ad u' t.heap) A) args s 0 0 A) 0 0 M1 14 [(0, va_rf (some o)), (1, .int x1)] [.int y3, va_rf (some o)] from by
    refine z_if_eq S 13 dX7_used_6 (by decide) (fun c7 => ?_) (fun c7 => ?_)
    · refine z_iconst (v := 1) S dX7_used_13 (by decide) ?_
      exact hJ _ (by rw [if_pos c7])
    · refine z_iconst (v := 0) S dX7_used_9 (by decide) ?_
      refine z_goto S 14 dX7_used_10 (by decide) ?_
      exact hJ _ (by rw [if_neg c7])
  intro y3 ey3
  have hw := hw y3 ey3
  refine zm_p_89 S hE dX7_used_14 ?_
  refine z_aload_n (x := some o) S 0 dX7_used_17 rfl rfl ?_
  refine zm_g_89 S hE dX7_used_18 ?_
  refine z_if_le S 28 dX7_used_21 (by decide) (fun c4 => ?_) (fun c4 => ?_)
  · have hw := hw.1 c4
    refine z_aload_n (x := some o) S 0 dX7_used_28 rfl rfl ?_
    refine z_iload_n S 1 dX7_used_29 rfl rfl ?_
    refine z_callVi (As := [.int x1]) (st := []) S (z_EMok D cy A) hE (me_X7_usedBy l D cy A o ad _ (z_up M1 0 0 y3) x1 hw) gV_X7_138 hdV_X7_usedBy ⟨Nat.le_of_ble_eq_true rfl, Nat.le_of_ble_eq_true rfl⟩ rfl rfl (z_recvM hE) (fun _ h => h) (fun _ _ _ _ h => h) rfl (Nat.le_trans z_s0 (by decide)) dX7_used_30 ⟨Nat.le_of_ble_eq_true rfl, Nat.le_of_ble_eq_true rfl⟩ rfl (fun r6 M5 hw => ?_)
    exact z_iret S hr hlk dX7_used_33 (Nat.le_refl 0) (Nat.le_refl 0) hw
  · have hw := hw.2 c4
    refine z_iconst (v := 0) S dX7_used_24 (by decide) ?_
    refine z_goto S 33 dX7_used_25 (by decide) ?_
    exact z_iret S hr hlk dX7_used_33 (Nat.le_refl 0) (Nat.le_refl 0) hw
theorem me_X7_used (l : Launch) (D : va_G) (cy : Nat → ClassId) (A : Nat → Prop) (o : Nat) (ad : Nat → Nat) (post : Int32 → z_Md → Prop) (M : z_Md) (x1 : Int32) (hw : w_X7_used post M x1) : z_Mi l yX7_used (Cond.code yX7_used cX7_used 2 (some .int) :: z_T) rm_X7_used [.ref o, .int x1] (z_EM D cy) (z_hM D cy A o ad) M post 0 0 A :=
  z_met (by decide) (Nat.le_of_ble_eq_true rfl) (fun p e s m args below meth c S hlk hr hnm hE => mb_X7_used S hlk hr hE M x1 hw)
abbrev rm_X7_quota : Room := { frames := 1, cells := 0, slots := 0, locals := 21 }
def w_X7_quota (post : Int32 → z_Md → Prop) (M : z_Md) (x1 : Int32) : Prop := (w_X7_isBox (fun r2 M1 => (∀ y3 : Int32, y3 = (if r2 = 0 then 1 else 0) → ((((z_up M1 0 0 y3) 0 0) ≤ 0 → vp_in x1 4) ∧ (∀ y4 : Int32, y4 = (if ((z_up M1 0 0 y3) 0 0) ≤ 0 then (z_up M1 0 0 y3) 11 x1.toNatClampNeg else 0) → (post y4 (z_up M1 0 0 y3)))))) M x1)
set_option maxRecDepth 20000 in
theorem mb_X7_quota {p : Program} {l : Launch} {e : Env} {s : State} {m : MethodId} {args : Array Value} {below : List Frame} {meth : Method} {c : Code} {D : va_G} {cy : Nat → ClassId} {A : Nat → Prop} {o : Nat} {ad : Nat → Nat} (S : CallFix p m c cX7_quota 2 s args z_T RX7) (hlk : meth.locks = false) (hr : meth.sig.returnType = some .int) (hE : z_EM D cy s) {post : Int32 → z_Md → Prop}  (M : z_Md) (x1 : Int32) (hw : w_X7_quota post M x1) : z_V A (z_hM D cy A o ad) p l e rm_X7_quota s m args below meth c 2 (MQ below (va_Qi post (fun (u' : z_Md) t => z_hM D cy A o ad u' t.heap) A) args s 0 0 A) 0 0 M 0 [(0, va_rf (some o)), (1, .int x1)] [] := by
  refine z_aload_n (x := some o) S 0 dX7_quota_0 rfl rfl ?_
  refine z_aload_n (x := some o) S 0 dX7_quota_1 rfl rfl ?_
  refine z_iload_n S 1 dX7_quota_2 rfl rfl ?_
  refine z_callVi (As := [.int x1]) (st := [va_rf (some o)]) S (z_EMok D cy A) hE (me_X7_isBox l D cy A o ad _ M x1 hw) gV_X7_131 hdV_X7_isBox ⟨Nat.le_of_ble_eq_true rfl, Nat.le_of_ble_eq_true rfl⟩ rfl rfl (z_recvM hE) (fun _ h => h) (fun _ _ _ _ h => h) rfl (Nat.le_trans (z_sq z_s0) (by decide)) dX7_quota_3 ⟨Nat.le_of_ble_eq_true rfl, Nat.le_of_ble_eq_true rfl⟩ rfl (fun r2 M1 hw => ?_)
  suffices hJ : ∀ y3 : Int32, y3 = (if r2 = 0 then 1 else 0) → z_V A (z_hM D cy A o ad) p l e rm_X7_quota s m args below meth c 2 (MQ below (va_Qi post (fun (u' : z_Md) t => z_hM D cy A o ad u' t.heap) A) args s 0 0 A) 0 0 M1 14 [(0, va_rf (some o)), (1, .int x1)] [.int y3, va_rf (some o)] from by
    refine z_if_eq S 13 dX7_quota_6 (by decide) (fun c7 => ?_) (fun c7 => ?_)
    · refine z_iconst (v := 1) S dX7_quota_13 (by decide) ?_
      exact hJ _ (by rw [if_pos c7])
    · refine z_iconst (v := 0) S dX7_quota_9 (by decide) ?_
      refine z_goto S 14 dX7_quota_10 (by decide) ?_
      exact hJ _ (by rw [if_neg c7])
  intro y3 ey3
  have hw := hw y3 ey3
  refine zm_p_89 S hE dX7_quota_14 ?_
  refine z_aload_n (x := some o) S 0 dX7_quota_17 rfl rfl ?_
  refine zm_g_89 S hE dX7_quota_18 ?_
  obtain ⟨hob, hw⟩ := hw
  suffices hJ : ∀ y4 : Int32, y4 = (if ((z_up M1 0 0 y3) 0 0) ≤ 0 then (z_up M1 0 0 y3) 11 x1.toNatClampNeg else 0) → z_V A (z_hM D cy A o ad) p l e rm_X7_quota s m args below meth c 2 (MQ below (va_Qi post (fun (u' : z_Md) t => z_hM D cy A o ad u' t.heap) A) args s 0 0 A) 0 0 (z_up M1 0 0 y3) 34 [] [.int y4] from by
    refine z_if_le S 28 dX7_quota_21 (by decide) (fun c5 => ?_) (fun c5 => ?_)
    · have hob := hob c5
      refine z_aload_n (x := some o) S 0 dX7_quota_28 rfl rfl ?_
      refine zm_g_38 S hE dX7_quota_29 ?_
      refine z_iload_n S 1 dX7_quota_32 rfl rfl ?_
      have hi6 := hob
      refine z_mald (j := 11) S hE rfl rfl hi6 dX7_quota_33 ?_
      refine z_lv (lv' := []) [] rfl ?_
      exact hJ _ (by rw [if_pos c5])
    · refine z_iconst (v := 0) S dX7_quota_24 (by decide) ?_
      refine z_goto S 34 dX7_quota_25 (by decide) ?_
      refine z_lv (lv' := []) [] rfl ?_
      exact hJ _ (by rw [if_neg c5])
  intro y4 ey4
  have hw := hw y4 ey4
  exact z_iret S hr hlk dX7_quota_34 (Nat.le_refl 0) (Nat.le_refl 0) hw
theorem me_X7_quota (l : Launch) (D : va_G) (cy : Nat → ClassId) (A : Nat → Prop) (o : Nat) (ad : Nat → Nat) (post : Int32 → z_Md → Prop) (M : z_Md) (x1 : Int32) (hw : w_X7_quota post M x1) : z_Mi l yX7_quota (Cond.code yX7_quota cX7_quota 2 (some .int) :: z_T) rm_X7_quota [.ref o, .int x1] (z_EM D cy) (z_hM D cy A o ad) M post 0 0 A :=
  z_met (by decide) (Nat.le_of_ble_eq_true rfl) (fun p e s m args below meth c S hlk hr hnm hE => mb_X7_quota S hlk hr hE M x1 hw)
abbrev rm_X7_lastBlock : Room := { frames := 0, cells := 0, slots := 0, locals := 0 }
def w_X7_lastBlock_4 (post : Int32 → z_Md → Prop) : Nat → z_Md → Int32 → Int32 → Prop
  | 0 => fun _ _ _ => False
  | n + 1 => fun M x1 x2 => ((40 ≤ x2 → (post x1 M)) ∧ (¬ 40 ≤ x2 → (vp_in x2 40 ∧ (∀ y2 : Int32, y2 = (if (M 2 x2.toNatClampNeg) ≤ 0 then x1 else x2) → (w_X7_lastBlock_4 post n M y2 (x2 + 1))))))
def w_X7_lastBlock (post : Int32 → z_Md → Prop) (M : z_Md)  : Prop := (∃ n0 : Nat, w_X7_lastBlock_4 post n0 M (-1) 0)
set_option maxRecDepth 20000 in
theorem mb_X7_lastBlock_4 {p : Program} {l : Launch} {e : Env} {s : State} {m : MethodId} {args : Array Value} {below : List Frame} {meth : Method} {c : Code} {D : va_G} {cy : Nat → ClassId} {A : Nat → Prop} {o : Nat} {ad : Nat → Nat} (S : CallFix p m c cX7_lastBlock 3 s args z_T RX7) (hlk : meth.locks = false) (hr : meth.sig.returnType = some .int) (hE : z_EM D cy s) {post : Int32 → z_Md → Prop}  : ∀ (n : Nat) (M : z_Md) (x1 : Int32) (x2 : Int32), w_X7_lastBlock_4 post n M x1 x2 → z_V A (z_hM D cy A o ad) p l e rm_X7_lastBlock s m args below meth c 3 (MQ below (va_Qi post (fun (u' : z_Md) t => z_hM D cy A o ad u' t.heap) A) args s 0 0 A) 0 0 M 4 [(0, va_rf (some o)), (1, .int x1), (2, .int x2)] [] := by
  intro n
  induction n with
  | zero => intro M x1 x2 hw; exact hw.elim
  | succ n ih =>
    intro M x1 x2 hw
    refine z_iload_n S 2 dX7_lastBlock_4 rfl rfl ?_
    refine z_bipush (v := 40) S dX7_lastBlock_5 (by decide) ?_
    refine z_icmp_ge S 31 dX7_lastBlock_7 (by decide) (fun c1 => ?_) (fun c1 => ?_)
    · have hw := hw.1 c1
      refine z_iload_n S 1 dX7_lastBlock_31 rfl rfl ?_
      exact z_iret S hr hlk dX7_lastBlock_32 (Nat.le_refl 0) (Nat.le_refl 0) hw
    · have hw := hw.2 c1
      refine z_aload_n (x := some o) S 0 dX7_lastBlock_10 rfl rfl ?_
      refine zm_g_13 S hE dX7_lastBlock_11 ?_
      refine z_iload_n S 2 dX7_lastBlock_14 rfl rfl ?_
      obtain ⟨hi4, hw⟩ := hw
      refine z_mald (j := 2) S hE rfl rfl hi4 dX7_lastBlock_15 ?_
      suffices hJ : ∀ y2 : Int32, y2 = (if (M 2 x2.toNatClampNeg) ≤ 0 then x1 else x2) → z_V A (z_hM D cy A o ad) p l e rm_X7_lastBlock s m args below meth c 3 (MQ below (va_Qi post (fun (u' : z_Md) t => z_hM D cy A o ad u' t.heap) A) args s 0 0 A) 0 0 M 24 [(0, va_rf (some o)), (2, .int x2)] [.int y2] from by
        refine z_if_le S 23 dX7_lastBlock_16 (by decide) (fun c3 => ?_) (fun c3 => ?_)
        · refine z_iload_n S 1 dX7_lastBlock_23 rfl rfl ?_
          refine z_lv (lv' := [(0, va_rf (some o)), (2, .int x2)]) [0, 2] rfl ?_
          exact hJ _ (by rw [if_pos c3])
        · refine z_iload_n S 2 dX7_lastBlock_19 rfl rfl ?_
          refine z_goto S 24 dX7_lastBlock_20 (by decide) ?_
          refine z_lv (lv' := [(0, va_rf (some o)), (2, .int x2)]) [0, 2] rfl ?_
          exact hJ _ (by rw [if_neg c3])
      intro y2 ey2
      have hw := hw y2 ey2
      refine z_istore_n S [(1, .int y2), (0, va_rf (some o)), (2, .int x2)] dX7_lastBlock_24 rfl (by decide) rfl ?_
      refine z_lv (lv' := [(0, va_rf (some o)), (1, .int y2), (2, .int x2)]) [1, 0, 2] rfl ?_
      refine z_iinc (v := x2 + 1) (pl := 2) S [(2, .int (x2 + 1)), (0, va_rf (some o)), (1, .int y2)] dX7_lastBlock_25 rfl rfl (by decide) rfl ?_
      refine z_lv (lv' := [(0, va_rf (some o)), (1, .int y2), (2, .int (x2 + 1))]) [1, 2, 0] rfl ?_
      refine z_goto S 4 dX7_lastBlock_28 (by decide) ?_
      exact ih M y2 (x2 + 1) hw
set_option maxRecDepth 20000 in
theorem mb_X7_lastBlock {p : Program} {l : Launch} {e : Env} {s : State} {m : MethodId} {args : Array Value} {below : List Frame} {meth : Method} {c : Code} {D : va_G} {cy : Nat → ClassId} {A : Nat → Prop} {o : Nat} {ad : Nat → Nat} (S : CallFix p m c cX7_lastBlock 3 s args z_T RX7) (hlk : meth.locks = false) (hr : meth.sig.returnType = some .int) (hE : z_EM D cy s) {post : Int32 → z_Md → Prop}  (M : z_Md)  (hw : w_X7_lastBlock post M ) : z_V A (z_hM D cy A o ad) p l e rm_X7_lastBlock s m args below meth c 3 (MQ below (va_Qi post (fun (u' : z_Md) t => z_hM D cy A o ad u' t.heap) A) args s 0 0 A) 0 0 M 0 [(0, va_rf (some o))] [] := by
  refine z_iconst (v := (-1)) S dX7_lastBlock_0 (by decide) ?_
  refine z_istore_n S [(1, .int (-1)), (0, va_rf (some o))] dX7_lastBlock_1 rfl (by decide) rfl ?_
  refine z_lv (lv' := [(0, va_rf (some o)), (1, .int (-1))]) [1, 0] rfl ?_
  refine z_iconst (v := 0) S dX7_lastBlock_2 (by decide) ?_
  refine z_istore_n S [(2, .int 0), (0, va_rf (some o)), (1, .int (-1))] dX7_lastBlock_3 rfl (by decide) rfl ?_
  refine z_lv (lv' := [(0, va_rf (some o)), (1, .int (-1)), (2, .int 0)]) [1, 2, 0] rfl ?_
  obtain ⟨n0, hw⟩ := hw
  exact mb_X7_lastBlock_4 S hlk hr hE n0 M (-1) 0 hw
theorem me_X7_lastBlock (l : Launch) (D : va_G) (cy : Nat → ClassId) (A : Nat → Prop) (o : Nat) (ad : Nat → Nat) (post : Int32 → z_Md → Prop) (M : z_Md)  (hw : w_X7_lastBlock post M ) : z_Mi l yX7_lastBlock (Cond.code yX7_lastBlock cX7_lastBlock 3 (some .int) :: z_T) rm_X7_lastBlock [.ref o] (z_EM D cy) (z_hM D cy A o ad) M post 0 0 A :=
  z_met (by decide) (Nat.le_of_ble_eq_true rfl) (fun p e s m args below meth c S hlk hr hnm hE => mb_X7_lastBlock S hlk hr hE M  hw)
abbrev rm_X7_moveBlock : Room := { frames := 0, cells := 0, slots := 0, locals := 0 }
def w_X7_moveBlock_135 (post : z_Md → Prop) : Nat → z_Md → Int32 → Int32 → Int32 → Prop
  | 0 => fun _ _ _ _ => False
  | n + 1 => fun M x1 x2 x3 => ((48 ≤ x3 → (post M)) ∧ (¬ 48 ≤ x3 → (vp_in x3 48 ∧ ((((M 9 x3.toNatClampNeg) ≤ 0 → vp_in x3 48) ∧ (¬ (M 9 x3.toNatClampNeg) ≤ 0 → (vp_in x3 48 ∧ (¬ (M 8 x3.toNatClampNeg) = x1 → vp_in x3 48)))) ∧ (∀ y2 : Int32, y2 = (if (M 9 x3.toNatClampNeg) ≤ 0 then M 8 x3.toNatClampNeg else (if (M 8 x3.toNatClampNeg) = x1 then x2 else M 8 x3.toNatClampNeg)) → (vp_in x3 48 ∧ (w_X7_moveBlock_135 post n (z_up M 8 x3.toNatClampNeg y2) x1 x2 (x3 + 1))))))))
def w_X7_moveBlock_86 (post : z_Md → Prop) : Nat → z_Md → Int32 → Int32 → Int32 → Prop
  | 0 => fun _ _ _ _ => False
  | n + 1 => fun M x1 x2 x3 => ((40 ≤ x3 → (∃ n0 : Nat, w_X7_moveBlock_135 post n0 M x1 x2 0)) ∧ (¬ 40 ≤ x3 → (vp_in x3 40 ∧ ((((M 2 x3.toNatClampNeg) ≤ 0 → vp_in x3 40) ∧ (¬ (M 2 x3.toNatClampNeg) ≤ 0 → (vp_in x3 40 ∧ (¬ (M 3 x3.toNatClampNeg) = x1 → vp_in x3 40)))) ∧ (∀ y2 : Int32, y2 = (if (M 2 x3.toNatClampNeg) ≤ 0 then M 3 x3.toNatClampNeg else (if (M 3 x3.toNatClampNeg) = x1 then x2 else M 3 x3.toNatClampNeg)) → (vp_in x3 40 ∧ (w_X7_moveBlock_86 post n (z_up M 3 x3.toNatClampNeg y2) x1 x2 (x3 + 1))))))))
def w_X7_moveBlock_33 (post : z_Md → Prop) : Nat → z_Md → Int32 → Int32 → Int32 → Prop
  | 0 => fun _ _ _ _ => False
  | n + 1 => fun M x1 x2 x3 => ((4 ≤ x3 → (∃ n0 : Nat, w_X7_moveBlock_86 post n0 M x1 x2 0)) ∧ (¬ 4 ≤ x3 → (vp_in ((4 * x1) + x3) 160 ∧ (vp_in ((4 * x2) + x3) 160 ∧ (vp_in ((4 * x1) + x3) 160 ∧ (vp_in ((4 * x2) + x3) 160 ∧ (w_X7_moveBlock_33 post n (z_up (z_up M 4 ((4 * x2) + x3).toNatClampNeg (M 4 ((4 * x1) + x3).toNatClampNeg)) 5 ((4 * x2) + x3).toNatClampNeg ((z_up M 4 ((4 * x2) + x3).toNatClampNeg (M 4 ((4 * x1) + x3).toNatClampNeg)) 5 ((4 * x1) + x3).toNatClampNeg)) x1 x2 (x3 + 1))))))))
def w_X7_moveBlock (post : z_Md → Prop) (M : z_Md) (x1 : Int32) (x2 : Int32) : Prop := (vp_in x1 40 ∧ (vp_in x2 40 ∧ (vp_in x1 40 ∧ (vp_in x2 40 ∧ (vp_in x1 40 ∧ (∃ n0 : Nat, w_X7_moveBlock_33 post n0 (z_up (z_up (z_up M 2 x2.toNatClampNeg (M 2 x1.toNatClampNeg)) 3 x2.toNatClampNeg ((z_up M 2 x2.toNatClampNeg (M 2 x1.toNatClampNeg)) 3 x1.toNatClampNeg)) 2 x1.toNatClampNeg 0) x1 x2 0))))))
set_option maxRecDepth 20000 in
theorem mb_X7_moveBlock_135 {p : Program} {l : Launch} {e : Env} {s : State} {m : MethodId} {args : Array Value} {below : List Frame} {meth : Method} {c : Code} {D : va_G} {cy : Nat → ClassId} {A : Nat → Prop} {o : Nat} {ad : Nat → Nat} (S : CallFix p m c cX7_moveBlock 4 s args z_T RX7) (hlk : meth.locks = false) (hr : meth.sig.returnType = none) (hE : z_EM D cy s) {post : z_Md → Prop}  : ∀ (n : Nat) (M : z_Md) (x1 : Int32) (x2 : Int32) (x3 : Int32), w_X7_moveBlock_135 post n M x1 x2 x3 → z_V A (z_hM D cy A o ad) p l e rm_X7_moveBlock s m args below meth c 4 (MQ below (va_Qv post (fun (u' : z_Md) t => z_hM D cy A o ad u' t.heap) A) args s 0 0 A) 0 0 M 135 [(0, va_rf (some o)), (1, .int x1), (2, .int x2), (3, .int x3)] [] := by
  intro n
  induction n with
  | zero => intro M x1 x2 x3 hw; exact hw.elim
  | succ n ih =>
    intro M x1 x2 x3 hw
    refine z_iload_n S 3 dX7_moveBlock_135 rfl rfl ?_
    refine z_bipush (v := 48) S dX7_moveBlock_136 (by decide) ?_
    refine z_icmp_ge S 182 dX7_moveBlock_138 (by decide) (fun c1 => ?_) (fun c1 => ?_)
    · have hw := hw.1 c1
      exact z_vret S hr hlk dX7_moveBlock_182 (Nat.le_refl 0) (Nat.le_refl 0) hw
    · have hw := hw.2 c1
      refine z_aload_n (x := some o) S 0 dX7_moveBlock_141 rfl rfl ?_
      refine zm_g_32 S hE dX7_moveBlock_142 ?_
      refine z_iload_n S 3 dX7_moveBlock_145 rfl rfl ?_
      refine z_aload_n (x := some o) S 0 dX7_moveBlock_146 rfl rfl ?_
      refine zm_g_35 S hE dX7_moveBlock_147 ?_
      refine z_iload_n S 3 dX7_moveBlock_150 rfl rfl ?_
      obtain ⟨hi9, hw⟩ := hw
      refine z_mald (j := 9) S hE rfl rfl hi9 dX7_moveBlock_151 ?_
      obtain ⟨hob, hw⟩ := hw
      suffices hJ : ∀ y2 : Int32, y2 = (if (M 9 x3.toNatClampNeg) ≤ 0 then M 8 x3.toNatClampNeg else (if (M 8 x3.toNatClampNeg) = x1 then x2 else M 8 x3.toNatClampNeg)) → z_V A (z_hM D cy A o ad) p l e rm_X7_moveBlock s m args below meth c 4 (MQ below (va_Qv post (fun (u' : z_Md) t => z_hM D cy A o ad u' t.heap) A) args s 0 0 A) 0 0 M 175 [(0, va_rf (some o)), (1, .int x1), (2, .int x2), (3, .int x3)] [.int y2, .int x3, .ref (ad 8)] from by
        refine z_if_le S 169 dX7_moveBlock_152 (by decide) (fun c4 => ?_) (fun c4 => ?_)
        · have hob := hob.1 c4
          refine z_aload_n (x := some o) S 0 dX7_moveBlock_169 rfl rfl ?_
          refine zm_g_32 S hE dX7_moveBlock_170 ?_
          refine z_iload_n S 3 dX7_moveBlock_173 rfl rfl ?_
          have hi5 := hob
          refine z_mald (j := 8) S hE rfl rfl hi5 dX7_moveBlock_174 ?_
          exact hJ _ (by rw [if_pos c4])
        · have hob := hob.2 c4
          refine z_aload_n (x := some o) S 0 dX7_moveBlock_155 rfl rfl ?_
          refine zm_g_32 S hE dX7_moveBlock_156 ?_
          refine z_iload_n S 3 dX7_moveBlock_159 rfl rfl ?_
          obtain ⟨hi6, hob⟩ := hob
          refine z_mald (j := 8) S hE rfl rfl hi6 dX7_moveBlock_160 ?_
          refine z_iload_n S 1 dX7_moveBlock_161 rfl rfl ?_
          refine z_icmp_ne S 169 dX7_moveBlock_162 (by decide) (fun c7 => ?_) (fun c7 => ?_)
          · have hob := hob c7
            refine z_aload_n (x := some o) S 0 dX7_moveBlock_169 rfl rfl ?_
            refine zm_g_32 S hE dX7_moveBlock_170 ?_
            refine z_iload_n S 3 dX7_moveBlock_173 rfl rfl ?_
            have hi8 := hob
            refine z_mald (j := 8) S hE rfl rfl hi8 dX7_moveBlock_174 ?_
            exact hJ _ (by rw [if_neg c4, if_neg c7])
          · refine z_iload_n S 2 dX7_moveBlock_165 rfl rfl ?_
            refine z_goto S 175 dX7_moveBlock_166 (by decide) ?_
            exact hJ _ (by rw [if_neg c4, if_pos c7])
      intro y2 ey2
      have hw := hw y2 ey2
      obtain ⟨hi3, hw⟩ := hw
      refine z_mast (j := 8) S hE rfl rfl hi3 dX7_moveBlock_175 ?_
      refine z_iinc (v := x3 + 1) (pl := 3) S [(3, .int (x3 + 1)), (0, va_rf (some o)), (1, .int x1), (2, .int x2)] dX7_moveBlock_176 rfl rfl (by decide) rfl ?_
      refine z_lv (lv' := [(0, va_rf (some o)), (1, .int x1), (2, .int x2), (3, .int (x3 + 1))]) [1, 2, 3, 0] rfl ?_
      refine z_goto S 135 dX7_moveBlock_179 (by decide) ?_
      exact ih (z_up M 8 x3.toNatClampNeg y2) x1 x2 (x3 + 1) hw
set_option maxRecDepth 20000 in
theorem mb_X7_moveBlock_86 {p : Program} {l : Launch} {e : Env} {s : State} {m : MethodId} {args : Array Value} {below : List Frame} {meth : Method} {c : Code} {D : va_G} {cy : Nat → ClassId} {A : Nat → Prop} {o : Nat} {ad : Nat → Nat} (S : CallFix p m c cX7_moveBlock 4 s args z_T RX7) (hlk : meth.locks = false) (hr : meth.sig.returnType = none) (hE : z_EM D cy s) {post : z_Md → Prop}  : ∀ (n : Nat) (M : z_Md) (x1 : Int32) (x2 : Int32) (x3 : Int32), w_X7_moveBlock_86 post n M x1 x2 x3 → z_V A (z_hM D cy A o ad) p l e rm_X7_moveBlock s m args below meth c 4 (MQ below (va_Qv post (fun (u' : z_Md) t => z_hM D cy A o ad u' t.heap) A) args s 0 0 A) 0 0 M 86 [(0, va_rf (some o)), (1, .int x1), (2, .int x2), (3, .int x3)] [] := by
  intro n
  induction n with
  | zero => intro M x1 x2 x3 hw; exact hw.elim
  | succ n ih =>
    intro M x1 x2 x3 hw
    refine z_iload_n S 3 dX7_moveBlock_86 rfl rfl ?_
    refine z_bipush (v := 40) S dX7_moveBlock_87 (by decide) ?_
    refine z_icmp_ge S 133 dX7_moveBlock_89 (by decide) (fun c1 => ?_) (fun c1 => ?_)
    · have hw := hw.1 c1
      refine z_iconst (v := 0) S dX7_moveBlock_133 (by decide) ?_
      refine z_istore_n S [(3, .int 0), (0, va_rf (some o)), (1, .int x1), (2, .int x2)] dX7_moveBlock_134 rfl (by decide) rfl ?_
      refine z_lv (lv' := [(0, va_rf (some o)), (1, .int x1), (2, .int x2), (3, .int 0)]) [1, 2, 3, 0] rfl ?_
      obtain ⟨n0, hw⟩ := hw
      exact mb_X7_moveBlock_135 S hlk hr hE n0 M x1 x2 0 hw
    · have hw := hw.2 c1
      refine z_aload_n (x := some o) S 0 dX7_moveBlock_92 rfl rfl ?_
      refine zm_g_16 S hE dX7_moveBlock_93 ?_
      refine z_iload_n S 3 dX7_moveBlock_96 rfl rfl ?_
      refine z_aload_n (x := some o) S 0 dX7_moveBlock_97 rfl rfl ?_
      refine zm_g_13 S hE dX7_moveBlock_98 ?_
      refine z_iload_n S 3 dX7_moveBlock_101 rfl rfl ?_
      obtain ⟨hi9, hw⟩ := hw
      refine z_mald (j := 2) S hE rfl rfl hi9 dX7_moveBlock_102 ?_
      obtain ⟨hob, hw⟩ := hw
      suffices hJ : ∀ y2 : Int32, y2 = (if (M 2 x3.toNatClampNeg) ≤ 0 then M 3 x3.toNatClampNeg else (if (M 3 x3.toNatClampNeg) = x1 then x2 else M 3 x3.toNatClampNeg)) → z_V A (z_hM D cy A o ad) p l e rm_X7_moveBlock s m args below meth c 4 (MQ below (va_Qv post (fun (u' : z_Md) t => z_hM D cy A o ad u' t.heap) A) args s 0 0 A) 0 0 M 126 [(0, va_rf (some o)), (1, .int x1), (2, .int x2), (3, .int x3)] [.int y2, .int x3, .ref (ad 3)] from by
        refine z_if_le S 120 dX7_moveBlock_103 (by decide) (fun c4 => ?_) (fun c4 => ?_)
        · have hob := hob.1 c4
          refine z_aload_n (x := some o) S 0 dX7_moveBlock_120 rfl rfl ?_
          refine zm_g_16 S hE dX7_moveBlock_121 ?_
          refine z_iload_n S 3 dX7_moveBlock_124 rfl rfl ?_
          have hi5 := hob
          refine z_mald (j := 3) S hE rfl rfl hi5 dX7_moveBlock_125 ?_
          exact hJ _ (by rw [if_pos c4])
        · have hob := hob.2 c4
          refine z_aload_n (x := some o) S 0 dX7_moveBlock_106 rfl rfl ?_
          refine zm_g_16 S hE dX7_moveBlock_107 ?_
          refine z_iload_n S 3 dX7_moveBlock_110 rfl rfl ?_
          obtain ⟨hi6, hob⟩ := hob
          refine z_mald (j := 3) S hE rfl rfl hi6 dX7_moveBlock_111 ?_
          refine z_iload_n S 1 dX7_moveBlock_112 rfl rfl ?_
          refine z_icmp_ne S 120 dX7_moveBlock_113 (by decide) (fun c7 => ?_) (fun c7 => ?_)
          · have hob := hob c7
            refine z_aload_n (x := some o) S 0 dX7_moveBlock_120 rfl rfl ?_
            refine zm_g_16 S hE dX7_moveBlock_121 ?_
            refine z_iload_n S 3 dX7_moveBlock_124 rfl rfl ?_
            have hi8 := hob
            refine z_mald (j := 3) S hE rfl rfl hi8 dX7_moveBlock_125 ?_
            exact hJ _ (by rw [if_neg c4, if_neg c7])
          · refine z_iload_n S 2 dX7_moveBlock_116 rfl rfl ?_
            refine z_goto S 126 dX7_moveBlock_117 (by decide) ?_
            exact hJ _ (by rw [if_neg c4, if_pos c7])
      intro y2 ey2
      have hw := hw y2 ey2
      obtain ⟨hi3, hw⟩ := hw
      refine z_mast (j := 3) S hE rfl rfl hi3 dX7_moveBlock_126 ?_
      refine z_iinc (v := x3 + 1) (pl := 3) S [(3, .int (x3 + 1)), (0, va_rf (some o)), (1, .int x1), (2, .int x2)] dX7_moveBlock_127 rfl rfl (by decide) rfl ?_
      refine z_lv (lv' := [(0, va_rf (some o)), (1, .int x1), (2, .int x2), (3, .int (x3 + 1))]) [1, 2, 3, 0] rfl ?_
      refine z_goto S 86 dX7_moveBlock_130 (by decide) ?_
      exact ih (z_up M 3 x3.toNatClampNeg y2) x1 x2 (x3 + 1) hw
set_option maxRecDepth 20000 in
theorem mb_X7_moveBlock_33 {p : Program} {l : Launch} {e : Env} {s : State} {m : MethodId} {args : Array Value} {below : List Frame} {meth : Method} {c : Code} {D : va_G} {cy : Nat → ClassId} {A : Nat → Prop} {o : Nat} {ad : Nat → Nat} (S : CallFix p m c cX7_moveBlock 4 s args z_T RX7) (hlk : meth.locks = false) (hr : meth.sig.returnType = none) (hE : z_EM D cy s) {post : z_Md → Prop}  : ∀ (n : Nat) (M : z_Md) (x1 : Int32) (x2 : Int32) (x3 : Int32), w_X7_moveBlock_33 post n M x1 x2 x3 → z_V A (z_hM D cy A o ad) p l e rm_X7_moveBlock s m args below meth c 4 (MQ below (va_Qv post (fun (u' : z_Md) t => z_hM D cy A o ad u' t.heap) A) args s 0 0 A) 0 0 M 33 [(0, va_rf (some o)), (1, .int x1), (2, .int x2), (3, .int x3)] [] := by
  intro n
  induction n with
  | zero => intro M x1 x2 x3 hw; exact hw.elim
  | succ n ih =>
    intro M x1 x2 x3 hw
    refine z_iload_n S 3 dX7_moveBlock_33 rfl rfl ?_
    refine z_iconst (v := 4) S dX7_moveBlock_34 (by decide) ?_
    refine z_icmp_ge S 84 dX7_moveBlock_35 (by decide) (fun c1 => ?_) (fun c1 => ?_)
    · have hw := hw.1 c1
      refine z_iconst (v := 0) S dX7_moveBlock_84 (by decide) ?_
      refine z_istore_n S [(3, .int 0), (0, va_rf (some o)), (1, .int x1), (2, .int x2)] dX7_moveBlock_85 rfl (by decide) rfl ?_
      refine z_lv (lv' := [(0, va_rf (some o)), (1, .int x1), (2, .int x2), (3, .int 0)]) [1, 2, 3, 0] rfl ?_
      obtain ⟨n0, hw⟩ := hw
      exact mb_X7_moveBlock_86 S hlk hr hE n0 M x1 x2 0 hw
    · have hw := hw.2 c1
      refine z_aload_n (x := some o) S 0 dX7_moveBlock_38 rfl rfl ?_
      refine zm_g_19 S hE dX7_moveBlock_39 ?_
      refine z_iconst (v := 4) S dX7_moveBlock_42 (by decide) ?_
      refine z_iload_n S 2 dX7_moveBlock_43 rfl rfl ?_
      refine z_imul S dX7_moveBlock_44 ?_
      refine z_iload_n S 3 dX7_moveBlock_45 rfl rfl ?_
      refine z_iadd S dX7_moveBlock_46 ?_
      refine z_aload_n (x := some o) S 0 dX7_moveBlock_47 rfl rfl ?_
      refine zm_g_19 S hE dX7_moveBlock_48 ?_
      refine z_iconst (v := 4) S dX7_moveBlock_51 (by decide) ?_
      refine z_iload_n S 1 dX7_moveBlock_52 rfl rfl ?_
      refine z_imul S dX7_moveBlock_53 ?_
      refine z_iload_n S 3 dX7_moveBlock_54 rfl rfl ?_
      refine z_iadd S dX7_moveBlock_55 ?_
      obtain ⟨hi5, hw⟩ := hw
      refine z_mald (j := 4) S hE rfl rfl hi5 dX7_moveBlock_56 ?_
      obtain ⟨hi4, hw⟩ := hw
      refine z_mast (j := 4) S hE rfl rfl hi4 dX7_moveBlock_57 ?_
      refine z_aload_n (x := some o) S 0 dX7_moveBlock_58 rfl rfl ?_
      refine zm_g_22 S hE dX7_moveBlock_59 ?_
      refine z_iconst (v := 4) S dX7_moveBlock_62 (by decide) ?_
      refine z_iload_n S 2 dX7_moveBlock_63 rfl rfl ?_
      refine z_imul S dX7_moveBlock_64 ?_
      refine z_iload_n S 3 dX7_moveBlock_65 rfl rfl ?_
      refine z_iadd S dX7_moveBlock_66 ?_
      refine z_aload_n (x := some o) S 0 dX7_moveBlock_67 rfl rfl ?_
      refine zm_g_22 S hE dX7_moveBlock_68 ?_
      refine z_iconst (v := 4) S dX7_moveBlock_71 (by decide) ?_
      refine z_iload_n S 1 dX7_moveBlock_72 rfl rfl ?_
      refine z_imul S dX7_moveBlock_73 ?_
      refine z_iload_n S 3 dX7_moveBlock_74 rfl rfl ?_
      refine z_iadd S dX7_moveBlock_75 ?_
      obtain ⟨hi3, hw⟩ := hw
      refine z_mald (j := 5) S hE rfl rfl hi3 dX7_moveBlock_76 ?_
      obtain ⟨hi2, hw⟩ := hw
      refine z_mast (j := 5) S hE rfl rfl hi2 dX7_moveBlock_77 ?_
      refine z_iinc (v := x3 + 1) (pl := 3) S [(3, .int (x3 + 1)), (0, va_rf (some o)), (1, .int x1), (2, .int x2)] dX7_moveBlock_78 rfl rfl (by decide) rfl ?_
      refine z_lv (lv' := [(0, va_rf (some o)), (1, .int x1), (2, .int x2), (3, .int (x3 + 1))]) [1, 2, 3, 0] rfl ?_
      refine z_goto S 33 dX7_moveBlock_81 (by decide) ?_
      exact ih (z_up (z_up M 4 ((4 * x2) + x3).toNatClampNeg (M 4 ((4 * x1) + x3).toNatClampNeg)) 5 ((4 * x2) + x3).toNatClampNeg ((z_up M 4 ((4 * x2) + x3).toNatClampNeg (M 4 ((4 * x1) + x3).toNatClampNeg)) 5 ((4 * x1) + x3).toNatClampNeg)) x1 x2 (x3 + 1) hw
set_option maxRecDepth 20000 in
theorem mb_X7_moveBlock {p : Program} {l : Launch} {e : Env} {s : State} {m : MethodId} {args : Array Value} {below : List Frame} {meth : Method} {c : Code} {D : va_G} {cy : Nat → ClassId} {A : Nat → Prop} {o : Nat} {ad : Nat → Nat} (S : CallFix p m c cX7_moveBlock 4 s args z_T RX7) (hlk : meth.locks = false) (hr : meth.sig.returnType = none) (hE : z_EM D cy s) {post : z_Md → Prop}  (M : z_Md) (x1 : Int32) (x2 : Int32) (hw : w_X7_moveBlock post M x1 x2) : z_V A (z_hM D cy A o ad) p l e rm_X7_moveBlock s m args below meth c 4 (MQ below (va_Qv post (fun (u' : z_Md) t => z_hM D cy A o ad u' t.heap) A) args s 0 0 A) 0 0 M 0 [(0, va_rf (some o)), (1, .int x1), (2, .int x2)] [] := by
  refine z_aload_n (x := some o) S 0 dX7_moveBlock_0 rfl rfl ?_
  refine zm_g_13 S hE dX7_moveBlock_1 ?_
  refine z_iload_n S 2 dX7_moveBlock_4 rfl rfl ?_
  refine z_aload_n (x := some o) S 0 dX7_moveBlock_5 rfl rfl ?_
  refine zm_g_13 S hE dX7_moveBlock_6 ?_
  refine z_iload_n S 1 dX7_moveBlock_9 rfl rfl ?_
  obtain ⟨hi5, hw⟩ := hw
  refine z_mald (j := 2) S hE rfl rfl hi5 dX7_moveBlock_10 ?_
  obtain ⟨hi4, hw⟩ := hw
  refine z_mast (j := 2) S hE rfl rfl hi4 dX7_moveBlock_11 ?_
  refine z_aload_n (x := some o) S 0 dX7_moveBlock_12 rfl rfl ?_
  refine zm_g_16 S hE dX7_moveBlock_13 ?_
  refine z_iload_n S 2 dX7_moveBlock_16 rfl rfl ?_
  refine z_aload_n (x := some o) S 0 dX7_moveBlock_17 rfl rfl ?_
  refine zm_g_16 S hE dX7_moveBlock_18 ?_
  refine z_iload_n S 1 dX7_moveBlock_21 rfl rfl ?_
  obtain ⟨hi3, hw⟩ := hw
  refine z_mald (j := 3) S hE rfl rfl hi3 dX7_moveBlock_22 ?_
  obtain ⟨hi2, hw⟩ := hw
  refine z_mast (j := 3) S hE rfl rfl hi2 dX7_moveBlock_23 ?_
  refine z_aload_n (x := some o) S 0 dX7_moveBlock_24 rfl rfl ?_
  refine zm_g_13 S hE dX7_moveBlock_25 ?_
  refine z_iload_n S 1 dX7_moveBlock_28 rfl rfl ?_
  refine z_iconst (v := 0) S dX7_moveBlock_29 (by decide) ?_
  obtain ⟨hi1, hw⟩ := hw
  refine z_mast (j := 2) S hE rfl rfl hi1 dX7_moveBlock_30 ?_
  refine z_iconst (v := 0) S dX7_moveBlock_31 (by decide) ?_
  refine z_istore_n S [(3, .int 0), (0, va_rf (some o)), (1, .int x1), (2, .int x2)] dX7_moveBlock_32 rfl (by decide) rfl ?_
  refine z_lv (lv' := [(0, va_rf (some o)), (1, .int x1), (2, .int x2), (3, .int 0)]) [1, 2, 3, 0] rfl ?_
  obtain ⟨n0, hw⟩ := hw
  exact mb_X7_moveBlock_33 S hlk hr hE n0 (z_up (z_up (z_up M 2 x2.toNatClampNeg (M 2 x1.toNatClampNeg)) 3 x2.toNatClampNeg ((z_up M 2 x2.toNatClampNeg (M 2 x1.toNatClampNeg)) 3 x1.toNatClampNeg)) 2 x1.toNatClampNeg 0) x1 x2 0 hw
theorem me_X7_moveBlock (l : Launch) (D : va_G) (cy : Nat → ClassId) (A : Nat → Prop) (o : Nat) (ad : Nat → Nat) (post : z_Md → Prop) (M : z_Md) (x1 : Int32) (x2 : Int32) (hw : w_X7_moveBlock post M x1 x2) : z_Mv l yX7_moveBlock (Cond.code yX7_moveBlock cX7_moveBlock 4 none :: z_T) rm_X7_moveBlock [.ref o, .int x1, .int x2] (z_EM D cy) (z_hM D cy A o ad) M post 0 0 A :=
  z_met (by decide) (Nat.le_of_ble_eq_true rfl) (fun p e s m args below meth c S hlk hr hnm hE => mb_X7_moveBlock S hlk hr hE M x1 x2 hw)
abbrev rm_X7_pack : Room := { frames := 1, cells := 0, slots := 0, locals := 23 }
def w_X7_pack_21 (post : Int32 → z_Md → Prop) : Nat → z_Md → Int32 → Int32 → Prop
  | 0 => fun _ _ _ => False
  | n + 1 => fun M x1 x2 => ((¬ (M 0 0) = 0 → (post x2 M)) ∧ ((M 0 0) = 0 → ((x1 ≤ x2 → (post x2 M)) ∧ (¬ x1 ≤ x2 → (w_X7_freeBlock (fun r4 M3 => ((r4 < 0 → (post x2 M3)) ∧ (¬ r4 < 0 → (w_X7_freeBlock (fun r7 M6 => (w_X7_lastBlock (fun r9 M8 => ((r9 ≤ r7 → (post x2 M8)) ∧ (¬ r9 ≤ r7 → (w_X7_lastBlock (fun r12 M11 => (w_X7_freeBlock (fun r14 M13 => (w_X7_moveBlock (fun M15 => (w_X7_pack_21 post n M15 x1 (x2 + 1))) M13 r12 r14)) M11 )) M8 )))) M6 )) M3 )))) M )))))
def w_X7_pack (post : Int32 → z_Md → Prop) (M : z_Md) (x1 : Int32) : Prop := (∀ y1 : Int32, y1 = (if x1 < 0 then 1 else (if x1 ≤ 100 then 0 else 1)) → (∃ n0 : Nat, w_X7_pack_21 post n0 (z_up M 0 0 y1) x1 0))
set_option maxRecDepth 20000 in
theorem mb_X7_pack_21 {p : Program} {l : Launch} {e : Env} {s : State} {m : MethodId} {args : Array Value} {below : List Frame} {meth : Method} {c : Code} {D : va_G} {cy : Nat → ClassId} {A : Nat → Prop} {o : Nat} {ad : Nat → Nat} (S : CallFix p m c cX7_pack 3 s args z_T RX7) (hlk : meth.locks = false) (hr : meth.sig.returnType = some .int) (hE : z_EM D cy s) {post : Int32 → z_Md → Prop}  : ∀ (n : Nat) (M : z_Md) (x1 : Int32) (x2 : Int32), w_X7_pack_21 post n M x1 x2 → z_V A (z_hM D cy A o ad) p l e rm_X7_pack s m args below meth c 3 (MQ below (va_Qi post (fun (u' : z_Md) t => z_hM D cy A o ad u' t.heap) A) args s 0 0 A) 0 0 M 21 [(0, va_rf (some o)), (1, .int x1), (2, .int x2)] [] := by
  intro n
  induction n with
  | zero => intro M x1 x2 hw; exact hw.elim
  | succ n ih =>
    intro M x1 x2 hw
    refine z_aload_n (x := some o) S 0 dX7_pack_21 rfl rfl ?_
    refine zm_g_89 S hE dX7_pack_22 ?_
    refine z_if_ne S 69 dX7_pack_25 (by decide) (fun c1 => ?_) (fun c1 => ?_)
    · have hw := hw.1 c1
      refine z_iload_n S 2 dX7_pack_69 rfl rfl ?_
      exact z_iret S hr hlk dX7_pack_70 (Nat.le_refl 0) (Nat.le_refl 0) hw
    · have hw := hw.2 c1
      refine z_iload_n S 2 dX7_pack_28 rfl rfl ?_
      refine z_iload_n S 1 dX7_pack_29 rfl rfl ?_
      refine z_icmp_ge S 69 dX7_pack_30 (by decide) (fun c2 => ?_) (fun c2 => ?_)
      · have hw := hw.1 c2
        refine z_iload_n S 2 dX7_pack_69 rfl rfl ?_
        exact z_iret S hr hlk dX7_pack_70 (Nat.le_refl 0) (Nat.le_refl 0) hw
      · have hw := hw.2 c2
        refine z_aload_n (x := some o) S 0 dX7_pack_33 rfl rfl ?_
        refine z_callVi (As := []) (st := []) S (z_EMok D cy A) hE (me_X7_freeBlock l D cy A o ad _ M  hw) gV_X7_103 hdV_X7_freeBlock ⟨Nat.le_of_ble_eq_true rfl, Nat.le_of_ble_eq_true rfl⟩ rfl rfl (z_recvM hE) (fun _ h => h) (fun _ _ _ _ h => h) rfl (Nat.le_trans z_s0 (by decide)) dX7_pack_34 ⟨Nat.le_of_ble_eq_true rfl, Nat.le_of_ble_eq_true rfl⟩ rfl (fun r4 M3 hw => ?_)
        refine z_if_lt S 69 dX7_pack_37 (by decide) (fun c5 => ?_) (fun c5 => ?_)
        · have hw := hw.1 c5
          refine z_iload_n S 2 dX7_pack_69 rfl rfl ?_
          exact z_iret S hr hlk dX7_pack_70 (Nat.le_refl 0) (Nat.le_refl 0) hw
        · have hw := hw.2 c5
          refine z_aload_n (x := some o) S 0 dX7_pack_40 rfl rfl ?_
          refine z_callVi (As := []) (st := []) S (z_EMok D cy A) hE (me_X7_freeBlock l D cy A o ad _ M3  hw) gV_X7_103 hdV_X7_freeBlock ⟨Nat.le_of_ble_eq_true rfl, Nat.le_of_ble_eq_true rfl⟩ rfl rfl (z_recvM hE) (fun _ h => h) (fun _ _ _ _ h => h) rfl (Nat.le_trans z_s0 (by decide)) dX7_pack_41 ⟨Nat.le_of_ble_eq_true rfl, Nat.le_of_ble_eq_true rfl⟩ rfl (fun r7 M6 hw => ?_)
          refine z_aload_n (x := some o) S 0 dX7_pack_44 rfl rfl ?_
          refine z_callVi (As := []) (st := [.int r7]) S (z_EMok D cy A) hE (me_X7_lastBlock l D cy A o ad _ M6  hw) gV_X7_183 hdV_X7_lastBlock ⟨Nat.le_of_ble_eq_true rfl, Nat.le_of_ble_eq_true rfl⟩ rfl rfl (z_recvM hE) (fun _ h => h) (fun _ _ _ _ h => h) rfl (Nat.le_trans (z_s1 z_s0) (by decide)) dX7_pack_45 ⟨Nat.le_of_ble_eq_true rfl, Nat.le_of_ble_eq_true rfl⟩ rfl (fun r9 M8 hw => ?_)
          refine z_icmp_ge S 69 dX7_pack_48 (by decide) (fun c10 => ?_) (fun c10 => ?_)
          · have hw := hw.1 c10
            refine z_iload_n S 2 dX7_pack_69 rfl rfl ?_
            exact z_iret S hr hlk dX7_pack_70 (Nat.le_refl 0) (Nat.le_refl 0) hw
          · have hw := hw.2 c10
            refine z_aload_n (x := some o) S 0 dX7_pack_51 rfl rfl ?_
            refine z_aload_n (x := some o) S 0 dX7_pack_52 rfl rfl ?_
            refine z_callVi (As := []) (st := [va_rf (some o)]) S (z_EMok D cy A) hE (me_X7_lastBlock l D cy A o ad _ M8  hw) gV_X7_183 hdV_X7_lastBlock ⟨Nat.le_of_ble_eq_true rfl, Nat.le_of_ble_eq_true rfl⟩ rfl rfl (z_recvM hE) (fun _ h => h) (fun _ _ _ _ h => h) rfl (Nat.le_trans (z_sq z_s0) (by decide)) dX7_pack_53 ⟨Nat.le_of_ble_eq_true rfl, Nat.le_of_ble_eq_true rfl⟩ rfl (fun r12 M11 hw => ?_)
            refine z_aload_n (x := some o) S 0 dX7_pack_56 rfl rfl ?_
            refine z_callVi (As := []) (st := [.int r12, va_rf (some o)]) S (z_EMok D cy A) hE (me_X7_freeBlock l D cy A o ad _ M11  hw) gV_X7_103 hdV_X7_freeBlock ⟨Nat.le_of_ble_eq_true rfl, Nat.le_of_ble_eq_true rfl⟩ rfl rfl (z_recvM hE) (fun _ h => h) (fun _ _ _ _ h => h) rfl (Nat.le_trans (z_s1 (z_sq z_s0)) (by decide)) dX7_pack_57 ⟨Nat.le_of_ble_eq_true rfl, Nat.le_of_ble_eq_true rfl⟩ rfl (fun r14 M13 hw => ?_)
            refine z_callVv (As := [.int r12, .int r14]) (st := []) S (z_EMok D cy A) hE (me_X7_moveBlock l D cy A o ad _ M13 r12 r14 hw) gV_X7_186 hdV_X7_moveBlock ⟨Nat.le_of_ble_eq_true rfl, Nat.le_of_ble_eq_true rfl⟩ rfl rfl (z_recvM hE) (fun _ h => h) (fun _ _ _ _ h => h) rfl (Nat.le_trans z_s0 (by decide)) dX7_pack_60 ⟨Nat.le_of_ble_eq_true rfl, Nat.le_of_ble_eq_true rfl⟩ rfl (fun M15 hw => ?_)
            refine z_iinc (v := x2 + 1) (pl := 2) S [(2, .int (x2 + 1)), (0, va_rf (some o)), (1, .int x1)] dX7_pack_63 rfl rfl (by decide) rfl ?_
            refine z_lv (lv' := [(0, va_rf (some o)), (1, .int x1), (2, .int (x2 + 1))]) [1, 2, 0] rfl ?_
            refine z_goto S 21 dX7_pack_66 (by decide) ?_
            exact ih M15 x1 (x2 + 1) hw
set_option maxRecDepth 20000 in
theorem mb_X7_pack {p : Program} {l : Launch} {e : Env} {s : State} {m : MethodId} {args : Array Value} {below : List Frame} {meth : Method} {c : Code} {D : va_G} {cy : Nat → ClassId} {A : Nat → Prop} {o : Nat} {ad : Nat → Nat} (S : CallFix p m c cX7_pack 3 s args z_T RX7) (hlk : meth.locks = false) (hr : meth.sig.returnType = some .int) (hE : z_EM D cy s) {post : Int32 → z_Md → Prop}  (M : z_Md) (x1 : Int32) (hw : w_X7_pack post M x1) : z_V A (z_hM D cy A o ad) p l e rm_X7_pack s m args below meth c 3 (MQ below (va_Qi post (fun (u' : z_Md) t => z_hM D cy A o ad u' t.heap) A) args s 0 0 A) 0 0 M 0 [(0, va_rf (some o)), (1, .int x1)] [] := by
  refine z_aload_n (x := some o) S 0 dX7_pack_0 rfl rfl ?_
  refine z_iload_n S 1 dX7_pack_1 rfl rfl ?_
  suffices hJ : ∀ y1 : Int32, y1 = (if x1 < 0 then 1 else (if x1 ≤ 100 then 0 else 1)) → z_V A (z_hM D cy A o ad) p l e rm_X7_pack s m args below meth c 3 (MQ below (va_Qi post (fun (u' : z_Md) t => z_hM D cy A o ad u' t.heap) A) args s 0 0 A) 0 0 M 16 [(0, va_rf (some o)), (1, .int x1)] [.int y1, va_rf (some o)] from by
    refine z_if_lt S 11 dX7_pack_2 (by decide) (fun c2 => ?_) (fun c2 => ?_)
    · refine z_iconst (v := 1) S dX7_pack_11 (by decide) ?_
      refine z_goto S 16 dX7_pack_12 (by decide) ?_
      exact hJ _ (by rw [if_pos c2])
    · refine z_iload_n S 1 dX7_pack_5 rfl rfl ?_
      refine z_bipush (v := 100) S dX7_pack_6 (by decide) ?_
      refine z_icmp_le S 15 dX7_pack_8 (by decide) (fun c3 => ?_) (fun c3 => ?_)
      · refine z_iconst (v := 0) S dX7_pack_15 (by decide) ?_
        exact hJ _ (by rw [if_neg c2, if_pos c3])
      · refine z_iconst (v := 1) S dX7_pack_11 (by decide) ?_
        refine z_goto S 16 dX7_pack_12 (by decide) ?_
        exact hJ _ (by rw [if_neg c2, if_neg c3])
  intro y1 ey1
  have hw := hw y1 ey1
  refine zm_p_89 S hE dX7_pack_16 ?_
  refine z_iconst (v := 0) S dX7_pack_19 (by decide) ?_
  refine z_istore_n S [(2, .int 0), (0, va_rf (some o)), (1, .int x1)] dX7_pack_20 rfl (by decide) rfl ?_
  refine z_lv (lv' := [(0, va_rf (some o)), (1, .int x1), (2, .int 0)]) [1, 2, 0] rfl ?_
  obtain ⟨n0, hw⟩ := hw
  exact mb_X7_pack_21 S hlk hr hE n0 (z_up M 0 0 y1) x1 0 hw
theorem me_X7_pack (l : Launch) (D : va_G) (cy : Nat → ClassId) (A : Nat → Prop) (o : Nat) (ad : Nat → Nat) (post : Int32 → z_Md → Prop) (M : z_Md) (x1 : Int32) (hw : w_X7_pack post M x1) : z_Mi l yX7_pack (Cond.code yX7_pack cX7_pack 3 (some .int) :: z_T) rm_X7_pack [.ref o, .int x1] (z_EM D cy) (z_hM D cy A o ad) M post 0 0 A :=
  z_met (by decide) (Nat.le_of_ble_eq_true rfl) (fun p e s m args below meth c S hlk hr hnm hE => mb_X7_pack S hlk hr hE M x1 hw)
abbrev rm_X7_block : Room := { frames := 0, cells := 0, slots := 0, locals := 0 }
def w_X7_block (post : Int32 → z_Md → Prop) (M : z_Md) (x1 : Int32) : Prop := (∀ y1 : Int32, y1 = (if x1 < 0 then 1 else (if 40 ≤ x1 then 1 else 0)) → ((((z_up M 0 0 y1) 0 0) ≤ 0 → vp_in x1 40) ∧ (∀ y2 : Int32, y2 = (if ((z_up M 0 0 y1) 0 0) ≤ 0 then (z_up M 0 0 y1) 2 x1.toNatClampNeg else 0) → (post y2 (z_up M 0 0 y1)))))
set_option maxRecDepth 20000 in
theorem mb_X7_block {p : Program} {l : Launch} {e : Env} {s : State} {m : MethodId} {args : Array Value} {below : List Frame} {meth : Method} {c : Code} {D : va_G} {cy : Nat → ClassId} {A : Nat → Prop} {o : Nat} {ad : Nat → Nat} (S : CallFix p m c cX7_block 2 s args z_T RX7) (hlk : meth.locks = false) (hr : meth.sig.returnType = some .int) (hE : z_EM D cy s) {post : Int32 → z_Md → Prop}  (M : z_Md) (x1 : Int32) (hw : w_X7_block post M x1) : z_V A (z_hM D cy A o ad) p l e rm_X7_block s m args below meth c 2 (MQ below (va_Qi post (fun (u' : z_Md) t => z_hM D cy A o ad u' t.heap) A) args s 0 0 A) 0 0 M 0 [(0, va_rf (some o)), (1, .int x1)] [] := by
  refine z_aload_n (x := some o) S 0 dX7_block_0 rfl rfl ?_
  refine z_iload_n S 1 dX7_block_1 rfl rfl ?_
  suffices hJ : ∀ y1 : Int32, y1 = (if x1 < 0 then 1 else (if 40 ≤ x1 then 1 else 0)) → z_V A (z_hM D cy A o ad) p l e rm_X7_block s m args below meth c 2 (MQ below (va_Qi post (fun (u' : z_Md) t => z_hM D cy A o ad u' t.heap) A) args s 0 0 A) 0 0 M 16 [(0, va_rf (some o)), (1, .int x1)] [.int y1, va_rf (some o)] from by
    refine z_if_lt S 15 dX7_block_2 (by decide) (fun c5 => ?_) (fun c5 => ?_)
    · refine z_iconst (v := 1) S dX7_block_15 (by decide) ?_
      exact hJ _ (by rw [if_pos c5])
    · refine z_iload_n S 1 dX7_block_5 rfl rfl ?_
      refine z_bipush (v := 40) S dX7_block_6 (by decide) ?_
      refine z_icmp_ge S 15 dX7_block_8 (by decide) (fun c6 => ?_) (fun c6 => ?_)
      · refine z_iconst (v := 1) S dX7_block_15 (by decide) ?_
        exact hJ _ (by rw [if_neg c5, if_pos c6])
      · refine z_iconst (v := 0) S dX7_block_11 (by decide) ?_
        refine z_goto S 16 dX7_block_12 (by decide) ?_
        exact hJ _ (by rw [if_neg c5, if_neg c6])
  intro y1 ey1
  have hw := hw y1 ey1
  refine zm_p_89 S hE dX7_block_16 ?_
  refine z_aload_n (x := some o) S 0 dX7_block_19 rfl rfl ?_
  refine zm_g_89 S hE dX7_block_20 ?_
  obtain ⟨hob, hw⟩ := hw
  suffices hJ : ∀ y2 : Int32, y2 = (if ((z_up M 0 0 y1) 0 0) ≤ 0 then (z_up M 0 0 y1) 2 x1.toNatClampNeg else 0) → z_V A (z_hM D cy A o ad) p l e rm_X7_block s m args below meth c 2 (MQ below (va_Qi post (fun (u' : z_Md) t => z_hM D cy A o ad u' t.heap) A) args s 0 0 A) 0 0 (z_up M 0 0 y1) 36 [] [.int y2] from by
    refine z_if_le S 30 dX7_block_23 (by decide) (fun c3 => ?_) (fun c3 => ?_)
    · have hob := hob c3
      refine z_aload_n (x := some o) S 0 dX7_block_30 rfl rfl ?_
      refine zm_g_13 S hE dX7_block_31 ?_
      refine z_iload_n S 1 dX7_block_34 rfl rfl ?_
      have hi4 := hob
      refine z_mald (j := 2) S hE rfl rfl hi4 dX7_block_35 ?_
      refine z_lv (lv' := []) [] rfl ?_
      exact hJ _ (by rw [if_pos c3])
    · refine z_iconst (v := 0) S dX7_block_26 (by decide) ?_
      refine z_goto S 36 dX7_block_27 (by decide) ?_
      refine z_lv (lv' := []) [] rfl ?_
      exact hJ _ (by rw [if_neg c3])
  intro y2 ey2
  have hw := hw y2 ey2
  exact z_iret S hr hlk dX7_block_36 (Nat.le_refl 0) (Nat.le_refl 0) hw
theorem me_X7_block (l : Launch) (D : va_G) (cy : Nat → ClassId) (A : Nat → Prop) (o : Nat) (ad : Nat → Nat) (post : Int32 → z_Md → Prop) (M : z_Md) (x1 : Int32) (hw : w_X7_block post M x1) : z_Mi l yX7_block (Cond.code yX7_block cX7_block 2 (some .int) :: z_T) rm_X7_block [.ref o, .int x1] (z_EM D cy) (z_hM D cy A o ad) M post 0 0 A :=
  z_met (by decide) (Nat.le_of_ble_eq_true rfl) (fun p e s m args below meth c S hlk hr hnm hE => mb_X7_block S hlk hr hE M x1 hw)
abbrev rm_X7_step : Room := { frames := 0, cells := 0, slots := 0, locals := 0 }
def w_X7_step (post : Int32 → z_Md → Prop) (M : z_Md) (x1 : Int32) : Prop := (∀ y1 : Int32, y1 = (if x1 < 0 then 1 else (if 49 ≤ x1 then 1 else 0)) → ((((z_up M 0 0 y1) 0 0) ≤ 0 → vp_in x1 49) ∧ (∀ y2 : Int32, y2 = (if ((z_up M 0 0 y1) 0 0) ≤ 0 then (z_up M 0 0 y1) 1 x1.toNatClampNeg else 0) → (post y2 (z_up M 0 0 y1)))))
set_option maxRecDepth 20000 in
theorem mb_X7_step {p : Program} {l : Launch} {e : Env} {s : State} {m : MethodId} {args : Array Value} {below : List Frame} {meth : Method} {c : Code} {D : va_G} {cy : Nat → ClassId} {A : Nat → Prop} {o : Nat} {ad : Nat → Nat} (S : CallFix p m c cX7_step 2 s args z_T RX7) (hlk : meth.locks = false) (hr : meth.sig.returnType = some .int) (hE : z_EM D cy s) {post : Int32 → z_Md → Prop}  (M : z_Md) (x1 : Int32) (hw : w_X7_step post M x1) : z_V A (z_hM D cy A o ad) p l e rm_X7_step s m args below meth c 2 (MQ below (va_Qi post (fun (u' : z_Md) t => z_hM D cy A o ad u' t.heap) A) args s 0 0 A) 0 0 M 0 [(0, va_rf (some o)), (1, .int x1)] [] := by
  refine z_aload_n (x := some o) S 0 dX7_step_0 rfl rfl ?_
  refine z_iload_n S 1 dX7_step_1 rfl rfl ?_
  suffices hJ : ∀ y1 : Int32, y1 = (if x1 < 0 then 1 else (if 49 ≤ x1 then 1 else 0)) → z_V A (z_hM D cy A o ad) p l e rm_X7_step s m args below meth c 2 (MQ below (va_Qi post (fun (u' : z_Md) t => z_hM D cy A o ad u' t.heap) A) args s 0 0 A) 0 0 M 16 [(0, va_rf (some o)), (1, .int x1)] [.int y1, va_rf (some o)] from by
    refine z_if_lt S 15 dX7_step_2 (by decide) (fun c5 => ?_) (fun c5 => ?_)
    · refine z_iconst (v := 1) S dX7_step_15 (by decide) ?_
      exact hJ _ (by rw [if_pos c5])
    · refine z_iload_n S 1 dX7_step_5 rfl rfl ?_
      refine z_bipush (v := 49) S dX7_step_6 (by decide) ?_
      refine z_icmp_ge S 15 dX7_step_8 (by decide) (fun c6 => ?_) (fun c6 => ?_)
      · refine z_iconst (v := 1) S dX7_step_15 (by decide) ?_
        exact hJ _ (by rw [if_neg c5, if_pos c6])
      · refine z_iconst (v := 0) S dX7_step_11 (by decide) ?_
        refine z_goto S 16 dX7_step_12 (by decide) ?_
        exact hJ _ (by rw [if_neg c5, if_neg c6])
  intro y1 ey1
  have hw := hw y1 ey1
  refine zm_p_89 S hE dX7_step_16 ?_
  refine z_aload_n (x := some o) S 0 dX7_step_19 rfl rfl ?_
  refine zm_g_89 S hE dX7_step_20 ?_
  obtain ⟨hob, hw⟩ := hw
  suffices hJ : ∀ y2 : Int32, y2 = (if ((z_up M 0 0 y1) 0 0) ≤ 0 then (z_up M 0 0 y1) 1 x1.toNatClampNeg else 0) → z_V A (z_hM D cy A o ad) p l e rm_X7_step s m args below meth c 2 (MQ below (va_Qi post (fun (u' : z_Md) t => z_hM D cy A o ad u' t.heap) A) args s 0 0 A) 0 0 (z_up M 0 0 y1) 36 [] [.int y2] from by
    refine z_if_le S 30 dX7_step_23 (by decide) (fun c3 => ?_) (fun c3 => ?_)
    · have hob := hob c3
      refine z_aload_n (x := some o) S 0 dX7_step_30 rfl rfl ?_
      refine zm_g_7 S hE dX7_step_31 ?_
      refine z_iload_n S 1 dX7_step_34 rfl rfl ?_
      have hi4 := hob
      refine z_mald (j := 1) S hE rfl rfl hi4 dX7_step_35 ?_
      refine z_lv (lv' := []) [] rfl ?_
      exact hJ _ (by rw [if_pos c3])
    · refine z_iconst (v := 0) S dX7_step_26 (by decide) ?_
      refine z_goto S 36 dX7_step_27 (by decide) ?_
      refine z_lv (lv' := []) [] rfl ?_
      exact hJ _ (by rw [if_neg c3])
  intro y2 ey2
  have hw := hw y2 ey2
  exact z_iret S hr hlk dX7_step_36 (Nat.le_refl 0) (Nat.le_refl 0) hw
theorem me_X7_step (l : Launch) (D : va_G) (cy : Nat → ClassId) (A : Nat → Prop) (o : Nat) (ad : Nat → Nat) (post : Int32 → z_Md → Prop) (M : z_Md) (x1 : Int32) (hw : w_X7_step post M x1) : z_Mi l yX7_step (Cond.code yX7_step cX7_step 2 (some .int) :: z_T) rm_X7_step [.ref o, .int x1] (z_EM D cy) (z_hM D cy A o ad) M post 0 0 A :=
  z_met (by decide) (Nat.le_of_ble_eq_true rfl) (fun p e s m args below meth c S hlk hr hnm hE => mb_X7_step S hlk hr hE M x1 hw)
abbrev rm_X7_total : Room := { frames := 1, cells := 0, slots := 0, locals := 22 }
def w_X7_total_43 (post : Int32 → z_Md → Prop) : Nat → z_Md → Int32 → Int32 → Int32 → Int32 → Prop
  | 0 => fun _ _ _ _ _ => False
  | n + 1 => fun M x1 x2 x3 x4 => ((40 ≤ x4 → (∀ y2 : Int32, y2 = (if (M 20 (0 : Int32).toNatClampNeg) = 0 then 0 else 1) → (∀ y3 : Int32, y3 = (if (M 20 (1 : Int32).toNatClampNeg) = 0 then 0 else 2) → (∀ y4 : Int32, y4 = (if (M 20 (2 : Int32).toNatClampNeg) = 0 then 0 else 4) → (∀ x4_5 : Int32, x4_5 = (y2 + y3) + y4 → ((¬ x1 = 0 → ((¬ x1 = 1 → ((¬ x1 = 2 → ((¬ x1 = 3 → ((¬ x1 = 4 → (∀ y11 : Int32, y11 = (if x1 = 5 then x4_5 else (-1)) → (post y11 M))) ∧ (x1 = 4 → (w_X7_lastBlock (fun r14 M13 => (post r14 M13)) M )))) ∧ (x1 = 3 → (post x3 M)))) ∧ (x1 = 2 → (post x2 M)))) ∧ (x1 = 1 → (post (M 13 0) M)))) ∧ (x1 = 0 → (post (M 10 0) M)))))))) ∧ (¬ 40 ≤ x4 → (vp_in x4 40 ∧ (∀ y18 : Int32, y18 = (if (M 2 x4.toNatClampNeg) = 0 then x3 + 1 else x3) → (w_X7_total_43 post n M x1 x2 y18 (x4 + 1))))))
def w_X7_total_9 (post : Int32 → z_Md → Prop) : Nat → z_Md → Int32 → Int32 → Int32 → Prop
  | 0 => fun _ _ _ _ => False
  | n + 1 => fun M x1 x2 x3 => ((48 ≤ x3 → (∃ n0 : Nat, w_X7_total_43 post n0 M x1 x2 0 0)) ∧ (¬ 48 ≤ x3 → (vp_in x3 48 ∧ (∀ y2 : Int32, y2 = (if (M 6 x3.toNatClampNeg) ≤ 0 then x2 else x2 + 1) → (w_X7_total_9 post n M x1 y2 (x3 + 1))))))
def w_X7_total (post : Int32 → z_Md → Prop) (M : z_Md) (x1 : Int32) : Prop := (∃ n0 : Nat, w_X7_total_9 post n0 (z_up M 0 0 0) x1 0 0)
set_option maxRecDepth 20000 in
theorem mb_X7_total_43 {p : Program} {l : Launch} {e : Env} {s : State} {m : MethodId} {args : Array Value} {below : List Frame} {meth : Method} {c : Code} {D : va_G} {cy : Nat → ClassId} {A : Nat → Prop} {o : Nat} {ad : Nat → Nat} (S : CallFix p m c cX7_total 5 s args z_T RX7) (hlk : meth.locks = false) (hr : meth.sig.returnType = some .int) (hE : z_EM D cy s) {post : Int32 → z_Md → Prop}  : ∀ (n : Nat) (M : z_Md) (x1 : Int32) (x2 : Int32) (x3 : Int32) (x4 : Int32), w_X7_total_43 post n M x1 x2 x3 x4 → z_V A (z_hM D cy A o ad) p l e rm_X7_total s m args below meth c 5 (MQ below (va_Qi post (fun (u' : z_Md) t => z_hM D cy A o ad u' t.heap) A) args s 0 0 A) 0 0 M 43 [(0, va_rf (some o)), (1, .int x1), (2, .int x2), (3, .int x3), (4, .int x4)] [] := by
  intro n
  induction n with
  | zero => intro M x1 x2 x3 x4 hw; exact hw.elim
  | succ n ih =>
    intro M x1 x2 x3 x4 hw
    refine z_iload S 4 dX7_total_43 rfl ?_
    refine z_bipush (v := 40) S dX7_total_45 (by decide) ?_
    refine z_icmp_ge S 74 dX7_total_47 (by decide) (fun c1 => ?_) (fun c1 => ?_)
    · have hw := hw.1 c1
      refine z_aload_n (x := some o) S 0 dX7_total_74 rfl rfl ?_
      refine zm_g_59 S hE dX7_total_75 ?_
      refine z_iconst (v := 0) S dX7_total_78 (by decide) ?_
      refine z_mzld (j := 20) S hE rfl rfl (by unfold vp_in; decide) dX7_total_79 ?_
      suffices hJ : ∀ y2 : Int32, y2 = (if (M 20 (0 : Int32).toNatClampNeg) = 0 then 0 else 1) → z_V A (z_hM D cy A o ad) p l e rm_X7_total s m args below meth c 5 (MQ below (va_Qi post (fun (u' : z_Md) t => z_hM D cy A o ad u' t.heap) A) args s 0 0 A) 0 0 M 88 [(0, va_rf (some o)), (1, .int x1), (2, .int x2), (3, .int x3)] [.int y2] from by
        refine z_if_eq S 87 dX7_total_80 (by decide) (fun c17 => ?_) (fun c17 => ?_)
        · refine z_iconst (v := 0) S dX7_total_87 (by decide) ?_
          refine z_lv (lv' := [(0, va_rf (some o)), (1, .int x1), (2, .int x2), (3, .int x3)]) [0, 1, 2, 3] rfl ?_
          exact hJ _ (by rw [if_pos c17])
        · refine z_iconst (v := 1) S dX7_total_83 (by decide) ?_
          refine z_goto S 88 dX7_total_84 (by decide) ?_
          refine z_lv (lv' := [(0, va_rf (some o)), (1, .int x1), (2, .int x2), (3, .int x3)]) [0, 1, 2, 3] rfl ?_
          exact hJ _ (by rw [if_neg c17])
      intro y2 ey2
      have hw := hw y2 ey2
      refine z_aload_n (x := some o) S 0 dX7_total_88 rfl rfl ?_
      refine zm_g_59 S hE dX7_total_89 ?_
      refine z_iconst (v := 1) S dX7_total_92 (by decide) ?_
      refine z_mzld (j := 20) S hE rfl rfl (by unfold vp_in; decide) dX7_total_93 ?_
      suffices hJ : ∀ y3 : Int32, y3 = (if (M 20 (1 : Int32).toNatClampNeg) = 0 then 0 else 2) → z_V A (z_hM D cy A o ad) p l e rm_X7_total s m args below meth c 5 (MQ below (va_Qi post (fun (u' : z_Md) t => z_hM D cy A o ad u' t.heap) A) args s 0 0 A) 0 0 M 102 [(0, va_rf (some o)), (1, .int x1), (2, .int x2), (3, .int x3)] [.int y3, .int y2] from by
        refine z_if_eq S 101 dX7_total_94 (by decide) (fun c16 => ?_) (fun c16 => ?_)
        · refine z_iconst (v := 0) S dX7_total_101 (by decide) ?_
          exact hJ _ (by rw [if_pos c16])
        · refine z_iconst (v := 2) S dX7_total_97 (by decide) ?_
          refine z_goto S 102 dX7_total_98 (by decide) ?_
          exact hJ _ (by rw [if_neg c16])
      intro y3 ey3
      have hw := hw y3 ey3
      refine z_iadd S dX7_total_102 ?_
      refine z_aload_n (x := some o) S 0 dX7_total_103 rfl rfl ?_
      refine zm_g_59 S hE dX7_total_104 ?_
      refine z_iconst (v := 2) S dX7_total_107 (by decide) ?_
      refine z_mzld (j := 20) S hE rfl rfl (by unfold vp_in; decide) dX7_total_108 ?_
      suffices hJ : ∀ y4 : Int32, y4 = (if (M 20 (2 : Int32).toNatClampNeg) = 0 then 0 else 4) → z_V A (z_hM D cy A o ad) p l e rm_X7_total s m args below meth c 5 (MQ below (va_Qi post (fun (u' : z_Md) t => z_hM D cy A o ad u' t.heap) A) args s 0 0 A) 0 0 M 117 [(0, va_rf (some o)), (1, .int x1), (2, .int x2), (3, .int x3)] [.int y4, .int (y2 + y3)] from by
        refine z_if_eq S 116 dX7_total_109 (by decide) (fun c15 => ?_) (fun c15 => ?_)
        · refine z_iconst (v := 0) S dX7_total_116 (by decide) ?_
          exact hJ _ (by rw [if_pos c15])
        · refine z_iconst (v := 4) S dX7_total_112 (by decide) ?_
          refine z_goto S 117 dX7_total_113 (by decide) ?_
          exact hJ _ (by rw [if_neg c15])
      intro y4 ey4
      have hw := hw y4 ey4
      refine z_iadd S dX7_total_117 ?_
      refine z_top (fun x4_5 ex4_5 => ?_)
      have hw := hw x4_5 ex4_5
      refine z_istore S [(4, .int x4_5), (0, va_rf (some o)), (1, .int x1), (2, .int x2), (3, .int x3)] dX7_total_118 (by decide) rfl ?_
      refine z_lv (lv' := [(0, va_rf (some o)), (1, .int x1), (2, .int x2), (3, .int x3), (4, .int x4_5)]) [1, 2, 3, 4, 0] rfl ?_
      refine z_iload_n S 1 dX7_total_120 rfl rfl ?_
      refine z_if_ne S 131 dX7_total_121 (by decide) (fun c6 => ?_) (fun c6 => ?_)
      · have hw := hw.1 c6
        refine z_iload_n S 1 dX7_total_131 rfl rfl ?_
        refine z_iconst (v := 1) S dX7_total_132 (by decide) ?_
        refine z_icmp_ne S 143 dX7_total_133 (by decide) (fun c7 => ?_) (fun c7 => ?_)
        · have hw := hw.1 c7
          refine z_iload_n S 1 dX7_total_143 rfl rfl ?_
          refine z_iconst (v := 2) S dX7_total_144 (by decide) ?_
          refine z_icmp_ne S 152 dX7_total_145 (by decide) (fun c8 => ?_) (fun c8 => ?_)
          · have hw := hw.1 c8
            refine z_iload_n S 1 dX7_total_152 rfl rfl ?_
            refine z_iconst (v := 3) S dX7_total_153 (by decide) ?_
            refine z_icmp_ne S 161 dX7_total_154 (by decide) (fun c9 => ?_) (fun c9 => ?_)
            · have hw := hw.1 c9
              refine z_iload_n S 1 dX7_total_161 rfl rfl ?_
              refine z_iconst (v := 4) S dX7_total_162 (by decide) ?_
              refine z_icmp_ne S 173 dX7_total_163 (by decide) (fun c10 => ?_) (fun c10 => ?_)
              · have hw := hw.1 c10
                refine z_iload_n S 1 dX7_total_173 rfl rfl ?_
                refine z_iconst (v := 5) S dX7_total_174 (by decide) ?_
                suffices hJ : ∀ y11 : Int32, y11 = (if x1 = 5 then x4_5 else (-1)) → z_V A (z_hM D cy A o ad) p l e rm_X7_total s m args below meth c 5 (MQ below (va_Qi post (fun (u' : z_Md) t => z_hM D cy A o ad u' t.heap) A) args s 0 0 A) 0 0 M 184 [] [.int y11] from by
                  refine z_icmp_ne S 183 dX7_total_175 (by decide) (fun c12 => ?_) (fun c12 => ?_)
                  · refine z_iconst (v := (-1)) S dX7_total_183 (by decide) ?_
                    refine z_lv (lv' := []) [] rfl ?_
                    exact hJ _ (by rw [if_neg c12])
                  · refine z_iload S 4 dX7_total_178 rfl ?_
                    refine z_goto S 184 dX7_total_180 (by decide) ?_
                    refine z_lv (lv' := []) [] rfl ?_
                    exact hJ _ (by rw [if_pos c12])
                intro y11 ey11
                have hw := hw y11 ey11
                exact z_iret S hr hlk dX7_total_184 (Nat.le_refl 0) (Nat.le_refl 0) hw
              · have hw := hw.2 c10
                refine z_aload_n (x := some o) S 0 dX7_total_166 rfl rfl ?_
                refine z_callVi (As := []) (st := []) S (z_EMok D cy A) hE (me_X7_lastBlock l D cy A o ad _ M  hw) gV_X7_183 hdV_X7_lastBlock ⟨Nat.le_of_ble_eq_true rfl, Nat.le_of_ble_eq_true rfl⟩ rfl rfl (z_recvM hE) (fun _ h => h) (fun _ _ _ _ h => h) rfl (Nat.le_trans z_s0 (by decide)) dX7_total_167 ⟨Nat.le_of_ble_eq_true rfl, Nat.le_of_ble_eq_true rfl⟩ rfl (fun r14 M13 hw => ?_)
                refine z_goto S 184 dX7_total_170 (by decide) ?_
                exact z_iret S hr hlk dX7_total_184 (Nat.le_refl 0) (Nat.le_refl 0) hw
            · have hw := hw.2 c9
              refine z_iload_n S 3 dX7_total_157 rfl rfl ?_
              refine z_goto S 184 dX7_total_158 (by decide) ?_
              exact z_iret S hr hlk dX7_total_184 (Nat.le_refl 0) (Nat.le_refl 0) hw
          · have hw := hw.2 c8
            refine z_iload_n S 2 dX7_total_148 rfl rfl ?_
            refine z_goto S 184 dX7_total_149 (by decide) ?_
            exact z_iret S hr hlk dX7_total_184 (Nat.le_refl 0) (Nat.le_refl 0) hw
        · have hw := hw.2 c7
          refine z_aload_n (x := some o) S 0 dX7_total_136 rfl rfl ?_
          refine zm_g_121 S hE dX7_total_137 ?_
          refine z_goto S 184 dX7_total_140 (by decide) ?_
          exact z_iret S hr hlk dX7_total_184 (Nat.le_refl 0) (Nat.le_refl 0) hw
      · have hw := hw.2 c6
        refine z_aload_n (x := some o) S 0 dX7_total_124 rfl rfl ?_
        refine zm_g_118 S hE dX7_total_125 ?_
        refine z_goto S 184 dX7_total_128 (by decide) ?_
        exact z_iret S hr hlk dX7_total_184 (Nat.le_refl 0) (Nat.le_refl 0) hw
    · have hw := hw.2 c1
      refine z_aload_n (x := some o) S 0 dX7_total_50 rfl rfl ?_
      refine zm_g_13 S hE dX7_total_51 ?_
      refine z_iload S 4 dX7_total_54 rfl ?_
      obtain ⟨hi20, hw⟩ := hw
      refine z_mald (j := 2) S hE rfl rfl hi20 dX7_total_56 ?_
      suffices hJ : ∀ y18 : Int32, y18 = (if (M 2 x4.toNatClampNeg) = 0 then x3 + 1 else x3) → z_V A (z_hM D cy A o ad) p l e rm_X7_total s m args below meth c 5 (MQ below (va_Qi post (fun (u' : z_Md) t => z_hM D cy A o ad u' t.heap) A) args s 0 0 A) 0 0 M 67 [(0, va_rf (some o)), (1, .int x1), (2, .int x2), (4, .int x4)] [.int y18] from by
        refine z_if_ne S 66 dX7_total_57 (by decide) (fun c19 => ?_) (fun c19 => ?_)
        · refine z_iload_n S 3 dX7_total_66 rfl rfl ?_
          refine z_lv (lv' := [(0, va_rf (some o)), (1, .int x1), (2, .int x2), (4, .int x4)]) [0, 1, 2, 4] rfl ?_
          exact hJ _ (by rw [if_neg c19])
        · refine z_iload_n S 3 dX7_total_60 rfl rfl ?_
          refine z_iconst (v := 1) S dX7_total_61 (by decide) ?_
          refine z_iadd S dX7_total_62 ?_
          refine z_goto S 67 dX7_total_63 (by decide) ?_
          refine z_lv (lv' := [(0, va_rf (some o)), (1, .int x1), (2, .int x2), (4, .int x4)]) [0, 1, 2, 4] rfl ?_
          exact hJ _ (by rw [if_pos c19])
      intro y18 ey18
      have hw := hw y18 ey18
      refine z_istore_n S [(3, .int y18), (0, va_rf (some o)), (1, .int x1), (2, .int x2), (4, .int x4)] dX7_total_67 rfl (by decide) rfl ?_
      refine z_lv (lv' := [(0, va_rf (some o)), (1, .int x1), (2, .int x2), (3, .int y18), (4, .int x4)]) [1, 2, 3, 0, 4] rfl ?_
      refine z_iinc (v := x4 + 1) (pl := 4) S [(4, .int (x4 + 1)), (0, va_rf (some o)), (1, .int x1), (2, .int x2), (3, .int y18)] dX7_total_68 rfl rfl (by decide) rfl ?_
      refine z_lv (lv' := [(0, va_rf (some o)), (1, .int x1), (2, .int x2), (3, .int y18), (4, .int (x4 + 1))]) [1, 2, 3, 4, 0] rfl ?_
      refine z_goto S 43 dX7_total_71 (by decide) ?_
      exact ih M x1 x2 y18 (x4 + 1) hw
set_option maxRecDepth 20000 in
theorem mb_X7_total_9 {p : Program} {l : Launch} {e : Env} {s : State} {m : MethodId} {args : Array Value} {below : List Frame} {meth : Method} {c : Code} {D : va_G} {cy : Nat → ClassId} {A : Nat → Prop} {o : Nat} {ad : Nat → Nat} (S : CallFix p m c cX7_total 5 s args z_T RX7) (hlk : meth.locks = false) (hr : meth.sig.returnType = some .int) (hE : z_EM D cy s) {post : Int32 → z_Md → Prop}  : ∀ (n : Nat) (M : z_Md) (x1 : Int32) (x2 : Int32) (x3 : Int32), w_X7_total_9 post n M x1 x2 x3 → z_V A (z_hM D cy A o ad) p l e rm_X7_total s m args below meth c 5 (MQ below (va_Qi post (fun (u' : z_Md) t => z_hM D cy A o ad u' t.heap) A) args s 0 0 A) 0 0 M 9 [(0, va_rf (some o)), (1, .int x1), (2, .int x2), (3, .int x3)] [] := by
  intro n
  induction n with
  | zero => intro M x1 x2 x3 hw; exact hw.elim
  | succ n ih =>
    intro M x1 x2 x3 hw
    refine z_iload_n S 3 dX7_total_9 rfl rfl ?_
    refine z_bipush (v := 48) S dX7_total_10 (by decide) ?_
    refine z_icmp_ge S 38 dX7_total_12 (by decide) (fun c1 => ?_) (fun c1 => ?_)
    · have hw := hw.1 c1
      refine z_iconst (v := 0) S dX7_total_38 (by decide) ?_
      refine z_istore_n S [(3, .int 0), (0, va_rf (some o)), (1, .int x1), (2, .int x2)] dX7_total_39 rfl (by decide) rfl ?_
      refine z_lv (lv' := [(0, va_rf (some o)), (1, .int x1), (2, .int x2), (3, .int 0)]) [1, 2, 3, 0] rfl ?_
      refine z_iconst (v := 0) S dX7_total_40 (by decide) ?_
      refine z_istore S [(4, .int 0), (0, va_rf (some o)), (1, .int x1), (2, .int x2), (3, .int 0)] dX7_total_41 (by decide) rfl ?_
      refine z_lv (lv' := [(0, va_rf (some o)), (1, .int x1), (2, .int x2), (3, .int 0), (4, .int 0)]) [1, 2, 3, 4, 0] rfl ?_
      obtain ⟨n0, hw⟩ := hw
      exact mb_X7_total_43 S hlk hr hE n0 M x1 x2 0 0 hw
    · have hw := hw.2 c1
      refine z_aload_n (x := some o) S 0 dX7_total_15 rfl rfl ?_
      refine zm_g_25 S hE dX7_total_16 ?_
      refine z_iload_n S 3 dX7_total_19 rfl rfl ?_
      obtain ⟨hi4, hw⟩ := hw
      refine z_mald (j := 6) S hE rfl rfl hi4 dX7_total_20 ?_
      suffices hJ : ∀ y2 : Int32, y2 = (if (M 6 x3.toNatClampNeg) ≤ 0 then x2 else x2 + 1) → z_V A (z_hM D cy A o ad) p l e rm_X7_total s m args below meth c 5 (MQ below (va_Qi post (fun (u' : z_Md) t => z_hM D cy A o ad u' t.heap) A) args s 0 0 A) 0 0 M 31 [(0, va_rf (some o)), (1, .int x1), (3, .int x3)] [.int y2] from by
        refine z_if_le S 30 dX7_total_21 (by decide) (fun c3 => ?_) (fun c3 => ?_)
        · refine z_iload_n S 2 dX7_total_30 rfl rfl ?_
          refine z_lv (lv' := [(0, va_rf (some o)), (1, .int x1), (3, .int x3)]) [0, 1, 3] rfl ?_
          exact hJ _ (by rw [if_pos c3])
        · refine z_iload_n S 2 dX7_total_24 rfl rfl ?_
          refine z_iconst (v := 1) S dX7_total_25 (by decide) ?_
          refine z_iadd S dX7_total_26 ?_
          refine z_goto S 31 dX7_total_27 (by decide) ?_
          refine z_lv (lv' := [(0, va_rf (some o)), (1, .int x1), (3, .int x3)]) [0, 1, 3] rfl ?_
          exact hJ _ (by rw [if_neg c3])
      intro y2 ey2
      have hw := hw y2 ey2
      refine z_istore_n S [(2, .int y2), (0, va_rf (some o)), (1, .int x1), (3, .int x3)] dX7_total_31 rfl (by decide) rfl ?_
      refine z_lv (lv' := [(0, va_rf (some o)), (1, .int x1), (2, .int y2), (3, .int x3)]) [1, 2, 0, 3] rfl ?_
      refine z_iinc (v := x3 + 1) (pl := 3) S [(3, .int (x3 + 1)), (0, va_rf (some o)), (1, .int x1), (2, .int y2)] dX7_total_32 rfl rfl (by decide) rfl ?_
      refine z_lv (lv' := [(0, va_rf (some o)), (1, .int x1), (2, .int y2), (3, .int (x3 + 1))]) [1, 2, 3, 0] rfl ?_
      refine z_goto S 9 dX7_total_35 (by decide) ?_
      exact ih M x1 y2 (x3 + 1) hw
set_option maxRecDepth 20000 in
theorem mb_X7_total {p : Program} {l : Launch} {e : Env} {s : State} {m : MethodId} {args : Array Value} {below : List Frame} {meth : Method} {c : Code} {D : va_G} {cy : Nat → ClassId} {A : Nat → Prop} {o : Nat} {ad : Nat → Nat} (S : CallFix p m c cX7_total 5 s args z_T RX7) (hlk : meth.locks = false) (hr : meth.sig.returnType = some .int) (hE : z_EM D cy s) {post : Int32 → z_Md → Prop}  (M : z_Md) (x1 : Int32) (hw : w_X7_total post M x1) : z_V A (z_hM D cy A o ad) p l e rm_X7_total s m args below meth c 5 (MQ below (va_Qi post (fun (u' : z_Md) t => z_hM D cy A o ad u' t.heap) A) args s 0 0 A) 0 0 M 0 [(0, va_rf (some o)), (1, .int x1)] [] := by
  refine z_aload_n (x := some o) S 0 dX7_total_0 rfl rfl ?_
  refine z_iconst (v := 0) S dX7_total_1 (by decide) ?_
  refine zm_p_89 S hE dX7_total_2 ?_
  refine z_iconst (v := 0) S dX7_total_5 (by decide) ?_
  refine z_istore_n S [(2, .int 0), (0, va_rf (some o)), (1, .int x1)] dX7_total_6 rfl (by decide) rfl ?_
  refine z_lv (lv' := [(0, va_rf (some o)), (1, .int x1), (2, .int 0)]) [1, 2, 0] rfl ?_
  refine z_iconst (v := 0) S dX7_total_7 (by decide) ?_
  refine z_istore_n S [(3, .int 0), (0, va_rf (some o)), (1, .int x1), (2, .int 0)] dX7_total_8 rfl (by decide) rfl ?_
  refine z_lv (lv' := [(0, va_rf (some o)), (1, .int x1), (2, .int 0), (3, .int 0)]) [1, 2, 3, 0] rfl ?_
  obtain ⟨n0, hw⟩ := hw
  exact mb_X7_total_9 S hlk hr hE n0 (z_up M 0 0 0) x1 0 0 hw
theorem me_X7_total (l : Launch) (D : va_G) (cy : Nat → ClassId) (A : Nat → Prop) (o : Nat) (ad : Nat → Nat) (post : Int32 → z_Md → Prop) (M : z_Md) (x1 : Int32) (hw : w_X7_total post M x1) : z_Mi l yX7_total (Cond.code yX7_total cX7_total 5 (some .int) :: z_T) rm_X7_total [.ref o, .int x1] (z_EM D cy) (z_hM D cy A o ad) M post 0 0 A :=
  z_met (by decide) (Nat.le_of_ble_eq_true rfl) (fun p e s m args below meth c S hlk hr hnm hE => mb_X7_total S hlk hr hE M x1 hw)
