abbrev rm_Jxa1e45_init_da8c8 : Room := { frames := 1, cells := 0, slots := 0, locals := 40 }
def w_Jxa1e45_init_da8c8 (post : z_St → Prop) (t0 mi h0 : Nat) (u : z_St)  : Prop := (post u)
set_option maxRecDepth 20000 in
theorem mb_Jxa1e45_init_da8c8 {p : Program} {l : Launch} {e : Env} {s : State} {m : MethodId} {args : Array Value} {below : List Frame} {meth : Method} {c : Code} {D : va_G} {cy : Nat → ClassId} {A : Nat → Prop} {t0 mi : Nat} {u0 : z_St} {h0 : Nat} (S : CallFix p m c cJxa1e45_init_da8c8 1 s args z_T RJxa1e45) (hlk : meth.locks = false) (hr : meth.sig.returnType = none) (hE : z_EC D cy A t0 mi s) (hnm : meth.name = "<init>") {post : z_St → Prop}  (u : z_St)  (hkh0 : z_kd h0 u = 1 ∧ 1 ≠ 0) (hw : w_Jxa1e45_init_da8c8 post t0 mi h0 u ) : z_V A (z_hC D cy A t0 u0) p l e rm_Jxa1e45_init_da8c8 s m args below meth c 1 (MQ below (va_Qv (fun (u' : z_St) => post u' ∧ z_mono u0 u') (fun (u' : z_St) t => z_hC D cy A t0 u0 u' t.heap) A) args s 0 0 A) 0 0 u 0 [(0, va_rf (some h0))] [] := by
  refine z_aload_n (x := some h0) S 0 dJxa1e45_init_da8c8_0 rfl rfl ?_
  refine z_obj (a := h0) S wd_137 wd_80 wd_81 (Nat.le_of_ble_eq_true rfl) (Nat.le_trans (Nat.add_le_add_right z_s0 12) (Nat.le_of_ble_eq_true rfl)) dJxa1e45_init_da8c8_1 ?_
  exact z_cvret S hr hlk dJxa1e45_init_da8c8_4 (Nat.le_of_ble_eq_true rfl) (Nat.le_of_ble_eq_true rfl) hw
theorem me_Jxa1e45_init_da8c8 (l : Launch) (D : va_G) (cy : Nat → ClassId) (A : Nat → Prop) (t0 mi : Nat) (post : z_St → Prop) (u : z_St) (h0 : Nat) (hkh0 : z_kd h0 u = 1 ∧ 1 ≠ 0) (hw : w_Jxa1e45_init_da8c8 post t0 mi h0 u ) : z_Mv l yJxa1e45_init_da8c8 (Cond.code yJxa1e45_init_da8c8 cJxa1e45_init_da8c8 1 none :: z_T) rm_Jxa1e45_init_da8c8 [va_rf (some h0)] (z_EC D cy A t0 mi) (z_hC D cy A t0 u) u (fun u' => post u' ∧ z_mono u u') 0 0 A :=
  z_met (by decide) (Nat.le_of_ble_eq_true rfl) (fun p e s m args below meth c S hlk hr hnm hE => mb_Jxa1e45_init_da8c8 S hlk hr hE hnm u  hkh0 hw)
abbrev rm_Jxc12de_init_da8c8 : Room := { frames := 2, cells := 0, slots := 0, locals := 60 }
def w_Jxc12de_init_da8c8 (post : z_St → Prop) (t0 mi h0 : Nat) (u : z_St)  : Prop := (w_Jxa1e45_init_da8c8 (fun u1 => (post (z_pI 35 h0 0 u1))) t0 mi h0 u )
set_option maxRecDepth 20000 in
theorem mb_Jxc12de_init_da8c8 {p : Program} {l : Launch} {e : Env} {s : State} {m : MethodId} {args : Array Value} {below : List Frame} {meth : Method} {c : Code} {D : va_G} {cy : Nat → ClassId} {A : Nat → Prop} {t0 mi : Nat} {u0 : z_St} {h0 : Nat} (S : CallFix p m c cJxc12de_init_da8c8 1 s args z_T RJxc12de) (hlk : meth.locks = false) (hr : meth.sig.returnType = none) (hE : z_EC D cy A t0 mi s) (hnm : meth.name = "<init>") {post : z_St → Prop}  (u : z_St)  (hkh0 : z_kd h0 u = 1 ∧ 1 ≠ 0) (hw : w_Jxc12de_init_da8c8 post t0 mi h0 u ) : z_V A (z_hC D cy A t0 u0) p l e rm_Jxc12de_init_da8c8 s m args below meth c 1 (MQ below (va_Qv (fun (u' : z_St) => post u' ∧ z_mono u0 u') (fun (u' : z_St) t => z_hC D cy A t0 u0 u' t.heap) A) args s 0 0 A) 0 0 u 0 [(0, va_rf (some h0))] [] := by
  refine z_aload_n (x := some h0) S 0 dJxc12de_init_da8c8_0 rfl rfl ?_
  refine z_callIv (As := []) (st := []) S (z_ECok D cy A t0 mi) hE (me_Jxa1e45_init_da8c8 l D cy A t0 mi _ u h0 hkh0 hw) (z_goI wd_136) wd_53 wd_134 wd_135 rfl hdS_Jxa1e45_init_da8c8 ⟨Nat.le_of_ble_eq_true rfl, Nat.le_of_ble_eq_true rfl⟩ rfl rfl (fun _ h => h.re) (fun _ _ _ h h' => h.ba h') rfl (Nat.le_trans z_s0 (by decide)) dJxc12de_init_da8c8_1 ⟨(Nat.le_of_ble_eq_true rfl), (Nat.le_of_ble_eq_true rfl)⟩ rfl (fun u1 hw => ?_)
  obtain ⟨hw, hm1⟩ := hw
  have hkh0 := hm1.k hkh0
  refine z_aload_n (x := some h0) S 0 dJxc12de_init_da8c8_4 rfl rfl ?_
  refine z_iconst (v := 0) S dJxc12de_init_da8c8_5 (by decide) ?_
  refine zb_p_Jxc12de_7 S hE hkh0 dJxc12de_init_da8c8_6 ?_
  exact z_cvret S hr hlk dJxc12de_init_da8c8_9 (Nat.le_of_ble_eq_true rfl) (Nat.le_of_ble_eq_true rfl) hw
theorem me_Jxc12de_init_da8c8 (l : Launch) (D : va_G) (cy : Nat → ClassId) (A : Nat → Prop) (t0 mi : Nat) (post : z_St → Prop) (u : z_St) (h0 : Nat) (hkh0 : z_kd h0 u = 1 ∧ 1 ≠ 0) (hw : w_Jxc12de_init_da8c8 post t0 mi h0 u ) : z_Mv l yJxc12de_init_da8c8 (Cond.code yJxc12de_init_da8c8 cJxc12de_init_da8c8 1 none :: z_T) rm_Jxc12de_init_da8c8 [va_rf (some h0)] (z_EC D cy A t0 mi) (z_hC D cy A t0 u) u (fun u' => post u' ∧ z_mono u u') 0 0 A :=
  z_met (by decide) (Nat.le_of_ble_eq_true rfl) (fun p e s m args below meth c S hlk hr hnm hE => mb_Jxc12de_init_da8c8 S hlk hr hE hnm u  hkh0 hw)
abbrev rm_Jx4a65c_init_da8c8 : Room := { frames := 3, cells := 0, slots := 0, locals := 80 }
def w_Jx4a65c_init_da8c8 (post : z_St → Prop) (t0 mi h0 : Nat) (u : z_St)  : Prop := (w_Jxc12de_init_da8c8 (fun u1 => (post (z_pR 36 h0 (some t0) u1))) t0 mi h0 u )
set_option maxRecDepth 20000 in
theorem mb_Jx4a65c_init_da8c8 {p : Program} {l : Launch} {e : Env} {s : State} {m : MethodId} {args : Array Value} {below : List Frame} {meth : Method} {c : Code} {D : va_G} {cy : Nat → ClassId} {A : Nat → Prop} {t0 mi : Nat} {u0 : z_St} {h0 : Nat} (S : CallFix p m c cJx4a65c_init_da8c8 1 s args z_T RJx4a65c) (hlk : meth.locks = false) (hr : meth.sig.returnType = none) (hE : z_EC D cy A t0 mi s) (hnm : meth.name = "<init>") {post : z_St → Prop}  (u : z_St)  (hkh0 : z_kd h0 u = 1 ∧ 1 ≠ 0) (hw : w_Jx4a65c_init_da8c8 post t0 mi h0 u ) : z_V A (z_hC D cy A t0 u0) p l e rm_Jx4a65c_init_da8c8 s m args below meth c 1 (MQ below (va_Qv (fun (u' : z_St) => post u' ∧ z_mono u0 u') (fun (u' : z_St) t => z_hC D cy A t0 u0 u' t.heap) A) args s 0 0 A) 0 0 u 0 [(0, va_rf (some h0))] [] := by
  refine z_aload_n (x := some h0) S 0 dJx4a65c_init_da8c8_0 rfl rfl ?_
  refine z_callIv (As := []) (st := []) S (z_ECok D cy A t0 mi) hE (me_Jxc12de_init_da8c8 l D cy A t0 mi _ u h0 hkh0 hw) (z_goI wd_133) wd_54 wd_131 wd_132 rfl hdS_Jxc12de_init_da8c8 ⟨Nat.le_of_ble_eq_true rfl, Nat.le_of_ble_eq_true rfl⟩ rfl rfl (fun _ h => h.re) (fun _ _ _ h h' => h.ba h') rfl (Nat.le_trans z_s0 (by decide)) dJx4a65c_init_da8c8_1 ⟨(Nat.le_of_ble_eq_true rfl), (Nat.le_of_ble_eq_true rfl)⟩ rfl (fun u1 hw => ?_)
  obtain ⟨hw, hm1⟩ := hw
  have hkh0 := hm1.k hkh0
  refine z_aload_n (x := some h0) S 0 dJx4a65c_init_da8c8_4 rfl rfl ?_
  refine z_cgetsD S hE wd_138 dJx4a65c_init_da8c8_5 ?_
  refine zb_p_Jx4a65c_9 (some t0) S hE hkh0 dJx4a65c_init_da8c8_8 ?_
  exact z_cvret S hr hlk dJx4a65c_init_da8c8_11 (Nat.le_of_ble_eq_true rfl) (Nat.le_of_ble_eq_true rfl) hw
theorem me_Jx4a65c_init_da8c8 (l : Launch) (D : va_G) (cy : Nat → ClassId) (A : Nat → Prop) (t0 mi : Nat) (post : z_St → Prop) (u : z_St) (h0 : Nat) (hkh0 : z_kd h0 u = 1 ∧ 1 ≠ 0) (hw : w_Jx4a65c_init_da8c8 post t0 mi h0 u ) : z_Mv l yJx4a65c_init_da8c8 (Cond.code yJx4a65c_init_da8c8 cJx4a65c_init_da8c8 1 none :: z_T) rm_Jx4a65c_init_da8c8 [va_rf (some h0)] (z_EC D cy A t0 mi) (z_hC D cy A t0 u) u (fun u' => post u' ∧ z_mono u u') 0 0 A :=
  z_met (by decide) (Nat.le_of_ble_eq_true rfl) (fun p e s m args below meth c S hlk hr hnm hE => mb_Jx4a65c_init_da8c8 S hlk hr hE hnm u  hkh0 hw)
abbrev rm_J8_newLength_cabcc : Room := { frames := 1, cells := 0, slots := 0, locals := 40 }
def w_J8_newLength_cabcc (post : Int32 → z_St → Prop) (t0 mi : Nat) (u : z_St) (x0 : Int32) (x1 : Int32) (x2 : Int32) : Prop := (∀ q1 : Int32, q1 = (if x1 < x2 then x2 else x1) → (((x0 + q1) ≤ 0 → False) ∧ (¬ (x0 + q1) ≤ 0 → ((2147483639 < (x0 + q1) → False) ∧ (¬ 2147483639 < (x0 + q1) → (post (x0 + q1) u))))))
set_option maxRecDepth 20000 in
theorem mb_J8_newLength_cabcc {p : Program} {l : Launch} {e : Env} {s : State} {m : MethodId} {args : Array Value} {below : List Frame} {meth : Method} {c : Code} {D : va_G} {cy : Nat → ClassId} {A : Nat → Prop} {t0 mi : Nat} {u0 : z_St} (S : CallFix p m c cJ8_newLength_cabcc 4 s args z_T RJ8) (hlk : meth.locks = false) (hr : meth.sig.returnType = (some .int)) (hE : z_EC D cy A t0 mi s) {post : Int32 → z_St → Prop}  (u : z_St) (x0 : Int32) (x1 : Int32) (x2 : Int32) (hw : w_J8_newLength_cabcc post t0 mi u x0 x1 x2) : z_V A (z_hC D cy A t0 u0) p l e rm_J8_newLength_cabcc s m args below meth c 4 (MQ below (va_Qi (fun r (u' : z_St) => post r u' ∧ z_mono u0 u') (fun (u' : z_St) t => z_hC D cy A t0 u0 u' t.heap) A) args s 0 0 A) 0 0 u 0 [(0, .int x0), (1, .int x1), (2, .int x2)] [] := by
  refine z_iload_n S 0 dJ8_newLength_cabcc_0 rfl rfl ?_
  refine z_iload_n S 1 dJ8_newLength_cabcc_1 rfl rfl ?_
  refine z_iload_n S 2 dJ8_newLength_cabcc_2 rfl rfl ?_
  refine z_mmax S wd_606 wd_447 wd_66 wd_448 (Nat.le_of_ble_eq_true rfl) (Nat.le_trans (Nat.add_le_add_right (z_s1 z_s0) 13) (Nat.le_of_ble_eq_true rfl)) (Nat.le_of_ble_eq_true rfl) (Nat.le_of_ble_eq_true rfl) dJ8_newLength_cabcc_3 ?_
  have hw := hw _ rfl
  revert hw
  generalize (if x1 < x2 then x2 else x1) = q1
  intro hw
  refine z_iadd S dJ8_newLength_cabcc_6 ?_
  refine z_istore_n S [(3, .int (x0 + q1)), (0, .int x0), (1, .int x1), (2, .int x2)] dJ8_newLength_cabcc_7 rfl (by decide) rfl ?_
  refine z_lv (lv' := [(0, .int x0), (1, .int x1), (2, .int x2), (3, .int (x0 + q1))]) [1, 2, 3, 0] rfl ?_
  refine z_iconst (v := 0) S dJ8_newLength_cabcc_8 (by decide) ?_
  refine z_iload_n S 3 dJ8_newLength_cabcc_9 rfl rfl ?_
  refine z_icmp_ge S 21 dJ8_newLength_cabcc_10 (by decide) (fun c2 => ?_) (fun c2 => ?_)
  · have hw := hw.1 c2
    exact hw.elim
  · have hw := hw.2 c2
    refine z_iload_n S 3 dJ8_newLength_cabcc_13 rfl rfl ?_
    refine z_ldc (x := 2147483639) S wd_ldc200 dJ8_newLength_cabcc_14 ?_
    refine z_icmp_gt S 21 dJ8_newLength_cabcc_16 (by decide) (fun c3 => ?_) (fun c3 => ?_)
    · have hw := hw.1 c3
      exact hw.elim
    · have hw := hw.2 c3
      refine z_iload_n S 3 dJ8_newLength_cabcc_19 rfl rfl ?_
      exact z_ciret S hr hlk dJ8_newLength_cabcc_20 (Nat.le_of_ble_eq_true rfl) (Nat.le_of_ble_eq_true rfl) hw
theorem me_J8_newLength_cabcc (l : Launch) (D : va_G) (cy : Nat → ClassId) (A : Nat → Prop) (t0 mi : Nat) (post : Int32 → z_St → Prop) (u : z_St) (x0 : Int32) (x1 : Int32) (x2 : Int32) (hw : w_J8_newLength_cabcc post t0 mi u x0 x1 x2) : z_Mi l yJ8_newLength_cabcc (Cond.code yJ8_newLength_cabcc cJ8_newLength_cabcc 4 (some .int) :: z_T) rm_J8_newLength_cabcc [.int x0, .int x1, .int x2] (z_EC D cy A t0 mi) (z_hC D cy A t0 u) u (fun r u' => post r u' ∧ z_mono u u') 0 0 A :=
  z_met (by decide) (Nat.le_of_ble_eq_true rfl) (fun p e s m args below meth c S hlk hr hnm hE => mb_J8_newLength_cabcc S hlk hr hE u x0 x1 x2 hw)
abbrev rm_J7_copyOf_6403c : Room := { frames := 1, cells := 1, slots := 24, locals := 40 }
def w_J7_copyOf_6403c (post : Option Nat → z_St → Prop) (t0 mi : Nat) (u : z_St) (x0 : Option Nat) (x1 : Int32) (x2 : Option Nat) : Prop := ((¬ x2 = some mi → False) ∧ (x2 = some mi → (¬ x1 < 0 ∧ x1.toNatClampNeg ≤ 24 ∧ (∀ a1 : Nat, z_kd a1 u = 0 → (∃ a2 : Nat, x0 = some a2 ∧ (z_kd a2 (z_nA 15 a1 x1.toNatClampNeg u) = 15 ∨ z_kd a2 (z_nA 15 a1 x1.toNatClampNeg u) = 16) ∧ (∀ q4 : Int32, q4 = (if x1 < (nI (z_ln a2 (z_nA 15 a1 x1.toNatClampNeg u))) then x1 else (nI (z_ln a2 (z_nA 15 a1 x1.toNatClampNeg u)))) → (z_kd a2 (z_nA 15 a1 x1.toNatClampNeg u) = 15 ∧ (¬ (0 : Int32) < 0 ∧ ¬ (0 : Int32) < 0 ∧ ¬ (q4 : Int32) < 0 ∧ (0 : Int32).toNatClampNeg + q4.toNatClampNeg ≤ z_ln a2 (z_nA 15 a1 x1.toNatClampNeg u) ∧ (0 : Int32).toNatClampNeg + q4.toNatClampNeg ≤ z_ln a1 (z_nA 15 a1 x1.toNatClampNeg u) ∧ (∀ i : Nat, i < q4.toNatClampNeg → ∀ y : Nat, z_aR a2 ((0 : Int32).toNatClampNeg + i) (z_nA 15 a1 x1.toNatClampNeg u) = some y → z_kd y (z_nA 15 a1 x1.toNatClampNeg u) = 5) ∧ (post (some a1) (z_cR a2 a1 (0 : Int32).toNatClampNeg (0 : Int32).toNatClampNeg q4.toNatClampNeg (z_nA 15 a1 x1.toNatClampNeg u)))))))))))
set_option maxRecDepth 20000 in
theorem mb_J7_copyOf_6403c {p : Program} {l : Launch} {e : Env} {s : State} {m : MethodId} {args : Array Value} {below : List Frame} {meth : Method} {c : Code} {D : va_G} {cy : Nat → ClassId} {A : Nat → Prop} {t0 mi : Nat} {u0 : z_St} (S : CallFix p m c cJ7_copyOf_6403c 4 s args z_T RJ7) (hlk : meth.locks = false) (hr : meth.sig.returnType = (some (.array (.object "java/lang/Object")))) (hE : z_EC D cy A t0 mi s) {post : Option Nat → z_St → Prop}  (u : z_St) (x0 : Option Nat) (x1 : Int32) (x2 : Option Nat) (hw : w_J7_copyOf_6403c post t0 mi u x0 x1 x2) : z_V A (z_hC D cy A t0 u0) p l e rm_J7_copyOf_6403c s m args below meth c 4 (MQ below (va_Qq (fun r (u' : z_St) => post r u' ∧ z_mono u0 u') (fun (u' : z_St) t => z_hC D cy A t0 u0 u' t.heap) A) args s 1 24 A) 0 0 u 0 [(0, va_rf x0), (1, .int x1), (2, va_rf x2)] [] := by
  refine z_aload_n (x := x2) S 2 dJ7_copyOf_6403c_0 rfl rfl ?_
  refine z_cldcM S hE wd_634 dJ7_copyOf_6403c_1 ?_
  refine z_acmp_ne (rx := x2) (ry := some mi) S 13 dJ7_copyOf_6403c_3 (by decide) (fun c1 => ?_) (fun c1 => ?_)
  · have hw := hw.1 c1
    exact hw.elim
  · have hw := hw.2 c1
    refine z_iload_n S 1 dJ7_copyOf_6403c_6 rfl rfl ?_
    obtain ⟨hi2, hi3, hw⟩ := hw
    refine z_cnewRb (κ := 15) 24 S hE (by decide) rfl wd_636 (nw_ao_15 (z_ECnw hE)) hi2 hi3 (by decide) (Nat.le_of_ble_eq_true rfl) (Nat.le_of_ble_eq_true rfl) dJ7_copyOf_6403c_7 (fun a1 hza1 => ?_)
    have hw := hw a1 hza1
    have hka1 : z_kd a1 (z_nA 15 a1 x1.toNatClampNeg u) = 15 ∧ 15 ≠ 0 := z_kAs (by decide)
    refine z_goto S 24 dJ7_copyOf_6403c_10 (by decide) ?_
    refine z_astore_n (x := some a1) S [(3, va_rf (some a1)), (0, va_rf x0), (1, .int x1), (2, va_rf x2)] dJ7_copyOf_6403c_24 rfl (by decide) (by simp only [List.filter, z_rfc]; rfl) ?_
    refine z_lv (lv' := [(0, va_rf x0), (1, .int x1), (2, va_rf x2), (3, va_rf (some a1))]) [1, 2, 3, 0] rfl ?_
    refine z_aload_n (x := x0) S 0 dJ7_copyOf_6403c_25 rfl rfl ?_
    refine z_iconst (v := 0) S dJ7_copyOf_6403c_26 (by decide) ?_
    refine z_aload_n (x := some a1) S 3 dJ7_copyOf_6403c_27 rfl rfl ?_
    refine z_iconst (v := 0) S dJ7_copyOf_6403c_28 (by decide) ?_
    refine z_aload_n (x := x0) S 0 dJ7_copyOf_6403c_29 rfl rfl ?_
    obtain ⟨a2, ea2, hka2, hw⟩ := hw
    refine z_st (st' := [va_rf (some a2), .int 0, va_rf (some a1), .int 0, va_rf x0]) (congrArg (fun r : Option Nat => ([va_rf r, .int 0, va_rf (some a1), .int 0, va_rf x0] : List Value)) ea2) ?_
    refine z_calenB S hE hka2 dJ7_copyOf_6403c_30 ?_
    refine z_iload_n S 1 dJ7_copyOf_6403c_31 rfl rfl ?_
    refine z_mmin S wd_637 wd_444 wd_66 wd_445 (Nat.le_of_ble_eq_true rfl) (Nat.le_trans (Nat.add_le_add_right (z_s1 (z_sq (z_s1 (z_sq z_s0)))) 13) (Nat.le_of_ble_eq_true rfl)) (Nat.le_of_ble_eq_true rfl) (Nat.le_of_ble_eq_true rfl) dJ7_copyOf_6403c_32 ?_
    have hw := hw _ rfl
    revert hw
    generalize (if x1 < (nI (z_ln a2 (z_nA 15 a1 x1.toNatClampNeg u))) then x1 else (nI (z_ln a2 (z_nA 15 a1 x1.toNatClampNeg u)))) = q4
    intro hw
    obtain ⟨hka2, hw⟩ := hw
    have hka2 : z_kd a2 (z_nA 15 a1 x1.toNatClampNeg u) = 15 ∧ 15 ≠ 0 := ⟨hka2, by decide⟩
    obtain ⟨hi5, hi6, hi7, hi8, hi9, hi10, hw⟩ := hw
    refine z_st (st' := [.int q4, .int 0, va_rf (some a1), .int 0, va_rf (some a2)]) (congrArg (fun r : Option Nat => ([.int q4, .int 0, va_rf (some a1), .int 0, va_rf r] : List Value)) ea2) ?_
    refine z_ccopy S hE hka2 hka1 wd_638 wd_640 wd_639 wd_72 hi5 hi6 hi7 hi8 hi9 hi10 (Nat.le_of_ble_eq_true rfl) (Nat.le_trans (Nat.add_le_add_right z_s0 (nativeFrameWords "java/lang/System" "arraycopy" 5 + 11)) (Nat.le_of_ble_eq_true rfl)) dJ7_copyOf_6403c_35 ?_
    refine z_aload_n (x := some a1) S 3 dJ7_copyOf_6403c_38 rfl rfl ?_
    exact z_caret (some a1) S hr (Or.inr ⟨_, rfl⟩) hlk dJ7_copyOf_6403c_39 (Nat.le_of_ble_eq_true rfl) (Nat.le_of_ble_eq_true rfl) hw
theorem me_J7_copyOf_6403c (l : Launch) (D : va_G) (cy : Nat → ClassId) (A : Nat → Prop) (t0 mi : Nat) (post : Option Nat → z_St → Prop) (u : z_St) (x0 : Option Nat) (x1 : Int32) (x2 : Option Nat) (hw : w_J7_copyOf_6403c post t0 mi u x0 x1 x2) : z_Mq l yJ7_copyOf_6403c (Cond.code yJ7_copyOf_6403c cJ7_copyOf_6403c 4 (some (.array (.object "java/lang/Object"))) :: z_T) rm_J7_copyOf_6403c [va_rf x0, .int x1, va_rf x2] (z_EC D cy A t0 mi) (z_hC D cy A t0 u) u (fun r u' => post r u' ∧ z_mono u u') 1 24 A :=
  z_met (by decide) (by simp [lg_sl, z_rfc, z_ic]) (fun p e s m args below meth c S hlk hr hnm hE => (by simp [lv_args, z_rfc, z_ic] : lv_args 0 [va_rf x0, .int x1, va_rf x2] = [(0, va_rf x0), (1, .int x1), (2, va_rf x2)]) ▸ mb_J7_copyOf_6403c S hlk hr hE u x0 x1 x2 hw)
abbrev rm_J7_copyOf_1904c : Room := { frames := 2, cells := 1, slots := 24, locals := 63 }
def w_J7_copyOf_1904c (post : Option Nat → z_St → Prop) (t0 mi : Nat) (u : z_St) (x0 : Option Nat) (x1 : Int32) : Prop := (∃ a1 : Nat, x0 = some a1 ∧ z_kd a1 u = 15 ∧ (w_J7_copyOf_6403c (fun r2 u2 => (post r2 u2)) t0 mi u x0 x1 (some mi)))
set_option maxRecDepth 20000 in
theorem mb_J7_copyOf_1904c {p : Program} {l : Launch} {e : Env} {s : State} {m : MethodId} {args : Array Value} {below : List Frame} {meth : Method} {c : Code} {D : va_G} {cy : Nat → ClassId} {A : Nat → Prop} {t0 mi : Nat} {u0 : z_St} (S : CallFix p m c cJ7_copyOf_1904c 2 s args z_T RJ7) (hlk : meth.locks = false) (hr : meth.sig.returnType = (some (.array (.object "java/lang/Object")))) (hE : z_EC D cy A t0 mi s) {post : Option Nat → z_St → Prop}  (u : z_St) (x0 : Option Nat) (x1 : Int32) (hw : w_J7_copyOf_1904c post t0 mi u x0 x1) : z_V A (z_hC D cy A t0 u0) p l e rm_J7_copyOf_1904c s m args below meth c 2 (MQ below (va_Qq (fun r (u' : z_St) => post r u' ∧ z_mono u0 u') (fun (u' : z_St) t => z_hC D cy A t0 u0 u' t.heap) A) args s 1 24 A) 0 0 u 0 [(0, va_rf x0), (1, .int x1)] [] := by
  refine z_aload_n (x := x0) S 0 dJ7_copyOf_1904c_0 rfl rfl ?_
  refine z_iload_n S 1 dJ7_copyOf_1904c_1 rfl rfl ?_
  refine z_aload_n (x := x0) S 0 dJ7_copyOf_1904c_2 rfl rfl ?_
  obtain ⟨a1, ea1, hka1, hw⟩ := hw
  have hka1 : z_kd a1 u = 15 ∧ 15 ≠ 0 := ⟨hka1, by decide⟩
  refine z_st (st' := [va_rf (some a1), .int x1, va_rf x0]) (congrArg (fun r : Option Nat => ([va_rf r, .int x1, va_rf x0] : List Value)) ea1) ?_
  refine z_cgetC S hE hka1 wd_614 wd_1117 wd_615 wd_630 (Nat.le_of_ble_eq_true rfl) (Nat.le_trans (Nat.add_le_add_right (z_s1 (z_sq z_s0)) 14) (Nat.le_of_ble_eq_true rfl)) dJ7_copyOf_1904c_3 ?_
  refine z_callSq (As := [va_rf x0, .int x1, va_rf (some mi)]) (st := []) S (z_ECok D cy A t0 mi) hE (me_J7_copyOf_6403c l D cy A t0 mi _ u x0 x1 (some mi) hw) gS_J7_300 hdS_J7_copyOf_6403c ⟨Nat.le_of_ble_eq_true rfl, Nat.le_of_ble_eq_true rfl⟩ rfl rfl (fun _ h => h.re) (fun _ _ _ h h' => h.ba h') rfl (Nat.le_trans z_s0 (by decide)) dJ7_copyOf_1904c_6 ⟨(Nat.le_of_ble_eq_true rfl), (Nat.le_of_ble_eq_true rfl)⟩ rfl (fun r2 u2 hw => ?_)
  obtain ⟨hw, hm2⟩ := hw
  have hka1 := hm2.k hka1
  exact z_caret r2 S hr (Or.inr ⟨_, rfl⟩) hlk dJ7_copyOf_1904c_9 (Nat.le_of_ble_eq_true rfl) (Nat.le_of_ble_eq_true rfl) hw
theorem me_J7_copyOf_1904c (l : Launch) (D : va_G) (cy : Nat → ClassId) (A : Nat → Prop) (t0 mi : Nat) (post : Option Nat → z_St → Prop) (u : z_St) (x0 : Option Nat) (x1 : Int32) (hw : w_J7_copyOf_1904c post t0 mi u x0 x1) : z_Mq l yJ7_copyOf_1904c (Cond.code yJ7_copyOf_1904c cJ7_copyOf_1904c 2 (some (.array (.object "java/lang/Object"))) :: z_T) rm_J7_copyOf_1904c [va_rf x0, .int x1] (z_EC D cy A t0 mi) (z_hC D cy A t0 u) u (fun r u' => post r u' ∧ z_mono u u') 1 24 A :=
  z_met (by decide) (by simp [lg_sl, z_rfc, z_ic]) (fun p e s m args below meth c S hlk hr hnm hE => (by simp [lv_args, z_rfc, z_ic] : lv_args 0 [va_rf x0, .int x1] = [(0, va_rf x0), (1, .int x1)]) ▸ mb_J7_copyOf_1904c S hlk hr hE u x0 x1 hw)
abbrev rm_Jx4a65c_grow_92f84 : Room := { frames := 3, cells := 1, slots := 24, locals := 84 }
def w_Jx4a65c_grow_92f84_20 (post : Option Nat → z_St → Prop) (t0 mi h0 : Nat) (u : z_St) (x1 : Int32) (x2 : Int32) : Prop := (w_J8_newLength_cabcc (fun r1 u1 => (w_J7_copyOf_1904c (fun r2 u2 => (post r2 (z_pR 36 h0 r2 u2))) t0 mi u1 (z_gR 36 h0 u1) r1)) t0 mi u x2 (x1 - x2) (x2 >>> (1 &&& 31)))
def w_Jx4a65c_grow_92f84 (post : Option Nat → z_St → Prop) (t0 mi h0 : Nat) (u : z_St) (x1 : Int32) : Prop := (∃ a1 : Nat, z_gR 36 h0 u = some a1 ∧ (z_kd a1 u = 15 ∨ z_kd a1 u = 16) ∧ (∀ x2_1 : Int32, x2_1 = nI (z_ln a1 u) → ((0 < x2_1 → (w_Jx4a65c_grow_92f84_20 post t0 mi h0 u x1 x2_1)) ∧ (¬ 0 < x2_1 → ((z_gR 36 h0 u = some t0 → (∀ q4 : Int32, q4 = (if 10 < x1 then x1 else 10) → (¬ q4 < 0 ∧ q4.toNatClampNeg ≤ 24 ∧ (∀ a2 : Nat, z_kd a2 u = 0 → (post (some a2) (z_pR 36 h0 (some a2) (z_nA 15 a2 q4.toNatClampNeg u))))))) ∧ (¬ z_gR 36 h0 u = some t0 → (w_Jx4a65c_grow_92f84_20 post t0 mi h0 u x1 x2_1)))))))
set_option maxRecDepth 20000 in
theorem mb_Jx4a65c_grow_92f84_20 {p : Program} {l : Launch} {e : Env} {s : State} {m : MethodId} {args : Array Value} {below : List Frame} {meth : Method} {c : Code} {D : va_G} {cy : Nat → ClassId} {A : Nat → Prop} {t0 mi : Nat} {u0 : z_St} {h0 : Nat} (S : CallFix p m c cJx4a65c_grow_92f84 4 s args z_T RJx4a65c) (hlk : meth.locks = false) (hr : meth.sig.returnType = (some (.array (.object "java/lang/Object")))) (hE : z_EC D cy A t0 mi s) {post : Option Nat → z_St → Prop}  (u : z_St) (x1 : Int32) (x2 : Int32) (hkh0 : z_kd h0 u = 1 ∧ 1 ≠ 0) (hw : w_Jx4a65c_grow_92f84_20 post t0 mi h0 u x1 x2) : z_V A (z_hC D cy A t0 u0) p l e rm_Jx4a65c_grow_92f84 s m args below meth c 4 (MQ below (va_Qq (fun r (u' : z_St) => post r u' ∧ z_mono u0 u') (fun (u' : z_St) t => z_hC D cy A t0 u0 u' t.heap) A) args s 1 24 A) 0 0 u 20 [(0, va_rf (some h0)), (1, .int x1), (2, .int x2)] [] := by
  refine z_iload_n S 2 dJx4a65c_grow_92f84_20 rfl rfl ?_
  refine z_iload_n S 1 dJx4a65c_grow_92f84_21 rfl rfl ?_
  refine z_iload_n S 2 dJx4a65c_grow_92f84_22 rfl rfl ?_
  refine z_isub S dJx4a65c_grow_92f84_23 ?_
  refine z_iload_n S 2 dJx4a65c_grow_92f84_24 rfl rfl ?_
  refine z_iconst (v := 1) S dJx4a65c_grow_92f84_25 (by decide) ?_
  refine z_ishr S dJx4a65c_grow_92f84_26 ?_
  refine z_callSi (As := [.int x2, .int (x1 - x2), .int (x2 >>> (1 &&& 31))]) (st := []) S (z_ECok D cy A t0 mi) hE (me_J8_newLength_cabcc l D cy A t0 mi _ u x2 (x1 - x2) (x2 >>> (1 &&& 31)) hw) gS_Jx4a65c_73 hdS_J8_newLength_cabcc ⟨Nat.le_of_ble_eq_true rfl, Nat.le_of_ble_eq_true rfl⟩ rfl rfl (fun _ h => h.re) (fun _ _ _ h h' => h.ba h') rfl (Nat.le_trans z_s0 (by decide)) dJx4a65c_grow_92f84_27 ⟨(Nat.le_of_ble_eq_true rfl), (Nat.le_of_ble_eq_true rfl)⟩ rfl (fun r1 u1 hw => ?_)
  obtain ⟨hw, hm1⟩ := hw
  have hkh0 := hm1.k hkh0
  refine z_istore_n S [(3, .int r1), (0, va_rf (some h0)), (1, .int x1), (2, .int x2)] dJx4a65c_grow_92f84_30 rfl (by decide) rfl ?_
  refine z_lv (lv' := [(0, va_rf (some h0)), (1, .int x1), (2, .int x2), (3, .int r1)]) [1, 2, 3, 0] rfl ?_
  refine z_aload_n (x := some h0) S 0 dJx4a65c_grow_92f84_31 rfl rfl ?_
  refine z_aload_n (x := some h0) S 0 dJx4a65c_grow_92f84_32 rfl rfl ?_
  refine zb_g_Jx4a65c_9 (x := z_gR 36 h0 u1) S hE hkh0 rfl dJx4a65c_grow_92f84_33 ?_
  refine z_iload_n S 3 dJx4a65c_grow_92f84_36 rfl rfl ?_
  refine z_callSq (As := [va_rf (z_gR 36 h0 u1), .int r1]) (st := [va_rf (some h0)]) S (z_ECok D cy A t0 mi) hE (me_J7_copyOf_1904c l D cy A t0 mi _ u1 (z_gR 36 h0 u1) r1 hw) gS_Jx4a65c_66 hdS_J7_copyOf_1904c ⟨Nat.le_of_ble_eq_true rfl, Nat.le_of_ble_eq_true rfl⟩ rfl rfl (fun _ h => h.re) (fun _ _ _ h h' => h.ba h') rfl (Nat.le_trans (z_sq z_s0) (by decide)) dJx4a65c_grow_92f84_37 ⟨(Nat.le_of_ble_eq_true rfl), (Nat.le_of_ble_eq_true rfl)⟩ rfl (fun r2 u2 hw => ?_)
  obtain ⟨hw, hm2⟩ := hw
  have hkh0 := hm2.k hkh0
  refine z_dup_x1 S dJx4a65c_grow_92f84_40 (z_rfc r2) (z_rfc (some h0)) ?_
  refine zb_p_Jx4a65c_9 r2 S hE hkh0 dJx4a65c_grow_92f84_41 ?_
  exact z_caret r2 S hr (Or.inr ⟨_, rfl⟩) hlk dJx4a65c_grow_92f84_44 (Nat.le_of_ble_eq_true rfl) (Nat.le_of_ble_eq_true rfl) hw
set_option maxRecDepth 20000 in
theorem mb_Jx4a65c_grow_92f84 {p : Program} {l : Launch} {e : Env} {s : State} {m : MethodId} {args : Array Value} {below : List Frame} {meth : Method} {c : Code} {D : va_G} {cy : Nat → ClassId} {A : Nat → Prop} {t0 mi : Nat} {u0 : z_St} {h0 : Nat} (S : CallFix p m c cJx4a65c_grow_92f84 4 s args z_T RJx4a65c) (hlk : meth.locks = false) (hr : meth.sig.returnType = (some (.array (.object "java/lang/Object")))) (hE : z_EC D cy A t0 mi s) {post : Option Nat → z_St → Prop}  (u : z_St) (x1 : Int32) (hkh0 : z_kd h0 u = 1 ∧ 1 ≠ 0) (hw : w_Jx4a65c_grow_92f84 post t0 mi h0 u x1) : z_V A (z_hC D cy A t0 u0) p l e rm_Jx4a65c_grow_92f84 s m args below meth c 4 (MQ below (va_Qq (fun r (u' : z_St) => post r u' ∧ z_mono u0 u') (fun (u' : z_St) t => z_hC D cy A t0 u0 u' t.heap) A) args s 1 24 A) 0 0 u 0 [(0, va_rf (some h0)), (1, .int x1)] [] := by
  refine z_aload_n (x := some h0) S 0 dJx4a65c_grow_92f84_0 rfl rfl ?_
  refine zb_g_Jx4a65c_9 (x := z_gR 36 h0 u) S hE hkh0 rfl dJx4a65c_grow_92f84_1 ?_
  obtain ⟨a1, ea1, hka1, hw⟩ := hw
  refine z_st (st' := [va_rf (some a1)]) (congrArg (fun r : Option Nat => ([va_rf r] : List Value)) ea1) ?_
  refine z_calenB S hE hka1 dJx4a65c_grow_92f84_4 ?_
  refine z_top (fun x2_1 ex2_1 => ?_)
  have hw := hw x2_1 ex2_1
  refine z_istore_n S [(2, .int x2_1), (0, va_rf (some h0)), (1, .int x1)] dJx4a65c_grow_92f84_5 rfl (by decide) rfl ?_
  refine z_lv (lv' := [(0, va_rf (some h0)), (1, .int x1), (2, .int x2_1)]) [1, 2, 0] rfl ?_
  refine z_iload_n S 2 dJx4a65c_grow_92f84_6 rfl rfl ?_
  refine z_if_gt S 20 dJx4a65c_grow_92f84_7 (by decide) (fun c2 => ?_) (fun c2 => ?_)
  · have hw := hw.1 c2
    exact mb_Jx4a65c_grow_92f84_20 S hlk hr hE u x1 x2_1 hkh0 hw
  · have hw := hw.2 c2
    refine z_aload_n (x := some h0) S 0 dJx4a65c_grow_92f84_10 rfl rfl ?_
    refine zb_g_Jx4a65c_9 (x := z_gR 36 h0 u) S hE hkh0 rfl dJx4a65c_grow_92f84_11 ?_
    refine z_cgetsD S hE wd_138 dJx4a65c_grow_92f84_14 ?_
    refine z_acmp_eq (rx := z_gR 36 h0 u) (ry := some t0) S 45 dJx4a65c_grow_92f84_17 (by decide) (fun c3 => ?_) (fun c3 => ?_)
    · have hw := hw.1 c3
      refine z_aload_n (x := some h0) S 0 dJx4a65c_grow_92f84_45 rfl rfl ?_
      refine z_bipush (v := 10) S dJx4a65c_grow_92f84_46 (by decide) ?_
      refine z_iload_n S 1 dJx4a65c_grow_92f84_48 rfl rfl ?_
      refine z_mmax S wd_641 wd_447 wd_66 wd_448 (Nat.le_of_ble_eq_true rfl) (Nat.le_trans (Nat.add_le_add_right (z_sq z_s0) 13) (Nat.le_of_ble_eq_true rfl)) (Nat.le_of_ble_eq_true rfl) (Nat.le_of_ble_eq_true rfl) dJx4a65c_grow_92f84_49 ?_
      have hw := hw _ rfl
      revert hw
      generalize (if 10 < x1 then x1 else 10) = q4
      intro hw
      obtain ⟨hi5, hi6, hw⟩ := hw
      refine z_cnewRb (κ := 15) 24 S hE (by decide) rfl wd_642 (nw_ao_15 (z_ECnw hE)) hi5 hi6 (by decide) (Nat.le_of_ble_eq_true rfl) (Nat.le_of_ble_eq_true rfl) dJx4a65c_grow_92f84_52 (fun a2 hza2 => ?_)
      have hw := hw a2 hza2
      have hkh0 := z_kA (κ' := 15) (N := q4.toNatClampNeg) hza2 hkh0
      have hka2 : z_kd a2 (z_nA 15 a2 q4.toNatClampNeg u) = 15 ∧ 15 ≠ 0 := z_kAs (by decide)
      refine z_dup_x1 S dJx4a65c_grow_92f84_55 (z_rfc (some a2)) (z_rfc (some h0)) ?_
      refine zb_p_Jx4a65c_9 (some a2) S hE hkh0 dJx4a65c_grow_92f84_56 ?_
      exact z_caret (some a2) S hr (Or.inr ⟨_, rfl⟩) hlk dJx4a65c_grow_92f84_59 (Nat.le_of_ble_eq_true rfl) (Nat.le_of_ble_eq_true rfl) hw
    · have hw := hw.2 c3
      exact mb_Jx4a65c_grow_92f84_20 S hlk hr hE u x1 x2_1 hkh0 hw
theorem me_Jx4a65c_grow_92f84 (l : Launch) (D : va_G) (cy : Nat → ClassId) (A : Nat → Prop) (t0 mi : Nat) (post : Option Nat → z_St → Prop) (u : z_St) (h0 : Nat) (x1 : Int32) (hkh0 : z_kd h0 u = 1 ∧ 1 ≠ 0) (hw : w_Jx4a65c_grow_92f84 post t0 mi h0 u x1) : z_Mq l yJx4a65c_grow_92f84 (Cond.code yJx4a65c_grow_92f84 cJx4a65c_grow_92f84 4 (some (.array (.object "java/lang/Object"))) :: z_T) rm_Jx4a65c_grow_92f84 [va_rf (some h0), .int x1] (z_EC D cy A t0 mi) (z_hC D cy A t0 u) u (fun r u' => post r u' ∧ z_mono u u') 1 24 A :=
  z_met (by decide) (Nat.le_of_ble_eq_true rfl) (fun p e s m args below meth c S hlk hr hnm hE => mb_Jx4a65c_grow_92f84 S hlk hr hE u x1 hkh0 hw)
abbrev rm_Jx4a65c_grow_d5877 : Room := { frames := 4, cells := 1, slots := 24, locals := 107 }
def w_Jx4a65c_grow_d5877 (post : Option Nat → z_St → Prop) (t0 mi h0 : Nat) (u : z_St)  : Prop := (w_Jx4a65c_grow_92f84 (fun r1 u1 => (post r1 u1)) t0 mi h0 u ((z_gI 37 h0 u) + 1))
set_option maxRecDepth 20000 in
theorem mb_Jx4a65c_grow_d5877 {p : Program} {l : Launch} {e : Env} {s : State} {m : MethodId} {args : Array Value} {below : List Frame} {meth : Method} {c : Code} {D : va_G} {cy : Nat → ClassId} {A : Nat → Prop} {t0 mi : Nat} {u0 : z_St} {h0 : Nat} (S : CallFix p m c cJx4a65c_grow_d5877 1 s args z_T RJx4a65c) (hlk : meth.locks = false) (hr : meth.sig.returnType = (some (.array (.object "java/lang/Object")))) (hE : z_EC D cy A t0 mi s) {post : Option Nat → z_St → Prop}  (u : z_St)  (hkh0 : z_kd h0 u = 1 ∧ 1 ≠ 0) (hw : w_Jx4a65c_grow_d5877 post t0 mi h0 u ) : z_V A (z_hC D cy A t0 u0) p l e rm_Jx4a65c_grow_d5877 s m args below meth c 1 (MQ below (va_Qq (fun r (u' : z_St) => post r u' ∧ z_mono u0 u') (fun (u' : z_St) t => z_hC D cy A t0 u0 u' t.heap) A) args s 1 24 A) 0 0 u 0 [(0, va_rf (some h0))] [] := by
  refine z_aload_n (x := some h0) S 0 dJx4a65c_grow_d5877_0 rfl rfl ?_
  refine z_aload_n (x := some h0) S 0 dJx4a65c_grow_d5877_1 rfl rfl ?_
  refine zb_g_Jx4a65c_48 (x := z_gI 37 h0 u) S hE hkh0 rfl dJx4a65c_grow_d5877_2 ?_
  refine z_iconst (v := 1) S dJx4a65c_grow_d5877_5 (by decide) ?_
  refine z_iadd S dJx4a65c_grow_d5877_6 ?_
  refine z_callVq (As := [.int ((z_gI 37 h0 u) + 1)]) (st := []) S (z_ECok D cy A t0 mi) hE (me_Jx4a65c_grow_92f84 l D cy A t0 mi _ u h0 ((z_gI 37 h0 u) + 1) hkh0 hw) gV_Jx4a65c_69 hdV_Jx4a65c_grow_92f84 ⟨Nat.le_of_ble_eq_true rfl, Nat.le_of_ble_eq_true rfl⟩ rfl rfl (z_recvC (u := u) hE hkh0 (by decide) rfl) (fun _ h => h.re) (fun _ _ _ h h' => h.ba h') rfl (Nat.le_trans z_s0 (by decide)) dJx4a65c_grow_d5877_7 ⟨(Nat.le_of_ble_eq_true rfl), (Nat.le_of_ble_eq_true rfl)⟩ rfl (fun r1 u1 hw => ?_)
  obtain ⟨hw, hm1⟩ := hw
  have hkh0 := hm1.k hkh0
  exact z_caret r1 S hr (Or.inr ⟨_, rfl⟩) hlk dJx4a65c_grow_d5877_10 (Nat.le_of_ble_eq_true rfl) (Nat.le_of_ble_eq_true rfl) hw
theorem me_Jx4a65c_grow_d5877 (l : Launch) (D : va_G) (cy : Nat → ClassId) (A : Nat → Prop) (t0 mi : Nat) (post : Option Nat → z_St → Prop) (u : z_St) (h0 : Nat) (hkh0 : z_kd h0 u = 1 ∧ 1 ≠ 0) (hw : w_Jx4a65c_grow_d5877 post t0 mi h0 u ) : z_Mq l yJx4a65c_grow_d5877 (Cond.code yJx4a65c_grow_d5877 cJx4a65c_grow_d5877 1 (some (.array (.object "java/lang/Object"))) :: z_T) rm_Jx4a65c_grow_d5877 [va_rf (some h0)] (z_EC D cy A t0 mi) (z_hC D cy A t0 u) u (fun r u' => post r u' ∧ z_mono u u') 1 24 A :=
  z_met (by decide) (Nat.le_of_ble_eq_true rfl) (fun p e s m args below meth c S hlk hr hnm hE => mb_Jx4a65c_grow_d5877 S hlk hr hE u  hkh0 hw)
abbrev rm_Jx4a65c_add_72be8 : Room := { frames := 5, cells := 1, slots := 24, locals := 127 }
def w_Jx4a65c_add_72be8_11 (post : z_St → Prop) (t0 mi h0 : Nat) (u : z_St) (x1 : Option Nat) (x2 : Option Nat) (x3 : Int32) : Prop := (∃ a1 : Nat, x2 = some a1 ∧ z_kd a1 u = 15 ∧ (∃ a2 : Nat, x1 = some a2 ∧ z_kd a2 u = 5 ∧ (vp_in x3 (z_ln a1 u) ∧ (post (z_pI 37 h0 (x3 + 1) (z_sR a1 x3.toNatClampNeg (some a2) u))))))
def w_Jx4a65c_add_72be8 (post : z_St → Prop) (t0 mi h0 : Nat) (u : z_St) (x1 : Option Nat) (x2 : Option Nat) (x3 : Int32) : Prop := (∃ a1 : Nat, x2 = some a1 ∧ (z_kd a1 u = 15 ∨ z_kd a1 u = 16) ∧ ((¬ x3 = (nI (z_ln a1 u)) → (w_Jx4a65c_add_72be8_11 post t0 mi h0 u x1 x2 x3)) ∧ (x3 = (nI (z_ln a1 u)) → (w_Jx4a65c_grow_d5877 (fun r2 u2 => (w_Jx4a65c_add_72be8_11 post t0 mi h0 u2 x1 r2 x3)) t0 mi h0 u ))))
set_option maxRecDepth 20000 in
theorem mb_Jx4a65c_add_72be8_11 {p : Program} {l : Launch} {e : Env} {s : State} {m : MethodId} {args : Array Value} {below : List Frame} {meth : Method} {c : Code} {D : va_G} {cy : Nat → ClassId} {A : Nat → Prop} {t0 mi : Nat} {u0 : z_St} {h0 : Nat} (S : CallFix p m c cJx4a65c_add_72be8 4 s args z_T RJx4a65c) (hlk : meth.locks = false) (hr : meth.sig.returnType = none) (hE : z_EC D cy A t0 mi s) {post : z_St → Prop}  (u : z_St) (x1 : Option Nat) (x2 : Option Nat) (x3 : Int32) (hkh0 : z_kd h0 u = 1 ∧ 1 ≠ 0) (hw : w_Jx4a65c_add_72be8_11 post t0 mi h0 u x1 x2 x3) : z_V A (z_hC D cy A t0 u0) p l e rm_Jx4a65c_add_72be8 s m args below meth c 4 (MQ below (va_Qv (fun (u' : z_St) => post u' ∧ z_mono u0 u') (fun (u' : z_St) t => z_hC D cy A t0 u0 u' t.heap) A) args s 1 24 A) 1 24 u 11 [(0, va_rf (some h0)), (1, va_rf x1), (2, va_rf x2), (3, .int x3)] [] := by
  refine z_aload_n (x := x2) S 2 dJx4a65c_add_72be8_11 rfl rfl ?_
  refine z_iload_n S 3 dJx4a65c_add_72be8_12 rfl rfl ?_
  refine z_aload_n (x := x1) S 1 dJx4a65c_add_72be8_13 rfl rfl ?_
  obtain ⟨a1, ea1, hka1, hw⟩ := hw
  have hka1 : z_kd a1 u = 15 ∧ 15 ≠ 0 := ⟨hka1, by decide⟩
  obtain ⟨a2, ea2, hka2, hw⟩ := hw
  have hka2 : z_kd a2 u = 5 ∧ 5 ≠ 0 := ⟨hka2, by decide⟩
  obtain ⟨hi1, hw⟩ := hw
  refine z_st (st' := [va_rf (some a2), .int x3, va_rf x2]) (congrArg (fun r : Option Nat => ([va_rf r, .int x3, va_rf x2] : List Value)) ea2) ?_
  refine z_st (st' := [va_rf (some a2), .int x3, va_rf (some a1)]) (congrArg (fun r : Option Nat => ([va_rf (some a2), .int x3, va_rf r] : List Value)) ea1) ?_
  refine z_caast (κ := 15) (κv := 5) (v := a2) S hE hka1 (by decide) rfl hka2 (by decide) rfl (fun comp c0 g1 g2 => (vb_asgC (nw_msg (z_ECnw hE)) comp c0 g1 g2.1)) hi1 dJx4a65c_add_72be8_14 ?_
  refine z_aload_n (x := some h0) S 0 dJx4a65c_add_72be8_15 rfl rfl ?_
  refine z_iload_n S 3 dJx4a65c_add_72be8_16 rfl rfl ?_
  refine z_iconst (v := 1) S dJx4a65c_add_72be8_17 (by decide) ?_
  refine z_iadd S dJx4a65c_add_72be8_18 ?_
  refine zb_p_Jx4a65c_48 S hE hkh0 dJx4a65c_add_72be8_19 ?_
  exact z_cvret S hr hlk dJx4a65c_add_72be8_22 (Nat.le_of_ble_eq_true rfl) (Nat.le_of_ble_eq_true rfl) hw
set_option maxRecDepth 20000 in
theorem mb_Jx4a65c_add_72be8 {p : Program} {l : Launch} {e : Env} {s : State} {m : MethodId} {args : Array Value} {below : List Frame} {meth : Method} {c : Code} {D : va_G} {cy : Nat → ClassId} {A : Nat → Prop} {t0 mi : Nat} {u0 : z_St} {h0 : Nat} (S : CallFix p m c cJx4a65c_add_72be8 4 s args z_T RJx4a65c) (hlk : meth.locks = false) (hr : meth.sig.returnType = none) (hE : z_EC D cy A t0 mi s) {post : z_St → Prop}  (u : z_St) (x1 : Option Nat) (x2 : Option Nat) (x3 : Int32) (hkh0 : z_kd h0 u = 1 ∧ 1 ≠ 0) (hw : w_Jx4a65c_add_72be8 post t0 mi h0 u x1 x2 x3) : z_V A (z_hC D cy A t0 u0) p l e rm_Jx4a65c_add_72be8 s m args below meth c 4 (MQ below (va_Qv (fun (u' : z_St) => post u' ∧ z_mono u0 u') (fun (u' : z_St) t => z_hC D cy A t0 u0 u' t.heap) A) args s 1 24 A) 0 0 u 0 [(0, va_rf (some h0)), (1, va_rf x1), (2, va_rf x2), (3, .int x3)] [] := by
  refine z_iload_n S 3 dJx4a65c_add_72be8_0 rfl rfl ?_
  refine z_aload_n (x := x2) S 2 dJx4a65c_add_72be8_1 rfl rfl ?_
  obtain ⟨a1, ea1, hka1, hw⟩ := hw
  refine z_st (st' := [va_rf (some a1), .int x3]) (congrArg (fun r : Option Nat => ([va_rf r, .int x3] : List Value)) ea1) ?_
  refine z_calenB S hE hka1 dJx4a65c_add_72be8_2 ?_
  refine z_icmp_ne S 11 dJx4a65c_add_72be8_3 (by decide) (fun c1 => ?_) (fun c1 => ?_)
  · have hw := hw.1 c1
    refine z_widen (k' := 1) (n' := 24) (Nat.le_of_ble_eq_true rfl) (Nat.le_of_ble_eq_true rfl) ?_
    exact mb_Jx4a65c_add_72be8_11 S hlk hr hE u x1 x2 x3 hkh0 hw
  · have hw := hw.2 c1
    refine z_aload_n (x := some h0) S 0 dJx4a65c_add_72be8_6 rfl rfl ?_
    refine z_callVq (As := []) (st := []) S (z_ECok D cy A t0 mi) hE (me_Jx4a65c_grow_d5877 l D cy A t0 mi _ u h0 hkh0 hw) gV_Jx4a65c_129 hdV_Jx4a65c_grow_d5877 ⟨Nat.le_of_ble_eq_true rfl, Nat.le_of_ble_eq_true rfl⟩ rfl rfl (z_recvC (u := u) hE hkh0 (by decide) rfl) (fun _ h => h.re) (fun _ _ _ h h' => h.ba h') rfl (Nat.le_trans z_s0 (by decide)) dJx4a65c_add_72be8_7 ⟨(Nat.le_of_ble_eq_true rfl), (Nat.le_of_ble_eq_true rfl)⟩ rfl (fun r2 u2 hw => ?_)
    obtain ⟨hw, hm2⟩ := hw
    have hkh0 := hm2.k hkh0
    refine z_astore_n (x := r2) S [(2, va_rf r2), (0, va_rf (some h0)), (1, va_rf x1), (3, .int x3)] dJx4a65c_add_72be8_10 rfl (by decide) (by simp only [List.filter, z_rfc]; rfl) ?_
    refine z_lv (lv' := [(0, va_rf (some h0)), (1, va_rf x1), (2, va_rf r2), (3, .int x3)]) [1, 2, 0, 3] rfl ?_
    exact mb_Jx4a65c_add_72be8_11 S hlk hr hE u2 x1 r2 x3 hkh0 hw
theorem me_Jx4a65c_add_72be8 (l : Launch) (D : va_G) (cy : Nat → ClassId) (A : Nat → Prop) (t0 mi : Nat) (post : z_St → Prop) (u : z_St) (h0 : Nat) (x1 : Option Nat) (x2 : Option Nat) (x3 : Int32) (hkh0 : z_kd h0 u = 1 ∧ 1 ≠ 0) (hw : w_Jx4a65c_add_72be8 post t0 mi h0 u x1 x2 x3) : z_Mv l yJx4a65c_add_72be8 (Cond.code yJx4a65c_add_72be8 cJx4a65c_add_72be8 4 none :: z_T) rm_Jx4a65c_add_72be8 [va_rf (some h0), va_rf x1, va_rf x2, .int x3] (z_EC D cy A t0 mi) (z_hC D cy A t0 u) u (fun u' => post u' ∧ z_mono u u') 1 24 A :=
  z_met (by decide) (by simp [lg_sl, z_rfc, z_ic]) (fun p e s m args below meth c S hlk hr hnm hE => (by simp [lv_args, z_rfc, z_ic] : lv_args 0 [va_rf (some h0), va_rf x1, va_rf x2, .int x3] = [(0, va_rf (some h0)), (1, va_rf x1), (2, va_rf x2), (3, .int x3)]) ▸ mb_Jx4a65c_add_72be8 S hlk hr hE u x1 x2 x3 hkh0 hw)
abbrev rm_Jx4a65c_add_9ea2d : Room := { frames := 6, cells := 1, slots := 24, locals := 150 }
def w_Jx4a65c_add_9ea2d (post : Int32 → z_St → Prop) (t0 mi h0 : Nat) (u : z_St) (x1 : Option Nat) : Prop := (w_Jx4a65c_add_72be8 (fun u1 => (post 1 u1)) t0 mi h0 (z_pI 35 h0 ((z_gI 35 h0 u) + 1) u) x1 (z_gR 36 h0 u) (z_gI 37 h0 u))
set_option maxRecDepth 20000 in
theorem mb_Jx4a65c_add_9ea2d {p : Program} {l : Launch} {e : Env} {s : State} {m : MethodId} {args : Array Value} {below : List Frame} {meth : Method} {c : Code} {D : va_G} {cy : Nat → ClassId} {A : Nat → Prop} {t0 mi : Nat} {u0 : z_St} {h0 : Nat} (S : CallFix p m c cJx4a65c_add_9ea2d 2 s args z_T RJx4a65c) (hlk : meth.locks = false) (hr : meth.sig.returnType = (some .boolean)) (hE : z_EC D cy A t0 mi s) {post : Int32 → z_St → Prop}  (u : z_St) (x1 : Option Nat) (hkh0 : z_kd h0 u = 1 ∧ 1 ≠ 0) (hw : w_Jx4a65c_add_9ea2d post t0 mi h0 u x1) : z_V A (z_hC D cy A t0 u0) p l e rm_Jx4a65c_add_9ea2d s m args below meth c 2 (MQ below (va_Qi (fun r (u' : z_St) => post r u' ∧ z_mono u0 u') (fun (u' : z_St) t => z_hC D cy A t0 u0 u' t.heap) A) args s 1 24 A) 0 0 u 0 [(0, va_rf (some h0)), (1, va_rf x1)] [] := by
  refine z_aload_n (x := some h0) S 0 dJx4a65c_add_9ea2d_0 rfl rfl ?_
  refine z_dup S dJx4a65c_add_9ea2d_1 (z_rfc (some h0)) ?_
  refine zb_g_Jx4a65c_63 (x := z_gI 35 h0 u) S hE hkh0 rfl dJx4a65c_add_9ea2d_2 ?_
  refine z_iconst (v := 1) S dJx4a65c_add_9ea2d_5 (by decide) ?_
  refine z_iadd S dJx4a65c_add_9ea2d_6 ?_
  refine zb_p_Jx4a65c_63 S hE hkh0 dJx4a65c_add_9ea2d_7 ?_
  refine z_aload_n (x := some h0) S 0 dJx4a65c_add_9ea2d_10 rfl rfl ?_
  refine z_aload_n (x := x1) S 1 dJx4a65c_add_9ea2d_11 rfl rfl ?_
  refine z_aload_n (x := some h0) S 0 dJx4a65c_add_9ea2d_12 rfl rfl ?_
  refine zb_g_Jx4a65c_9 (x := z_gR 36 h0 u) S hE hkh0 rfl dJx4a65c_add_9ea2d_13 ?_
  refine z_aload_n (x := some h0) S 0 dJx4a65c_add_9ea2d_16 rfl rfl ?_
  refine zb_g_Jx4a65c_48 (x := z_gI 37 h0 u) S hE hkh0 rfl dJx4a65c_add_9ea2d_17 ?_
  refine z_callVv (As := [va_rf x1, va_rf (z_gR 36 h0 u), .int (z_gI 37 h0 u)]) (st := []) S (z_ECok D cy A t0 mi) hE (me_Jx4a65c_add_72be8 l D cy A t0 mi _ (z_pI 35 h0 ((z_gI 35 h0 u) + 1) u) h0 x1 (z_gR 36 h0 u) (z_gI 37 h0 u) hkh0 hw) gV_Jx4a65c_131 hdV_Jx4a65c_add_72be8 ⟨Nat.le_of_ble_eq_true rfl, Nat.le_of_ble_eq_true rfl⟩ rfl rfl (z_recvC (u := z_pI 35 h0 ((z_gI 35 h0 u) + 1) u) hE hkh0 (by decide) rfl) (fun _ h => h.re) (fun _ _ _ h h' => h.ba h') rfl (Nat.le_trans z_s0 (by decide)) dJx4a65c_add_9ea2d_20 ⟨(Nat.le_of_ble_eq_true rfl), (Nat.le_of_ble_eq_true rfl)⟩ rfl (fun u1 hw => ?_)
  obtain ⟨hw, hm1⟩ := hw
  have hkh0 := hm1.k hkh0
  refine z_iconst (v := 1) S dJx4a65c_add_9ea2d_23 (by decide) ?_
  exact z_czret S hr hlk dJx4a65c_add_9ea2d_24 (Nat.le_of_ble_eq_true rfl) (Nat.le_of_ble_eq_true rfl) rfl hw
theorem me_Jx4a65c_add_9ea2d (l : Launch) (D : va_G) (cy : Nat → ClassId) (A : Nat → Prop) (t0 mi : Nat) (post : Int32 → z_St → Prop) (u : z_St) (h0 : Nat) (x1 : Option Nat) (hkh0 : z_kd h0 u = 1 ∧ 1 ≠ 0) (hw : w_Jx4a65c_add_9ea2d post t0 mi h0 u x1) : z_Mi l yJx4a65c_add_9ea2d (Cond.code yJx4a65c_add_9ea2d cJx4a65c_add_9ea2d 2 (some .boolean) :: z_T) rm_Jx4a65c_add_9ea2d [va_rf (some h0), va_rf x1] (z_EC D cy A t0 mi) (z_hC D cy A t0 u) u (fun r u' => post r u' ∧ z_mono u u') 1 24 A :=
  z_met (by decide) (by simp [lg_sl, z_rfc, z_ic]) (fun p e s m args below meth c S hlk hr hnm hE => (by simp [lv_args, z_rfc, z_ic] : lv_args 0 [va_rf (some h0), va_rf x1] = [(0, va_rf (some h0)), (1, va_rf x1)]) ▸ mb_Jx4a65c_add_9ea2d S hlk hr hE u x1 hkh0 hw)
abbrev rm_Jx4a65c_size_8abf5 : Room := { frames := 0, cells := 0, slots := 0, locals := 0 }
def w_Jx4a65c_size_8abf5 (post : Int32 → z_St → Prop) (t0 mi h0 : Nat) (u : z_St)  : Prop := (post (z_gI 37 h0 u) u)
set_option maxRecDepth 20000 in
theorem mb_Jx4a65c_size_8abf5 {p : Program} {l : Launch} {e : Env} {s : State} {m : MethodId} {args : Array Value} {below : List Frame} {meth : Method} {c : Code} {D : va_G} {cy : Nat → ClassId} {A : Nat → Prop} {t0 mi : Nat} {u0 : z_St} {h0 : Nat} (S : CallFix p m c cJx4a65c_size_8abf5 1 s args z_T RJx4a65c) (hlk : meth.locks = false) (hr : meth.sig.returnType = (some .int)) (hE : z_EC D cy A t0 mi s) {post : Int32 → z_St → Prop}  (u : z_St)  (hkh0 : z_kd h0 u = 1 ∧ 1 ≠ 0) (hw : w_Jx4a65c_size_8abf5 post t0 mi h0 u ) : z_V A (z_hC D cy A t0 u0) p l e rm_Jx4a65c_size_8abf5 s m args below meth c 1 (MQ below (va_Qi (fun r (u' : z_St) => post r u' ∧ z_mono u0 u') (fun (u' : z_St) t => z_hC D cy A t0 u0 u' t.heap) A) args s 0 0 A) 0 0 u 0 [(0, va_rf (some h0))] [] := by
  refine z_aload_n (x := some h0) S 0 dJx4a65c_size_8abf5_0 rfl rfl ?_
  refine zb_g_Jx4a65c_48 (x := z_gI 37 h0 u) S hE hkh0 rfl dJx4a65c_size_8abf5_1 ?_
  exact z_ciret S hr hlk dJx4a65c_size_8abf5_4 (Nat.le_of_ble_eq_true rfl) (Nat.le_of_ble_eq_true rfl) hw
theorem me_Jx4a65c_size_8abf5 (l : Launch) (D : va_G) (cy : Nat → ClassId) (A : Nat → Prop) (t0 mi : Nat) (post : Int32 → z_St → Prop) (u : z_St) (h0 : Nat) (hkh0 : z_kd h0 u = 1 ∧ 1 ≠ 0) (hw : w_Jx4a65c_size_8abf5 post t0 mi h0 u ) : z_Mi l yJx4a65c_size_8abf5 (Cond.code yJx4a65c_size_8abf5 cJx4a65c_size_8abf5 1 (some .int) :: z_T) rm_Jx4a65c_size_8abf5 [va_rf (some h0)] (z_EC D cy A t0 mi) (z_hC D cy A t0 u) u (fun r u' => post r u' ∧ z_mono u u') 0 0 A :=
  z_met (by decide) (Nat.le_of_ble_eq_true rfl) (fun p e s m args below meth c S hlk hr hnm hE => mb_Jx4a65c_size_8abf5 S hlk hr hE u  hkh0 hw)
abbrev rm_J3_checkIndex_8e157 : Room := { frames := 0, cells := 0, slots := 0, locals := 0 }
def w_J3_checkIndex_8e157 (post : Int32 → z_St → Prop) (t0 mi : Nat) (u : z_St) (x0 : Int32) (x1 : Int32) (x2 : Option Nat) : Prop := ((x0 < 0 → False) ∧ (¬ x0 < 0 → ((x0 < x1 → (post x0 u)) ∧ (¬ x0 < x1 → False))))
set_option maxRecDepth 20000 in
theorem mb_J3_checkIndex_8e157 {p : Program} {l : Launch} {e : Env} {s : State} {m : MethodId} {args : Array Value} {below : List Frame} {meth : Method} {c : Code} {D : va_G} {cy : Nat → ClassId} {A : Nat → Prop} {t0 mi : Nat} {u0 : z_St} (S : CallFix p m c cJ3_checkIndex_8e157 3 s args z_T RJ3) (hlk : meth.locks = false) (hr : meth.sig.returnType = (some .int)) (hE : z_EC D cy A t0 mi s) {post : Int32 → z_St → Prop}  (u : z_St) (x0 : Int32) (x1 : Int32) (x2 : Option Nat) (hw : w_J3_checkIndex_8e157 post t0 mi u x0 x1 x2) : z_V A (z_hC D cy A t0 u0) p l e rm_J3_checkIndex_8e157 s m args below meth c 3 (MQ below (va_Qi (fun r (u' : z_St) => post r u' ∧ z_mono u0 u') (fun (u' : z_St) t => z_hC D cy A t0 u0 u' t.heap) A) args s 0 0 A) 0 0 u 0 [(0, .int x0), (1, .int x1), (2, va_rf x2)] [] := by
  refine z_iload_n S 0 dJ3_checkIndex_8e157_0 rfl rfl ?_
  refine z_if_lt S 9 dJ3_checkIndex_8e157_1 (by decide) (fun c1 => ?_) (fun c1 => ?_)
  · have hw := hw.1 c1
    exact hw.elim
  · have hw := hw.2 c1
    refine z_iload_n S 0 dJ3_checkIndex_8e157_4 rfl rfl ?_
    refine z_iload_n S 1 dJ3_checkIndex_8e157_5 rfl rfl ?_
    refine z_icmp_lt S 16 dJ3_checkIndex_8e157_6 (by decide) (fun c2 => ?_) (fun c2 => ?_)
    · have hw := hw.1 c2
      refine z_iload_n S 0 dJ3_checkIndex_8e157_16 rfl rfl ?_
      exact z_ciret S hr hlk dJ3_checkIndex_8e157_17 (Nat.le_of_ble_eq_true rfl) (Nat.le_of_ble_eq_true rfl) hw
    · have hw := hw.2 c2
      exact hw.elim
theorem me_J3_checkIndex_8e157 (l : Launch) (D : va_G) (cy : Nat → ClassId) (A : Nat → Prop) (t0 mi : Nat) (post : Int32 → z_St → Prop) (u : z_St) (x0 : Int32) (x1 : Int32) (x2 : Option Nat) (hw : w_J3_checkIndex_8e157 post t0 mi u x0 x1 x2) : z_Mi l yJ3_checkIndex_8e157 (Cond.code yJ3_checkIndex_8e157 cJ3_checkIndex_8e157 3 (some .int) :: z_T) rm_J3_checkIndex_8e157 [.int x0, .int x1, va_rf x2] (z_EC D cy A t0 mi) (z_hC D cy A t0 u) u (fun r u' => post r u' ∧ z_mono u u') 0 0 A :=
  z_met (by decide) (by simp [lg_sl, z_rfc, z_ic]) (fun p e s m args below meth c S hlk hr hnm hE => (by simp [lv_args, z_rfc, z_ic] : lv_args 0 [.int x0, .int x1, va_rf x2] = [(0, .int x0), (1, .int x1), (2, va_rf x2)]) ▸ mb_J3_checkIndex_8e157 S hlk hr hE u x0 x1 x2 hw)
abbrev rm_J15_checkIndex_7cf53 : Room := { frames := 1, cells := 0, slots := 0, locals := 22 }
def w_J15_checkIndex_7cf53 (post : Int32 → z_St → Prop) (t0 mi : Nat) (u : z_St) (x0 : Int32) (x1 : Int32) : Prop := (w_J3_checkIndex_8e157 (fun r1 u1 => (post r1 u1)) t0 mi u x0 x1 none)
set_option maxRecDepth 20000 in
theorem mb_J15_checkIndex_7cf53 {p : Program} {l : Launch} {e : Env} {s : State} {m : MethodId} {args : Array Value} {below : List Frame} {meth : Method} {c : Code} {D : va_G} {cy : Nat → ClassId} {A : Nat → Prop} {t0 mi : Nat} {u0 : z_St} (S : CallFix p m c cJ15_checkIndex_7cf53 2 s args z_T RJ15) (hlk : meth.locks = false) (hr : meth.sig.returnType = (some .int)) (hE : z_EC D cy A t0 mi s) {post : Int32 → z_St → Prop}  (u : z_St) (x0 : Int32) (x1 : Int32) (hw : w_J15_checkIndex_7cf53 post t0 mi u x0 x1) : z_V A (z_hC D cy A t0 u0) p l e rm_J15_checkIndex_7cf53 s m args below meth c 2 (MQ below (va_Qi (fun r (u' : z_St) => post r u' ∧ z_mono u0 u') (fun (u' : z_St) t => z_hC D cy A t0 u0 u' t.heap) A) args s 0 0 A) 0 0 u 0 [(0, .int x0), (1, .int x1)] [] := by
  refine z_iload_n S 0 dJ15_checkIndex_7cf53_0 rfl rfl ?_
  refine z_iload_n S 1 dJ15_checkIndex_7cf53_1 rfl rfl ?_
  refine z_null S dJ15_checkIndex_7cf53_2 ?_
  refine z_callSi (As := [.int x0, .int x1, va_rf none]) (st := []) S (z_ECok D cy A t0 mi) hE (me_J3_checkIndex_8e157 l D cy A t0 mi _ u x0 x1 none hw) gS_J15_105 hdS_J3_checkIndex_8e157 ⟨Nat.le_of_ble_eq_true rfl, Nat.le_of_ble_eq_true rfl⟩ rfl rfl (fun _ h => h.re) (fun _ _ _ h h' => h.ba h') rfl (Nat.le_trans z_s0 (by decide)) dJ15_checkIndex_7cf53_3 ⟨(Nat.le_of_ble_eq_true rfl), (Nat.le_of_ble_eq_true rfl)⟩ rfl (fun r1 u1 hw => ?_)
  obtain ⟨hw, hm1⟩ := hw
  exact z_ciret S hr hlk dJ15_checkIndex_7cf53_6 (Nat.le_of_ble_eq_true rfl) (Nat.le_of_ble_eq_true rfl) hw
theorem me_J15_checkIndex_7cf53 (l : Launch) (D : va_G) (cy : Nat → ClassId) (A : Nat → Prop) (t0 mi : Nat) (post : Int32 → z_St → Prop) (u : z_St) (x0 : Int32) (x1 : Int32) (hw : w_J15_checkIndex_7cf53 post t0 mi u x0 x1) : z_Mi l yJ15_checkIndex_7cf53 (Cond.code yJ15_checkIndex_7cf53 cJ15_checkIndex_7cf53 2 (some .int) :: z_T) rm_J15_checkIndex_7cf53 [.int x0, .int x1] (z_EC D cy A t0 mi) (z_hC D cy A t0 u) u (fun r u' => post r u' ∧ z_mono u u') 0 0 A :=
  z_met (by decide) (Nat.le_of_ble_eq_true rfl) (fun p e s m args below meth c S hlk hr hnm hE => mb_J15_checkIndex_7cf53 S hlk hr hE u x0 x1 hw)
abbrev rm_Jx4a65c_elementData_915e3 : Room := { frames := 0, cells := 0, slots := 0, locals := 0 }
def w_Jx4a65c_elementData_915e3 (post : Option Nat → z_St → Prop) (t0 mi h0 : Nat) (u : z_St) (x1 : Int32) : Prop := (∃ a1 : Nat, z_gR 36 h0 u = some a1 ∧ z_kd a1 u = 15 ∧ (vp_in x1 (z_ln a1 u) ∧ (post (z_aR a1 x1.toNatClampNeg u) u)))
set_option maxRecDepth 20000 in
theorem mb_Jx4a65c_elementData_915e3 {p : Program} {l : Launch} {e : Env} {s : State} {m : MethodId} {args : Array Value} {below : List Frame} {meth : Method} {c : Code} {D : va_G} {cy : Nat → ClassId} {A : Nat → Prop} {t0 mi : Nat} {u0 : z_St} {h0 : Nat} (S : CallFix p m c cJx4a65c_elementData_915e3 2 s args z_T RJx4a65c) (hlk : meth.locks = false) (hr : meth.sig.returnType = (some (.object "java/lang/Object"))) (hE : z_EC D cy A t0 mi s) {post : Option Nat → z_St → Prop}  (u : z_St) (x1 : Int32) (hkh0 : z_kd h0 u = 1 ∧ 1 ≠ 0) (hw : w_Jx4a65c_elementData_915e3 post t0 mi h0 u x1) : z_V A (z_hC D cy A t0 u0) p l e rm_Jx4a65c_elementData_915e3 s m args below meth c 2 (MQ below (va_Qq (fun r (u' : z_St) => post r u' ∧ z_mono u0 u') (fun (u' : z_St) t => z_hC D cy A t0 u0 u' t.heap) A) args s 0 0 A) 0 0 u 0 [(0, va_rf (some h0)), (1, .int x1)] [] := by
  refine z_aload_n (x := some h0) S 0 dJx4a65c_elementData_915e3_0 rfl rfl ?_
  refine zb_g_Jx4a65c_9 (x := z_gR 36 h0 u) S hE hkh0 rfl dJx4a65c_elementData_915e3_1 ?_
  refine z_iload_n S 1 dJx4a65c_elementData_915e3_4 rfl rfl ?_
  obtain ⟨a1, ea1, hka1, hw⟩ := hw
  have hka1 : z_kd a1 u = 15 ∧ 15 ≠ 0 := ⟨hka1, by decide⟩
  obtain ⟨hi1, hw⟩ := hw
  refine z_st (st' := [.int x1, va_rf (some a1)]) (congrArg (fun r : Option Nat => ([.int x1, va_rf r] : List Value)) ea1) ?_
  refine z_caald (κ := 15) S hE hka1 (by decide) rfl hi1 dJx4a65c_elementData_915e3_5 ?_
  exact z_caret (z_aR a1 x1.toNatClampNeg u) S hr (Or.inl ⟨_, rfl⟩) hlk dJx4a65c_elementData_915e3_6 (Nat.le_of_ble_eq_true rfl) (Nat.le_of_ble_eq_true rfl) hw
theorem me_Jx4a65c_elementData_915e3 (l : Launch) (D : va_G) (cy : Nat → ClassId) (A : Nat → Prop) (t0 mi : Nat) (post : Option Nat → z_St → Prop) (u : z_St) (h0 : Nat) (x1 : Int32) (hkh0 : z_kd h0 u = 1 ∧ 1 ≠ 0) (hw : w_Jx4a65c_elementData_915e3 post t0 mi h0 u x1) : z_Mq l yJx4a65c_elementData_915e3 (Cond.code yJx4a65c_elementData_915e3 cJx4a65c_elementData_915e3 2 (some (.object "java/lang/Object")) :: z_T) rm_Jx4a65c_elementData_915e3 [va_rf (some h0), .int x1] (z_EC D cy A t0 mi) (z_hC D cy A t0 u) u (fun r u' => post r u' ∧ z_mono u u') 0 0 A :=
  z_met (by decide) (Nat.le_of_ble_eq_true rfl) (fun p e s m args below meth c S hlk hr hnm hE => mb_Jx4a65c_elementData_915e3 S hlk hr hE u x1 hkh0 hw)
abbrev rm_Jx4a65c_get_915e3 : Room := { frames := 2, cells := 0, slots := 0, locals := 43 }
def w_Jx4a65c_get_915e3 (post : Option Nat → z_St → Prop) (t0 mi h0 : Nat) (u : z_St) (x1 : Int32) : Prop := (w_J15_checkIndex_7cf53 (fun r1 u1 => (w_Jx4a65c_elementData_915e3 (fun r2 u2 => (post r2 u2)) t0 mi h0 u1 x1)) t0 mi u x1 (z_gI 37 h0 u))
set_option maxRecDepth 20000 in
theorem mb_Jx4a65c_get_915e3 {p : Program} {l : Launch} {e : Env} {s : State} {m : MethodId} {args : Array Value} {below : List Frame} {meth : Method} {c : Code} {D : va_G} {cy : Nat → ClassId} {A : Nat → Prop} {t0 mi : Nat} {u0 : z_St} {h0 : Nat} (S : CallFix p m c cJx4a65c_get_915e3 2 s args z_T RJx4a65c) (hlk : meth.locks = false) (hr : meth.sig.returnType = (some (.object "java/lang/Object"))) (hE : z_EC D cy A t0 mi s) {post : Option Nat → z_St → Prop}  (u : z_St) (x1 : Int32) (hkh0 : z_kd h0 u = 1 ∧ 1 ≠ 0) (hw : w_Jx4a65c_get_915e3 post t0 mi h0 u x1) : z_V A (z_hC D cy A t0 u0) p l e rm_Jx4a65c_get_915e3 s m args below meth c 2 (MQ below (va_Qq (fun r (u' : z_St) => post r u' ∧ z_mono u0 u') (fun (u' : z_St) t => z_hC D cy A t0 u0 u' t.heap) A) args s 0 0 A) 0 0 u 0 [(0, va_rf (some h0)), (1, .int x1)] [] := by
  refine z_iload_n S 1 dJx4a65c_get_915e3_0 rfl rfl ?_
  refine z_aload_n (x := some h0) S 0 dJx4a65c_get_915e3_1 rfl rfl ?_
  refine zb_g_Jx4a65c_48 (x := z_gI 37 h0 u) S hE hkh0 rfl dJx4a65c_get_915e3_2 ?_
  refine z_callSi (As := [.int x1, .int (z_gI 37 h0 u)]) (st := []) S (z_ECok D cy A t0 mi) hE (me_J15_checkIndex_7cf53 l D cy A t0 mi _ u x1 (z_gI 37 h0 u) hw) gS_Jx4a65c_118 hdS_J15_checkIndex_7cf53 ⟨Nat.le_of_ble_eq_true rfl, Nat.le_of_ble_eq_true rfl⟩ rfl rfl (fun _ h => h.re) (fun _ _ _ h h' => h.ba h') rfl (Nat.le_trans z_s0 (by decide)) dJx4a65c_get_915e3_5 ⟨(Nat.le_of_ble_eq_true rfl), (Nat.le_of_ble_eq_true rfl)⟩ rfl (fun r1 u1 hw => ?_)
  obtain ⟨hw, hm1⟩ := hw
  have hkh0 := hm1.k hkh0
  refine z_pop S dJx4a65c_get_915e3_8 rfl ?_
  refine z_aload_n (x := some h0) S 0 dJx4a65c_get_915e3_9 rfl rfl ?_
  refine z_iload_n S 1 dJx4a65c_get_915e3_10 rfl rfl ?_
  refine z_callVq (As := [.int x1]) (st := []) S (z_ECok D cy A t0 mi) hE (me_Jx4a65c_elementData_915e3 l D cy A t0 mi _ u1 h0 x1 hkh0 hw) gV_Jx4a65c_123 hdV_Jx4a65c_elementData_915e3 ⟨Nat.le_of_ble_eq_true rfl, Nat.le_of_ble_eq_true rfl⟩ rfl rfl (z_recvC (u := u1) hE hkh0 (by decide) rfl) (fun _ h => h.re) (fun _ _ _ h h' => h.ba h') rfl (Nat.le_trans z_s0 (by decide)) dJx4a65c_get_915e3_11 ⟨(Nat.le_of_ble_eq_true rfl), (Nat.le_of_ble_eq_true rfl)⟩ rfl (fun r2 u2 hw => ?_)
  obtain ⟨hw, hm2⟩ := hw
  have hkh0 := hm2.k hkh0
  exact z_caret r2 S hr (Or.inl ⟨_, rfl⟩) hlk dJx4a65c_get_915e3_14 (Nat.le_of_ble_eq_true rfl) (Nat.le_of_ble_eq_true rfl) hw
theorem me_Jx4a65c_get_915e3 (l : Launch) (D : va_G) (cy : Nat → ClassId) (A : Nat → Prop) (t0 mi : Nat) (post : Option Nat → z_St → Prop) (u : z_St) (h0 : Nat) (x1 : Int32) (hkh0 : z_kd h0 u = 1 ∧ 1 ≠ 0) (hw : w_Jx4a65c_get_915e3 post t0 mi h0 u x1) : z_Mq l yJx4a65c_get_915e3 (Cond.code yJx4a65c_get_915e3 cJx4a65c_get_915e3 2 (some (.object "java/lang/Object")) :: z_T) rm_Jx4a65c_get_915e3 [va_rf (some h0), .int x1] (z_EC D cy A t0 mi) (z_hC D cy A t0 u) u (fun r u' => post r u' ∧ z_mono u u') 0 0 A :=
  z_met (by decide) (Nat.le_of_ble_eq_true rfl) (fun p e s m args below meth c S hlk hr hnm hE => mb_Jx4a65c_get_915e3 S hlk hr hE u x1 hkh0 hw)
abbrev rm_Jx4a65c_fastRemove_b59b0 : Room := { frames := 1, cells := 0, slots := 0, locals := 40 }
def w_Jx4a65c_fastRemove_b59b0_34 (post : z_St → Prop) (t0 mi h0 : Nat) (u : z_St) (x1 : Option Nat) (x3 : Int32) : Prop := (∃ a1 : Nat, x1 = some a1 ∧ z_kd a1 (z_pI 37 h0 x3 u) = 15 ∧ (vp_in x3 (z_ln a1 u) ∧ (post (z_sR a1 x3.toNatClampNeg none (z_pI 37 h0 x3 u)))))
def w_Jx4a65c_fastRemove_b59b0 (post : z_St → Prop) (t0 mi h0 : Nat) (u : z_St) (x1 : Option Nat) (x2 : Int32) : Prop := (∀ x3_1 : Int32, x3_1 = (z_gI 37 h0 u) - 1 → ((((z_gI 37 h0 u) - 1) ≤ x2 → (w_Jx4a65c_fastRemove_b59b0_34 post t0 mi h0 (z_pI 35 h0 ((z_gI 35 h0 u) + 1) u) x1 x3_1)) ∧ (¬ ((z_gI 37 h0 u) - 1) ≤ x2 → (∃ a1 : Nat, x1 = some a1 ∧ z_kd a1 (z_pI 35 h0 ((z_gI 35 h0 u) + 1) u) = 15 ∧ (¬ (x2 + 1 : Int32) < 0 ∧ ¬ (x2 : Int32) < 0 ∧ ¬ (x3_1 - x2 : Int32) < 0 ∧ (x2 + 1).toNatClampNeg + (x3_1 - x2).toNatClampNeg ≤ z_ln a1 u ∧ x2.toNatClampNeg + (x3_1 - x2).toNatClampNeg ≤ z_ln a1 u ∧ (∀ i : Nat, i < (x3_1 - x2).toNatClampNeg → ∀ y : Nat, z_aR a1 ((x2 + 1).toNatClampNeg + i) u = some y → z_kd y (z_pI 35 h0 ((z_gI 35 h0 u) + 1) u) = 5) ∧ (w_Jx4a65c_fastRemove_b59b0_34 post t0 mi h0 (z_cR a1 a1 (x2 + 1).toNatClampNeg x2.toNatClampNeg (x3_1 - x2).toNatClampNeg (z_pI 35 h0 ((z_gI 35 h0 u) + 1) u)) x1 x3_1))))))
set_option maxRecDepth 20000 in
theorem mb_Jx4a65c_fastRemove_b59b0_34 {p : Program} {l : Launch} {e : Env} {s : State} {m : MethodId} {args : Array Value} {below : List Frame} {meth : Method} {c : Code} {D : va_G} {cy : Nat → ClassId} {A : Nat → Prop} {t0 mi : Nat} {u0 : z_St} {h0 : Nat} (S : CallFix p m c cJx4a65c_fastRemove_b59b0 4 s args z_T RJx4a65c) (hlk : meth.locks = false) (hr : meth.sig.returnType = none) (hE : z_EC D cy A t0 mi s) {post : z_St → Prop}  (u : z_St) (x1 : Option Nat) (x3 : Int32) (hkh0 : z_kd h0 u = 1 ∧ 1 ≠ 0) (hw : w_Jx4a65c_fastRemove_b59b0_34 post t0 mi h0 u x1 x3) : z_V A (z_hC D cy A t0 u0) p l e rm_Jx4a65c_fastRemove_b59b0 s m args below meth c 4 (MQ below (va_Qv (fun (u' : z_St) => post u' ∧ z_mono u0 u') (fun (u' : z_St) t => z_hC D cy A t0 u0 u' t.heap) A) args s 0 0 A) 0 0 u 34 [(0, va_rf (some h0)), (1, va_rf x1), (3, .int x3)] [] := by
  refine z_aload_n (x := x1) S 1 dJx4a65c_fastRemove_b59b0_34 rfl rfl ?_
  refine z_aload_n (x := some h0) S 0 dJx4a65c_fastRemove_b59b0_35 rfl rfl ?_
  refine z_iload_n S 2 dJx4a65c_fastRemove_b59b0_36 rfl rfl ?_
  refine z_dup_x1 S dJx4a65c_fastRemove_b59b0_37 rfl (z_rfc (some h0)) ?_
  refine zb_p_Jx4a65c_48 S hE hkh0 dJx4a65c_fastRemove_b59b0_38 ?_
  refine z_null S dJx4a65c_fastRemove_b59b0_41 ?_
  obtain ⟨a1, ea1, hka1, hw⟩ := hw
  have hka1 : z_kd a1 (z_pI 37 h0 x3 u) = 15 ∧ 15 ≠ 0 := ⟨hka1, by decide⟩
  obtain ⟨hi1, hw⟩ := hw
  refine z_st (st' := [va_rf none, .int x3, va_rf (some a1)]) (congrArg (fun r : Option Nat => ([va_rf none, .int x3, va_rf r] : List Value)) ea1) ?_
  refine z_caastN (κ := 15) S hE hka1 (by decide) rfl hi1 dJx4a65c_fastRemove_b59b0_42 ?_
  exact z_cvret S hr hlk dJx4a65c_fastRemove_b59b0_43 (Nat.le_of_ble_eq_true rfl) (Nat.le_of_ble_eq_true rfl) hw
set_option maxRecDepth 20000 in
theorem mb_Jx4a65c_fastRemove_b59b0 {p : Program} {l : Launch} {e : Env} {s : State} {m : MethodId} {args : Array Value} {below : List Frame} {meth : Method} {c : Code} {D : va_G} {cy : Nat → ClassId} {A : Nat → Prop} {t0 mi : Nat} {u0 : z_St} {h0 : Nat} (S : CallFix p m c cJx4a65c_fastRemove_b59b0 4 s args z_T RJx4a65c) (hlk : meth.locks = false) (hr : meth.sig.returnType = none) (hE : z_EC D cy A t0 mi s) {post : z_St → Prop}  (u : z_St) (x1 : Option Nat) (x2 : Int32) (hkh0 : z_kd h0 u = 1 ∧ 1 ≠ 0) (hw : w_Jx4a65c_fastRemove_b59b0 post t0 mi h0 u x1 x2) : z_V A (z_hC D cy A t0 u0) p l e rm_Jx4a65c_fastRemove_b59b0 s m args below meth c 4 (MQ below (va_Qv (fun (u' : z_St) => post u' ∧ z_mono u0 u') (fun (u' : z_St) t => z_hC D cy A t0 u0 u' t.heap) A) args s 0 0 A) 0 0 u 0 [(0, va_rf (some h0)), (1, va_rf x1), (2, .int x2)] [] := by
  refine z_aload_n (x := some h0) S 0 dJx4a65c_fastRemove_b59b0_0 rfl rfl ?_
  refine z_dup S dJx4a65c_fastRemove_b59b0_1 (z_rfc (some h0)) ?_
  refine zb_g_Jx4a65c_63 (x := z_gI 35 h0 u) S hE hkh0 rfl dJx4a65c_fastRemove_b59b0_2 ?_
  refine z_iconst (v := 1) S dJx4a65c_fastRemove_b59b0_5 (by decide) ?_
  refine z_iadd S dJx4a65c_fastRemove_b59b0_6 ?_
  refine zb_p_Jx4a65c_63 S hE hkh0 dJx4a65c_fastRemove_b59b0_7 ?_
  refine z_aload_n (x := some h0) S 0 dJx4a65c_fastRemove_b59b0_10 rfl rfl ?_
  refine zb_g_Jx4a65c_48 (x := z_gI 37 h0 u) S hE hkh0 rfl dJx4a65c_fastRemove_b59b0_11 ?_
  refine z_iconst (v := 1) S dJx4a65c_fastRemove_b59b0_14 (by decide) ?_
  refine z_isub S dJx4a65c_fastRemove_b59b0_15 ?_
  refine z_dup S dJx4a65c_fastRemove_b59b0_16 rfl ?_
  refine z_top (fun x3_1 ex3_1 => ?_)
  have hw := hw x3_1 ex3_1
  refine z_istore_n S [(3, .int x3_1), (0, va_rf (some h0)), (1, va_rf x1), (2, .int x2)] dJx4a65c_fastRemove_b59b0_17 rfl (by decide) rfl ?_
  refine z_lv (lv' := [(0, va_rf (some h0)), (1, va_rf x1), (2, .int x2), (3, .int x3_1)]) [1, 2, 3, 0] rfl ?_
  refine z_iload_n S 2 dJx4a65c_fastRemove_b59b0_18 rfl rfl ?_
  refine z_icmp_le S 34 dJx4a65c_fastRemove_b59b0_19 (by decide) (fun c2 => ?_) (fun c2 => ?_)
  · have hw := hw.1 c2
    refine z_lv (lv' := [(0, va_rf (some h0)), (1, va_rf x1), (3, .int x3_1)]) [0, 1, 3] rfl ?_
    exact mb_Jx4a65c_fastRemove_b59b0_34 S hlk hr hE (z_pI 35 h0 ((z_gI 35 h0 u) + 1) u) x1 x3_1 hkh0 hw
  · have hw := hw.2 c2
    refine z_aload_n (x := x1) S 1 dJx4a65c_fastRemove_b59b0_22 rfl rfl ?_
    refine z_iload_n S 2 dJx4a65c_fastRemove_b59b0_23 rfl rfl ?_
    refine z_iconst (v := 1) S dJx4a65c_fastRemove_b59b0_24 (by decide) ?_
    refine z_iadd S dJx4a65c_fastRemove_b59b0_25 ?_
    refine z_aload_n (x := x1) S 1 dJx4a65c_fastRemove_b59b0_26 rfl rfl ?_
    refine z_iload_n S 2 dJx4a65c_fastRemove_b59b0_27 rfl rfl ?_
    refine z_iload_n S 3 dJx4a65c_fastRemove_b59b0_28 rfl rfl ?_
    refine z_iload_n S 2 dJx4a65c_fastRemove_b59b0_29 rfl rfl ?_
    refine z_isub S dJx4a65c_fastRemove_b59b0_30 ?_
    obtain ⟨a1, ea1, hka1, hw⟩ := hw
    have hka1 : z_kd a1 (z_pI 35 h0 ((z_gI 35 h0 u) + 1) u) = 15 ∧ 15 ≠ 0 := ⟨hka1, by decide⟩
    obtain ⟨hi3, hi4, hi5, hi6, hi7, hi8, hw⟩ := hw
    refine z_st (st' := [.int (x3_1 - x2), .int x2, va_rf x1, .int (x2 + 1), va_rf (some a1)]) (congrArg (fun r : Option Nat => ([.int (x3_1 - x2), .int x2, va_rf x1, .int (x2 + 1), va_rf r] : List Value)) ea1) ?_
    refine z_st (st' := [.int (x3_1 - x2), .int x2, va_rf (some a1), .int (x2 + 1), va_rf (some a1)]) (congrArg (fun r : Option Nat => ([.int (x3_1 - x2), .int x2, va_rf r, .int (x2 + 1), va_rf (some a1)] : List Value)) ea1) ?_
    refine z_ccopy S hE hka1 hka1 wd_719 wd_640 wd_639 wd_72 hi3 hi4 hi5 hi6 hi7 hi8 (Nat.le_of_ble_eq_true rfl) (Nat.le_trans (Nat.add_le_add_right z_s0 (nativeFrameWords "java/lang/System" "arraycopy" 5 + 11)) (Nat.le_of_ble_eq_true rfl)) dJx4a65c_fastRemove_b59b0_31 ?_
    refine z_lv (lv' := [(0, va_rf (some h0)), (1, va_rf x1), (3, .int x3_1)]) [0, 1, 3] rfl ?_
    exact mb_Jx4a65c_fastRemove_b59b0_34 S hlk hr hE (z_cR a1 a1 (x2 + 1).toNatClampNeg x2.toNatClampNeg (x3_1 - x2).toNatClampNeg (z_pI 35 h0 ((z_gI 35 h0 u) + 1) u)) x1 x3_1 hkh0 hw
theorem me_Jx4a65c_fastRemove_b59b0 (l : Launch) (D : va_G) (cy : Nat → ClassId) (A : Nat → Prop) (t0 mi : Nat) (post : z_St → Prop) (u : z_St) (h0 : Nat) (x1 : Option Nat) (x2 : Int32) (hkh0 : z_kd h0 u = 1 ∧ 1 ≠ 0) (hw : w_Jx4a65c_fastRemove_b59b0 post t0 mi h0 u x1 x2) : z_Mv l yJx4a65c_fastRemove_b59b0 (Cond.code yJx4a65c_fastRemove_b59b0 cJx4a65c_fastRemove_b59b0 4 none :: z_T) rm_Jx4a65c_fastRemove_b59b0 [va_rf (some h0), va_rf x1, .int x2] (z_EC D cy A t0 mi) (z_hC D cy A t0 u) u (fun u' => post u' ∧ z_mono u u') 0 0 A :=
  z_met (by decide) (by simp [lg_sl, z_rfc, z_ic]) (fun p e s m args below meth c S hlk hr hnm hE => (by simp [lv_args, z_rfc, z_ic] : lv_args 0 [va_rf (some h0), va_rf x1, .int x2] = [(0, va_rf (some h0)), (1, va_rf x1), (2, .int x2)]) ▸ mb_Jx4a65c_fastRemove_b59b0 S hlk hr hE u x1 x2 hkh0 hw)
abbrev rm_Jx4a65c_remove_915e3 : Room := { frames := 2, cells := 0, slots := 0, locals := 63 }
def w_Jx4a65c_remove_915e3 (post : Option Nat → z_St → Prop) (t0 mi h0 : Nat) (u : z_St) (x1 : Int32) : Prop := (w_J15_checkIndex_7cf53 (fun r1 u1 => (∃ a2 : Nat, z_gR 36 h0 u1 = some a2 ∧ z_kd a2 u1 = 15 ∧ (vp_in x1 (z_ln a2 u1) ∧ (w_Jx4a65c_fastRemove_b59b0 (fun u3 => (post (z_aR a2 x1.toNatClampNeg u1) u3)) t0 mi h0 u1 (z_gR 36 h0 u1) x1)))) t0 mi u x1 (z_gI 37 h0 u))
set_option maxRecDepth 20000 in
theorem mb_Jx4a65c_remove_915e3 {p : Program} {l : Launch} {e : Env} {s : State} {m : MethodId} {args : Array Value} {below : List Frame} {meth : Method} {c : Code} {D : va_G} {cy : Nat → ClassId} {A : Nat → Prop} {t0 mi : Nat} {u0 : z_St} {h0 : Nat} (S : CallFix p m c cJx4a65c_remove_915e3 4 s args z_T RJx4a65c) (hlk : meth.locks = false) (hr : meth.sig.returnType = (some (.object "java/lang/Object"))) (hE : z_EC D cy A t0 mi s) {post : Option Nat → z_St → Prop}  (u : z_St) (x1 : Int32) (hkh0 : z_kd h0 u = 1 ∧ 1 ≠ 0) (hw : w_Jx4a65c_remove_915e3 post t0 mi h0 u x1) : z_V A (z_hC D cy A t0 u0) p l e rm_Jx4a65c_remove_915e3 s m args below meth c 4 (MQ below (va_Qq (fun r (u' : z_St) => post r u' ∧ z_mono u0 u') (fun (u' : z_St) t => z_hC D cy A t0 u0 u' t.heap) A) args s 0 0 A) 0 0 u 0 [(0, va_rf (some h0)), (1, .int x1)] [] := by
  refine z_iload_n S 1 dJx4a65c_remove_915e3_0 rfl rfl ?_
  refine z_aload_n (x := some h0) S 0 dJx4a65c_remove_915e3_1 rfl rfl ?_
  refine zb_g_Jx4a65c_48 (x := z_gI 37 h0 u) S hE hkh0 rfl dJx4a65c_remove_915e3_2 ?_
  refine z_callSi (As := [.int x1, .int (z_gI 37 h0 u)]) (st := []) S (z_ECok D cy A t0 mi) hE (me_J15_checkIndex_7cf53 l D cy A t0 mi _ u x1 (z_gI 37 h0 u) hw) gS_Jx4a65c_118 hdS_J15_checkIndex_7cf53 ⟨Nat.le_of_ble_eq_true rfl, Nat.le_of_ble_eq_true rfl⟩ rfl rfl (fun _ h => h.re) (fun _ _ _ h h' => h.ba h') rfl (Nat.le_trans z_s0 (by decide)) dJx4a65c_remove_915e3_5 ⟨(Nat.le_of_ble_eq_true rfl), (Nat.le_of_ble_eq_true rfl)⟩ rfl (fun r1 u1 hw => ?_)
  obtain ⟨hw, hm1⟩ := hw
  have hkh0 := hm1.k hkh0
  refine z_pop S dJx4a65c_remove_915e3_8 rfl ?_
  refine z_aload_n (x := some h0) S 0 dJx4a65c_remove_915e3_9 rfl rfl ?_
  refine zb_g_Jx4a65c_9 (x := z_gR 36 h0 u1) S hE hkh0 rfl dJx4a65c_remove_915e3_10 ?_
  refine z_astore_n (x := z_gR 36 h0 u1) S [(2, va_rf (z_gR 36 h0 u1)), (0, va_rf (some h0)), (1, .int x1)] dJx4a65c_remove_915e3_13 rfl (by decide) rfl ?_
  refine z_lv (lv' := [(0, va_rf (some h0)), (1, .int x1), (2, va_rf (z_gR 36 h0 u1))]) [1, 2, 0] rfl ?_
  refine z_aload_n (x := z_gR 36 h0 u1) S 2 dJx4a65c_remove_915e3_14 rfl rfl ?_
  refine z_iload_n S 1 dJx4a65c_remove_915e3_15 rfl rfl ?_
  obtain ⟨a2, ea2, hka2, hw⟩ := hw
  have hka2 : z_kd a2 u1 = 15 ∧ 15 ≠ 0 := ⟨hka2, by decide⟩
  obtain ⟨hi1, hw⟩ := hw
  refine z_st (st' := [.int x1, va_rf (some a2)]) (congrArg (fun r : Option Nat => ([.int x1, va_rf r] : List Value)) ea2) ?_
  refine z_caald (κ := 15) S hE hka2 (by decide) rfl hi1 dJx4a65c_remove_915e3_16 ?_
  refine z_astore_n (x := z_aR a2 x1.toNatClampNeg u1) S [(3, va_rf (z_aR a2 x1.toNatClampNeg u1)), (0, va_rf (some h0)), (1, .int x1), (2, va_rf (z_gR 36 h0 u1))] dJx4a65c_remove_915e3_17 rfl (by decide) (by simp only [List.filter, z_rfc]; rfl) ?_
  refine z_lv (lv' := [(0, va_rf (some h0)), (1, .int x1), (2, va_rf (z_gR 36 h0 u1)), (3, va_rf (z_aR a2 x1.toNatClampNeg u1))]) [1, 2, 3, 0] rfl ?_
  refine z_aload_n (x := some h0) S 0 dJx4a65c_remove_915e3_18 rfl rfl ?_
  refine z_aload_n (x := z_gR 36 h0 u1) S 2 dJx4a65c_remove_915e3_19 rfl rfl ?_
  refine z_iload_n S 1 dJx4a65c_remove_915e3_20 rfl rfl ?_
  refine z_callVv (As := [va_rf (z_gR 36 h0 u1), .int x1]) (st := []) S (z_ECok D cy A t0 mi) hE (me_Jx4a65c_fastRemove_b59b0 l D cy A t0 mi _ u1 h0 (z_gR 36 h0 u1) x1 hkh0 hw) gV_Jx4a65c_144 hdV_Jx4a65c_fastRemove_b59b0 ⟨Nat.le_of_ble_eq_true rfl, Nat.le_of_ble_eq_true rfl⟩ rfl rfl (z_recvC (u := u1) hE hkh0 (by decide) rfl) (fun _ h => h.re) (fun _ _ _ h h' => h.ba h') rfl (Nat.le_trans z_s0 (by decide)) dJx4a65c_remove_915e3_21 ⟨(Nat.le_of_ble_eq_true rfl), (Nat.le_of_ble_eq_true rfl)⟩ rfl (fun u3 hw => ?_)
  obtain ⟨hw, hm3⟩ := hw
  have hkh0 := hm3.k hkh0
  have hka2 := hm3.k hka2
  refine z_aload_n (x := z_aR a2 x1.toNatClampNeg u1) S 3 dJx4a65c_remove_915e3_24 rfl rfl ?_
  exact z_caret (z_aR a2 x1.toNatClampNeg u1) S hr (Or.inl ⟨_, rfl⟩) hlk dJx4a65c_remove_915e3_25 (Nat.le_of_ble_eq_true rfl) (Nat.le_of_ble_eq_true rfl) hw
theorem me_Jx4a65c_remove_915e3 (l : Launch) (D : va_G) (cy : Nat → ClassId) (A : Nat → Prop) (t0 mi : Nat) (post : Option Nat → z_St → Prop) (u : z_St) (h0 : Nat) (x1 : Int32) (hkh0 : z_kd h0 u = 1 ∧ 1 ≠ 0) (hw : w_Jx4a65c_remove_915e3 post t0 mi h0 u x1) : z_Mq l yJx4a65c_remove_915e3 (Cond.code yJx4a65c_remove_915e3 cJx4a65c_remove_915e3 4 (some (.object "java/lang/Object")) :: z_T) rm_Jx4a65c_remove_915e3 [va_rf (some h0), .int x1] (z_EC D cy A t0 mi) (z_hC D cy A t0 u) u (fun r u' => post r u' ∧ z_mono u u') 0 0 A :=
  z_met (by decide) (Nat.le_of_ble_eq_true rfl) (fun p e s m args below meth c S hlk hr hnm hE => mb_Jx4a65c_remove_915e3 S hlk hr hE u x1 hkh0 hw)
