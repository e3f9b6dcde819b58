abbrev rm_X0_init : Room := { frames := 1, cells := 2, slots := 36, locals := 40 }
def w_X0_init (post : z_St → Prop) (t0 mi h0 : Nat) (u : z_St)  : Prop := (∀ a1 : Nat, z_kd a1 u = 0 → (∀ a2 : Nat, z_kd a2 (z_pR 0 h0 (some a1) (z_nA 10 a1 4 u)) = 0 → (post (z_pR 3 h0 none (z_pI 2 h0 0 (z_pR 1 h0 (some a2) (z_nA 10 a2 32 (z_pR 0 h0 (some a1) (z_nA 10 a1 4 u)))))))))
set_option maxRecDepth 20000 in
theorem mb_X0_init {p : Program} {l : Launch} {e : Env} {s : State} {m : MethodId} {args : Array Value} {below : List Frame} {meth : Method} {c : Code} {D : va_G} {cy : Nat → ClassId} {A : Nat → Prop} {t0 mi : Nat} {u0 : z_St} {h0 : Nat} (S : CallFix p m c cX0_init 1 s args z_T RX0) (hlk : meth.locks = false) (hr : meth.sig.returnType = none) (hE : z_EC D cy A t0 mi s) (hnm : meth.name = "<init>") {post : z_St → Prop}  (u : z_St)  (hkh0 : z_kd h0 u = 2 ∧ 2 ≠ 0) (hw : w_X0_init post t0 mi h0 u ) : z_V A (z_hC D cy A t0 u0) p l e rm_X0_init s m args below meth c 1 (MQ below (va_Qv (fun (u' : z_St) => post u' ∧ z_mono u0 u') (fun (u' : z_St) t => z_hC D cy A t0 u0 u' t.heap) A) args s 2 36 A) 0 0 u 0 [(0, va_rf (some h0))] [] := by
  refine z_aload_n (x := some h0) S 0 dX0_init_0 rfl rfl ?_
  refine z_obj (a := h0) S wd_94 wd_80 wd_81 (Nat.le_of_ble_eq_true rfl) (Nat.le_trans (Nat.add_le_add_right z_s0 12) (Nat.le_of_ble_eq_true rfl)) dX0_init_1 ?_
  refine z_aload_n (x := some h0) S 0 dX0_init_4 rfl rfl ?_
  refine z_iconst (v := 4) S dX0_init_5 (by decide) ?_
  refine z_cnewI (N' := 4) S hE wd_arrI (by decide) rfl (by decide) (Nat.le_of_ble_eq_true rfl) (Nat.le_of_ble_eq_true rfl) dX0_init_6 (fun a1 hza1 => ?_)
  have hw := hw a1 hza1
  have hkh0 := z_kA (κ' := 10) (N := 4) hza1 hkh0
  have hka1 : z_kd a1 (z_nA 10 a1 4 u) = 10 ∧ 10 ≠ 0 := z_kAs (by decide)
  refine zb_p_X0_9 (some a1) S hE hkh0 hnm dX0_init_8 ?_
  refine z_aload_n (x := some h0) S 0 dX0_init_11 rfl rfl ?_
  refine z_bipush (v := 32) S dX0_init_12 (by decide) ?_
  refine z_cnewI (N' := 32) S hE wd_arrI (by decide) rfl (by decide) (Nat.le_of_ble_eq_true rfl) (Nat.le_of_ble_eq_true rfl) dX0_init_14 (fun a2 hza2 => ?_)
  have hw := hw a2 hza2
  have hkh0 := z_kA (κ' := 10) (N := 32) hza2 hkh0
  have hka1 := z_kA (κ' := 10) (N := 32) hza2 hka1
  have hka2 : z_kd a2 (z_nA 10 a2 32 (z_pR 0 h0 (some a1) (z_nA 10 a1 4 u))) = 10 ∧ 10 ≠ 0 := z_kAs (by decide)
  refine zb_p_X0_15 (some a2) S hE hkh0 hnm dX0_init_16 ?_
  refine z_aload_n (x := some h0) S 0 dX0_init_19 rfl rfl ?_
  refine z_iconst (v := 0) S dX0_init_20 (by decide) ?_
  refine zb_p_X0_18 S hE hkh0 dX0_init_21 ?_
  refine z_aload_n (x := some h0) S 0 dX0_init_24 rfl rfl ?_
  refine z_null S dX0_init_25 ?_
  refine zb_p_X0_22 none S hE hkh0 dX0_init_26 ?_
  exact z_cvret S hr hlk dX0_init_29 (Nat.le_of_ble_eq_true rfl) (Nat.le_of_ble_eq_true rfl) hw
theorem me_X0_init (l : Launch) (D : va_G) (cy : Nat → ClassId) (A : Nat → Prop) (t0 mi : Nat) (post : z_St → Prop) (u : z_St) (h0 : Nat) (hkh0 : z_kd h0 u = 2 ∧ 2 ≠ 0) (hw : w_X0_init post t0 mi h0 u ) : z_Mv l yX0_init (Cond.code yX0_init cX0_init 1 none :: z_T) rm_X0_init [va_rf (some h0)] (z_EC D cy A t0 mi) (z_hC D cy A t0 u) u (fun u' => post u' ∧ z_mono u u') 2 36 A :=
  z_met (by decide) (Nat.le_of_ble_eq_true rfl) (fun p e s m args below meth c S hlk hr hnm hE => mb_X0_init S hlk hr hE hnm u  hkh0 hw)
abbrev rm_X5_init : Room := { frames := 2, cells := 124, slots := 1680, locals := 60 }
def w_X5_init_15 (post : z_St → Prop) (t0 mi h0 : Nat) : Nat → z_St → Int32 → Prop
  | 0 => fun _ _ => False
  | n + 1 => fun u x1 => ((40 ≤ x1 → (post u)) ∧ (¬ 40 ≤ x1 → (∀ a1 : Nat, z_kd a1 u = 0 → (w_X0_init (fun u2 => (∃ a3 : Nat, z_gR 26 h0 u = some a3 ∧ z_kd a3 u2 = 11 ∧ (vp_in x1 (z_ln a3 u2) ∧ (w_X5_init_15 post t0 mi h0 n (z_sR a3 x1.toNatClampNeg (some a1) u2) (x1 + 1))))) t0 mi a1 (z_nO 2 a1 u) ))))
def w_X5_init (post : z_St → Prop) (t0 mi h0 : Nat) (u : z_St)  : Prop := (∀ a1 : Nat, z_kd a1 u = 0 → (∃ n0 : Nat, n0 ≤ 41 ∧ w_X5_init_15 post t0 mi h0 n0 (z_pR 26 h0 (some a1) (z_nA 11 a1 40 u)) 0))
set_option maxRecDepth 20000 in
theorem mb_X5_init_15 {p : Program} {l : Launch} {e : Env} {s : State} {m : MethodId} {args : Array Value} {below : List Frame} {meth : Method} {c : Code} {D : va_G} {cy : Nat → ClassId} {A : Nat → Prop} {t0 mi : Nat} {u0 : z_St} {h0 : Nat} (S : CallFix p m c cX5_init 2 s args z_T RX5) (hlk : meth.locks = false) (hr : meth.sig.returnType = none) (hE : z_EC D cy A t0 mi s) (hnm : meth.name = "<init>") {post : z_St → Prop} : ∀ (n : Nat) (kc ks : Nat) (u : z_St) (x1 : Int32) (hkc : kc + 3 * n ≤ 124) (hks : ks + 40 * n ≤ 1680) (hkh0 : z_kd h0 u = 7 ∧ 7 ≠ 0), w_X5_init_15 post t0 mi h0 n u x1 → z_V A (z_hC D cy A t0 u0) p l e rm_X5_init s m args below meth c 2 (MQ below (va_Qv (fun (u' : z_St) => post u' ∧ z_mono u0 u') (fun (u' : z_St) t => z_hC D cy A t0 u0 u' t.heap) A) args s 124 1680 A) kc ks u 15 [(0, va_rf (some h0)), (1, .int x1)] [] := by
  intro n
  induction n with
  | zero => intro kc ks u x1 hkc hks hkh0 hw; exact hw.elim
  | succ n ih =>
    intro kc ks u x1 hkc hks hkh0 hw
    refine z_iload_n S 1 dX5_init_15 rfl rfl ?_
    refine z_bipush (v := 40) S dX5_init_16 (by decide) ?_
    refine z_icmp_ge S 40 dX5_init_18 (by decide) (fun c1 => ?_) (fun c1 => ?_)
    · have hw := hw.1 c1
      exact z_cvret S hr hlk dX5_init_40 (by show kc ≤ 124; omega) (by show ks ≤ 1680; omega) hw
    · have hw := hw.2 c1
      refine z_aload_n (x := some h0) S 0 dX5_init_21 rfl rfl ?_
      refine zb_g_X5_11 (x := z_gR 26 h0 u) S hE hkh0 rfl dX5_init_22 ?_
      refine z_iload_n S 1 dX5_init_25 rfl rfl ?_
      refine zb_n_X5_9 S hE (by show kc + 1 ≤ 124; omega) (by show ks + 4 ≤ 1680; omega) dX5_init_26 (fun a1 hza1 => ?_)
      have hw := hw a1 hza1
      have hkh0 := z_kO (κ' := 2) hza1 hkh0
      have hka1 : z_kd a1 (z_nO 2 a1 u) = 2 ∧ 2 ≠ 0 := z_kOs (by decide)
      refine z_dup S dX5_init_29 (z_rfc (some a1)) ?_
      refine z_callINv (As := []) (st := [va_rf (some a1), .int x1, va_rf (z_gR 26 h0 u)]) S (z_ECok D cy A t0 mi) hE (me_X0_init l D cy A t0 mi _ (z_nO 2 a1 u) a1 hka1 hw) (z_goI wd_93) wd_52 (nw_X5_17 (z_ECnw hE)) wd_92 rfl hdS_X0_init ⟨Nat.le_of_ble_eq_true rfl, Nat.le_of_ble_eq_true rfl⟩ rfl rfl (fun _ h => h.re) (fun _ _ _ h h' => h.ba h') rfl (Nat.le_trans (z_sq (z_s1 (z_sq z_s0))) (by decide)) dX5_init_30 ⟨(by show kc + 1 + 2 ≤ 124; omega), (by show ks + 4 + 36 ≤ 1680; omega)⟩ rfl (fun u2 hw => ?_)
      obtain ⟨hw, hm2⟩ := hw
      have hkh0 := hm2.k hkh0
      have hka1 := hm2.k hka1
      obtain ⟨a3, ea3, hka3, hw⟩ := hw
      have hka3 : z_kd a3 u2 = 11 ∧ 11 ≠ 0 := ⟨hka3, by decide⟩
      obtain ⟨hi2, hw⟩ := hw
      refine z_st (st' := [va_rf (some a1), .int x1, va_rf (some a3)]) (congrArg (fun r : Option Nat => ([va_rf (some a1), .int x1, va_rf r] : List Value)) ea3) ?_
      refine z_caast (κ := 11) (κv := 2) (v := a1) S hE hka3 (by decide) rfl hka1 (by decide) rfl (fun comp c0 g1 g2 => (vb_asgS comp c0 g1 g2.1)) hi2 dX5_init_33 ?_
      refine z_iinc (v := x1 + 1) (pl := 1) S [(1, .int (x1 + 1)), (0, va_rf (some h0))] dX5_init_34 rfl rfl (by decide) rfl ?_
      refine z_lv (lv' := [(0, va_rf (some h0)), (1, .int (x1 + 1))]) [1, 0] rfl ?_
      refine z_goto S 15 dX5_init_37 (by decide) ?_
      exact ih _ _ (z_sR a3 x1.toNatClampNeg (some a1) u2) (x1 + 1) (by omega) (by omega) hkh0 hw
set_option maxRecDepth 20000 in
theorem mb_X5_init {p : Program} {l : Launch} {e : Env} {s : State} {m : MethodId} {args : Array Value} {below : List Frame} {meth : Method} {c : Code} {D : va_G} {cy : Nat → ClassId} {A : Nat → Prop} {t0 mi : Nat} {u0 : z_St} {h0 : Nat} (S : CallFix p m c cX5_init 2 s args z_T RX5) (hlk : meth.locks = false) (hr : meth.sig.returnType = none) (hE : z_EC D cy A t0 mi s) (hnm : meth.name = "<init>") {post : z_St → Prop}  (u : z_St)  (hkh0 : z_kd h0 u = 7 ∧ 7 ≠ 0) (hw : w_X5_init post t0 mi h0 u ) : z_V A (z_hC D cy A t0 u0) p l e rm_X5_init s m args below meth c 2 (MQ below (va_Qv (fun (u' : z_St) => post u' ∧ z_mono u0 u') (fun (u' : z_St) t => z_hC D cy A t0 u0 u' t.heap) A) args s 124 1680 A) 0 0 u 0 [(0, va_rf (some h0))] [] := by
  refine z_aload_n (x := some h0) S 0 dX5_init_0 rfl rfl ?_
  refine z_obj (a := h0) S wd_87 wd_80 wd_81 (Nat.le_of_ble_eq_true rfl) (Nat.le_trans (Nat.add_le_add_right z_s0 12) (Nat.le_of_ble_eq_true rfl)) dX5_init_1 ?_
  refine z_aload_n (x := some h0) S 0 dX5_init_4 rfl rfl ?_
  refine z_bipush (v := 40) S dX5_init_5 (by decide) ?_
  refine z_cnewR (κ := 11) (N' := 40) S hE (by decide) rfl wd_88 (nw_ao_11 (z_ECnw hE)) (by decide) rfl (by decide) (Nat.le_of_ble_eq_true rfl) (Nat.le_of_ble_eq_true rfl) dX5_init_7 (fun a1 hza1 => ?_)
  have hw := hw a1 hza1
  have hkh0 := z_kA (κ' := 11) (N := 40) hza1 hkh0
  have hka1 : z_kd a1 (z_nA 11 a1 40 u) = 11 ∧ 11 ≠ 0 := z_kAs (by decide)
  refine zb_p_X5_11 (some a1) S hE hkh0 hnm dX5_init_10 ?_
  refine z_iconst (v := 0) S dX5_init_13 (by decide) ?_
  refine z_istore_n S [(1, .int 0), (0, va_rf (some h0))] dX5_init_14 rfl (by decide) rfl ?_
  refine z_lv (lv' := [(0, va_rf (some h0)), (1, .int 0)]) [1, 0] rfl ?_
  obtain ⟨n0, hn0, hw⟩ := hw
  refine z_widen (k' := 1) (n' := 40) (Nat.le_of_ble_eq_true rfl) (Nat.le_of_ble_eq_true rfl) ?_
  exact mb_X5_init_15 S hlk hr hE hnm n0 1 40 (z_pR 26 h0 (some a1) (z_nA 11 a1 40 u)) 0 (by omega) (by omega) hkh0 hw
theorem me_X5_init (l : Launch) (D : va_G) (cy : Nat → ClassId) (A : Nat → Prop) (t0 mi : Nat) (post : z_St → Prop) (u : z_St) (h0 : Nat) (hkh0 : z_kd h0 u = 7 ∧ 7 ≠ 0) (hw : w_X5_init post t0 mi h0 u ) : z_Mv l yX5_init (Cond.code yX5_init cX5_init 2 none :: z_T) rm_X5_init [va_rf (some h0)] (z_EC D cy A t0 mi) (z_hC D cy A t0 u) u (fun u' => post u' ∧ z_mono u u') 124 1680 A :=
  z_met (by decide) (Nat.le_of_ble_eq_true rfl) (fun p e s m args below meth c S hlk hr hnm hE => mb_X5_init S hlk hr hE hnm u  hkh0 hw)
abbrev rm_X1_init : Room := { frames := 1, cells := 1, slots := 3, locals := 40 }
def w_X1_init (post : z_St → Prop) (t0 mi h0 : Nat) (u : z_St)  : Prop := (∀ a1 : Nat, z_kd a1 u = 0 → (post (z_pI 5 h0 0 (z_pR 4 h0 (some a1) (z_nA 14 a1 3 u)))))
set_option maxRecDepth 20000 in
theorem mb_X1_init {p : Program} {l : Launch} {e : Env} {s : State} {m : MethodId} {args : Array Value} {below : List Frame} {meth : Method} {c : Code} {D : va_G} {cy : Nat → ClassId} {A : Nat → Prop} {t0 mi : Nat} {u0 : z_St} {h0 : Nat} (S : CallFix p m c cX1_init 1 s args z_T RX1) (hlk : meth.locks = false) (hr : meth.sig.returnType = none) (hE : z_EC D cy A t0 mi s) (hnm : meth.name = "<init>") {post : z_St → Prop}  (u : z_St)  (hkh0 : z_kd h0 u = 3 ∧ 3 ≠ 0) (hw : w_X1_init post t0 mi h0 u ) : z_V A (z_hC D cy A t0 u0) p l e rm_X1_init s m args below meth c 1 (MQ below (va_Qv (fun (u' : z_St) => post u' ∧ z_mono u0 u') (fun (u' : z_St) t => z_hC D cy A t0 u0 u' t.heap) A) args s 1 3 A) 0 0 u 0 [(0, va_rf (some h0))] [] := by
  refine z_aload_n (x := some h0) S 0 dX1_init_0 rfl rfl ?_
  refine z_obj (a := h0) S wd_156 wd_80 wd_81 (Nat.le_of_ble_eq_true rfl) (Nat.le_trans (Nat.add_le_add_right z_s0 12) (Nat.le_of_ble_eq_true rfl)) dX1_init_1 ?_
  refine z_aload_n (x := some h0) S 0 dX1_init_4 rfl rfl ?_
  refine z_iconst (v := 3) S dX1_init_5 (by decide) ?_
  refine z_cnewR (κ := 14) (N' := 3) S hE (by decide) rfl wd_157 (nw_ao_14 (z_ECnw hE)) (by decide) rfl (by decide) (Nat.le_of_ble_eq_true rfl) (Nat.le_of_ble_eq_true rfl) dX1_init_6 (fun a1 hza1 => ?_)
  have hw := hw a1 hza1
  have hkh0 := z_kA (κ' := 14) (N := 3) hza1 hkh0
  have hka1 : z_kd a1 (z_nA 14 a1 3 u) = 14 ∧ 14 ≠ 0 := z_kAs (by decide)
  refine zb_p_X1_11 (some a1) S hE hkh0 hnm dX1_init_9 ?_
  refine z_aload_n (x := some h0) S 0 dX1_init_12 rfl rfl ?_
  refine z_iconst (v := 0) S dX1_init_13 (by decide) ?_
  refine zb_p_X1_17 S hE hkh0 dX1_init_14 ?_
  exact z_cvret S hr hlk dX1_init_17 (Nat.le_of_ble_eq_true rfl) (Nat.le_of_ble_eq_true rfl) hw
theorem me_X1_init (l : Launch) (D : va_G) (cy : Nat → ClassId) (A : Nat → Prop) (t0 mi : Nat) (post : z_St → Prop) (u : z_St) (h0 : Nat) (hkh0 : z_kd h0 u = 3 ∧ 3 ≠ 0) (hw : w_X1_init post t0 mi h0 u ) : z_Mv l yX1_init (Cond.code yX1_init cX1_init 1 none :: z_T) rm_X1_init [va_rf (some h0)] (z_EC D cy A t0 mi) (z_hC D cy A t0 u) u (fun u' => post u' ∧ z_mono u u') 1 3 A :=
  z_met (by decide) (Nat.le_of_ble_eq_true rfl) (fun p e s m args below meth c S hlk hr hnm hE => mb_X1_init S hlk hr hE hnm u  hkh0 hw)
abbrev rm_X4_init : Room := { frames := 1, cells := 0, slots := 0, locals := 40 }
def w_X4_init (post : z_St → Prop) (t0 mi h0 : Nat) (u : z_St)  : Prop := (post (z_pI 25 h0 0 (z_pI 24 h0 0 (z_pI 23 h0 0 (z_pR 22 h0 none (z_pR 21 h0 none u))))))
set_option maxRecDepth 20000 in
theorem mb_X4_init {p : Program} {l : Launch} {e : Env} {s : State} {m : MethodId} {args : Array Value} {below : List Frame} {meth : Method} {c : Code} {D : va_G} {cy : Nat → ClassId} {A : Nat → Prop} {t0 mi : Nat} {u0 : z_St} {h0 : Nat} (S : CallFix p m c cX4_init 1 s args z_T RX4) (hlk : meth.locks = false) (hr : meth.sig.returnType = none) (hE : z_EC D cy A t0 mi s) (hnm : meth.name = "<init>") {post : z_St → Prop}  (u : z_St)  (hkh0 : z_kd h0 u = 6 ∧ 6 ≠ 0) (hw : w_X4_init post t0 mi h0 u ) : z_V A (z_hC D cy A t0 u0) p l e rm_X4_init s m args below meth c 1 (MQ below (va_Qv (fun (u' : z_St) => post u' ∧ z_mono u0 u') (fun (u' : z_St) t => z_hC D cy A t0 u0 u' t.heap) A) args s 0 0 A) 0 0 u 0 [(0, va_rf (some h0))] [] := by
  refine z_aload_n (x := some h0) S 0 dX4_init_0 rfl rfl ?_
  refine z_obj (a := h0) S wd_178 wd_80 wd_81 (Nat.le_of_ble_eq_true rfl) (Nat.le_trans (Nat.add_le_add_right z_s0 12) (Nat.le_of_ble_eq_true rfl)) dX4_init_1 ?_
  refine z_aload_n (x := some h0) S 0 dX4_init_4 rfl rfl ?_
  refine z_null S dX4_init_5 ?_
  refine zb_p_X4_9 none S hE hkh0 dX4_init_6 ?_
  refine z_aload_n (x := some h0) S 0 dX4_init_9 rfl rfl ?_
  refine z_null S dX4_init_10 ?_
  refine zb_p_X4_15 none S hE hkh0 dX4_init_11 ?_
  refine z_aload_n (x := some h0) S 0 dX4_init_14 rfl rfl ?_
  refine z_iconst (v := 0) S dX4_init_15 (by decide) ?_
  refine zb_p_X4_18 S hE hkh0 dX4_init_16 ?_
  refine z_aload_n (x := some h0) S 0 dX4_init_19 rfl rfl ?_
  refine z_iconst (v := 0) S dX4_init_20 (by decide) ?_
  refine zb_p_X4_22 S hE hkh0 dX4_init_21 ?_
  refine z_aload_n (x := some h0) S 0 dX4_init_24 rfl rfl ?_
  refine z_iconst (v := 0) S dX4_init_25 (by decide) ?_
  refine zb_p_X4_25 S hE hkh0 dX4_init_26 ?_
  exact z_cvret S hr hlk dX4_init_29 (Nat.le_of_ble_eq_true rfl) (Nat.le_of_ble_eq_true rfl) hw
theorem me_X4_init (l : Launch) (D : va_G) (cy : Nat → ClassId) (A : Nat → Prop) (t0 mi : Nat) (post : z_St → Prop) (u : z_St) (h0 : Nat) (hkh0 : z_kd h0 u = 6 ∧ 6 ≠ 0) (hw : w_X4_init post t0 mi h0 u ) : z_Mv l yX4_init (Cond.code yX4_init cX4_init 1 none :: z_T) rm_X4_init [va_rf (some h0)] (z_EC D cy A t0 mi) (z_hC D cy A t0 u) u (fun u' => post u' ∧ z_mono u u') 0 0 A :=
  z_met (by decide) (Nat.le_of_ble_eq_true rfl) (fun p e s m args below meth c S hlk hr hnm hE => mb_X4_init S hlk hr hE hnm u  hkh0 hw)
abbrev rm_X2_init : Room := { frames := 2, cells := 2, slots := 13, locals := 60 }
def w_X2_init (post : z_St → Prop) (t0 mi h0 : Nat) (u : z_St)  : Prop := (∀ a1 : Nat, z_kd a1 u = 0 → (∀ a2 : Nat, z_kd a2 (z_pI 11 h0 0 (z_pI 10 h0 0 (z_pI 9 h0 0 (z_pI 8 h0 0 (z_pI 7 h0 0 (z_pR 6 h0 (some a1) (z_nA 10 a1 8 u))))))) = 0 → (w_X4_init (fun u3 => (post (z_pI 15 h0 0 (z_pI 14 h0 0 (z_pI 13 h0 0 (z_pR 12 h0 (some a2) u3)))))) t0 mi a2 (z_nO 6 a2 (z_pI 11 h0 0 (z_pI 10 h0 0 (z_pI 9 h0 0 (z_pI 8 h0 0 (z_pI 7 h0 0 (z_pR 6 h0 (some a1) (z_nA 10 a1 8 u)))))))) )))
set_option maxRecDepth 20000 in
theorem mb_X2_init {p : Program} {l : Launch} {e : Env} {s : State} {m : MethodId} {args : Array Value} {below : List Frame} {meth : Method} {c : Code} {D : va_G} {cy : Nat → ClassId} {A : Nat → Prop} {t0 mi : Nat} {u0 : z_St} {h0 : Nat} (S : CallFix p m c cX2_init 1 s args z_T RX2) (hlk : meth.locks = false) (hr : meth.sig.returnType = none) (hE : z_EC D cy A t0 mi s) (hnm : meth.name = "<init>") {post : z_St → Prop}  (u : z_St)  (hkh0 : z_kd h0 u = 4 ∧ 4 ≠ 0) (hw : w_X2_init post t0 mi h0 u ) : z_V A (z_hC D cy A t0 u0) p l e rm_X2_init s m args below meth c 1 (MQ below (va_Qv (fun (u' : z_St) => post u' ∧ z_mono u0 u') (fun (u' : z_St) t => z_hC D cy A t0 u0 u' t.heap) A) args s 2 13 A) 0 0 u 0 [(0, va_rf (some h0))] [] := by
  refine z_aload_n (x := some h0) S 0 dX2_init_0 rfl rfl ?_
  refine z_obj (a := h0) S wd_172 wd_80 wd_81 (Nat.le_of_ble_eq_true rfl) (Nat.le_trans (Nat.add_le_add_right z_s0 12) (Nat.le_of_ble_eq_true rfl)) dX2_init_1 ?_
  refine z_aload_n (x := some h0) S 0 dX2_init_4 rfl rfl ?_
  refine z_bipush (v := 8) S dX2_init_5 (by decide) ?_
  refine z_cnewI (N' := 8) S hE wd_arrI (by decide) rfl (by decide) (Nat.le_of_ble_eq_true rfl) (Nat.le_of_ble_eq_true rfl) dX2_init_7 (fun a1 hza1 => ?_)
  have hw := hw a1 hza1
  have hkh0 := z_kA (κ' := 10) (N := 8) hza1 hkh0
  have hka1 : z_kd a1 (z_nA 10 a1 8 u) = 10 ∧ 10 ≠ 0 := z_kAs (by decide)
  refine zb_p_X2_9 (some a1) S hE hkh0 hnm dX2_init_9 ?_
  refine z_aload_n (x := some h0) S 0 dX2_init_12 rfl rfl ?_
  refine z_iconst (v := 0) S dX2_init_13 (by decide) ?_
  refine zb_p_X2_15 S hE hkh0 dX2_init_14 ?_
  refine z_aload_n (x := some h0) S 0 dX2_init_17 rfl rfl ?_
  refine z_iconst (v := 0) S dX2_init_18 (by decide) ?_
  refine zb_p_X2_19 S hE hkh0 (Or.inl rfl) dX2_init_19 ?_
  refine z_aload_n (x := some h0) S 0 dX2_init_22 rfl rfl ?_
  refine z_iconst (v := 0) S dX2_init_23 (by decide) ?_
  refine zb_p_X2_23 S hE hkh0 (Or.inl rfl) dX2_init_24 ?_
  refine z_aload_n (x := some h0) S 0 dX2_init_27 rfl rfl ?_
  refine z_iconst (v := 0) S dX2_init_28 (by decide) ?_
  refine zb_p_X2_26 S hE hkh0 dX2_init_29 ?_
  refine z_aload_n (x := some h0) S 0 dX2_init_32 rfl rfl ?_
  refine z_iconst (v := 0) S dX2_init_33 (by decide) ?_
  refine zb_p_X2_29 S hE hkh0 dX2_init_34 ?_
  refine z_aload_n (x := some h0) S 0 dX2_init_37 rfl rfl ?_
  refine zb_n_X2_32 S hE (Nat.le_of_ble_eq_true rfl) (Nat.le_of_ble_eq_true rfl) dX2_init_38 (fun a2 hza2 => ?_)
  have hw := hw a2 hza2
  have hkh0 := z_kO (κ' := 6) hza2 hkh0
  have hka1 := z_kO (κ' := 6) hza2 hka1
  have hka2 : z_kd a2 (z_nO 6 a2 (z_pI 11 h0 0 (z_pI 10 h0 0 (z_pI 9 h0 0 (z_pI 8 h0 0 (z_pI 7 h0 0 (z_pR 6 h0 (some a1) (z_nA 10 a1 8 u)))))))) = 6 ∧ 6 ≠ 0 := z_kOs (by decide)
  refine z_dup S dX2_init_41 (z_rfc (some a2)) ?_
  refine z_callINv (As := []) (st := [va_rf (some a2), va_rf (some h0)]) S (z_ECok D cy A t0 mi) hE (me_X4_init l D cy A t0 mi _ (z_nO 6 a2 (z_pI 11 h0 0 (z_pI 10 h0 0 (z_pI 9 h0 0 (z_pI 8 h0 0 (z_pI 7 h0 0 (z_pR 6 h0 (some a1) (z_nA 10 a1 8 u)))))))) a2 hka2 hw) (z_goI wd_177) wd_58 (nw_X2_34 (z_ECnw hE)) wd_176 rfl hdS_X4_init ⟨Nat.le_of_ble_eq_true rfl, Nat.le_of_ble_eq_true rfl⟩ rfl rfl (fun _ h => h.re) (fun _ _ _ h h' => h.ba h') rfl (Nat.le_trans (z_sq (z_sq z_s0)) (by decide)) dX2_init_42 ⟨(Nat.le_of_ble_eq_true rfl), (Nat.le_of_ble_eq_true rfl)⟩ rfl (fun u3 hw => ?_)
  obtain ⟨hw, hm3⟩ := hw
  have hkh0 := hm3.k hkh0
  have hka1 := hm3.k hka1
  have hka2 := hm3.k hka2
  refine zb_p_X2_35 (some a2) S hE hkh0 dX2_init_45 ?_
  refine z_aload_n (x := some h0) S 0 dX2_init_48 rfl rfl ?_
  refine z_iconst (v := 0) S dX2_init_49 (by decide) ?_
  refine zb_p_X2_39 S hE hkh0 dX2_init_50 ?_
  refine z_aload_n (x := some h0) S 0 dX2_init_53 rfl rfl ?_
  refine z_iconst (v := 0) S dX2_init_54 (by decide) ?_
  refine zb_p_X2_42 S hE hkh0 dX2_init_55 ?_
  refine z_aload_n (x := some h0) S 0 dX2_init_58 rfl rfl ?_
  refine z_iconst (v := 0) S dX2_init_59 (by decide) ?_
  refine zb_p_X2_45 S hE hkh0 dX2_init_60 ?_
  exact z_cvret S hr hlk dX2_init_63 (Nat.le_of_ble_eq_true rfl) (Nat.le_of_ble_eq_true rfl) hw
theorem me_X2_init (l : Launch) (D : va_G) (cy : Nat → ClassId) (A : Nat → Prop) (t0 mi : Nat) (post : z_St → Prop) (u : z_St) (h0 : Nat) (hkh0 : z_kd h0 u = 4 ∧ 4 ≠ 0) (hw : w_X2_init post t0 mi h0 u ) : z_Mv l yX2_init (Cond.code yX2_init cX2_init 1 none :: z_T) rm_X2_init [va_rf (some h0)] (z_EC D cy A t0 mi) (z_hC D cy A t0 u) u (fun u' => post u' ∧ z_mono u u') 2 13 A :=
  z_met (by decide) (Nat.le_of_ble_eq_true rfl) (fun p e s m args below meth c S hlk hr hnm hE => mb_X2_init S hlk hr hE hnm u  hkh0 hw)
abbrev rm_X3_init : Room := { frames := 1, cells := 0, slots := 0, locals := 40 }
def w_X3_init (post : z_St → Prop) (t0 mi h0 : Nat) (u : z_St) (x1 : Int32) (x2 : Int32) (x3 : Option Nat) (x4 : Option Nat) : Prop := (post (z_pR 19 h0 x4 (z_pR 18 h0 x3 (z_pI 17 h0 x2 (z_pI 16 h0 x1 (z_pI 20 h0 0 u))))))
set_option maxRecDepth 20000 in
theorem mb_X3_init {p : Program} {l : Launch} {e : Env} {s : State} {m : MethodId} {args : Array Value} {below : List Frame} {meth : Method} {c : Code} {D : va_G} {cy : Nat → ClassId} {A : Nat → Prop} {t0 mi : Nat} {u0 : z_St} {h0 : Nat} (S : CallFix p m c cX3_init 5 s args z_T RX3) (hlk : meth.locks = false) (hr : meth.sig.returnType = none) (hE : z_EC D cy A t0 mi s) (hnm : meth.name = "<init>") {post : z_St → Prop}  (u : z_St) (x1 : Int32) (x2 : Int32) (x3 : Option Nat) (x4 : Option Nat) (hkh0 : z_kd h0 u = 5 ∧ 5 ≠ 0) (hw : w_X3_init post t0 mi h0 u x1 x2 x3 x4) : z_V A (z_hC D cy A t0 u0) p l e rm_X3_init s m args below meth c 5 (MQ below (va_Qv (fun (u' : z_St) => post u' ∧ z_mono u0 u') (fun (u' : z_St) t => z_hC D cy A t0 u0 u' t.heap) A) args s 0 0 A) 0 0 u 0 [(0, va_rf (some h0)), (1, .int x1), (2, .int x2), (3, va_rf x3), (4, va_rf x4)] [] := by
  refine z_aload_n (x := some h0) S 0 dX3_init_0 rfl rfl ?_
  refine z_obj (a := h0) S wd_565 wd_80 wd_81 (Nat.le_of_ble_eq_true rfl) (Nat.le_trans (Nat.add_le_add_right z_s0 12) (Nat.le_of_ble_eq_true rfl)) dX3_init_1 ?_
  refine z_aload_n (x := some h0) S 0 dX3_init_4 rfl rfl ?_
  refine z_iconst (v := 0) S dX3_init_5 (by decide) ?_
  refine zb_p_X3_7 S hE hkh0 dX3_init_6 ?_
  refine z_aload_n (x := some h0) S 0 dX3_init_9 rfl rfl ?_
  refine z_iload_n S 1 dX3_init_10 rfl rfl ?_
  refine zb_p_X3_13 S hE hkh0 hnm dX3_init_11 ?_
  refine z_aload_n (x := some h0) S 0 dX3_init_14 rfl rfl ?_
  refine z_iload_n S 2 dX3_init_15 rfl rfl ?_
  refine zb_p_X3_16 S hE hkh0 hnm dX3_init_16 ?_
  refine z_aload_n (x := some h0) S 0 dX3_init_19 rfl rfl ?_
  refine z_aload_n (x := x3) S 3 dX3_init_20 rfl rfl ?_
  refine zb_p_X3_19 x3 S hE hkh0 hnm dX3_init_21 ?_
  refine z_aload_n (x := some h0) S 0 dX3_init_24 rfl rfl ?_
  refine z_aload (x := x4) S 4 dX3_init_25 rfl ?_
  refine zb_p_X3_23 x4 S hE hkh0 hnm dX3_init_27 ?_
  exact z_cvret S hr hlk dX3_init_30 (Nat.le_of_ble_eq_true rfl) (Nat.le_of_ble_eq_true rfl) hw
theorem me_X3_init (l : Launch) (D : va_G) (cy : Nat → ClassId) (A : Nat → Prop) (t0 mi : Nat) (post : z_St → Prop) (u : z_St) (h0 : Nat) (x1 : Int32) (x2 : Int32) (x3 : Option Nat) (x4 : Option Nat) (hkh0 : z_kd h0 u = 5 ∧ 5 ≠ 0) (hw : w_X3_init post t0 mi h0 u x1 x2 x3 x4) : z_Mv l yX3_init (Cond.code yX3_init cX3_init 5 none :: z_T) rm_X3_init [va_rf (some h0), .int x1, .int x2, va_rf x3, va_rf x4] (z_EC D cy A t0 mi) (z_hC D cy A t0 u) u (fun u' => post u' ∧ z_mono u u') 0 0 A :=
  z_met (by decide) (by simp [lg_sl, z_rfc, z_ic]) (fun p e s m args below meth c S hlk hr hnm hE => (by simp [lv_args, z_rfc, z_ic] : lv_args 0 [va_rf (some h0), .int x1, .int x2, va_rf x3, va_rf x4] = [(0, va_rf (some h0)), (1, .int x1), (2, .int x2), (3, va_rf x3), (4, va_rf x4)]) ▸ mb_X3_init S hlk hr hE hnm u x1 x2 x3 x4 hkh0 hw)
abbrev rm_X6_between : Room := { frames := 1, cells := 0, slots := 0, locals := 40 }
def w_X6_between (post : Int32 → z_St → Prop) (t0 mi : Nat) (u : z_St) (x0 : Int32) (x1 : Int32) (x2 : Int32) : Prop := (∀ q1 : Int32, q1 = (if x0 < x2 then x0 else x2) → (∀ q2 : Int32, q2 = (if x1 < q1 then q1 else x1) → (post q2 u)))
set_option maxRecDepth 20000 in
theorem mb_X6_between {p : Program} {l : Launch} {e : Env} {s : State} {m : MethodId} {args : Array Value} {below : List Frame} {meth : Method} {c : Code} {D : va_G} {cy : Nat → ClassId} {A : Nat → Prop} {t0 mi : Nat} {u0 : z_St} (S : CallFix p m c cX6_between 3 s args z_T RX6) (hlk : meth.locks = false) (hr : meth.sig.returnType = (some .int)) (hE : z_EC D cy A t0 mi s) {post : Int32 → z_St → Prop}  (u : z_St) (x0 : Int32) (x1 : Int32) (x2 : Int32) (hw : w_X6_between post t0 mi u x0 x1 x2) : z_V A (z_hC D cy A t0 u0) p l e rm_X6_between s m args below meth c 3 (MQ below (va_Qi (fun r (u' : z_St) => post r u' ∧ z_mono u0 u') (fun (u' : z_St) t => z_hC D cy A t0 u0 u' t.heap) A) args s 0 0 A) 0 0 u 0 [(0, .int x0), (1, .int x1), (2, .int x2)] [] := by
  refine z_iload_n S 1 dX6_between_0 rfl rfl ?_
  refine z_iload_n S 2 dX6_between_1 rfl rfl ?_
  refine z_iload_n S 0 dX6_between_2 rfl rfl ?_
  refine z_mmin S wd_443 wd_444 wd_66 wd_445 (Nat.le_of_ble_eq_true rfl) (Nat.le_trans (Nat.add_le_add_right (z_s1 z_s0) 13) (Nat.le_of_ble_eq_true rfl)) (Nat.le_of_ble_eq_true rfl) (Nat.le_of_ble_eq_true rfl) dX6_between_3 ?_
  have hw := hw _ rfl
  revert hw
  generalize (if x0 < x2 then x0 else x2) = q1
  intro hw
  refine z_mmax S wd_446 wd_447 wd_66 wd_448 (Nat.le_of_ble_eq_true rfl) (Nat.le_trans (Nat.add_le_add_right z_s0 13) (Nat.le_of_ble_eq_true rfl)) (Nat.le_of_ble_eq_true rfl) (Nat.le_of_ble_eq_true rfl) dX6_between_6 ?_
  have hw := hw _ rfl
  revert hw
  generalize (if x1 < q1 then q1 else x1) = q2
  intro hw
  exact z_ciret S hr hlk dX6_between_9 (Nat.le_of_ble_eq_true rfl) (Nat.le_of_ble_eq_true rfl) hw
theorem me_X6_between (l : Launch) (D : va_G) (cy : Nat → ClassId) (A : Nat → Prop) (t0 mi : Nat) (post : Int32 → z_St → Prop) (u : z_St) (x0 : Int32) (x1 : Int32) (x2 : Int32) (hw : w_X6_between post t0 mi u x0 x1 x2) : z_Mi l yX6_between (Cond.code yX6_between cX6_between 3 (some .int) :: z_T) rm_X6_between [.int x0, .int x1, .int x2] (z_EC D cy A t0 mi) (z_hC D cy A t0 u) u (fun r u' => post r u' ∧ z_mono u u') 0 0 A :=
  z_met (by decide) (Nat.le_of_ble_eq_true rfl) (fun p e s m args below meth c S hlk hr hnm hE => mb_X6_between S hlk hr hE u x0 x1 x2 hw)
abbrev rm_X2_speaksMessage : Room := { frames := 0, cells := 0, slots := 0, locals := 0 }
def w_X2_speaksMessage (post : Int32 → z_St → Prop) (t0 mi h0 : Nat) (u : z_St)  : Prop := (∀ y1 : Int32, y1 = (if (z_gI 8 h0 u) = 0 then 0 else (if (z_gI 11 h0 u) = 0 then 1 else 0)) → (narrow .boolean (.int y1) = .int y1 ∧ post y1 u))
set_option maxRecDepth 20000 in
theorem mb_X2_speaksMessage {p : Program} {l : Launch} {e : Env} {s : State} {m : MethodId} {args : Array Value} {below : List Frame} {meth : Method} {c : Code} {D : va_G} {cy : Nat → ClassId} {A : Nat → Prop} {t0 mi : Nat} {u0 : z_St} {h0 : Nat} (S : CallFix p m c cX2_speaksMessage 1 s args z_T RX2) (hlk : meth.locks = false) (hr : meth.sig.returnType = (some .boolean)) (hE : z_EC D cy A t0 mi s) {post : Int32 → z_St → Prop}  (u : z_St)  (hkh0 : z_kd h0 u = 4 ∧ 4 ≠ 0) (hw : w_X2_speaksMessage post t0 mi h0 u ) : z_V A (z_hC D cy A t0 u0) p l e rm_X2_speaksMessage s m args below meth c 1 (MQ below (va_Qi (fun r (u' : z_St) => post r u' ∧ z_mono u0 u') (fun (u' : z_St) t => z_hC D cy A t0 u0 u' t.heap) A) args s 0 0 A) 0 0 u 0 [(0, va_rf (some h0))] [] := by
  refine z_aload_n (x := some h0) S 0 dX2_speaksMessage_0 rfl rfl ?_
  refine zb_g_X2_19 (x := z_gI 8 h0 u) S hE hkh0 rfl dX2_speaksMessage_1 ?_
  suffices hJ : ∀ y1 : Int32, y1 = (if (z_gI 8 h0 u) = 0 then 0 else (if (z_gI 11 h0 u) = 0 then 1 else 0)) → z_V A (z_hC D cy A t0 u0) p l e rm_X2_speaksMessage s m args below meth c 1 (MQ below (va_Qi (fun r (u' : z_St) => post r u' ∧ z_mono u0 u') (fun (u' : z_St) t => z_hC D cy A t0 u0 u' t.heap) A) args s 0 0 A) 0 0 u 19 [] [.int y1] from by
    refine z_if_eq S 18 dX2_speaksMessage_4 (by decide) (fun c2 => ?_) (fun c2 => ?_)
    · refine z_iconst (v := 0) S dX2_speaksMessage_18 (by decide) ?_
      refine z_lv (lv' := []) [] rfl ?_
      exact hJ _ (by rw [if_pos c2])
    · refine z_aload_n (x := some h0) S 0 dX2_speaksMessage_7 rfl rfl ?_
      refine zb_g_X2_29 (x := z_gI 11 h0 u) S hE hkh0 rfl dX2_speaksMessage_8 ?_
      refine z_if_ne S 18 dX2_speaksMessage_11 (by decide) (fun c3 => ?_) (fun c3 => ?_)
      · refine z_iconst (v := 0) S dX2_speaksMessage_18 (by decide) ?_
        refine z_lv (lv' := []) [] rfl ?_
        exact hJ _ (by rw [if_neg c2, if_neg c3])
      · refine z_iconst (v := 1) S dX2_speaksMessage_14 (by decide) ?_
        refine z_goto S 19 dX2_speaksMessage_15 (by decide) ?_
        refine z_lv (lv' := []) [] rfl ?_
        exact hJ _ (by rw [if_neg c2, if_pos c3])
  intro y1 ey1
  have hw := hw y1 ey1
  exact z_czret S hr hlk dX2_speaksMessage_19 (Nat.le_of_ble_eq_true rfl) (Nat.le_of_ble_eq_true rfl) hw.1 hw.2
theorem me_X2_speaksMessage (l : Launch) (D : va_G) (cy : Nat → ClassId) (A : Nat → Prop) (t0 mi : Nat) (post : Int32 → z_St → Prop) (u : z_St) (h0 : Nat) (hkh0 : z_kd h0 u = 4 ∧ 4 ≠ 0) (hw : w_X2_speaksMessage post t0 mi h0 u ) : z_Mi l yX2_speaksMessage (Cond.code yX2_speaksMessage cX2_speaksMessage 1 (some .boolean) :: z_T) rm_X2_speaksMessage [va_rf (some h0)] (z_EC D cy A t0 mi) (z_hC D cy A t0 u) u (fun r u' => post r u' ∧ z_mono u u') 0 0 A :=
  z_met (by decide) (Nat.le_of_ble_eq_true rfl) (fun p e s m args below meth c S hlk hr hnm hE => mb_X2_speaksMessage S hlk hr hE u  hkh0 hw)
abbrev rm_X2_forgetGuess : Room := { frames := 0, cells := 0, slots := 0, locals := 0 }
def w_X2_forgetGuess (post : z_St → Prop) (t0 mi h0 : Nat) (u : z_St)  : Prop := (post (z_pI 15 h0 0 (z_pI 14 h0 0 u)))
set_option maxRecDepth 20000 in
theorem mb_X2_forgetGuess {p : Program} {l : Launch} {e : Env} {s : State} {m : MethodId} {args : Array Value} {below : List Frame} {meth : Method} {c : Code} {D : va_G} {cy : Nat → ClassId} {A : Nat → Prop} {t0 mi : Nat} {u0 : z_St} {h0 : Nat} (S : CallFix p m c cX2_forgetGuess 1 s args z_T RX2) (hlk : meth.locks = false) (hr : meth.sig.returnType = none) (hE : z_EC D cy A t0 mi s) {post : z_St → Prop}  (u : z_St)  (hkh0 : z_kd h0 u = 4 ∧ 4 ≠ 0) (hw : w_X2_forgetGuess post t0 mi h0 u ) : z_V A (z_hC D cy A t0 u0) p l e rm_X2_forgetGuess s m args below meth c 1 (MQ below (va_Qv (fun (u' : z_St) => post u' ∧ z_mono u0 u') (fun (u' : z_St) t => z_hC D cy A t0 u0 u' t.heap) A) args s 0 0 A) 0 0 u 0 [(0, va_rf (some h0))] [] := by
  refine z_aload_n (x := some h0) S 0 dX2_forgetGuess_0 rfl rfl ?_
  refine z_iconst (v := 0) S dX2_forgetGuess_1 (by decide) ?_
  refine zb_p_X2_42 S hE hkh0 dX2_forgetGuess_2 ?_
  refine z_aload_n (x := some h0) S 0 dX2_forgetGuess_5 rfl rfl ?_
  refine z_iconst (v := 0) S dX2_forgetGuess_6 (by decide) ?_
  refine zb_p_X2_45 S hE hkh0 dX2_forgetGuess_7 ?_
  exact z_cvret S hr hlk dX2_forgetGuess_10 (Nat.le_of_ble_eq_true rfl) (Nat.le_of_ble_eq_true rfl) hw
theorem me_X2_forgetGuess (l : Launch) (D : va_G) (cy : Nat → ClassId) (A : Nat → Prop) (t0 mi : Nat) (post : z_St → Prop) (u : z_St) (h0 : Nat) (hkh0 : z_kd h0 u = 4 ∧ 4 ≠ 0) (hw : w_X2_forgetGuess post t0 mi h0 u ) : z_Mv l yX2_forgetGuess (Cond.code yX2_forgetGuess cX2_forgetGuess 1 none :: z_T) rm_X2_forgetGuess [va_rf (some h0)] (z_EC D cy A t0 mi) (z_hC D cy A t0 u) u (fun u' => post u' ∧ z_mono u u') 0 0 A :=
  z_met (by decide) (Nat.le_of_ble_eq_true rfl) (fun p e s m args below meth c S hlk hr hnm hE => mb_X2_forgetGuess S hlk hr hE u  hkh0 hw)
abbrev rm_X2_begin : Room := { frames := 2, cells := 1, slots := 5, locals := 60 }
def w_X2_begin (post : z_St → Prop) (t0 mi h0 : Nat) (u : z_St) (x1 : Int32) (x2 : Int32) : Prop := (∀ a1 : Nat, z_kd a1 (z_pI 11 h0 x2 (z_pI 10 h0 x1 (z_pI 9 h0 0 (z_pI 8 h0 1 u)))) = 0 → (w_X4_init (fun u2 => (w_X2_forgetGuess (fun u3 => (post u3)) t0 mi h0 (z_pI 13 h0 0 (z_pI 7 h0 0 (z_pR 12 h0 (some a1) u2))) )) t0 mi a1 (z_nO 6 a1 (z_pI 11 h0 x2 (z_pI 10 h0 x1 (z_pI 9 h0 0 (z_pI 8 h0 1 u))))) ))
set_option maxRecDepth 20000 in
theorem mb_X2_begin {p : Program} {l : Launch} {e : Env} {s : State} {m : MethodId} {args : Array Value} {below : List Frame} {meth : Method} {c : Code} {D : va_G} {cy : Nat → ClassId} {A : Nat → Prop} {t0 mi : Nat} {u0 : z_St} {h0 : Nat} (S : CallFix p m c cX2_begin 3 s args z_T RX2) (hlk : meth.locks = false) (hr : meth.sig.returnType = none) (hE : z_EC D cy A t0 mi s) {post : z_St → Prop}  (u : z_St) (x1 : Int32) (x2 : Int32) (hkh0 : z_kd h0 u = 4 ∧ 4 ≠ 0) (hw : w_X2_begin post t0 mi h0 u x1 x2) : z_V A (z_hC D cy A t0 u0) p l e rm_X2_begin s m args below meth c 3 (MQ below (va_Qv (fun (u' : z_St) => post u' ∧ z_mono u0 u') (fun (u' : z_St) t => z_hC D cy A t0 u0 u' t.heap) A) args s 1 5 A) 0 0 u 0 [(0, va_rf (some h0)), (1, .int x1), (2, .int x2)] [] := by
  refine z_aload_n (x := some h0) S 0 dX2_begin_0 rfl rfl ?_
  refine z_iconst (v := 1) S dX2_begin_1 (by decide) ?_
  refine zb_p_X2_19 S hE hkh0 (Or.inr rfl) dX2_begin_2 ?_
  refine z_aload_n (x := some h0) S 0 dX2_begin_5 rfl rfl ?_
  refine z_iconst (v := 0) S dX2_begin_6 (by decide) ?_
  refine zb_p_X2_23 S hE hkh0 (Or.inl rfl) dX2_begin_7 ?_
  refine z_aload_n (x := some h0) S 0 dX2_begin_10 rfl rfl ?_
  refine z_iload_n S 1 dX2_begin_11 rfl rfl ?_
  refine zb_p_X2_26 S hE hkh0 dX2_begin_12 ?_
  refine z_aload_n (x := some h0) S 0 dX2_begin_15 rfl rfl ?_
  refine z_iload_n S 2 dX2_begin_16 rfl rfl ?_
  refine zb_p_X2_29 S hE hkh0 dX2_begin_17 ?_
  refine z_aload_n (x := some h0) S 0 dX2_begin_20 rfl rfl ?_
  refine zb_n_X2_32 S hE (Nat.le_of_ble_eq_true rfl) (Nat.le_of_ble_eq_true rfl) dX2_begin_21 (fun a1 hza1 => ?_)
  have hw := hw a1 hza1
  have hkh0 := z_kO (κ' := 6) hza1 hkh0
  have hka1 : z_kd a1 (z_nO 6 a1 (z_pI 11 h0 x2 (z_pI 10 h0 x1 (z_pI 9 h0 0 (z_pI 8 h0 1 u))))) = 6 ∧ 6 ≠ 0 := z_kOs (by decide)
  refine z_dup S dX2_begin_24 (z_rfc (some a1)) ?_
  refine z_callINv (As := []) (st := [va_rf (some a1), va_rf (some h0)]) S (z_ECok D cy A t0 mi) hE (me_X4_init l D cy A t0 mi _ (z_nO 6 a1 (z_pI 11 h0 x2 (z_pI 10 h0 x1 (z_pI 9 h0 0 (z_pI 8 h0 1 u))))) a1 hka1 hw) (z_goI wd_177) wd_58 (nw_X2_34 (z_ECnw hE)) wd_176 rfl hdS_X4_init ⟨Nat.le_of_ble_eq_true rfl, Nat.le_of_ble_eq_true rfl⟩ rfl rfl (fun _ h => h.re) (fun _ _ _ h h' => h.ba h') rfl (Nat.le_trans (z_sq (z_sq z_s0)) (by decide)) dX2_begin_25 ⟨(Nat.le_of_ble_eq_true rfl), (Nat.le_of_ble_eq_true rfl)⟩ rfl (fun u2 hw => ?_)
  obtain ⟨hw, hm2⟩ := hw
  have hkh0 := hm2.k hkh0
  have hka1 := hm2.k hka1
  refine zb_p_X2_35 (some a1) S hE hkh0 dX2_begin_28 ?_
  refine z_aload_n (x := some h0) S 0 dX2_begin_31 rfl rfl ?_
  refine z_iconst (v := 0) S dX2_begin_32 (by decide) ?_
  refine zb_p_X2_15 S hE hkh0 dX2_begin_33 ?_
  refine z_aload_n (x := some h0) S 0 dX2_begin_36 rfl rfl ?_
  refine z_iconst (v := 0) S dX2_begin_37 (by decide) ?_
  refine zb_p_X2_39 S hE hkh0 dX2_begin_38 ?_
  refine z_aload_n (x := some h0) S 0 dX2_begin_41 rfl rfl ?_
  refine z_callVv (As := []) (st := []) S (z_ECok D cy A t0 mi) hE (me_X2_forgetGuess l D cy A t0 mi _ (z_pI 13 h0 0 (z_pI 7 h0 0 (z_pR 12 h0 (some a1) u2))) h0 hkh0 hw) gV_X2_48 hdV_X2_forgetGuess ⟨Nat.le_of_ble_eq_true rfl, Nat.le_of_ble_eq_true rfl⟩ rfl rfl (z_recvC (u := z_pI 13 h0 0 (z_pI 7 h0 0 (z_pR 12 h0 (some a1) u2))) hE hkh0 (by decide) rfl) (fun _ h => h.re) (fun _ _ _ h h' => h.ba h') rfl (Nat.le_trans z_s0 (by decide)) dX2_begin_42 ⟨(Nat.le_of_ble_eq_true rfl), (Nat.le_of_ble_eq_true rfl)⟩ rfl (fun u3 hw => ?_)
  obtain ⟨hw, hm3⟩ := hw
  have hkh0 := hm3.k hkh0
  have hka1 := hm3.k hka1
  exact z_cvret S hr hlk dX2_begin_45 (Nat.le_of_ble_eq_true rfl) (Nat.le_of_ble_eq_true rfl) hw
theorem me_X2_begin (l : Launch) (D : va_G) (cy : Nat → ClassId) (A : Nat → Prop) (t0 mi : Nat) (post : z_St → Prop) (u : z_St) (h0 : Nat) (x1 : Int32) (x2 : Int32) (hkh0 : z_kd h0 u = 4 ∧ 4 ≠ 0) (hw : w_X2_begin post t0 mi h0 u x1 x2) : z_Mv l yX2_begin (Cond.code yX2_begin cX2_begin 3 none :: z_T) rm_X2_begin [va_rf (some h0), .int x1, .int x2] (z_EC D cy A t0 mi) (z_hC D cy A t0 u) u (fun u' => post u' ∧ z_mono u u') 1 5 A :=
  z_met (by decide) (Nat.le_of_ble_eq_true rfl) (fun p e s m args below meth c S hlk hr hnm hE => mb_X2_begin S hlk hr hE u x1 x2 hkh0 hw)
abbrev rm_X4_needsBlock : Room := { frames := 0, cells := 0, slots := 0, locals := 0 }
def w_X4_needsBlock_18 (post : Int32 → z_St → Prop) (t0 mi h0 : Nat) (u : z_St)  : Prop := (post 1 u)
def w_X4_needsBlock (post : Int32 → z_St → Prop) (t0 mi h0 : Nat) (u : z_St)  : Prop := ((z_gR 22 h0 u = none → (w_X4_needsBlock_18 post t0 mi h0 u )) ∧ (¬ z_gR 22 h0 u = none → (∃ a1 : Nat, z_gR 22 h0 u = some a1 ∧ z_kd a1 u = 2 ∧ (((z_gI 2 a1 u) < 4 → (post 0 u)) ∧ (¬ (z_gI 2 a1 u) < 4 → (w_X4_needsBlock_18 post t0 mi h0 u ))))))
set_option maxRecDepth 20000 in
theorem mb_X4_needsBlock_18 {p : Program} {l : Launch} {e : Env} {s : State} {m : MethodId} {args : Array Value} {below : List Frame} {meth : Method} {c : Code} {D : va_G} {cy : Nat → ClassId} {A : Nat → Prop} {t0 mi : Nat} {u0 : z_St} {h0 : Nat} (S : CallFix p m c cX4_needsBlock 1 s args z_T RX4) (hlk : meth.locks = false) (hr : meth.sig.returnType = (some .boolean)) (hE : z_EC D cy A t0 mi s) {post : Int32 → z_St → Prop}  (u : z_St)  (hkh0 : z_kd h0 u = 6 ∧ 6 ≠ 0) (hw : w_X4_needsBlock_18 post t0 mi h0 u ) : z_V A (z_hC D cy A t0 u0) p l e rm_X4_needsBlock s m args below meth c 1 (MQ below (va_Qi (fun r (u' : z_St) => post r u' ∧ z_mono u0 u') (fun (u' : z_St) t => z_hC D cy A t0 u0 u' t.heap) A) args s 0 0 A) 0 0 u 18 [] [] := by
  refine z_iconst (v := 1) S dX4_needsBlock_18 (by decide) ?_
  refine z_goto S 23 dX4_needsBlock_19 (by decide) ?_
  exact z_czret S hr hlk dX4_needsBlock_23 (Nat.le_of_ble_eq_true rfl) (Nat.le_of_ble_eq_true rfl) rfl hw
set_option maxRecDepth 20000 in
theorem mb_X4_needsBlock {p : Program} {l : Launch} {e : Env} {s : State} {m : MethodId} {args : Array Value} {below : List Frame} {meth : Method} {c : Code} {D : va_G} {cy : Nat → ClassId} {A : Nat → Prop} {t0 mi : Nat} {u0 : z_St} {h0 : Nat} (S : CallFix p m c cX4_needsBlock 1 s args z_T RX4) (hlk : meth.locks = false) (hr : meth.sig.returnType = (some .boolean)) (hE : z_EC D cy A t0 mi s) {post : Int32 → z_St → Prop}  (u : z_St)  (hkh0 : z_kd h0 u = 6 ∧ 6 ≠ 0) (hw : w_X4_needsBlock post t0 mi h0 u ) : z_V A (z_hC D cy A t0 u0) p l e rm_X4_needsBlock s m args below meth c 1 (MQ below (va_Qi (fun r (u' : z_St) => post r u' ∧ z_mono u0 u') (fun (u' : z_St) t => z_hC D cy A t0 u0 u' t.heap) A) args s 0 0 A) 0 0 u 0 [(0, va_rf (some h0))] [] := by
  refine z_aload_n (x := some h0) S 0 dX4_needsBlock_0 rfl rfl ?_
  refine zb_g_X4_15 (x := z_gR 22 h0 u) S hE hkh0 rfl dX4_needsBlock_1 ?_
  refine z_ifnull (r := z_gR 22 h0 u) S 18 dX4_needsBlock_4 (by decide) (fun c1 => ?_) (fun c1 => ?_)
  · have hw := hw.1 c1
    refine z_lv (lv' := []) [] rfl ?_
    exact mb_X4_needsBlock_18 S hlk hr hE u  hkh0 hw
  · have hw := hw.2 c1
    refine z_aload_n (x := some h0) S 0 dX4_needsBlock_7 rfl rfl ?_
    refine zb_g_X4_15 (x := z_gR 22 h0 u) S hE hkh0 rfl dX4_needsBlock_8 ?_
    obtain ⟨a1, ea1, hka1, hw⟩ := hw
    have hka1 : z_kd a1 u = 2 ∧ 2 ≠ 0 := ⟨hka1, by decide⟩
    refine z_st (st' := [va_rf (some a1)]) (congrArg (fun r : Option Nat => ([va_rf r] : List Value)) ea1) ?_
    refine zb_g_X4_28 (x := z_gI 2 a1 u) S hE hka1 rfl dX4_needsBlock_11 ?_
    refine z_iconst (v := 4) S dX4_needsBlock_14 (by decide) ?_
    refine z_icmp_lt S 22 dX4_needsBlock_15 (by decide) (fun c2 => ?_) (fun c2 => ?_)
    · have hw := hw.1 c2
      refine z_iconst (v := 0) S dX4_needsBlock_22 (by decide) ?_
      exact z_czret S hr hlk dX4_needsBlock_23 (Nat.le_of_ble_eq_true rfl) (Nat.le_of_ble_eq_true rfl) rfl hw
    · have hw := hw.2 c2
      refine z_lv (lv' := []) [] rfl ?_
      exact mb_X4_needsBlock_18 S hlk hr hE u  hkh0 hw
theorem me_X4_needsBlock (l : Launch) (D : va_G) (cy : Nat → ClassId) (A : Nat → Prop) (t0 mi : Nat) (post : Int32 → z_St → Prop) (u : z_St) (h0 : Nat) (hkh0 : z_kd h0 u = 6 ∧ 6 ≠ 0) (hw : w_X4_needsBlock post t0 mi h0 u ) : z_Mi l yX4_needsBlock (Cond.code yX4_needsBlock cX4_needsBlock 1 (some .boolean) :: z_T) rm_X4_needsBlock [va_rf (some h0)] (z_EC D cy A t0 mi) (z_hC D cy A t0 u) u (fun r u' => post r u' ∧ z_mono u u') 0 0 A :=
  z_met (by decide) (Nat.le_of_ble_eq_true rfl) (fun p e s m args below meth c S hlk hr hnm hE => mb_X4_needsBlock S hlk hr hE u  hkh0 hw)
abbrev rm_X5_leastFree : Room := { frames := 0, cells := 0, slots := 0, locals := 0 }
def w_X5_leastFree_2 (post : Int32 → z_St → Prop) (t0 mi h0 : Nat) : Nat → z_St → Int32 → Prop
  | 0 => fun _ _ => False
  | n + 1 => fun u x1 => ((40 ≤ x1 → (post (-1) u)) ∧ (¬ 40 ≤ x1 → (∃ a1 : Nat, z_gR 26 h0 u = some a1 ∧ z_kd a1 u = 11 ∧ (vp_in x1 (z_ln a1 u) ∧ (∃ a2 : Nat, z_aR a1 x1.toNatClampNeg u = some a2 ∧ z_kd a2 u = 2 ∧ ((¬ (z_gI 2 a2 u) = 0 → (w_X5_leastFree_2 post t0 mi h0 n u (x1 + 1))) ∧ ((z_gI 2 a2 u) = 0 → (post x1 u))))))))
def w_X5_leastFree (post : Int32 → z_St → Prop) (t0 mi h0 : Nat) (u : z_St)  : Prop := (∃ n0 : Nat, w_X5_leastFree_2 post t0 mi h0 n0 u 0)
set_option maxRecDepth 20000 in
theorem mb_X5_leastFree_2 {p : Program} {l : Launch} {e : Env} {s : State} {m : MethodId} {args : Array Value} {below : List Frame} {meth : Method} {c : Code} {D : va_G} {cy : Nat → ClassId} {A : Nat → Prop} {t0 mi : Nat} {u0 : z_St} {h0 : Nat} (S : CallFix p m c cX5_leastFree 2 s args z_T RX5) (hlk : meth.locks = false) (hr : meth.sig.returnType = (some .int)) (hE : z_EC D cy A t0 mi s) {post : Int32 → z_St → Prop}  : ∀ (n : Nat) (u : z_St) (x1 : Int32) (hkh0 : z_kd h0 u = 7 ∧ 7 ≠ 0), w_X5_leastFree_2 post t0 mi h0 n u x1 → z_V A (z_hC D cy A t0 u0) p l e rm_X5_leastFree s m args below meth c 2 (MQ below (va_Qi (fun r (u' : z_St) => post r u' ∧ z_mono u0 u') (fun (u' : z_St) t => z_hC D cy A t0 u0 u' t.heap) A) args s 0 0 A) 0 0 u 2 [(0, va_rf (some h0)), (1, .int x1)] [] := by
  intro n
  induction n with
  | zero => intro u x1 hkh0 hw; exact hw.elim
  | succ n ih =>
    intro u x1 hkh0 hw
    refine z_iload_n S 1 dX5_leastFree_2 rfl rfl ?_
    refine z_bipush (v := 40) S dX5_leastFree_3 (by decide) ?_
    refine z_icmp_ge S 28 dX5_leastFree_5 (by decide) (fun c1 => ?_) (fun c1 => ?_)
    · have hw := hw.1 c1
      refine z_iconst (v := (-1)) S dX5_leastFree_28 (by decide) ?_
      exact z_ciret S hr hlk dX5_leastFree_29 (Nat.le_of_ble_eq_true rfl) (Nat.le_of_ble_eq_true rfl) hw
    · have hw := hw.2 c1
      refine z_aload_n (x := some h0) S 0 dX5_leastFree_8 rfl rfl ?_
      refine zb_g_X5_11 (x := z_gR 26 h0 u) S hE hkh0 rfl dX5_leastFree_9 ?_
      refine z_iload_n S 1 dX5_leastFree_12 rfl rfl ?_
      obtain ⟨a1, ea1, hka1, hw⟩ := hw
      have hka1 : z_kd a1 u = 11 ∧ 11 ≠ 0 := ⟨hka1, by decide⟩
      obtain ⟨hi2, hw⟩ := hw
      refine z_st (st' := [.int x1, va_rf (some a1)]) (congrArg (fun r : Option Nat => ([.int x1, va_rf r] : List Value)) ea1) ?_
      refine z_caald (κ := 11) S hE hka1 (by decide) rfl hi2 dX5_leastFree_13 ?_
      obtain ⟨a2, ea2, hka2, hw⟩ := hw
      have hka2 : z_kd a2 u = 2 ∧ 2 ≠ 0 := ⟨hka2, by decide⟩
      refine z_st (st' := [va_rf (some a2)]) (congrArg (fun r : Option Nat => ([va_rf r] : List Value)) ea2) ?_
      refine zb_g_X5_18 (x := z_gI 2 a2 u) S hE hka2 rfl dX5_leastFree_14 ?_
      refine z_if_ne S 22 dX5_leastFree_17 (by decide) (fun c3 => ?_) (fun c3 => ?_)
      · have hw := hw.1 c3
        refine z_iinc (v := x1 + 1) (pl := 1) S [(1, .int (x1 + 1)), (0, va_rf (some h0))] dX5_leastFree_22 rfl rfl (by decide) rfl ?_
        refine z_lv (lv' := [(0, va_rf (some h0)), (1, .int (x1 + 1))]) [1, 0] rfl ?_
        refine z_goto S 2 dX5_leastFree_25 (by decide) ?_
        exact ih u (x1 + 1) hkh0 hw
      · have hw := hw.2 c3
        refine z_iload_n S 1 dX5_leastFree_20 rfl rfl ?_
        exact z_ciret S hr hlk dX5_leastFree_21 (Nat.le_of_ble_eq_true rfl) (Nat.le_of_ble_eq_true rfl) hw
set_option maxRecDepth 20000 in
theorem mb_X5_leastFree {p : Program} {l : Launch} {e : Env} {s : State} {m : MethodId} {args : Array Value} {below : List Frame} {meth : Method} {c : Code} {D : va_G} {cy : Nat → ClassId} {A : Nat → Prop} {t0 mi : Nat} {u0 : z_St} {h0 : Nat} (S : CallFix p m c cX5_leastFree 2 s args z_T RX5) (hlk : meth.locks = false) (hr : meth.sig.returnType = (some .int)) (hE : z_EC D cy A t0 mi s) {post : Int32 → z_St → Prop}  (u : z_St)  (hkh0 : z_kd h0 u = 7 ∧ 7 ≠ 0) (hw : w_X5_leastFree post t0 mi h0 u ) : z_V A (z_hC D cy A t0 u0) p l e rm_X5_leastFree s m args below meth c 2 (MQ below (va_Qi (fun r (u' : z_St) => post r u' ∧ z_mono u0 u') (fun (u' : z_St) t => z_hC D cy A t0 u0 u' t.heap) A) args s 0 0 A) 0 0 u 0 [(0, va_rf (some h0))] [] := by
  refine z_iconst (v := 0) S dX5_leastFree_0 (by decide) ?_
  refine z_istore_n S [(1, .int 0), (0, va_rf (some h0))] dX5_leastFree_1 rfl (by decide) rfl ?_
  refine z_lv (lv' := [(0, va_rf (some h0)), (1, .int 0)]) [1, 0] rfl ?_
  obtain ⟨n0, hw⟩ := hw
  exact mb_X5_leastFree_2 S hlk hr hE n0 u 0 hkh0 hw
theorem me_X5_leastFree (l : Launch) (D : va_G) (cy : Nat → ClassId) (A : Nat → Prop) (t0 mi : Nat) (post : Int32 → z_St → Prop) (u : z_St) (h0 : Nat) (hkh0 : z_kd h0 u = 7 ∧ 7 ≠ 0) (hw : w_X5_leastFree post t0 mi h0 u ) : z_Mi l yX5_leastFree (Cond.code yX5_leastFree cX5_leastFree 2 (some .int) :: z_T) rm_X5_leastFree [va_rf (some h0)] (z_EC D cy A t0 mi) (z_hC D cy A t0 u) u (fun r u' => post r u' ∧ z_mono u u') 0 0 A :=
  z_met (by decide) (Nat.le_of_ble_eq_true rfl) (fun p e s m args below meth c S hlk hr hnm hE => mb_X5_leastFree S hlk hr hE u  hkh0 hw)
abbrev rm_X4_addBlock : Room := { frames := 0, cells := 0, slots := 0, locals := 0 }
def w_X4_addBlock_23 (post : z_St → Prop) (t0 mi h0 : Nat) (u : z_St) (x1 : Option Nat) : Prop := (post (z_pR 22 h0 x1 u))
def w_X4_addBlock (post : z_St → Prop) (t0 mi h0 : Nat) (u : z_St) (x1 : Option Nat) : Prop := ((¬ z_gR 22 h0 u = none → (∃ a1 : Nat, z_gR 22 h0 u = some a1 ∧ z_kd a1 u = 2 ∧ (w_X4_addBlock_23 post t0 mi h0 (z_pR 3 a1 x1 u) x1))) ∧ (z_gR 22 h0 u = none → (w_X4_addBlock_23 post t0 mi h0 (z_pR 21 h0 x1 u) x1)))
set_option maxRecDepth 20000 in
theorem mb_X4_addBlock_23 {p : Program} {l : Launch} {e : Env} {s : State} {m : MethodId} {args : Array Value} {below : List Frame} {meth : Method} {c : Code} {D : va_G} {cy : Nat → ClassId} {A : Nat → Prop} {t0 mi : Nat} {u0 : z_St} {h0 : Nat} (S : CallFix p m c cX4_addBlock 2 s args z_T RX4) (hlk : meth.locks = false) (hr : meth.sig.returnType = none) (hE : z_EC D cy A t0 mi s) {post : z_St → Prop}  (u : z_St) (x1 : Option Nat) (hkh0 : z_kd h0 u = 6 ∧ 6 ≠ 0) (hw : w_X4_addBlock_23 post t0 mi h0 u x1) : z_V A (z_hC D cy A t0 u0) p l e rm_X4_addBlock s m args below meth c 2 (MQ below (va_Qv (fun (u' : z_St) => post u' ∧ z_mono u0 u') (fun (u' : z_St) t => z_hC D cy A t0 u0 u' t.heap) A) args s 0 0 A) 0 0 u 23 [(0, va_rf (some h0)), (1, va_rf x1)] [] := by
  refine z_aload_n (x := some h0) S 0 dX4_addBlock_23 rfl rfl ?_
  refine z_aload_n (x := x1) S 1 dX4_addBlock_24 rfl rfl ?_
  refine zb_p_X4_15 x1 S hE hkh0 dX4_addBlock_25 ?_
  exact z_cvret S hr hlk dX4_addBlock_28 (Nat.le_of_ble_eq_true rfl) (Nat.le_of_ble_eq_true rfl) hw
set_option maxRecDepth 20000 in
theorem mb_X4_addBlock {p : Program} {l : Launch} {e : Env} {s : State} {m : MethodId} {args : Array Value} {below : List Frame} {meth : Method} {c : Code} {D : va_G} {cy : Nat → ClassId} {A : Nat → Prop} {t0 mi : Nat} {u0 : z_St} {h0 : Nat} (S : CallFix p m c cX4_addBlock 2 s args z_T RX4) (hlk : meth.locks = false) (hr : meth.sig.returnType = none) (hE : z_EC D cy A t0 mi s) {post : z_St → Prop}  (u : z_St) (x1 : Option Nat) (hkh0 : z_kd h0 u = 6 ∧ 6 ≠ 0) (hw : w_X4_addBlock post t0 mi h0 u x1) : z_V A (z_hC D cy A t0 u0) p l e rm_X4_addBlock s m args below meth c 2 (MQ below (va_Qv (fun (u' : z_St) => post u' ∧ z_mono u0 u') (fun (u' : z_St) t => z_hC D cy A t0 u0 u' t.heap) A) args s 0 0 A) 0 0 u 0 [(0, va_rf (some h0)), (1, va_rf x1)] [] := by
  refine z_aload_n (x := some h0) S 0 dX4_addBlock_0 rfl rfl ?_
  refine zb_g_X4_15 (x := z_gR 22 h0 u) S hE hkh0 rfl dX4_addBlock_1 ?_
  refine z_ifnonnull (r := z_gR 22 h0 u) S 15 dX4_addBlock_4 (by decide) (fun c1 => ?_) (fun c1 => ?_)
  · have hw := hw.1 c1
    refine z_aload_n (x := some h0) S 0 dX4_addBlock_15 rfl rfl ?_
    refine zb_g_X4_15 (x := z_gR 22 h0 u) S hE hkh0 rfl dX4_addBlock_16 ?_
    refine z_aload_n (x := x1) S 1 dX4_addBlock_19 rfl rfl ?_
    obtain ⟨a1, ea1, hka1, hw⟩ := hw
    have hka1 : z_kd a1 u = 2 ∧ 2 ≠ 0 := ⟨hka1, by decide⟩
    refine z_st (st' := [va_rf x1, va_rf (some a1)]) (congrArg (fun r : Option Nat => ([va_rf x1, va_rf r] : List Value)) ea1) ?_
    refine zb_p_X4_33 x1 S hE hka1 dX4_addBlock_20 ?_
    exact mb_X4_addBlock_23 S hlk hr hE (z_pR 3 a1 x1 u) x1 hkh0 hw
  · have hw := hw.2 c1
    refine z_aload_n (x := some h0) S 0 dX4_addBlock_7 rfl rfl ?_
    refine z_aload_n (x := x1) S 1 dX4_addBlock_8 rfl rfl ?_
    refine zb_p_X4_9 x1 S hE hkh0 dX4_addBlock_9 ?_
    refine z_goto S 23 dX4_addBlock_12 (by decide) ?_
    exact mb_X4_addBlock_23 S hlk hr hE (z_pR 21 h0 x1 u) x1 hkh0 hw
theorem me_X4_addBlock (l : Launch) (D : va_G) (cy : Nat → ClassId) (A : Nat → Prop) (t0 mi : Nat) (post : z_St → Prop) (u : z_St) (h0 : Nat) (x1 : Option Nat) (hkh0 : z_kd h0 u = 6 ∧ 6 ≠ 0) (hw : w_X4_addBlock post t0 mi h0 u x1) : z_Mv l yX4_addBlock (Cond.code yX4_addBlock cX4_addBlock 2 none :: z_T) rm_X4_addBlock [va_rf (some h0), va_rf x1] (z_EC D cy A t0 mi) (z_hC D cy A t0 u) u (fun u' => post u' ∧ z_mono u u') 0 0 A :=
  z_met (by decide) (by simp [lg_sl, z_rfc, z_ic]) (fun p e s m args below meth c S hlk hr hnm hE => (by simp [lv_args, z_rfc, z_ic] : lv_args 0 [va_rf (some h0), va_rf x1] = [(0, va_rf (some h0)), (1, va_rf x1)]) ▸ mb_X4_addBlock S hlk hr hE u x1 hkh0 hw)
abbrev rm_X2_tell : Room := { frames := 2, cells := 0, slots := 0, locals := 62 }
def w_X2_tell_50 (post : z_St → Prop) (t0 mi h0 : Nat) : Nat → z_St → Int32 → Int32 → Int32 → Int32 → Int32 → Int32 → Prop
  | 0 => fun _ _ _ _ _ _ _ => False
  | n + 1 => fun u x3 x4 x5 x6 x7 x8 => ((x8 ≤ 0 → (∀ y2 : Int32, y2 = (if x3 = 0 then (z_gI 14 h0 u) + x5 else (z_gI 14 h0 u) - x5) → (w_X6_between (fun r1 u1 => (vp_in x6 8 ∧ (w_X6_between (fun r2 u2 => (post (z_pI 15 h0 r2 u2))) t0 mi (z_pI 14 h0 r1 u1) ((z_gI 15 h0 u1) + (z_ichI x6.toNatClampNeg)) 0 48))) t0 mi u y2 (-32768) 32767))) ∧ (¬ x8 ≤ 0 → (∀ y5 : Int32, y5 = (if x4 < x7 then x4 else x4 - x7) → (∀ y6 : Int32, y6 = (if x4 < x7 then x5 else x5 + x7) → (∀ y7 : Int32, y7 = (if x4 < x7 then x6 else x6 + x8) → (w_X2_tell_50 post t0 mi h0 n u x3 y5 y6 y7 (x7 / 2) (x8 / 2)))))))
def w_X2_tell (post : z_St → Prop) (t0 mi h0 : Nat) (u : z_St) (x1 : Int32) (x2 : Int32) : Prop := (∀ y1 : Int32, y1 = (if (z_gI 14 h0 u) ≤ x1 then 0 else 1) → (∀ y2 : Int32, y2 = (if y1 = 0 then x1 - (z_gI 14 h0 u) else (z_gI 14 h0 u) - x1) → (∃ n0 : Nat, w_X2_tell_50 post t0 mi h0 n0 u y1 y2 (x2 / 8) 0 x2 4)))
set_option maxRecDepth 20000 in
theorem mb_X2_tell_50 {p : Program} {l : Launch} {e : Env} {s : State} {m : MethodId} {args : Array Value} {below : List Frame} {meth : Method} {c : Code} {D : va_G} {cy : Nat → ClassId} {A : Nat → Prop} {t0 mi : Nat} {u0 : z_St} {h0 : Nat} (S : CallFix p m c cX2_tell 9 s args z_T RX2) (hlk : meth.locks = false) (hr : meth.sig.returnType = none) (hE : z_EC D cy A t0 mi s) {post : z_St → Prop}  : ∀ (n : Nat) (u : z_St) (x3 : Int32) (x4 : Int32) (x5 : Int32) (x6 : Int32) (x7 : Int32) (x8 : Int32) (hkh0 : z_kd h0 u = 4 ∧ 4 ≠ 0), w_X2_tell_50 post t0 mi h0 n u x3 x4 x5 x6 x7 x8 → z_V A (z_hC D cy A t0 u0) p l e rm_X2_tell s m args below meth c 9 (MQ below (va_Qv (fun (u' : z_St) => post u' ∧ z_mono u0 u') (fun (u' : z_St) t => z_hC D cy A t0 u0 u' t.heap) A) args s 0 0 A) 0 0 u 50 [(0, va_rf (some h0)), (3, .int x3), (4, .int x4), (5, .int x5), (6, .int x6), (7, .int x7), (8, .int x8)] [] := by
  intro n
  induction n with
  | zero => intro u x3 x4 x5 x6 x7 x8 hkh0 hw; exact hw.elim
  | succ n ih =>
    intro u x3 x4 x5 x6 x7 x8 hkh0 hw
    refine z_iload S 6 dX2_tell_50 rfl ?_
    refine z_if_le S 98 dX2_tell_52 (by decide) (fun c1 => ?_) (fun c1 => ?_)
    · have hw := hw.1 c1
      refine z_aload_n (x := some h0) S 0 dX2_tell_98 rfl rfl ?_
      refine z_iload_n S 1 dX2_tell_99 rfl rfl ?_
      suffices hJ : ∀ y2 : Int32, y2 = (if x3 = 0 then (z_gI 14 h0 u) + x5 else (z_gI 14 h0 u) - x5) → z_V A (z_hC D cy A t0 u0) p l e rm_X2_tell s m args below meth c 9 (MQ below (va_Qv (fun (u' : z_St) => post u' ∧ z_mono u0 u') (fun (u' : z_St) t => z_hC D cy A t0 u0 u' t.heap) A) args s 0 0 A) 0 0 u 120 [(0, va_rf (some h0)), (6, .int x6)] [.int y2, va_rf (some h0)] from by
        refine z_if_eq S 113 dX2_tell_100 (by decide) (fun c4 => ?_) (fun c4 => ?_)
        · refine z_aload_n (x := some h0) S 0 dX2_tell_113 rfl rfl ?_
          refine zb_g_X2_42 (x := z_gI 14 h0 u) S hE hkh0 rfl dX2_tell_114 ?_
          refine z_iload S 3 dX2_tell_117 rfl ?_
          refine z_iadd S dX2_tell_119 ?_
          refine z_lv (lv' := [(0, va_rf (some h0)), (6, .int x6)]) [0, 4] rfl ?_
          exact hJ _ (by rw [if_pos c4])
        · refine z_aload_n (x := some h0) S 0 dX2_tell_103 rfl rfl ?_
          refine zb_g_X2_42 (x := z_gI 14 h0 u) S hE hkh0 rfl dX2_tell_104 ?_
          refine z_iload S 3 dX2_tell_107 rfl ?_
          refine z_isub S dX2_tell_109 ?_
          refine z_goto S 120 dX2_tell_110 (by decide) ?_
          refine z_lv (lv' := [(0, va_rf (some h0)), (6, .int x6)]) [0, 4] rfl ?_
          exact hJ _ (by rw [if_neg c4])
      intro y2 ey2
      have hw := hw y2 ey2
      refine z_sipush (v := (-32768)) S dX2_tell_120 (by decide) ?_
      refine z_sipush (v := 32767) S dX2_tell_123 (by decide) ?_
      refine z_callSNi (As := [.int y2, .int (-32768), .int 32767]) (st := [va_rf (some h0)]) S (z_ECok D cy A t0 mi) hE (me_X6_between l D cy A t0 mi _ u y2 (-32768) 32767 hw) (z_goI wd_442) wd_50 (nw_X2_75 (z_ECnw hE)) wd_441 hdS_X6_between ⟨Nat.le_of_ble_eq_true rfl, Nat.le_of_ble_eq_true rfl⟩ rfl rfl (fun _ h => h.re) (fun _ _ _ h h' => h.ba h') rfl (Nat.le_trans (z_sq z_s0) (by decide)) dX2_tell_126 ⟨(Nat.le_of_ble_eq_true rfl), (Nat.le_of_ble_eq_true rfl)⟩ rfl (fun r1 u1 hw => ?_)
      obtain ⟨hw, hm1⟩ := hw
      have hkh0 := hm1.k hkh0
      refine zb_p_X2_42 S hE hkh0 dX2_tell_129 ?_
      refine z_aload_n (x := some h0) S 0 dX2_tell_132 rfl rfl ?_
      refine z_aload_n (x := some h0) S 0 dX2_tell_133 rfl rfl ?_
      refine zb_g_X2_45 (x := z_gI 15 h0 u1) S hE hkh0 rfl dX2_tell_134 ?_
      refine z_cgetsI S hE dX2_tell_137 (fun ti hti => ?_)
      refine z_iload S 1 dX2_tell_140 rfl ?_
      obtain ⟨hi3, hw⟩ := hw
      refine z_cich S hti hi3 dX2_tell_142 ?_
      refine z_iadd S dX2_tell_143 ?_
      refine z_iconst (v := 0) S dX2_tell_144 (by decide) ?_
      refine z_bipush (v := 48) S dX2_tell_145 (by decide) ?_
      refine z_callSNi (As := [.int ((z_gI 15 h0 u1) + (z_ichI x6.toNatClampNeg)), .int 0, .int 48]) (st := [va_rf (some h0)]) S (z_ECok D cy A t0 mi) hE (me_X6_between l D cy A t0 mi _ (z_pI 14 h0 r1 u1) ((z_gI 15 h0 u1) + (z_ichI x6.toNatClampNeg)) 0 48 hw) (z_goI wd_442) wd_50 (nw_X2_75 (z_ECnw hE)) wd_441 hdS_X6_between ⟨Nat.le_of_ble_eq_true rfl, Nat.le_of_ble_eq_true rfl⟩ rfl rfl (fun _ h => h.re) (fun _ _ _ h h' => h.ba h') rfl (Nat.le_trans (z_sq z_s0) (by decide)) dX2_tell_147 ⟨(Nat.le_of_ble_eq_true rfl), (Nat.le_of_ble_eq_true rfl)⟩ rfl (fun r2 u2 hw => ?_)
      obtain ⟨hw, hm2⟩ := hw
      have hkh0 := hm2.k hkh0
      refine zb_p_X2_45 S hE hkh0 dX2_tell_150 ?_
      exact z_cvret S hr hlk dX2_tell_153 (Nat.le_of_ble_eq_true rfl) (Nat.le_of_ble_eq_true rfl) hw
    · have hw := hw.2 c1
      refine z_iload S 2 dX2_tell_55 rfl ?_
      refine z_iload S 5 dX2_tell_57 rfl ?_
      suffices hJ : ∀ y5 : Int32, y5 = (if x4 < x7 then x4 else x4 - x7) → ∀ y6 : Int32, y6 = (if x4 < x7 then x5 else x5 + x7) → ∀ y7 : Int32, y7 = (if x4 < x7 then x6 else x6 + x8) → z_V A (z_hC D cy A t0 u0) p l e rm_X2_tell s m args below meth c 9 (MQ below (va_Qv (fun (u' : z_St) => post u' ∧ z_mono u0 u') (fun (u' : z_St) t => z_hC D cy A t0 u0 u' t.heap) A) args s 0 0 A) 0 0 u 83 [(0, va_rf (some h0)), (3, .int x3), (4, .int y5), (5, .int y6), (6, .int y7), (7, .int x7), (8, .int x8)] [] from by
        refine z_icmp_lt S 83 dX2_tell_59 (by decide) (fun c8 => ?_) (fun c8 => ?_)
        · exact hJ _ (by rw [if_pos c8]) _ (by rw [if_pos c8]) _ (by rw [if_pos c8])
        · refine z_iload S 4 dX2_tell_62 rfl ?_
          refine z_iload S 6 dX2_tell_64 rfl ?_
          refine z_iadd S dX2_tell_66 ?_
          refine z_istore S [(6, .int (x6 + x8)), (0, va_rf (some h0)), (3, .int x3), (4, .int x4), (5, .int x5), (7, .int x7), (8, .int x8)] dX2_tell_67 (by decide) rfl ?_
          refine z_lv (lv' := [(0, va_rf (some h0)), (3, .int x3), (4, .int x4), (5, .int x5), (6, .int (x6 + x8)), (7, .int x7), (8, .int x8)]) [1, 2, 3, 4, 0, 5, 6] rfl ?_
          refine z_iload S 2 dX2_tell_69 rfl ?_
          refine z_iload S 5 dX2_tell_71 rfl ?_
          refine z_isub S dX2_tell_73 ?_
          refine z_istore S [(4, .int (x4 - x7)), (0, va_rf (some h0)), (3, .int x3), (5, .int x5), (6, .int (x6 + x8)), (7, .int x7), (8, .int x8)] dX2_tell_74 (by decide) rfl ?_
          refine z_lv (lv' := [(0, va_rf (some h0)), (3, .int x3), (4, .int (x4 - x7)), (5, .int x5), (6, .int (x6 + x8)), (7, .int x7), (8, .int x8)]) [1, 2, 0, 3, 4, 5, 6] rfl ?_
          refine z_iload S 3 dX2_tell_76 rfl ?_
          refine z_iload S 5 dX2_tell_78 rfl ?_
          refine z_iadd S dX2_tell_80 ?_
          refine z_istore S [(5, .int (x5 + x7)), (0, va_rf (some h0)), (3, .int x3), (4, .int (x4 - x7)), (6, .int (x6 + x8)), (7, .int x7), (8, .int x8)] dX2_tell_81 (by decide) rfl ?_
          refine z_lv (lv' := [(0, va_rf (some h0)), (3, .int x3), (4, .int (x4 - x7)), (5, .int (x5 + x7)), (6, .int (x6 + x8)), (7, .int x7), (8, .int x8)]) [1, 2, 3, 0, 4, 5, 6] rfl ?_
          exact hJ _ (by rw [if_neg c8]) _ (by rw [if_neg c8]) _ (by rw [if_neg c8])
      intro y5 ey5
      have hw := hw y5 ey5
      intro y6 ey6
      have hw := hw y6 ey6
      intro y7 ey7
      have hw := hw y7 ey7
      refine z_iload S 5 dX2_tell_83 rfl ?_
      refine z_iconst (v := 2) S dX2_tell_85 (by decide) ?_
      refine z_idiv S dX2_tell_86 (by decide) ?_
      refine z_istore S [(7, .int (x7 / 2)), (0, va_rf (some h0)), (3, .int x3), (4, .int y5), (5, .int y6), (6, .int y7), (8, .int x8)] dX2_tell_87 (by decide) rfl ?_
      refine z_lv (lv' := [(0, va_rf (some h0)), (3, .int x3), (4, .int y5), (5, .int y6), (6, .int y7), (7, .int (x7 / 2)), (8, .int x8)]) [1, 2, 3, 4, 5, 0, 6] rfl ?_
      refine z_iload S 6 dX2_tell_89 rfl ?_
      refine z_iconst (v := 2) S dX2_tell_91 (by decide) ?_
      refine z_idiv S dX2_tell_92 (by decide) ?_
      refine z_istore S [(8, .int (x8 / 2)), (0, va_rf (some h0)), (3, .int x3), (4, .int y5), (5, .int y6), (6, .int y7), (7, .int (x7 / 2))] dX2_tell_93 (by decide) rfl ?_
      refine z_lv (lv' := [(0, va_rf (some h0)), (3, .int x3), (4, .int y5), (5, .int y6), (6, .int y7), (7, .int (x7 / 2)), (8, .int (x8 / 2))]) [1, 2, 3, 4, 5, 6, 0] rfl ?_
      refine z_goto S 50 dX2_tell_95 (by decide) ?_
      exact ih u x3 y5 y6 y7 (x7 / 2) (x8 / 2) hkh0 hw
set_option maxRecDepth 20000 in
theorem mb_X2_tell {p : Program} {l : Launch} {e : Env} {s : State} {m : MethodId} {args : Array Value} {below : List Frame} {meth : Method} {c : Code} {D : va_G} {cy : Nat → ClassId} {A : Nat → Prop} {t0 mi : Nat} {u0 : z_St} {h0 : Nat} (S : CallFix p m c cX2_tell 9 s args z_T RX2) (hlk : meth.locks = false) (hr : meth.sig.returnType = none) (hE : z_EC D cy A t0 mi s) {post : z_St → Prop}  (u : z_St) (x1 : Int32) (x2 : Int32) (hkh0 : z_kd h0 u = 4 ∧ 4 ≠ 0) (hw : w_X2_tell post t0 mi h0 u x1 x2) : z_V A (z_hC D cy A t0 u0) p l e rm_X2_tell s m args below meth c 9 (MQ below (va_Qv (fun (u' : z_St) => post u' ∧ z_mono u0 u') (fun (u' : z_St) t => z_hC D cy A t0 u0 u' t.heap) A) args s 0 0 A) 0 0 u 0 [(0, va_rf (some h0)), (1, .int x1), (2, .int x2)] [] := by
  refine z_iload_n S 1 dX2_tell_0 rfl rfl ?_
  refine z_aload_n (x := some h0) S 0 dX2_tell_1 rfl rfl ?_
  refine zb_g_X2_42 (x := z_gI 14 h0 u) S hE hkh0 rfl dX2_tell_2 ?_
  suffices hJ : ∀ y1 : Int32, y1 = (if (z_gI 14 h0 u) ≤ x1 then 0 else 1) → z_V A (z_hC D cy A t0 u0) p l e rm_X2_tell s m args below meth c 9 (MQ below (va_Qv (fun (u' : z_St) => post u' ∧ z_mono u0 u') (fun (u' : z_St) t => z_hC D cy A t0 u0 u' t.heap) A) args s 0 0 A) 0 0 u 13 [(0, va_rf (some h0)), (1, .int x1), (2, .int x2)] [.int y1] from by
    refine z_icmp_ge S 12 dX2_tell_5 (by decide) (fun c4 => ?_) (fun c4 => ?_)
    · refine z_iconst (v := 0) S dX2_tell_12 (by decide) ?_
      exact hJ _ (by rw [if_pos c4])
    · refine z_iconst (v := 1) S dX2_tell_8 (by decide) ?_
      refine z_goto S 13 dX2_tell_9 (by decide) ?_
      exact hJ _ (by rw [if_neg c4])
  intro y1 ey1
  have hw := hw y1 ey1
  refine z_istore_n S [(3, .int y1), (0, va_rf (some h0)), (1, .int x1), (2, .int x2)] dX2_tell_13 rfl (by decide) rfl ?_
  refine z_lv (lv' := [(0, va_rf (some h0)), (1, .int x1), (2, .int x2), (3, .int y1)]) [1, 2, 3, 0] rfl ?_
  refine z_iload_n S 3 dX2_tell_14 rfl rfl ?_
  suffices hJ : ∀ y2 : Int32, y2 = (if y1 = 0 then x1 - (z_gI 14 h0 u) else (z_gI 14 h0 u) - x1) → z_V A (z_hC D cy A t0 u0) p l e rm_X2_tell s m args below meth c 9 (MQ below (va_Qv (fun (u' : z_St) => post u' ∧ z_mono u0 u') (fun (u' : z_St) t => z_hC D cy A t0 u0 u' t.heap) A) args s 0 0 A) 0 0 u 33 [(0, va_rf (some h0)), (2, .int x2), (3, .int y1)] [.int y2] from by
    refine z_if_eq S 27 dX2_tell_15 (by decide) (fun c3 => ?_) (fun c3 => ?_)
    · refine z_iload_n S 1 dX2_tell_27 rfl rfl ?_
      refine z_aload_n (x := some h0) S 0 dX2_tell_28 rfl rfl ?_
      refine zb_g_X2_42 (x := z_gI 14 h0 u) S hE hkh0 rfl dX2_tell_29 ?_
      refine z_isub S dX2_tell_32 ?_
      refine z_lv (lv' := [(0, va_rf (some h0)), (2, .int x2), (3, .int y1)]) [0, 2, 3] rfl ?_
      exact hJ _ (by rw [if_pos c3])
    · refine z_aload_n (x := some h0) S 0 dX2_tell_18 rfl rfl ?_
      refine zb_g_X2_42 (x := z_gI 14 h0 u) S hE hkh0 rfl dX2_tell_19 ?_
      refine z_iload_n S 1 dX2_tell_22 rfl rfl ?_
      refine z_isub S dX2_tell_23 ?_
      refine z_goto S 33 dX2_tell_24 (by decide) ?_
      refine z_lv (lv' := [(0, va_rf (some h0)), (2, .int x2), (3, .int y1)]) [0, 2, 3] rfl ?_
      exact hJ _ (by rw [if_neg c3])
  intro y2 ey2
  have hw := hw y2 ey2
  refine z_istore S [(4, .int y2), (0, va_rf (some h0)), (2, .int x2), (3, .int y1)] dX2_tell_33 (by decide) rfl ?_
  refine z_lv (lv' := [(0, va_rf (some h0)), (2, .int x2), (3, .int y1), (4, .int y2)]) [1, 2, 3, 0] rfl ?_
  refine z_iload_n S 1 dX2_tell_35 rfl rfl ?_
  refine z_bipush (v := 8) S dX2_tell_36 (by decide) ?_
  refine z_idiv S dX2_tell_38 (by decide) ?_
  refine z_istore S [(5, .int (x2 / 8)), (0, va_rf (some h0)), (2, .int x2), (3, .int y1), (4, .int y2)] dX2_tell_39 (by decide) rfl ?_
  refine z_lv (lv' := [(0, va_rf (some h0)), (2, .int x2), (3, .int y1), (4, .int y2), (5, .int (x2 / 8))]) [1, 2, 3, 4, 0] rfl ?_
  refine z_iconst (v := 0) S dX2_tell_41 (by decide) ?_
  refine z_istore S [(6, .int 0), (0, va_rf (some h0)), (2, .int x2), (3, .int y1), (4, .int y2), (5, .int (x2 / 8))] dX2_tell_42 (by decide) rfl ?_
  refine z_lv (lv' := [(0, va_rf (some h0)), (2, .int x2), (3, .int y1), (4, .int y2), (5, .int (x2 / 8)), (6, .int 0)]) [1, 2, 3, 4, 5, 0] rfl ?_
  refine z_iload_n S 1 dX2_tell_44 rfl rfl ?_
  refine z_istore S [(7, .int x2), (0, va_rf (some h0)), (2, .int x2), (3, .int y1), (4, .int y2), (5, .int (x2 / 8)), (6, .int 0)] dX2_tell_45 (by decide) rfl ?_
  refine z_lv (lv' := [(0, va_rf (some h0)), (2, .int x2), (3, .int y1), (4, .int y2), (5, .int (x2 / 8)), (6, .int 0), (7, .int x2)]) [1, 2, 3, 4, 5, 6, 0] rfl ?_
  refine z_iconst (v := 4) S dX2_tell_47 (by decide) ?_
  refine z_istore S [(8, .int 4), (0, va_rf (some h0)), (2, .int x2), (3, .int y1), (4, .int y2), (5, .int (x2 / 8)), (6, .int 0), (7, .int x2)] dX2_tell_48 (by decide) rfl ?_
  refine z_lv (lv' := [(0, va_rf (some h0)), (2, .int x2), (3, .int y1), (4, .int y2), (5, .int (x2 / 8)), (6, .int 0), (7, .int x2), (8, .int 4)]) [1, 2, 3, 4, 5, 6, 7, 0] rfl ?_
  refine z_lv (lv' := [(0, va_rf (some h0)), (3, .int y1), (4, .int y2), (5, .int (x2 / 8)), (6, .int 0), (7, .int x2), (8, .int 4)]) [0, 2, 3, 4, 5, 6, 7] rfl ?_
  obtain ⟨n0, hw⟩ := hw
  exact mb_X2_tell_50 S hlk hr hE n0 u y1 y2 (x2 / 8) 0 x2 4 hkh0 hw
theorem me_X2_tell (l : Launch) (D : va_G) (cy : Nat → ClassId) (A : Nat → Prop) (t0 mi : Nat) (post : z_St → Prop) (u : z_St) (h0 : Nat) (x1 : Int32) (x2 : Int32) (hkh0 : z_kd h0 u = 4 ∧ 4 ≠ 0) (hw : w_X2_tell post t0 mi h0 u x1 x2) : z_Mv l yX2_tell (Cond.code yX2_tell cX2_tell 9 none :: z_T) rm_X2_tell [va_rf (some h0), .int x1, .int x2] (z_EC D cy A t0 mi) (z_hC D cy A t0 u) u (fun u' => post u' ∧ z_mono u u') 0 0 A :=
  z_met (by decide) (Nat.le_of_ble_eq_true rfl) (fun p e s m args below meth c S hlk hr hnm hE => mb_X2_tell S hlk hr hE u x1 x2 hkh0 hw)
abbrev rm_X2_codeInto : Room := { frames := 3, cells := 0, slots := 0, locals := 90 }
def w_X2_codeInto_28 (post : z_St → Prop) (t0 mi h0 : Nat) : Nat → z_St → Option Nat → Option Nat → Int32 → Int32 → Prop
  | 0 => fun _ _ _ _ _ => False
  | n + 1 => fun u x1 x2 x3 x4 => ((8 ≤ x4 → (∃ a1 : Nat, x1 = some a1 ∧ z_kd a1 u = 2 ∧ (post (z_pI 2 a1 ((z_gI 2 a1 u) + 1) u)))) ∧ (¬ 8 ≤ x4 → (∃ a2 : Nat, z_gR 6 h0 u = some a2 ∧ z_kd a2 u = 10 ∧ (vp_in x4 (z_ln a2 u) ∧ (∃ a3 : Nat, x2 = some a3 ∧ z_kd a3 u = 10 ∧ (vp_in (z_gI 15 h0 u) (z_ln a3 u) ∧ (w_X2_tell (fun u4 => (∃ a5 : Nat, x1 = some a5 ∧ z_kd a5 u4 = 2 ∧ (∃ a6 : Nat, z_gR 1 a5 u4 = some a6 ∧ z_kd a6 u4 = 10 ∧ (vp_in ((x3 * 8) + x4) (z_ln a6 u4) ∧ (w_X2_codeInto_28 post t0 mi h0 n (z_sI a6 ((x3 * 8) + x4).toNatClampNeg (z_gI 14 h0 u4) u4) x1 x2 x3 (x4 + 1)))))) t0 mi h0 u (z_aI a2 x4.toNatClampNeg u) (z_aI a3 ((z_gI 15 h0 u).toNatClampNeg) u))))))))
def w_X2_codeInto (post : z_St → Prop) (t0 mi h0 : Nat) (u : z_St) (x1 : Option Nat) (x2 : Option Nat) : Prop := ((x1 = none → (post u)) ∧ (¬ x1 = none → (∃ a1 : Nat, x1 = some a1 ∧ z_kd a1 u = 2 ∧ (((z_gI 2 a1 u) < 4 → (∃ a2 : Nat, z_gR 0 a1 u = some a2 ∧ z_kd a2 u = 10 ∧ (vp_in (z_gI 2 a1 u) (z_ln a2 u) ∧ (∃ n0 : Nat, w_X2_codeInto_28 post t0 mi h0 n0 (z_sI a2 (z_gI 2 a1 u).toNatClampNeg 0 u) x1 x2 (z_gI 2 a1 u) 0)))) ∧ (¬ (z_gI 2 a1 u) < 4 → (post u))))))
set_option maxRecDepth 20000 in
theorem mb_X2_codeInto_28 {p : Program} {l : Launch} {e : Env} {s : State} {m : MethodId} {args : Array Value} {below : List Frame} {meth : Method} {c : Code} {D : va_G} {cy : Nat → ClassId} {A : Nat → Prop} {t0 mi : Nat} {u0 : z_St} {h0 : Nat} (S : CallFix p m c cX2_codeInto 5 s args z_T RX2) (hlk : meth.locks = false) (hr : meth.sig.returnType = none) (hE : z_EC D cy A t0 mi s) {post : z_St → Prop}  : ∀ (n : Nat) (u : z_St) (x1 : Option Nat) (x2 : Option Nat) (x3 : Int32) (x4 : Int32) (hkh0 : z_kd h0 u = 4 ∧ 4 ≠ 0), w_X2_codeInto_28 post t0 mi h0 n u x1 x2 x3 x4 → z_V A (z_hC D cy A t0 u0) p l e rm_X2_codeInto s m args below meth c 5 (MQ below (va_Qv (fun (u' : z_St) => post u' ∧ z_mono u0 u') (fun (u' : z_St) t => z_hC D cy A t0 u0 u' t.heap) A) args s 0 0 A) 0 0 u 28 [(0, va_rf (some h0)), (1, va_rf x1), (2, va_rf x2), (3, .int x3), (4, .int x4)] [] := by
  intro n
  induction n with
  | zero => intro u x1 x2 x3 x4 hkh0 hw; exact hw.elim
  | succ n ih =>
    intro u x1 x2 x3 x4 hkh0 hw
    refine z_iload S 4 dX2_codeInto_28 rfl ?_
    refine z_bipush (v := 8) S dX2_codeInto_30 (by decide) ?_
    refine z_icmp_ge S 74 dX2_codeInto_32 (by decide) (fun c1 => ?_) (fun c1 => ?_)
    · have hw := hw.1 c1
      refine z_aload_n (x := x1) S 1 dX2_codeInto_74 rfl rfl ?_
      refine z_dup S dX2_codeInto_75 (z_rfc x1) ?_
      obtain ⟨a1, ea1, hka1, hw⟩ := hw
      have hka1 : z_kd a1 u = 2 ∧ 2 ≠ 0 := ⟨hka1, by decide⟩
      refine z_st (st' := [va_rf (some a1), va_rf x1]) (congrArg (fun r : Option Nat => ([va_rf r, va_rf x1] : List Value)) ea1) ?_
      refine zb_g_X2_60 (x := z_gI 2 a1 u) S hE hka1 rfl dX2_codeInto_76 ?_
      refine z_iconst (v := 1) S dX2_codeInto_79 (by decide) ?_
      refine z_iadd S dX2_codeInto_80 ?_
      refine z_st (st' := [.int ((z_gI 2 a1 u) + 1), va_rf (some a1)]) (congrArg (fun r : Option Nat => ([.int ((z_gI 2 a1 u) + 1), va_rf r] : List Value)) ea1) ?_
      refine zb_p_X2_60 S hE hka1 dX2_codeInto_81 ?_
      exact z_cvret S hr hlk dX2_codeInto_84 (Nat.le_of_ble_eq_true rfl) (Nat.le_of_ble_eq_true rfl) hw
    · have hw := hw.2 c1
      refine z_aload_n (x := some h0) S 0 dX2_codeInto_35 rfl rfl ?_
      refine z_aload_n (x := some h0) S 0 dX2_codeInto_36 rfl rfl ?_
      refine zb_g_X2_9 (x := z_gR 6 h0 u) S hE hkh0 rfl dX2_codeInto_37 ?_
      refine z_iload S 4 dX2_codeInto_40 rfl ?_
      obtain ⟨a2, ea2, hka2, hw⟩ := hw
      have hka2 : z_kd a2 u = 10 ∧ 10 ≠ 0 := ⟨hka2, by decide⟩
      obtain ⟨hi2, hw⟩ := hw
      refine z_st (st' := [.int x4, va_rf (some a2), va_rf (some h0)]) (congrArg (fun r : Option Nat => ([.int x4, va_rf r, va_rf (some h0)] : List Value)) ea2) ?_
      refine z_cald S hE hka2 hi2 dX2_codeInto_42 ?_
      refine z_aload_n (x := x2) S 2 dX2_codeInto_43 rfl rfl ?_
      refine z_aload_n (x := some h0) S 0 dX2_codeInto_44 rfl rfl ?_
      refine zb_g_X2_45 (x := z_gI 15 h0 u) S hE hkh0 rfl dX2_codeInto_45 ?_
      obtain ⟨a3, ea3, hka3, hw⟩ := hw
      have hka3 : z_kd a3 u = 10 ∧ 10 ≠ 0 := ⟨hka3, by decide⟩
      obtain ⟨hi3, hw⟩ := hw
      refine z_st (st' := [.int (z_gI 15 h0 u), va_rf (some a3), .int (z_aI a2 x4.toNatClampNeg u), va_rf (some h0)]) (congrArg (fun r : Option Nat => ([.int (z_gI 15 h0 u), va_rf r, .int (z_aI a2 x4.toNatClampNeg u), va_rf (some h0)] : List Value)) ea3) ?_
      refine z_cald S hE hka3 hi3 dX2_codeInto_48 ?_
      refine z_callVv (As := [.int (z_aI a2 x4.toNatClampNeg u), .int (z_aI a3 ((z_gI 15 h0 u).toNatClampNeg) u)]) (st := []) S (z_ECok D cy A t0 mi) hE (me_X2_tell l D cy A t0 mi _ u h0 (z_aI a2 x4.toNatClampNeg u) (z_aI a3 ((z_gI 15 h0 u).toNatClampNeg) u) hkh0 hw) gV_X2_68 hdV_X2_tell ⟨Nat.le_of_ble_eq_true rfl, Nat.le_of_ble_eq_true rfl⟩ rfl rfl (z_recvC (u := u) hE hkh0 (by decide) rfl) (fun _ h => h.re) (fun _ _ _ h h' => h.ba h') rfl (Nat.le_trans z_s0 (by decide)) dX2_codeInto_49 ⟨(Nat.le_of_ble_eq_true rfl), (Nat.le_of_ble_eq_true rfl)⟩ rfl (fun u4 hw => ?_)
      obtain ⟨hw, hm4⟩ := hw
      have hkh0 := hm4.k hkh0
      have hka2 := hm4.k hka2
      have hka3 := hm4.k hka3
      refine z_aload_n (x := x1) S 1 dX2_codeInto_52 rfl rfl ?_
      obtain ⟨a5, ea5, hka5, hw⟩ := hw
      have hka5 : z_kd a5 u4 = 2 ∧ 2 ≠ 0 := ⟨hka5, by decide⟩
      refine z_st (st' := [va_rf (some a5)]) (congrArg (fun r : Option Nat => ([va_rf r] : List Value)) ea5) ?_
      refine zb_g_X2_72 (x := z_gR 1 a5 u4) S hE hka5 rfl dX2_codeInto_53 ?_
      refine z_iload_n S 3 dX2_codeInto_56 rfl rfl ?_
      refine z_bipush (v := 8) S dX2_codeInto_57 (by decide) ?_
      refine z_imul S dX2_codeInto_59 ?_
      refine z_iload S 4 dX2_codeInto_60 rfl ?_
      refine z_iadd S dX2_codeInto_62 ?_
      refine z_aload_n (x := some h0) S 0 dX2_codeInto_63 rfl rfl ?_
      refine zb_g_X2_42 (x := z_gI 14 h0 u4) S hE hkh0 rfl dX2_codeInto_64 ?_
      obtain ⟨a6, ea6, hka6, hw⟩ := hw
      have hka6 : z_kd a6 u4 = 10 ∧ 10 ≠ 0 := ⟨hka6, by decide⟩
      obtain ⟨hi4, hw⟩ := hw
      refine z_st (st' := [.int (z_gI 14 h0 u4), .int ((x3 * 8) + x4), va_rf (some a6)]) (congrArg (fun r : Option Nat => ([.int (z_gI 14 h0 u4), .int ((x3 * 8) + x4), va_rf r] : List Value)) ea6) ?_
      refine z_cast S hE hka6 hi4 dX2_codeInto_67 ?_
      refine z_iinc (v := x4 + 1) (pl := 4) S [(4, .int (x4 + 1)), (0, va_rf (some h0)), (1, va_rf x1), (2, va_rf x2), (3, .int x3)] dX2_codeInto_68 rfl rfl (by decide) rfl ?_
      refine z_lv (lv' := [(0, va_rf (some h0)), (1, va_rf x1), (2, va_rf x2), (3, .int x3), (4, .int (x4 + 1))]) [1, 2, 3, 4, 0] rfl ?_
      refine z_goto S 28 dX2_codeInto_71 (by decide) ?_
      exact ih (z_sI a6 ((x3 * 8) + x4).toNatClampNeg (z_gI 14 h0 u4) u4) x1 x2 x3 (x4 + 1) hkh0 hw
set_option maxRecDepth 20000 in
theorem mb_X2_codeInto {p : Program} {l : Launch} {e : Env} {s : State} {m : MethodId} {args : Array Value} {below : List Frame} {meth : Method} {c : Code} {D : va_G} {cy : Nat → ClassId} {A : Nat → Prop} {t0 mi : Nat} {u0 : z_St} {h0 : Nat} (S : CallFix p m c cX2_codeInto 5 s args z_T RX2) (hlk : meth.locks = false) (hr : meth.sig.returnType = none) (hE : z_EC D cy A t0 mi s) {post : z_St → Prop}  (u : z_St) (x1 : Option Nat) (x2 : Option Nat) (hkh0 : z_kd h0 u = 4 ∧ 4 ≠ 0) (hw : w_X2_codeInto post t0 mi h0 u x1 x2) : z_V A (z_hC D cy A t0 u0) p l e rm_X2_codeInto s m args below meth c 5 (MQ below (va_Qv (fun (u' : z_St) => post u' ∧ z_mono u0 u') (fun (u' : z_St) t => z_hC D cy A t0 u0 u' t.heap) A) args s 0 0 A) 0 0 u 0 [(0, va_rf (some h0)), (1, va_rf x1), (2, va_rf x2)] [] := by
  refine z_aload_n (x := x1) S 1 dX2_codeInto_0 rfl rfl ?_
  refine z_ifnull (r := x1) S 12 dX2_codeInto_1 (by decide) (fun c1 => ?_) (fun c1 => ?_)
  · have hw := hw.1 c1
    exact z_cvret S hr hlk dX2_codeInto_12 (Nat.le_of_ble_eq_true rfl) (Nat.le_of_ble_eq_true rfl) hw
  · have hw := hw.2 c1
    refine z_aload_n (x := x1) S 1 dX2_codeInto_4 rfl rfl ?_
    obtain ⟨a1, ea1, hka1, hw⟩ := hw
    have hka1 : z_kd a1 u = 2 ∧ 2 ≠ 0 := ⟨hka1, by decide⟩
    refine z_st (st' := [va_rf (some a1)]) (congrArg (fun r : Option Nat => ([va_rf r] : List Value)) ea1) ?_
    refine zb_g_X2_60 (x := z_gI 2 a1 u) S hE hka1 rfl dX2_codeInto_5 ?_
    refine z_iconst (v := 4) S dX2_codeInto_8 (by decide) ?_
    refine z_icmp_lt S 13 dX2_codeInto_9 (by decide) (fun c2 => ?_) (fun c2 => ?_)
    · have hw := hw.1 c2
      refine z_aload_n (x := x1) S 1 dX2_codeInto_13 rfl rfl ?_
      refine z_st (st' := [va_rf (some a1)]) (congrArg (fun r : Option Nat => ([va_rf r] : List Value)) ea1) ?_
      refine zb_g_X2_60 (x := z_gI 2 a1 u) S hE hka1 rfl dX2_codeInto_14 ?_
      refine z_istore_n S [(3, .int (z_gI 2 a1 u)), (0, va_rf (some h0)), (1, va_rf x1), (2, va_rf x2)] dX2_codeInto_17 rfl (by decide) (by simp only [List.filter, z_rfc]; rfl) ?_
      refine z_lv (lv' := [(0, va_rf (some h0)), (1, va_rf x1), (2, va_rf x2), (3, .int (z_gI 2 a1 u))]) [1, 2, 3, 0] rfl ?_
      refine z_aload_n (x := x1) S 1 dX2_codeInto_18 rfl rfl ?_
      refine z_st (st' := [va_rf (some a1)]) (congrArg (fun r : Option Nat => ([va_rf r] : List Value)) ea1) ?_
      refine zb_g_X2_65 (x := z_gR 0 a1 u) S hE hka1 rfl dX2_codeInto_19 ?_
      refine z_iload_n S 3 dX2_codeInto_22 rfl rfl ?_
      refine z_iconst (v := 0) S dX2_codeInto_23 (by decide) ?_
      obtain ⟨a2, ea2, hka2, hw⟩ := hw
      have hka2 : z_kd a2 u = 10 ∧ 10 ≠ 0 := ⟨hka2, by decide⟩
      obtain ⟨hi3, hw⟩ := hw
      refine z_st (st' := [.int 0, .int (z_gI 2 a1 u), va_rf (some a2)]) (congrArg (fun r : Option Nat => ([.int 0, .int (z_gI 2 a1 u), va_rf r] : List Value)) ea2) ?_
      refine z_cast S hE hka2 hi3 dX2_codeInto_24 ?_
      refine z_iconst (v := 0) S dX2_codeInto_25 (by decide) ?_
      refine z_istore S [(4, .int 0), (0, va_rf (some h0)), (1, va_rf x1), (2, va_rf x2), (3, .int (z_gI 2 a1 u))] dX2_codeInto_26 (by decide) rfl ?_
      refine z_lv (lv' := [(0, va_rf (some h0)), (1, va_rf x1), (2, va_rf x2), (3, .int (z_gI 2 a1 u)), (4, .int 0)]) [1, 2, 3, 4, 0] rfl ?_
      obtain ⟨n0, hw⟩ := hw
      exact mb_X2_codeInto_28 S hlk hr hE n0 (z_sI a2 (z_gI 2 a1 u).toNatClampNeg 0 u) x1 x2 (z_gI 2 a1 u) 0 hkh0 hw
    · have hw := hw.2 c2
      exact z_cvret S hr hlk dX2_codeInto_12 (Nat.le_of_ble_eq_true rfl) (Nat.le_of_ble_eq_true rfl) hw
theorem me_X2_codeInto (l : Launch) (D : va_G) (cy : Nat → ClassId) (A : Nat → Prop) (t0 mi : Nat) (post : z_St → Prop) (u : z_St) (h0 : Nat) (x1 : Option Nat) (x2 : Option Nat) (hkh0 : z_kd h0 u = 4 ∧ 4 ≠ 0) (hw : w_X2_codeInto post t0 mi h0 u x1 x2) : z_Mv l yX2_codeInto (Cond.code yX2_codeInto cX2_codeInto 5 none :: z_T) rm_X2_codeInto [va_rf (some h0), va_rf x1, va_rf x2] (z_EC D cy A t0 mi) (z_hC D cy A t0 u) u (fun u' => post u' ∧ z_mono u u') 0 0 A :=
  z_met (by decide) (by simp [lg_sl, z_rfc, z_ic]) (fun p e s m args below meth c S hlk hr hnm hE => (by simp [lv_args, z_rfc, z_ic] : lv_args 0 [va_rf (some h0), va_rf x1, va_rf x2] = [(0, va_rf (some h0)), (1, va_rf x1), (2, va_rf x2)]) ▸ mb_X2_codeInto S hlk hr hE u x1 x2 hkh0 hw)
abbrev rm_X4_freeBlocks : Room := { frames := 0, cells := 0, slots := 0, locals := 0 }
def w_X4_freeBlocks_7 (post : Int32 → z_St → Prop) (t0 mi h0 : Nat) : Nat → z_St → Int32 → Option Nat → Prop
  | 0 => fun _ _ _ => False
  | n + 1 => fun u x1 x2 => ((x2 = none → (post x1 (z_pR 22 h0 none (z_pR 21 h0 none u)))) ∧ (¬ x2 = none → (∃ a1 : Nat, x2 = some a1 ∧ z_kd a1 u = 2 ∧ (w_X4_freeBlocks_7 post t0 mi h0 n (z_pR 3 a1 none (z_pI 2 a1 0 u)) (x1 + 1) (z_gR 3 a1 u)))))
def w_X4_freeBlocks (post : Int32 → z_St → Prop) (t0 mi h0 : Nat) (u : z_St)  : Prop := (∃ n0 : Nat, w_X4_freeBlocks_7 post t0 mi h0 n0 u 0 (z_gR 21 h0 u))
set_option maxRecDepth 20000 in
theorem mb_X4_freeBlocks_7 {p : Program} {l : Launch} {e : Env} {s : State} {m : MethodId} {args : Array Value} {below : List Frame} {meth : Method} {c : Code} {D : va_G} {cy : Nat → ClassId} {A : Nat → Prop} {t0 mi : Nat} {u0 : z_St} {h0 : Nat} (S : CallFix p m c cX4_freeBlocks 4 s args z_T RX4) (hlk : meth.locks = false) (hr : meth.sig.returnType = (some .int)) (hE : z_EC D cy A t0 mi s) {post : Int32 → z_St → Prop}  : ∀ (n : Nat) (u : z_St) (x1 : Int32) (x2 : Option Nat) (hkh0 : z_kd h0 u = 6 ∧ 6 ≠ 0), w_X4_freeBlocks_7 post t0 mi h0 n u x1 x2 → z_V A (z_hC D cy A t0 u0) p l e rm_X4_freeBlocks s m args below meth c 4 (MQ below (va_Qi (fun r (u' : z_St) => post r u' ∧ z_mono u0 u') (fun (u' : z_St) t => z_hC D cy A t0 u0 u' t.heap) A) args s 0 0 A) 0 0 u 7 [(0, va_rf (some h0)), (1, .int x1), (2, va_rf x2)] [] := by
  intro n
  induction n with
  | zero => intro u x1 x2 hkh0 hw; exact hw.elim
  | succ n ih =>
    intro u x1 x2 hkh0 hw
    refine z_aload_n (x := x2) S 2 dX4_freeBlocks_7 rfl rfl ?_
    refine z_ifnull (r := x2) S 34 dX4_freeBlocks_8 (by decide) (fun c1 => ?_) (fun c1 => ?_)
    · have hw := hw.1 c1
      refine z_aload_n (x := some h0) S 0 dX4_freeBlocks_34 rfl rfl ?_
      refine z_null S dX4_freeBlocks_35 ?_
      refine zb_p_X4_9 none S hE hkh0 dX4_freeBlocks_36 ?_
      refine z_aload_n (x := some h0) S 0 dX4_freeBlocks_39 rfl rfl ?_
      refine z_null S dX4_freeBlocks_40 ?_
      refine zb_p_X4_15 none S hE hkh0 dX4_freeBlocks_41 ?_
      refine z_iload_n S 1 dX4_freeBlocks_44 rfl rfl ?_
      exact z_ciret S hr hlk dX4_freeBlocks_45 (Nat.le_of_ble_eq_true rfl) (Nat.le_of_ble_eq_true rfl) hw
    · have hw := hw.2 c1
      refine z_aload_n (x := x2) S 2 dX4_freeBlocks_11 rfl rfl ?_
      obtain ⟨a1, ea1, hka1, hw⟩ := hw
      have hka1 : z_kd a1 u = 2 ∧ 2 ≠ 0 := ⟨hka1, by decide⟩
      refine z_st (st' := [va_rf (some a1)]) (congrArg (fun r : Option Nat => ([va_rf r] : List Value)) ea1) ?_
      refine zb_g_X4_33 (x := z_gR 3 a1 u) S hE hka1 rfl dX4_freeBlocks_12 ?_
      refine z_astore_n (x := z_gR 3 a1 u) S [(3, va_rf (z_gR 3 a1 u)), (0, va_rf (some h0)), (1, .int x1), (2, va_rf x2)] dX4_freeBlocks_15 rfl (by decide) (by simp only [List.filter, z_rfc]; rfl) ?_
      refine z_lv (lv' := [(0, va_rf (some h0)), (1, .int x1), (2, va_rf x2), (3, va_rf (z_gR 3 a1 u))]) [1, 2, 3, 0] rfl ?_
      refine z_aload_n (x := x2) S 2 dX4_freeBlocks_16 rfl rfl ?_
      refine z_iconst (v := 0) S dX4_freeBlocks_17 (by decide) ?_
      refine z_st (st' := [.int 0, va_rf (some a1)]) (congrArg (fun r : Option Nat => ([.int 0, va_rf r] : List Value)) ea1) ?_
      refine zb_p_X4_28 S hE hka1 dX4_freeBlocks_18 ?_
      refine z_aload_n (x := x2) S 2 dX4_freeBlocks_21 rfl rfl ?_
      refine z_null S dX4_freeBlocks_22 ?_
      refine z_st (st' := [va_rf none, va_rf (some a1)]) (congrArg (fun r : Option Nat => ([va_rf none, va_rf r] : List Value)) ea1) ?_
      refine zb_p_X4_33 none S hE hka1 dX4_freeBlocks_23 ?_
      refine z_iinc (v := x1 + 1) (pl := 1) S [(1, .int (x1 + 1)), (0, va_rf (some h0)), (2, va_rf x2), (3, va_rf (z_gR 3 a1 u))] dX4_freeBlocks_26 rfl rfl (by decide) rfl ?_
      refine z_lv (lv' := [(0, va_rf (some h0)), (1, .int (x1 + 1)), (2, va_rf x2), (3, va_rf (z_gR 3 a1 u))]) [1, 0, 2, 3] rfl ?_
      refine z_aload_n (x := z_gR 3 a1 u) S 3 dX4_freeBlocks_29 rfl rfl ?_
      refine z_astore_n (x := z_gR 3 a1 u) S [(2, va_rf (z_gR 3 a1 u)), (0, va_rf (some h0)), (1, .int (x1 + 1)), (3, va_rf (z_gR 3 a1 u))] dX4_freeBlocks_30 rfl (by decide) rfl ?_
      refine z_lv (lv' := [(0, va_rf (some h0)), (1, .int (x1 + 1)), (2, va_rf (z_gR 3 a1 u)), (3, va_rf (z_gR 3 a1 u))]) [1, 2, 0, 3] rfl ?_
      refine z_goto S 7 dX4_freeBlocks_31 (by decide) ?_
      refine z_lv (lv' := [(0, va_rf (some h0)), (1, .int (x1 + 1)), (2, va_rf (z_gR 3 a1 u))]) [0, 1, 2] rfl ?_
      exact ih (z_pR 3 a1 none (z_pI 2 a1 0 u)) (x1 + 1) (z_gR 3 a1 u) hkh0 hw
set_option maxRecDepth 20000 in
theorem mb_X4_freeBlocks {p : Program} {l : Launch} {e : Env} {s : State} {m : MethodId} {args : Array Value} {below : List Frame} {meth : Method} {c : Code} {D : va_G} {cy : Nat → ClassId} {A : Nat → Prop} {t0 mi : Nat} {u0 : z_St} {h0 : Nat} (S : CallFix p m c cX4_freeBlocks 4 s args z_T RX4) (hlk : meth.locks = false) (hr : meth.sig.returnType = (some .int)) (hE : z_EC D cy A t0 mi s) {post : Int32 → z_St → Prop}  (u : z_St)  (hkh0 : z_kd h0 u = 6 ∧ 6 ≠ 0) (hw : w_X4_freeBlocks post t0 mi h0 u ) : z_V A (z_hC D cy A t0 u0) p l e rm_X4_freeBlocks s m args below meth c 4 (MQ below (va_Qi (fun r (u' : z_St) => post r u' ∧ z_mono u0 u') (fun (u' : z_St) t => z_hC D cy A t0 u0 u' t.heap) A) args s 0 0 A) 0 0 u 0 [(0, va_rf (some h0))] [] := by
  refine z_iconst (v := 0) S dX4_freeBlocks_0 (by decide) ?_
  refine z_istore_n S [(1, .int 0), (0, va_rf (some h0))] dX4_freeBlocks_1 rfl (by decide) rfl ?_
  refine z_lv (lv' := [(0, va_rf (some h0)), (1, .int 0)]) [1, 0] rfl ?_
  refine z_aload_n (x := some h0) S 0 dX4_freeBlocks_2 rfl rfl ?_
  refine zb_g_X4_9 (x := z_gR 21 h0 u) S hE hkh0 rfl dX4_freeBlocks_3 ?_
  refine z_astore_n (x := z_gR 21 h0 u) S [(2, va_rf (z_gR 21 h0 u)), (0, va_rf (some h0)), (1, .int 0)] dX4_freeBlocks_6 rfl (by decide) rfl ?_
  refine z_lv (lv' := [(0, va_rf (some h0)), (1, .int 0), (2, va_rf (z_gR 21 h0 u))]) [1, 2, 0] rfl ?_
  obtain ⟨n0, hw⟩ := hw
  exact mb_X4_freeBlocks_7 S hlk hr hE n0 u 0 (z_gR 21 h0 u) hkh0 hw
theorem me_X4_freeBlocks (l : Launch) (D : va_G) (cy : Nat → ClassId) (A : Nat → Prop) (t0 mi : Nat) (post : Int32 → z_St → Prop) (u : z_St) (h0 : Nat) (hkh0 : z_kd h0 u = 6 ∧ 6 ≠ 0) (hw : w_X4_freeBlocks post t0 mi h0 u ) : z_Mi l yX4_freeBlocks (Cond.code yX4_freeBlocks cX4_freeBlocks 4 (some .int) :: z_T) rm_X4_freeBlocks [va_rf (some h0)] (z_EC D cy A t0 mi) (z_hC D cy A t0 u) u (fun r u' => post r u' ∧ z_mono u u') 0 0 A :=
  z_met (by decide) (Nat.le_of_ble_eq_true rfl) (fun p e s m args below meth c S hlk hr hnm hE => mb_X4_freeBlocks S hlk hr hE u  hkh0 hw)
abbrev rm_X0_samplesAt : Room := { frames := 0, cells := 0, slots := 0, locals := 0 }
def w_X0_samplesAt (post : Int32 → z_St → Prop) (t0 mi h0 : Nat) (u : z_St) (x1 : Int32) : Prop := (∃ a1 : Nat, z_gR 0 h0 u = some a1 ∧ z_kd a1 u = 10 ∧ (vp_in x1 (z_ln a1 u) ∧ ((¬ (z_aI a1 x1.toNatClampNeg u) ≤ 0 → vp_in x1 (z_ln a1 u)) ∧ (∀ y2 : Int32, y2 = (if (z_aI a1 x1.toNatClampNeg u) ≤ 0 then 8 else (z_aI a1 x1.toNatClampNeg u) * 8) → (post y2 u)))))
set_option maxRecDepth 20000 in
theorem mb_X0_samplesAt {p : Program} {l : Launch} {e : Env} {s : State} {m : MethodId} {args : Array Value} {below : List Frame} {meth : Method} {c : Code} {D : va_G} {cy : Nat → ClassId} {A : Nat → Prop} {t0 mi : Nat} {u0 : z_St} {h0 : Nat} (S : CallFix p m c cX0_samplesAt 2 s args z_T RX0) (hlk : meth.locks = false) (hr : meth.sig.returnType = (some .int)) (hE : z_EC D cy A t0 mi s) {post : Int32 → z_St → Prop}  (u : z_St) (x1 : Int32) (hkh0 : z_kd h0 u = 2 ∧ 2 ≠ 0) (hw : w_X0_samplesAt post t0 mi h0 u x1) : z_V A (z_hC D cy A t0 u0) p l e rm_X0_samplesAt s m args below meth c 2 (MQ below (va_Qi (fun r (u' : z_St) => post r u' ∧ z_mono u0 u') (fun (u' : z_St) t => z_hC D cy A t0 u0 u' t.heap) A) args s 0 0 A) 0 0 u 0 [(0, va_rf (some h0)), (1, .int x1)] [] := by
  refine z_aload_n (x := some h0) S 0 dX0_samplesAt_0 rfl rfl ?_
  refine zb_g_X0_9 (x := z_gR 0 h0 u) S hE hkh0 rfl dX0_samplesAt_1 ?_
  refine z_iload_n S 1 dX0_samplesAt_4 rfl rfl ?_
  obtain ⟨a1, ea1, hka1, hw⟩ := hw
  have hka1 : z_kd a1 u = 10 ∧ 10 ≠ 0 := ⟨hka1, by decide⟩
  obtain ⟨hi1, hw⟩ := hw
  refine z_st (st' := [.int x1, va_rf (some a1)]) (congrArg (fun r : Option Nat => ([.int x1, va_rf r] : List Value)) ea1) ?_
  refine z_cald S hE hka1 hi1 dX0_samplesAt_5 ?_
  obtain ⟨hob, hw⟩ := hw
  suffices hJ : ∀ y2 : Int32, y2 = (if (z_aI a1 x1.toNatClampNeg u) ≤ 0 then 8 else (z_aI a1 x1.toNatClampNeg u) * 8) → z_V A (z_hC D cy A t0 u0) p l e rm_X0_samplesAt s m args below meth c 2 (MQ below (va_Qi (fun r (u' : z_St) => post r u' ∧ z_mono u0 u') (fun (u' : z_St) t => z_hC D cy A t0 u0 u' t.heap) A) args s 0 0 A) 0 0 u 23 [] [.int y2] from by
    refine z_if_le S 21 dX0_samplesAt_6 (by decide) (fun c3 => ?_) (fun c3 => ?_)
    · refine z_bipush (v := 8) S dX0_samplesAt_21 (by decide) ?_
      refine z_lv (lv' := []) [] rfl ?_
      exact hJ _ (by rw [if_pos c3])
    · have hob := hob c3
      refine z_aload_n (x := some h0) S 0 dX0_samplesAt_9 rfl rfl ?_
      refine zb_g_X0_9 (x := z_gR 0 h0 u) S hE hkh0 rfl dX0_samplesAt_10 ?_
      refine z_iload_n S 1 dX0_samplesAt_13 rfl rfl ?_
      have hi4 := hob
      refine z_st (st' := [.int x1, va_rf (some a1)]) (congrArg (fun r : Option Nat => ([.int x1, va_rf r] : List Value)) ea1) ?_
      refine z_cald S hE hka1 hi4 dX0_samplesAt_14 ?_
      refine z_bipush (v := 8) S dX0_samplesAt_15 (by decide) ?_
      refine z_imul S dX0_samplesAt_17 ?_
      refine z_goto S 23 dX0_samplesAt_18 (by decide) ?_
      refine z_lv (lv' := []) [] rfl ?_
      exact hJ _ (by rw [if_neg c3])
  intro y2 ey2
  have hw := hw y2 ey2
  exact z_ciret S hr hlk dX0_samplesAt_23 (Nat.le_of_ble_eq_true rfl) (Nat.le_of_ble_eq_true rfl) hw
theorem me_X0_samplesAt (l : Launch) (D : va_G) (cy : Nat → ClassId) (A : Nat → Prop) (t0 mi : Nat) (post : Int32 → z_St → Prop) (u : z_St) (h0 : Nat) (x1 : Int32) (hkh0 : z_kd h0 u = 2 ∧ 2 ≠ 0) (hw : w_X0_samplesAt post t0 mi h0 u x1) : z_Mi l yX0_samplesAt (Cond.code yX0_samplesAt cX0_samplesAt 2 (some .int) :: z_T) rm_X0_samplesAt [va_rf (some h0), .int x1] (z_EC D cy A t0 mi) (z_hC D cy A t0 u) u (fun r u' => post r u' ∧ z_mono u u') 0 0 A :=
  z_met (by decide) (Nat.le_of_ble_eq_true rfl) (fun p e s m args below meth c S hlk hr hnm hE => mb_X0_samplesAt S hlk hr hE u x1 hkh0 hw)
abbrev rm_X0_soundAt : Room := { frames := 0, cells := 0, slots := 0, locals := 0 }
def w_X0_soundAt (post : Int32 → z_St → Prop) (t0 mi h0 : Nat) (u : z_St) (x1 : Int32) (x2 : Int32) : Prop := (∃ a1 : Nat, z_gR 0 h0 u = some a1 ∧ z_kd a1 u = 10 ∧ (vp_in x1 (z_ln a1 u) ∧ (∃ a2 : Nat, z_gR 1 h0 u = some a2 ∧ z_kd a2 u = 10 ∧ (((z_aI a1 x1.toNatClampNeg u) ≤ 0 → vp_in ((x1 * 8) + x2) (z_ln a2 u)) ∧ (∀ y2 : Int32, y2 = (if (z_aI a1 x1.toNatClampNeg u) ≤ 0 then z_aI a2 (((x1 * 8) + x2).toNatClampNeg) u else 0) → (post y2 u))))))
set_option maxRecDepth 20000 in
theorem mb_X0_soundAt {p : Program} {l : Launch} {e : Env} {s : State} {m : MethodId} {args : Array Value} {below : List Frame} {meth : Method} {c : Code} {D : va_G} {cy : Nat → ClassId} {A : Nat → Prop} {t0 mi : Nat} {u0 : z_St} {h0 : Nat} (S : CallFix p m c cX0_soundAt 3 s args z_T RX0) (hlk : meth.locks = false) (hr : meth.sig.returnType = (some .int)) (hE : z_EC D cy A t0 mi s) {post : Int32 → z_St → Prop}  (u : z_St) (x1 : Int32) (x2 : Int32) (hkh0 : z_kd h0 u = 2 ∧ 2 ≠ 0) (hw : w_X0_soundAt post t0 mi h0 u x1 x2) : z_V A (z_hC D cy A t0 u0) p l e rm_X0_soundAt s m args below meth c 3 (MQ below (va_Qi (fun r (u' : z_St) => post r u' ∧ z_mono u0 u') (fun (u' : z_St) t => z_hC D cy A t0 u0 u' t.heap) A) args s 0 0 A) 0 0 u 0 [(0, va_rf (some h0)), (1, .int x1), (2, .int x2)] [] := by
  refine z_aload_n (x := some h0) S 0 dX0_soundAt_0 rfl rfl ?_
  refine zb_g_X0_9 (x := z_gR 0 h0 u) S hE hkh0 rfl dX0_soundAt_1 ?_
  refine z_iload_n S 1 dX0_soundAt_4 rfl rfl ?_
  obtain ⟨a1, ea1, hka1, hw⟩ := hw
  have hka1 : z_kd a1 u = 10 ∧ 10 ≠ 0 := ⟨hka1, by decide⟩
  obtain ⟨hi1, hw⟩ := hw
  refine z_st (st' := [.int x1, va_rf (some a1)]) (congrArg (fun r : Option Nat => ([.int x1, va_rf r] : List Value)) ea1) ?_
  refine z_cald S hE hka1 hi1 dX0_soundAt_5 ?_
  obtain ⟨a2, ea2, hka2, hw⟩ := hw
  have hka2 : z_kd a2 u = 10 ∧ 10 ≠ 0 := ⟨hka2, by decide⟩
  obtain ⟨hob, hw⟩ := hw
  suffices hJ : ∀ y2 : Int32, y2 = (if (z_aI a1 x1.toNatClampNeg u) ≤ 0 then z_aI a2 (((x1 * 8) + x2).toNatClampNeg) u else 0) → z_V A (z_hC D cy A t0 u0) p l e rm_X0_soundAt s m args below meth c 3 (MQ below (va_Qi (fun r (u' : z_St) => post r u' ∧ z_mono u0 u') (fun (u' : z_St) t => z_hC D cy A t0 u0 u' t.heap) A) args s 0 0 A) 0 0 u 24 [] [.int y2] from by
    refine z_if_le S 13 dX0_soundAt_6 (by decide) (fun c3 => ?_) (fun c3 => ?_)
    · have hob := hob c3
      refine z_aload_n (x := some h0) S 0 dX0_soundAt_13 rfl rfl ?_
      refine zb_g_X0_15 (x := z_gR 1 h0 u) S hE hkh0 rfl dX0_soundAt_14 ?_
      refine z_iload_n S 1 dX0_soundAt_17 rfl rfl ?_
      refine z_bipush (v := 8) S dX0_soundAt_18 (by decide) ?_
      refine z_imul S dX0_soundAt_20 ?_
      refine z_iload_n S 2 dX0_soundAt_21 rfl rfl ?_
      refine z_iadd S dX0_soundAt_22 ?_
      have hi4 := hob
      refine z_st (st' := [.int ((x1 * 8) + x2), va_rf (some a2)]) (congrArg (fun r : Option Nat => ([.int ((x1 * 8) + x2), va_rf r] : List Value)) ea2) ?_
      refine z_cald S hE hka2 hi4 dX0_soundAt_23 ?_
      refine z_lv (lv' := []) [] rfl ?_
      exact hJ _ (by rw [if_pos c3])
    · refine z_iconst (v := 0) S dX0_soundAt_9 (by decide) ?_
      refine z_goto S 24 dX0_soundAt_10 (by decide) ?_
      refine z_lv (lv' := []) [] rfl ?_
      exact hJ _ (by rw [if_neg c3])
  intro y2 ey2
  have hw := hw y2 ey2
  exact z_ciret S hr hlk dX0_soundAt_24 (Nat.le_of_ble_eq_true rfl) (Nat.le_of_ble_eq_true rfl) hw
theorem me_X0_soundAt (l : Launch) (D : va_G) (cy : Nat → ClassId) (A : Nat → Prop) (t0 mi : Nat) (post : Int32 → z_St → Prop) (u : z_St) (h0 : Nat) (x1 : Int32) (x2 : Int32) (hkh0 : z_kd h0 u = 2 ∧ 2 ≠ 0) (hw : w_X0_soundAt post t0 mi h0 u x1 x2) : z_Mi l yX0_soundAt (Cond.code yX0_soundAt cX0_soundAt 3 (some .int) :: z_T) rm_X0_soundAt [va_rf (some h0), .int x1, .int x2] (z_EC D cy A t0 mi) (z_hC D cy A t0 u) u (fun r u' => post r u' ∧ z_mono u u') 0 0 A :=
  z_met (by decide) (Nat.le_of_ble_eq_true rfl) (fun p e s m args below meth c S hlk hr hnm hE => mb_X0_soundAt S hlk hr hE u x1 x2 hkh0 hw)
abbrev rm_X4_soundAt : Room := { frames := 1, cells := 0, slots := 0, locals := 22 }
def w_X4_soundAt_14 (post : Int32 → z_St → Prop) (J7 : z_St → Int32 → Option Nat → Prop) (t0 mi h0 : Nat) : Nat → z_St → Int32 → Option Nat → Int32 → Prop
  | 0 => fun _ _ _ _ => False
  | n + 1 => fun u x2 x3 x4 => (∃ a1 : Nat, x3 = some a1 ∧ z_kd a1 u = 2 ∧ (((z_gI 2 a1 u) ≤ x4 → (J7 u x2 (z_gR 3 a1 u))) ∧ (¬ (z_gI 2 a1 u) ≤ x4 → (w_X0_samplesAt (fun r2 u2 => ((r2 ≤ x2 → (w_X4_soundAt_14 post J7 t0 mi h0 n u2 (x2 - r2) x3 (x4 + 1))) ∧ (¬ r2 ≤ x2 → (w_X0_soundAt (fun r3 u3 => (post r3 u3)) t0 mi a1 u2 x4 x2)))) t0 mi a1 u x4))))
def w_X4_soundAt_7 (post : Int32 → z_St → Prop) (t0 mi h0 : Nat) : Nat → z_St → Int32 → Option Nat → Prop
  | 0 => fun _ _ _ => False
  | n + 1 => fun u x2 x3 => ((x3 = none → (post 0 u)) ∧ (¬ x3 = none → (∃ n0 : Nat, w_X4_soundAt_14 post (w_X4_soundAt_7 post t0 mi h0 n) t0 mi h0 n0 u x2 x3 0)))
def w_X4_soundAt (post : Int32 → z_St → Prop) (t0 mi h0 : Nat) (u : z_St) (x1 : Int32) : Prop := (∃ n0 : Nat, w_X4_soundAt_7 post t0 mi h0 n0 u x1 (z_gR 21 h0 u))
set_option maxRecDepth 20000 in
theorem mb_X4_soundAt_14 {p : Program} {l : Launch} {e : Env} {s : State} {m : MethodId} {args : Array Value} {below : List Frame} {meth : Method} {c : Code} {D : va_G} {cy : Nat → ClassId} {A : Nat → Prop} {t0 mi : Nat} {u0 : z_St} {h0 : Nat} (S : CallFix p m c cX4_soundAt 6 s args z_T RX4) (hlk : meth.locks = false) (hr : meth.sig.returnType = (some .int)) (hE : z_EC D cy A t0 mi s) {post : Int32 → z_St → Prop} {J7 : z_St → Int32 → Option Nat → Prop} (hJ7 : ∀ (u : z_St) (x2 : Int32) (x3 : Option Nat) (hkh0 : z_kd h0 u = 6 ∧ 6 ≠ 0), J7 u x2 x3 → z_V A (z_hC D cy A t0 u0) p l e rm_X4_soundAt s m args below meth c 6 (MQ below (va_Qi (fun r (u' : z_St) => post r u' ∧ z_mono u0 u') (fun (u' : z_St) t => z_hC D cy A t0 u0 u' t.heap) A) args s 0 0 A) 0 0 u 7 [(2, .int x2), (3, va_rf x3)] []) : ∀ (n : Nat) (u : z_St) (x2 : Int32) (x3 : Option Nat) (x4 : Int32) (hkh0 : z_kd h0 u = 6 ∧ 6 ≠ 0), w_X4_soundAt_14 post J7 t0 mi h0 n u x2 x3 x4 → z_V A (z_hC D cy A t0 u0) p l e rm_X4_soundAt s m args below meth c 6 (MQ below (va_Qi (fun r (u' : z_St) => post r u' ∧ z_mono u0 u') (fun (u' : z_St) t => z_hC D cy A t0 u0 u' t.heap) A) args s 0 0 A) 0 0 u 14 [(2, .int x2), (3, va_rf x3), (4, .int x4)] [] := by
  intro n
  induction n with
  | zero => intro u x2 x3 x4 hkh0 hw; exact hw.elim
  | succ n ih =>
    intro u x2 x3 x4 hkh0 hw
    refine z_iload S 2 dX4_soundAt_14 rfl ?_
    refine z_aload_n (x := x3) S 1 dX4_soundAt_16 rfl rfl ?_
    obtain ⟨a1, ea1, hka1, hw⟩ := hw
    have hka1 : z_kd a1 u = 2 ∧ 2 ≠ 0 := ⟨hka1, by decide⟩
    refine z_st (st' := [va_rf (some a1), .int x4]) (congrArg (fun r : Option Nat => ([va_rf r, .int x4] : List Value)) ea1) ?_
    refine zb_g_X4_28 (x := z_gI 2 a1 u) S hE hka1 rfl dX4_soundAt_17 ?_
    refine z_icmp_ge S 56 dX4_soundAt_20 (by decide) (fun c1 => ?_) (fun c1 => ?_)
    · have hw := hw.1 c1
      refine z_aload_n (x := x3) S 1 dX4_soundAt_56 rfl rfl ?_
      refine z_st (st' := [va_rf (some a1)]) (congrArg (fun r : Option Nat => ([va_rf r] : List Value)) ea1) ?_
      refine zb_g_X4_33 (x := z_gR 3 a1 u) S hE hka1 rfl dX4_soundAt_57 ?_
      refine z_astore_n (x := z_gR 3 a1 u) S [(3, va_rf (z_gR 3 a1 u)), (2, .int x2), (4, .int x4)] dX4_soundAt_60 rfl (by decide) rfl ?_
      refine z_lv (lv' := [(2, .int x2), (3, va_rf (z_gR 3 a1 u)), (4, .int x4)]) [1, 0, 2] rfl ?_
      refine z_goto S 7 dX4_soundAt_61 (by decide) ?_
      refine z_lv (lv' := [(2, .int x2), (3, va_rf (z_gR 3 a1 u))]) [0, 1] rfl ?_
      exact hJ7 u x2 (z_gR 3 a1 u) hkh0 hw
    · have hw := hw.2 c1
      refine z_aload_n (x := x3) S 1 dX4_soundAt_23 rfl rfl ?_
      refine z_iload S 2 dX4_soundAt_24 rfl ?_
      refine z_st (st' := [.int x4, va_rf (some a1)]) (congrArg (fun r : Option Nat => ([.int x4, va_rf r] : List Value)) ea1) ?_
      refine z_callVi (As := [.int x4]) (st := []) S (z_ECok D cy A t0 mi) hE (me_X0_samplesAt l D cy A t0 mi _ u a1 x4 hka1 hw) gV_X4_43 hdV_X0_samplesAt ⟨Nat.le_of_ble_eq_true rfl, Nat.le_of_ble_eq_true rfl⟩ rfl rfl (z_recvC (u := u) hE hka1 (by decide) rfl) (fun _ h => h.re) (fun _ _ _ h h' => h.ba h') rfl (Nat.le_trans z_s0 (by decide)) dX4_soundAt_26 ⟨(Nat.le_of_ble_eq_true rfl), (Nat.le_of_ble_eq_true rfl)⟩ rfl (fun r2 u2 hw => ?_)
      obtain ⟨hw, hm2⟩ := hw
      have hkh0 := hm2.k hkh0
      have hka1 := hm2.k hka1
      refine z_istore S [(5, .int r2), (2, .int x2), (3, va_rf x3), (4, .int x4)] dX4_soundAt_29 (by decide) rfl ?_
      refine z_lv (lv' := [(2, .int x2), (3, va_rf x3), (4, .int x4), (5, .int r2)]) [1, 2, 3, 0] rfl ?_
      refine z_iload_n S 0 dX4_soundAt_31 rfl rfl ?_
      refine z_iload S 3 dX4_soundAt_32 rfl ?_
      refine z_icmp_ge S 45 dX4_soundAt_34 (by decide) (fun c2 => ?_) (fun c2 => ?_)
      · have hw := hw.1 c2
        refine z_iload_n S 0 dX4_soundAt_45 rfl rfl ?_
        refine z_iload S 3 dX4_soundAt_46 rfl ?_
        refine z_isub S dX4_soundAt_48 ?_
        refine z_istore_n S [(2, .int (x2 - r2)), (3, va_rf x3), (4, .int x4), (5, .int r2)] dX4_soundAt_49 rfl (by decide) rfl ?_
        refine z_iinc (v := x4 + 1) (pl := 2) S [(4, .int (x4 + 1)), (2, .int (x2 - r2)), (3, va_rf x3), (5, .int r2)] dX4_soundAt_50 rfl rfl (by decide) (by simp only [List.filter, z_rfc]; rfl) ?_
        refine z_lv (lv' := [(2, .int (x2 - r2)), (3, va_rf x3), (4, .int (x4 + 1)), (5, .int r2)]) [1, 2, 0, 3] rfl ?_
        refine z_goto S 14 dX4_soundAt_53 (by decide) ?_
        refine z_lv (lv' := [(2, .int (x2 - r2)), (3, va_rf x3), (4, .int (x4 + 1))]) [0, 1, 2] rfl ?_
        exact ih u2 (x2 - r2) x3 (x4 + 1) hkh0 hw
      · have hw := hw.2 c2
        refine z_aload_n (x := x3) S 1 dX4_soundAt_37 rfl rfl ?_
        refine z_iload S 2 dX4_soundAt_38 rfl ?_
        refine z_iload_n S 0 dX4_soundAt_40 rfl rfl ?_
        refine z_st (st' := [.int x2, .int x4, va_rf (some a1)]) (congrArg (fun r : Option Nat => ([.int x2, .int x4, va_rf r] : List Value)) ea1) ?_
        refine z_callVi (As := [.int x4, .int x2]) (st := []) S (z_ECok D cy A t0 mi) hE (me_X0_soundAt l D cy A t0 mi _ u2 a1 x4 x2 hka1 hw) gV_X4_47 hdV_X0_soundAt ⟨Nat.le_of_ble_eq_true rfl, Nat.le_of_ble_eq_true rfl⟩ rfl rfl (z_recvC (u := u2) hE hka1 (by decide) rfl) (fun _ h => h.re) (fun _ _ _ h h' => h.ba h') rfl (Nat.le_trans z_s0 (by decide)) dX4_soundAt_41 ⟨(Nat.le_of_ble_eq_true rfl), (Nat.le_of_ble_eq_true rfl)⟩ rfl (fun r3 u3 hw => ?_)
        obtain ⟨hw, hm3⟩ := hw
        have hkh0 := hm3.k hkh0
        have hka1 := hm3.k hka1
        exact z_ciret S hr hlk dX4_soundAt_44 (Nat.le_of_ble_eq_true rfl) (Nat.le_of_ble_eq_true rfl) hw
set_option maxRecDepth 20000 in
theorem mb_X4_soundAt_7 {p : Program} {l : Launch} {e : Env} {s : State} {m : MethodId} {args : Array Value} {below : List Frame} {meth : Method} {c : Code} {D : va_G} {cy : Nat → ClassId} {A : Nat → Prop} {t0 mi : Nat} {u0 : z_St} {h0 : Nat} (S : CallFix p m c cX4_soundAt 6 s args z_T RX4) (hlk : meth.locks = false) (hr : meth.sig.returnType = (some .int)) (hE : z_EC D cy A t0 mi s) {post : Int32 → z_St → Prop}  : ∀ (n : Nat) (u : z_St) (x2 : Int32) (x3 : Option Nat) (hkh0 : z_kd h0 u = 6 ∧ 6 ≠ 0), w_X4_soundAt_7 post t0 mi h0 n u x2 x3 → z_V A (z_hC D cy A t0 u0) p l e rm_X4_soundAt s m args below meth c 6 (MQ below (va_Qi (fun r (u' : z_St) => post r u' ∧ z_mono u0 u') (fun (u' : z_St) t => z_hC D cy A t0 u0 u' t.heap) A) args s 0 0 A) 0 0 u 7 [(2, .int x2), (3, va_rf x3)] [] := by
  intro n
  induction n with
  | zero => intro u x2 x3 hkh0 hw; exact hw.elim
  | succ n ih =>
    intro u x2 x3 hkh0 hw
    refine z_aload_n (x := x3) S 1 dX4_soundAt_7 rfl rfl ?_
    refine z_ifnull (r := x3) S 64 dX4_soundAt_8 (by decide) (fun c1 => ?_) (fun c1 => ?_)
    · have hw := hw.1 c1
      refine z_iconst (v := 0) S dX4_soundAt_64 (by decide) ?_
      exact z_ciret S hr hlk dX4_soundAt_65 (Nat.le_of_ble_eq_true rfl) (Nat.le_of_ble_eq_true rfl) hw
    · have hw := hw.2 c1
      refine z_iconst (v := 0) S dX4_soundAt_11 (by decide) ?_
      refine z_istore S [(4, .int 0), (2, .int x2), (3, va_rf x3)] dX4_soundAt_12 (by decide) (by simp only [List.filter, z_rfc]; rfl) ?_
      refine z_lv (lv' := [(2, .int x2), (3, va_rf x3), (4, .int 0)]) [1, 2, 0] rfl ?_
      obtain ⟨n0, hw⟩ := hw
      exact mb_X4_soundAt_14 S hlk hr hE ih n0 u x2 x3 0 hkh0 hw
set_option maxRecDepth 20000 in
theorem mb_X4_soundAt {p : Program} {l : Launch} {e : Env} {s : State} {m : MethodId} {args : Array Value} {below : List Frame} {meth : Method} {c : Code} {D : va_G} {cy : Nat → ClassId} {A : Nat → Prop} {t0 mi : Nat} {u0 : z_St} {h0 : Nat} (S : CallFix p m c cX4_soundAt 6 s args z_T RX4) (hlk : meth.locks = false) (hr : meth.sig.returnType = (some .int)) (hE : z_EC D cy A t0 mi s) {post : Int32 → z_St → Prop}  (u : z_St) (x1 : Int32) (hkh0 : z_kd h0 u = 6 ∧ 6 ≠ 0) (hw : w_X4_soundAt post t0 mi h0 u x1) : z_V A (z_hC D cy A t0 u0) p l e rm_X4_soundAt s m args below meth c 6 (MQ below (va_Qi (fun r (u' : z_St) => post r u' ∧ z_mono u0 u') (fun (u' : z_St) t => z_hC D cy A t0 u0 u' t.heap) A) args s 0 0 A) 0 0 u 0 [(0, va_rf (some h0)), (1, .int x1)] [] := by
  refine z_iload_n S 1 dX4_soundAt_0 rfl rfl ?_
  refine z_istore_n S [(2, .int x1), (0, va_rf (some h0)), (1, .int x1)] dX4_soundAt_1 rfl (by decide) rfl ?_
  refine z_lv (lv' := [(0, va_rf (some h0)), (1, .int x1), (2, .int x1)]) [1, 2, 0] rfl ?_
  refine z_aload_n (x := some h0) S 0 dX4_soundAt_2 rfl rfl ?_
  refine zb_g_X4_9 (x := z_gR 21 h0 u) S hE hkh0 rfl dX4_soundAt_3 ?_
  refine z_astore_n (x := z_gR 21 h0 u) S [(3, va_rf (z_gR 21 h0 u)), (0, va_rf (some h0)), (1, .int x1), (2, .int x1)] dX4_soundAt_6 rfl (by decide) rfl ?_
  refine z_lv (lv' := [(0, va_rf (some h0)), (1, .int x1), (2, .int x1), (3, va_rf (z_gR 21 h0 u))]) [1, 2, 3, 0] rfl ?_
  refine z_lv (lv' := [(2, .int x1), (3, va_rf (z_gR 21 h0 u))]) [2, 3] rfl ?_
  obtain ⟨n0, hw⟩ := hw
  exact mb_X4_soundAt_7 S hlk hr hE n0 u x1 (z_gR 21 h0 u) hkh0 hw
theorem me_X4_soundAt (l : Launch) (D : va_G) (cy : Nat → ClassId) (A : Nat → Prop) (t0 mi : Nat) (post : Int32 → z_St → Prop) (u : z_St) (h0 : Nat) (x1 : Int32) (hkh0 : z_kd h0 u = 6 ∧ 6 ≠ 0) (hw : w_X4_soundAt post t0 mi h0 u x1) : z_Mi l yX4_soundAt (Cond.code yX4_soundAt cX4_soundAt 6 (some .int) :: z_T) rm_X4_soundAt [va_rf (some h0), .int x1] (z_EC D cy A t0 mi) (z_hC D cy A t0 u) u (fun r u' => post r u' ∧ z_mono u u') 0 0 A :=
  z_met (by decide) (Nat.le_of_ble_eq_true rfl) (fun p e s m args below meth c S hlk hr hnm hE => mb_X4_soundAt S hlk hr hE u x1 hkh0 hw)
abbrev rm_X2_fillFrame : Room := { frames := 0, cells := 0, slots := 0, locals := 0 }
def w_X2_fillFrame (post : z_St → Prop) (t0 mi h0 : Nat) : Nat → z_St → Prop
  | 0 => fun _ => False
  | n + 1 => fun u  => ((8 ≤ (z_gI 7 h0 u) → (post u)) ∧ (¬ 8 ≤ (z_gI 7 h0 u) → (∃ a1 : Nat, z_gR 6 h0 u = some a1 ∧ z_kd a1 u = 10 ∧ (vp_in (z_gI 7 h0 u) (z_ln a1 u) ∧ (w_X2_fillFrame post t0 mi h0 n (z_pI 7 h0 ((z_gI 7 h0 u) + 1) (z_sI a1 (z_gI 7 h0 u).toNatClampNeg 0 u)) )))))
set_option maxRecDepth 20000 in
theorem mb_X2_fillFrame {p : Program} {l : Launch} {e : Env} {s : State} {m : MethodId} {args : Array Value} {below : List Frame} {meth : Method} {c : Code} {D : va_G} {cy : Nat → ClassId} {A : Nat → Prop} {t0 mi : Nat} {u0 : z_St} {h0 : Nat} (S : CallFix p m c cX2_fillFrame 1 s args z_T RX2) (hlk : meth.locks = false) (hr : meth.sig.returnType = none) (hE : z_EC D cy A t0 mi s) {post : z_St → Prop}  : ∀ (n : Nat) (u : z_St)  (hkh0 : z_kd h0 u = 4 ∧ 4 ≠ 0), w_X2_fillFrame post t0 mi h0 n u  → z_V A (z_hC D cy A t0 u0) p l e rm_X2_fillFrame s m args below meth c 1 (MQ below (va_Qv (fun (u' : z_St) => post u' ∧ z_mono u0 u') (fun (u' : z_St) t => z_hC D cy A t0 u0 u' t.heap) A) args s 0 0 A) 0 0 u 0 [(0, va_rf (some h0))] [] := by
  intro n
  induction n with
  | zero => intro u  hkh0 hw; exact hw.elim
  | succ n ih =>
    intro u  hkh0 hw
    refine z_aload_n (x := some h0) S 0 dX2_fillFrame_0 rfl rfl ?_
    refine zb_g_X2_15 (x := z_gI 7 h0 u) S hE hkh0 rfl dX2_fillFrame_1 ?_
    refine z_bipush (v := 8) S dX2_fillFrame_4 (by decide) ?_
    refine z_icmp_ge S 32 dX2_fillFrame_6 (by decide) (fun c1 => ?_) (fun c1 => ?_)
    · have hw := hw.1 c1
      exact z_cvret S hr hlk dX2_fillFrame_32 (Nat.le_of_ble_eq_true rfl) (Nat.le_of_ble_eq_true rfl) hw
    · have hw := hw.2 c1
      refine z_aload_n (x := some h0) S 0 dX2_fillFrame_9 rfl rfl ?_
      refine zb_g_X2_9 (x := z_gR 6 h0 u) S hE hkh0 rfl dX2_fillFrame_10 ?_
      refine z_aload_n (x := some h0) S 0 dX2_fillFrame_13 rfl rfl ?_
      refine zb_g_X2_15 (x := z_gI 7 h0 u) S hE hkh0 rfl dX2_fillFrame_14 ?_
      refine z_iconst (v := 0) S dX2_fillFrame_17 (by decide) ?_
      obtain ⟨a1, ea1, hka1, hw⟩ := hw
      have hka1 : z_kd a1 u = 10 ∧ 10 ≠ 0 := ⟨hka1, by decide⟩
      obtain ⟨hi2, hw⟩ := hw
      refine z_st (st' := [.int 0, .int (z_gI 7 h0 u), va_rf (some a1)]) (congrArg (fun r : Option Nat => ([.int 0, .int (z_gI 7 h0 u), va_rf r] : List Value)) ea1) ?_
      refine z_cast S hE hka1 hi2 dX2_fillFrame_18 ?_
      refine z_aload_n (x := some h0) S 0 dX2_fillFrame_19 rfl rfl ?_
      refine z_dup S dX2_fillFrame_20 (z_rfc (some h0)) ?_
      refine zb_g_X2_15 (x := z_gI 7 h0 u) S hE hkh0 rfl dX2_fillFrame_21 ?_
      refine z_iconst (v := 1) S dX2_fillFrame_24 (by decide) ?_
      refine z_iadd S dX2_fillFrame_25 ?_
      refine zb_p_X2_15 S hE hkh0 dX2_fillFrame_26 ?_
      refine z_goto S 0 dX2_fillFrame_29 (by decide) ?_
      exact ih (z_pI 7 h0 ((z_gI 7 h0 u) + 1) (z_sI a1 (z_gI 7 h0 u).toNatClampNeg 0 u))  hkh0 hw
theorem me_X2_fillFrame (l : Launch) (D : va_G) (cy : Nat → ClassId) (A : Nat → Prop) (t0 mi : Nat) (post : z_St → Prop) (u : z_St) (h0 : Nat) (hkh0 : z_kd h0 u = 4 ∧ 4 ≠ 0) (hw : ∃ n0 : Nat, w_X2_fillFrame post t0 mi h0 n0 u ) : z_Mv l yX2_fillFrame (Cond.code yX2_fillFrame cX2_fillFrame 1 none :: z_T) rm_X2_fillFrame [va_rf (some h0)] (z_EC D cy A t0 mi) (z_hC D cy A t0 u) u (fun u' => post u' ∧ z_mono u u') 0 0 A :=
  hw.elim fun n0 hw => z_met (by decide) (Nat.le_of_ble_eq_true rfl) (fun p e s m args below meth c S hlk hr hnm hE => mb_X2_fillFrame S hlk hr hE n0 u  hkh0 hw)
abbrev rm_X2_isFrameQuiet : Room := { frames := 0, cells := 0, slots := 0, locals := 0 }
def w_X2_isFrameQuiet_2 (post : Int32 → z_St → Prop) (t0 mi h0 : Nat) : Nat → z_St → Int32 → Prop
  | 0 => fun _ _ => False
  | n + 1 => fun u x1 => ((8 ≤ x1 → (post 1 u)) ∧ (¬ 8 ≤ x1 → (∃ a1 : Nat, z_gR 6 h0 u = some a1 ∧ z_kd a1 u = 10 ∧ (vp_in x1 (z_ln a1 u) ∧ (((z_aI a1 x1.toNatClampNeg u) < (-48) → (post 0 u)) ∧ (¬ (z_aI a1 x1.toNatClampNeg u) < (-48) → (vp_in x1 (z_ln a1 u) ∧ (((z_aI a1 x1.toNatClampNeg u) ≤ 48 → (w_X2_isFrameQuiet_2 post t0 mi h0 n u (x1 + 1))) ∧ (¬ (z_aI a1 x1.toNatClampNeg u) ≤ 48 → (post 0 u))))))))))
def w_X2_isFrameQuiet (post : Int32 → z_St → Prop) (t0 mi h0 : Nat) (u : z_St)  : Prop := (∃ n0 : Nat, w_X2_isFrameQuiet_2 post t0 mi h0 n0 u 0)
set_option maxRecDepth 20000 in
theorem mb_X2_isFrameQuiet_2 {p : Program} {l : Launch} {e : Env} {s : State} {m : MethodId} {args : Array Value} {below : List Frame} {meth : Method} {c : Code} {D : va_G} {cy : Nat → ClassId} {A : Nat → Prop} {t0 mi : Nat} {u0 : z_St} {h0 : Nat} (S : CallFix p m c cX2_isFrameQuiet 2 s args z_T RX2) (hlk : meth.locks = false) (hr : meth.sig.returnType = (some .boolean)) (hE : z_EC D cy A t0 mi s) {post : Int32 → z_St → Prop}  : ∀ (n : Nat) (u : z_St) (x1 : Int32) (hkh0 : z_kd h0 u = 4 ∧ 4 ≠ 0), w_X2_isFrameQuiet_2 post t0 mi h0 n u x1 → z_V A (z_hC D cy A t0 u0) p l e rm_X2_isFrameQuiet s m args below meth c 2 (MQ below (va_Qi (fun r (u' : z_St) => post r u' ∧ z_mono u0 u') (fun (u' : z_St) t => z_hC D cy A t0 u0 u' t.heap) A) args s 0 0 A) 0 0 u 2 [(0, va_rf (some h0)), (1, .int x1)] [] := by
  intro n
  induction n with
  | zero => intro u x1 hkh0 hw; exact hw.elim
  | succ n ih =>
    intro u x1 hkh0 hw
    refine z_iload_n S 1 dX2_isFrameQuiet_2 rfl rfl ?_
    refine z_bipush (v := 8) S dX2_isFrameQuiet_3 (by decide) ?_
    refine z_icmp_ge S 38 dX2_isFrameQuiet_5 (by decide) (fun c1 => ?_) (fun c1 => ?_)
    · have hw := hw.1 c1
      refine z_iconst (v := 1) S dX2_isFrameQuiet_38 (by decide) ?_
      exact z_czret S hr hlk dX2_isFrameQuiet_39 (Nat.le_of_ble_eq_true rfl) (Nat.le_of_ble_eq_true rfl) rfl hw
    · have hw := hw.2 c1
      refine z_aload_n (x := some h0) S 0 dX2_isFrameQuiet_8 rfl rfl ?_
      refine zb_g_X2_9 (x := z_gR 6 h0 u) S hE hkh0 rfl dX2_isFrameQuiet_9 ?_
      refine z_iload_n S 1 dX2_isFrameQuiet_12 rfl rfl ?_
      obtain ⟨a1, ea1, hka1, hw⟩ := hw
      have hka1 : z_kd a1 u = 10 ∧ 10 ≠ 0 := ⟨hka1, by decide⟩
      obtain ⟨hi2, hw⟩ := hw
      refine z_st (st' := [.int x1, va_rf (some a1)]) (congrArg (fun r : Option Nat => ([.int x1, va_rf r] : List Value)) ea1) ?_
      refine z_cald S hE hka1 hi2 dX2_isFrameQuiet_13 ?_
      refine z_bipush (v := (-48)) S dX2_isFrameQuiet_14 (by decide) ?_
      refine z_icmp_lt S 30 dX2_isFrameQuiet_16 (by decide) (fun c3 => ?_) (fun c3 => ?_)
      · have hw := hw.1 c3
        refine z_iconst (v := 0) S dX2_isFrameQuiet_30 (by decide) ?_
        exact z_czret S hr hlk dX2_isFrameQuiet_31 (Nat.le_of_ble_eq_true rfl) (Nat.le_of_ble_eq_true rfl) rfl hw
      · have hw := hw.2 c3
        refine z_aload_n (x := some h0) S 0 dX2_isFrameQuiet_19 rfl rfl ?_
        refine zb_g_X2_9 (x := z_gR 6 h0 u) S hE hkh0 rfl dX2_isFrameQuiet_20 ?_
        refine z_iload_n S 1 dX2_isFrameQuiet_23 rfl rfl ?_
        obtain ⟨hi4, hw⟩ := hw
        refine z_st (st' := [.int x1, va_rf (some a1)]) (congrArg (fun r : Option Nat => ([.int x1, va_rf r] : List Value)) ea1) ?_
        refine z_cald S hE hka1 hi4 dX2_isFrameQuiet_24 ?_
        refine z_bipush (v := 48) S dX2_isFrameQuiet_25 (by decide) ?_
        refine z_icmp_le S 32 dX2_isFrameQuiet_27 (by decide) (fun c5 => ?_) (fun c5 => ?_)
        · have hw := hw.1 c5
          refine z_iinc (v := x1 + 1) (pl := 1) S [(1, .int (x1 + 1)), (0, va_rf (some h0))] dX2_isFrameQuiet_32 rfl rfl (by decide) rfl ?_
          refine z_lv (lv' := [(0, va_rf (some h0)), (1, .int (x1 + 1))]) [1, 0] rfl ?_
          refine z_goto S 2 dX2_isFrameQuiet_35 (by decide) ?_
          exact ih u (x1 + 1) hkh0 hw
        · have hw := hw.2 c5
          refine z_iconst (v := 0) S dX2_isFrameQuiet_30 (by decide) ?_
          exact z_czret S hr hlk dX2_isFrameQuiet_31 (Nat.le_of_ble_eq_true rfl) (Nat.le_of_ble_eq_true rfl) rfl hw
set_option maxRecDepth 20000 in
theorem mb_X2_isFrameQuiet {p : Program} {l : Launch} {e : Env} {s : State} {m : MethodId} {args : Array Value} {below : List Frame} {meth : Method} {c : Code} {D : va_G} {cy : Nat → ClassId} {A : Nat → Prop} {t0 mi : Nat} {u0 : z_St} {h0 : Nat} (S : CallFix p m c cX2_isFrameQuiet 2 s args z_T RX2) (hlk : meth.locks = false) (hr : meth.sig.returnType = (some .boolean)) (hE : z_EC D cy A t0 mi s) {post : Int32 → z_St → Prop}  (u : z_St)  (hkh0 : z_kd h0 u = 4 ∧ 4 ≠ 0) (hw : w_X2_isFrameQuiet post t0 mi h0 u ) : z_V A (z_hC D cy A t0 u0) p l e rm_X2_isFrameQuiet s m args below meth c 2 (MQ below (va_Qi (fun r (u' : z_St) => post r u' ∧ z_mono u0 u') (fun (u' : z_St) t => z_hC D cy A t0 u0 u' t.heap) A) args s 0 0 A) 0 0 u 0 [(0, va_rf (some h0))] [] := by
  refine z_iconst (v := 0) S dX2_isFrameQuiet_0 (by decide) ?_
  refine z_istore_n S [(1, .int 0), (0, va_rf (some h0))] dX2_isFrameQuiet_1 rfl (by decide) rfl ?_
  refine z_lv (lv' := [(0, va_rf (some h0)), (1, .int 0)]) [1, 0] rfl ?_
  obtain ⟨n0, hw⟩ := hw
  exact mb_X2_isFrameQuiet_2 S hlk hr hE n0 u 0 hkh0 hw
theorem me_X2_isFrameQuiet (l : Launch) (D : va_G) (cy : Nat → ClassId) (A : Nat → Prop) (t0 mi : Nat) (post : Int32 → z_St → Prop) (u : z_St) (h0 : Nat) (hkh0 : z_kd h0 u = 4 ∧ 4 ≠ 0) (hw : w_X2_isFrameQuiet post t0 mi h0 u ) : z_Mi l yX2_isFrameQuiet (Cond.code yX2_isFrameQuiet cX2_isFrameQuiet 2 (some .boolean) :: z_T) rm_X2_isFrameQuiet [va_rf (some h0)] (z_EC D cy A t0 mi) (z_hC D cy A t0 u) u (fun r u' => post r u' ∧ z_mono u u') 0 0 A :=
  z_met (by decide) (Nat.le_of_ble_eq_true rfl) (fun p e s m args below meth c S hlk hr hnm hE => mb_X2_isFrameQuiet S hlk hr hE u  hkh0 hw)
abbrev rm_X4_dropLastBlock : Room := { frames := 0, cells := 0, slots := 0, locals := 0 }
def w_X4_dropLastBlock_29 (post : z_St → Prop) (t0 mi h0 : Nat) (u : z_St) (x1 : Option Nat) : Prop := ((¬ x1 = none → (∃ a1 : Nat, x1 = some a1 ∧ z_kd a1 (z_pR 22 h0 x1 u) = 2 ∧ (post (z_pR 3 a1 none (z_pR 22 h0 x1 u))))) ∧ (x1 = none → (post (z_pR 21 h0 none (z_pR 22 h0 x1 u)))))
def w_X4_dropLastBlock_7 (post : z_St → Prop) (t0 mi h0 : Nat) : Nat → z_St → Option Nat → Option Nat → Prop
  | 0 => fun _ _ _ => False
  | n + 1 => fun u x1 x2 => ((x2 = none → (w_X4_dropLastBlock_29 post t0 mi h0 u x1)) ∧ (¬ x2 = none → ((x2 = z_gR 22 h0 u → (w_X4_dropLastBlock_29 post t0 mi h0 u x1)) ∧ (¬ x2 = z_gR 22 h0 u → (∃ a1 : Nat, x2 = some a1 ∧ z_kd a1 u = 2 ∧ (w_X4_dropLastBlock_7 post t0 mi h0 n u x2 (z_gR 3 a1 u)))))))
def w_X4_dropLastBlock (post : z_St → Prop) (t0 mi h0 : Nat) (u : z_St)  : Prop := (∃ n0 : Nat, w_X4_dropLastBlock_7 post t0 mi h0 n0 u none (z_gR 21 h0 u))
set_option maxRecDepth 20000 in
theorem mb_X4_dropLastBlock_29 {p : Program} {l : Launch} {e : Env} {s : State} {m : MethodId} {args : Array Value} {below : List Frame} {meth : Method} {c : Code} {D : va_G} {cy : Nat → ClassId} {A : Nat → Prop} {t0 mi : Nat} {u0 : z_St} {h0 : Nat} (S : CallFix p m c cX4_dropLastBlock 3 s args z_T RX4) (hlk : meth.locks = false) (hr : meth.sig.returnType = none) (hE : z_EC D cy A t0 mi s) {post : z_St → Prop}  (u : z_St) (x1 : Option Nat) (hkh0 : z_kd h0 u = 6 ∧ 6 ≠ 0) (hw : w_X4_dropLastBlock_29 post t0 mi h0 u x1) : z_V A (z_hC D cy A t0 u0) p l e rm_X4_dropLastBlock s m args below meth c 3 (MQ below (va_Qv (fun (u' : z_St) => post u' ∧ z_mono u0 u') (fun (u' : z_St) t => z_hC D cy A t0 u0 u' t.heap) A) args s 0 0 A) 0 0 u 29 [(0, va_rf (some h0)), (1, va_rf x1)] [] := by
  refine z_aload_n (x := some h0) S 0 dX4_dropLastBlock_29 rfl rfl ?_
  refine z_aload_n (x := x1) S 1 dX4_dropLastBlock_30 rfl rfl ?_
  refine zb_p_X4_15 x1 S hE hkh0 dX4_dropLastBlock_31 ?_
  refine z_aload_n (x := x1) S 1 dX4_dropLastBlock_34 rfl rfl ?_
  refine z_ifnonnull (r := x1) S 46 dX4_dropLastBlock_35 (by decide) (fun c1 => ?_) (fun c1 => ?_)
  · have hw := hw.1 c1
    refine z_aload_n (x := x1) S 1 dX4_dropLastBlock_46 rfl rfl ?_
    refine z_null S dX4_dropLastBlock_47 ?_
    obtain ⟨a1, ea1, hka1, hw⟩ := hw
    have hka1 : z_kd a1 (z_pR 22 h0 x1 u) = 2 ∧ 2 ≠ 0 := ⟨hka1, by decide⟩
    refine z_st (st' := [va_rf none, va_rf (some a1)]) (congrArg (fun r : Option Nat => ([va_rf none, va_rf r] : List Value)) ea1) ?_
    refine zb_p_X4_33 none S hE hka1 dX4_dropLastBlock_48 ?_
    exact z_cvret S hr hlk dX4_dropLastBlock_51 (Nat.le_of_ble_eq_true rfl) (Nat.le_of_ble_eq_true rfl) hw
  · have hw := hw.2 c1
    refine z_aload_n (x := some h0) S 0 dX4_dropLastBlock_38 rfl rfl ?_
    refine z_null S dX4_dropLastBlock_39 ?_
    refine zb_p_X4_9 none S hE hkh0 dX4_dropLastBlock_40 ?_
    refine z_goto S 51 dX4_dropLastBlock_43 (by decide) ?_
    exact z_cvret S hr hlk dX4_dropLastBlock_51 (Nat.le_of_ble_eq_true rfl) (Nat.le_of_ble_eq_true rfl) hw
set_option maxRecDepth 20000 in
theorem mb_X4_dropLastBlock_7 {p : Program} {l : Launch} {e : Env} {s : State} {m : MethodId} {args : Array Value} {below : List Frame} {meth : Method} {c : Code} {D : va_G} {cy : Nat → ClassId} {A : Nat → Prop} {t0 mi : Nat} {u0 : z_St} {h0 : Nat} (S : CallFix p m c cX4_dropLastBlock 3 s args z_T RX4) (hlk : meth.locks = false) (hr : meth.sig.returnType = none) (hE : z_EC D cy A t0 mi s) {post : z_St → Prop}  : ∀ (n : Nat) (u : z_St) (x1 : Option Nat) (x2 : Option Nat) (hkh0 : z_kd h0 u = 6 ∧ 6 ≠ 0), w_X4_dropLastBlock_7 post t0 mi h0 n u x1 x2 → z_V A (z_hC D cy A t0 u0) p l e rm_X4_dropLastBlock s m args below meth c 3 (MQ below (va_Qv (fun (u' : z_St) => post u' ∧ z_mono u0 u') (fun (u' : z_St) t => z_hC D cy A t0 u0 u' t.heap) A) args s 0 0 A) 0 0 u 7 [(0, va_rf (some h0)), (1, va_rf x1), (2, va_rf x2)] [] := by
  intro n
  induction n with
  | zero => intro u x1 x2 hkh0 hw; exact hw.elim
  | succ n ih =>
    intro u x1 x2 hkh0 hw
    refine z_aload_n (x := x2) S 2 dX4_dropLastBlock_7 rfl rfl ?_
    refine z_ifnull (r := x2) S 29 dX4_dropLastBlock_8 (by decide) (fun c1 => ?_) (fun c1 => ?_)
    · have hw := hw.1 c1
      refine z_lv (lv' := [(0, va_rf (some h0)), (1, va_rf x1)]) [0, 1] rfl ?_
      exact mb_X4_dropLastBlock_29 S hlk hr hE u x1 hkh0 hw
    · have hw := hw.2 c1
      refine z_aload_n (x := x2) S 2 dX4_dropLastBlock_11 rfl rfl ?_
      refine z_aload_n (x := some h0) S 0 dX4_dropLastBlock_12 rfl rfl ?_
      refine zb_g_X4_15 (x := z_gR 22 h0 u) S hE hkh0 rfl dX4_dropLastBlock_13 ?_
      refine z_acmp_eq (rx := x2) (ry := z_gR 22 h0 u) S 29 dX4_dropLastBlock_16 (by decide) (fun c2 => ?_) (fun c2 => ?_)
      · have hw := hw.1 c2
        refine z_lv (lv' := [(0, va_rf (some h0)), (1, va_rf x1)]) [0, 1] rfl ?_
        exact mb_X4_dropLastBlock_29 S hlk hr hE u x1 hkh0 hw
      · have hw := hw.2 c2
        refine z_aload_n (x := x2) S 2 dX4_dropLastBlock_19 rfl rfl ?_
        refine z_astore_n (x := x2) S [(1, va_rf x2), (0, va_rf (some h0)), (2, va_rf x2)] dX4_dropLastBlock_20 rfl (by decide) rfl ?_
        refine z_lv (lv' := [(0, va_rf (some h0)), (1, va_rf x2), (2, va_rf x2)]) [1, 0, 2] rfl ?_
        refine z_aload_n (x := x2) S 2 dX4_dropLastBlock_21 rfl rfl ?_
        obtain ⟨a1, ea1, hka1, hw⟩ := hw
        have hka1 : z_kd a1 u = 2 ∧ 2 ≠ 0 := ⟨hka1, by decide⟩
        refine z_st (st' := [va_rf (some a1)]) (congrArg (fun r : Option Nat => ([va_rf r] : List Value)) ea1) ?_
        refine zb_g_X4_33 (x := z_gR 3 a1 u) S hE hka1 rfl dX4_dropLastBlock_22 ?_
        refine z_astore_n (x := z_gR 3 a1 u) S [(2, va_rf (z_gR 3 a1 u)), (0, va_rf (some h0)), (1, va_rf x2)] dX4_dropLastBlock_25 rfl (by decide) (by simp only [List.filter, z_rfc]; rfl) ?_
        refine z_lv (lv' := [(0, va_rf (some h0)), (1, va_rf x2), (2, va_rf (z_gR 3 a1 u))]) [1, 2, 0] rfl ?_
        refine z_goto S 7 dX4_dropLastBlock_26 (by decide) ?_
        exact ih u x2 (z_gR 3 a1 u) hkh0 hw
set_option maxRecDepth 20000 in
theorem mb_X4_dropLastBlock {p : Program} {l : Launch} {e : Env} {s : State} {m : MethodId} {args : Array Value} {below : List Frame} {meth : Method} {c : Code} {D : va_G} {cy : Nat → ClassId} {A : Nat → Prop} {t0 mi : Nat} {u0 : z_St} {h0 : Nat} (S : CallFix p m c cX4_dropLastBlock 3 s args z_T RX4) (hlk : meth.locks = false) (hr : meth.sig.returnType = none) (hE : z_EC D cy A t0 mi s) {post : z_St → Prop}  (u : z_St)  (hkh0 : z_kd h0 u = 6 ∧ 6 ≠ 0) (hw : w_X4_dropLastBlock post t0 mi h0 u ) : z_V A (z_hC D cy A t0 u0) p l e rm_X4_dropLastBlock s m args below meth c 3 (MQ below (va_Qv (fun (u' : z_St) => post u' ∧ z_mono u0 u') (fun (u' : z_St) t => z_hC D cy A t0 u0 u' t.heap) A) args s 0 0 A) 0 0 u 0 [(0, va_rf (some h0))] [] := by
  refine z_null S dX4_dropLastBlock_0 ?_
  refine z_astore_n (x := none) S [(1, va_rf none), (0, va_rf (some h0))] dX4_dropLastBlock_1 rfl (by decide) rfl ?_
  refine z_lv (lv' := [(0, va_rf (some h0)), (1, va_rf none)]) [1, 0] rfl ?_
  refine z_aload_n (x := some h0) S 0 dX4_dropLastBlock_2 rfl rfl ?_
  refine zb_g_X4_9 (x := z_gR 21 h0 u) S hE hkh0 rfl dX4_dropLastBlock_3 ?_
  refine z_astore_n (x := z_gR 21 h0 u) S [(2, va_rf (z_gR 21 h0 u)), (0, va_rf (some h0)), (1, va_rf none)] dX4_dropLastBlock_6 rfl (by decide) (by simp only [List.filter, z_rfc]; rfl) ?_
  refine z_lv (lv' := [(0, va_rf (some h0)), (1, va_rf none), (2, va_rf (z_gR 21 h0 u))]) [1, 2, 0] rfl ?_
  obtain ⟨n0, hw⟩ := hw
  exact mb_X4_dropLastBlock_7 S hlk hr hE n0 u none (z_gR 21 h0 u) hkh0 hw
theorem me_X4_dropLastBlock (l : Launch) (D : va_G) (cy : Nat → ClassId) (A : Nat → Prop) (t0 mi : Nat) (post : z_St → Prop) (u : z_St) (h0 : Nat) (hkh0 : z_kd h0 u = 6 ∧ 6 ≠ 0) (hw : w_X4_dropLastBlock post t0 mi h0 u ) : z_Mv l yX4_dropLastBlock (Cond.code yX4_dropLastBlock cX4_dropLastBlock 3 none :: z_T) rm_X4_dropLastBlock [va_rf (some h0)] (z_EC D cy A t0 mi) (z_hC D cy A t0 u) u (fun u' => post u' ∧ z_mono u u') 0 0 A :=
  z_met (by decide) (Nat.le_of_ble_eq_true rfl) (fun p e s m args below meth c S hlk hr hnm hE => mb_X4_dropLastBlock S hlk hr hE u  hkh0 hw)
abbrev rm_X4_dropLastEntry : Room := { frames := 1, cells := 0, slots := 0, locals := 22 }
def w_X4_dropLastEntry (post : z_St → Prop) (t0 mi h0 : Nat) (u : z_St)  : Prop := ((¬ z_gR 22 h0 u = none → (∃ a1 : Nat, z_gR 22 h0 u = some a1 ∧ z_kd a1 u = 2 ∧ ((¬ (z_gI 2 a1 (z_pI 2 a1 ((z_gI 2 a1 u) - 1) u)) = 0 → (post (z_pI 2 a1 ((z_gI 2 a1 u) - 1) u))) ∧ ((z_gI 2 a1 (z_pI 2 a1 ((z_gI 2 a1 u) - 1) u)) = 0 → (w_X4_dropLastBlock (fun u2 => (post u2)) t0 mi h0 (z_pI 2 a1 ((z_gI 2 a1 u) - 1) u) ))))) ∧ (z_gR 22 h0 u = none → (post u)))
set_option maxRecDepth 20000 in
theorem mb_X4_dropLastEntry {p : Program} {l : Launch} {e : Env} {s : State} {m : MethodId} {args : Array Value} {below : List Frame} {meth : Method} {c : Code} {D : va_G} {cy : Nat → ClassId} {A : Nat → Prop} {t0 mi : Nat} {u0 : z_St} {h0 : Nat} (S : CallFix p m c cX4_dropLastEntry 1 s args z_T RX4) (hlk : meth.locks = false) (hr : meth.sig.returnType = none) (hE : z_EC D cy A t0 mi s) {post : z_St → Prop}  (u : z_St)  (hkh0 : z_kd h0 u = 6 ∧ 6 ≠ 0) (hw : w_X4_dropLastEntry post t0 mi h0 u ) : z_V A (z_hC D cy A t0 u0) p l e rm_X4_dropLastEntry s m args below meth c 1 (MQ below (va_Qv (fun (u' : z_St) => post u' ∧ z_mono u0 u') (fun (u' : z_St) t => z_hC D cy A t0 u0 u' t.heap) A) args s 0 0 A) 0 0 u 0 [(0, va_rf (some h0))] [] := by
  refine z_aload_n (x := some h0) S 0 dX4_dropLastEntry_0 rfl rfl ?_
  refine zb_g_X4_15 (x := z_gR 22 h0 u) S hE hkh0 rfl dX4_dropLastEntry_1 ?_
  refine z_ifnonnull (r := z_gR 22 h0 u) S 8 dX4_dropLastEntry_4 (by decide) (fun c1 => ?_) (fun c1 => ?_)
  · have hw := hw.1 c1
    refine z_aload_n (x := some h0) S 0 dX4_dropLastEntry_8 rfl rfl ?_
    refine zb_g_X4_15 (x := z_gR 22 h0 u) S hE hkh0 rfl dX4_dropLastEntry_9 ?_
    refine z_dup S dX4_dropLastEntry_12 (z_rfc (z_gR 22 h0 u)) ?_
    obtain ⟨a1, ea1, hka1, hw⟩ := hw
    have hka1 : z_kd a1 u = 2 ∧ 2 ≠ 0 := ⟨hka1, by decide⟩
    refine z_st (st' := [va_rf (some a1), va_rf (z_gR 22 h0 u)]) (congrArg (fun r : Option Nat => ([va_rf r, va_rf (z_gR 22 h0 u)] : List Value)) ea1) ?_
    refine zb_g_X4_28 (x := z_gI 2 a1 u) S hE hka1 rfl dX4_dropLastEntry_13 ?_
    refine z_iconst (v := 1) S dX4_dropLastEntry_16 (by decide) ?_
    refine z_isub S dX4_dropLastEntry_17 ?_
    refine z_st (st' := [.int ((z_gI 2 a1 u) - 1), va_rf (some a1)]) (congrArg (fun r : Option Nat => ([.int ((z_gI 2 a1 u) - 1), va_rf r] : List Value)) ea1) ?_
    refine zb_p_X4_28 S hE hka1 dX4_dropLastEntry_18 ?_
    refine z_aload_n (x := some h0) S 0 dX4_dropLastEntry_21 rfl rfl ?_
    refine zb_g_X4_15 (x := z_gR 22 h0 u) S hE hkh0 rfl dX4_dropLastEntry_22 ?_
    refine z_st (st' := [va_rf (some a1)]) (congrArg (fun r : Option Nat => ([va_rf r] : List Value)) ea1) ?_
    refine zb_g_X4_28 (x := z_gI 2 a1 (z_pI 2 a1 ((z_gI 2 a1 u) - 1) u)) S hE hka1 rfl dX4_dropLastEntry_25 ?_
    refine z_if_ne S 35 dX4_dropLastEntry_28 (by decide) (fun c2 => ?_) (fun c2 => ?_)
    · have hw := hw.1 c2
      exact z_cvret S hr hlk dX4_dropLastEntry_35 (Nat.le_of_ble_eq_true rfl) (Nat.le_of_ble_eq_true rfl) hw
    · have hw := hw.2 c2
      refine z_aload_n (x := some h0) S 0 dX4_dropLastEntry_31 rfl rfl ?_
      refine z_callVv (As := []) (st := []) S (z_ECok D cy A t0 mi) hE (me_X4_dropLastBlock l D cy A t0 mi _ (z_pI 2 a1 ((z_gI 2 a1 u) - 1) u) h0 hkh0 hw) gV_X4_36 hdV_X4_dropLastBlock ⟨Nat.le_of_ble_eq_true rfl, Nat.le_of_ble_eq_true rfl⟩ rfl rfl (z_recvC (u := z_pI 2 a1 ((z_gI 2 a1 u) - 1) u) hE hkh0 (by decide) rfl) (fun _ h => h.re) (fun _ _ _ h h' => h.ba h') rfl (Nat.le_trans z_s0 (by decide)) dX4_dropLastEntry_32 ⟨(Nat.le_of_ble_eq_true rfl), (Nat.le_of_ble_eq_true rfl)⟩ rfl (fun u2 hw => ?_)
      obtain ⟨hw, hm2⟩ := hw
      have hkh0 := hm2.k hkh0
      have hka1 := hm2.k hka1
      exact z_cvret S hr hlk dX4_dropLastEntry_35 (Nat.le_of_ble_eq_true rfl) (Nat.le_of_ble_eq_true rfl) hw
  · have hw := hw.2 c1
    exact z_cvret S hr hlk dX4_dropLastEntry_7 (Nat.le_of_ble_eq_true rfl) (Nat.le_of_ble_eq_true rfl) hw
theorem me_X4_dropLastEntry (l : Launch) (D : va_G) (cy : Nat → ClassId) (A : Nat → Prop) (t0 mi : Nat) (post : z_St → Prop) (u : z_St) (h0 : Nat) (hkh0 : z_kd h0 u = 6 ∧ 6 ≠ 0) (hw : w_X4_dropLastEntry post t0 mi h0 u ) : z_Mv l yX4_dropLastEntry (Cond.code yX4_dropLastEntry cX4_dropLastEntry 1 none :: z_T) rm_X4_dropLastEntry [va_rf (some h0)] (z_EC D cy A t0 mi) (z_hC D cy A t0 u) u (fun u' => post u' ∧ z_mono u u') 0 0 A :=
  z_met (by decide) (Nat.le_of_ble_eq_true rfl) (fun p e s m args below meth c S hlk hr hnm hE => mb_X4_dropLastEntry S hlk hr hE u  hkh0 hw)
abbrev rm_X4_makeLastEntryGap : Room := { frames := 0, cells := 0, slots := 0, locals := 0 }
def w_X4_makeLastEntryGap (post : z_St → Prop) (t0 mi h0 : Nat) (u : z_St)  : Prop := ((z_gR 22 h0 u = none → (post u)) ∧ (¬ z_gR 22 h0 u = none → (∃ a1 : Nat, z_gR 22 h0 u = some a1 ∧ z_kd a1 u = 2 ∧ (((z_gI 2 a1 u) ≤ 0 → (post u)) ∧ (¬ (z_gI 2 a1 u) ≤ 0 → (∃ a2 : Nat, z_gR 0 a1 u = some a2 ∧ z_kd a2 u = 10 ∧ (vp_in ((z_gI 2 a1 u) - 1) (z_ln a2 u) ∧ (post (z_sI a2 ((z_gI 2 a1 u) - 1).toNatClampNeg 3 u)))))))))
set_option maxRecDepth 20000 in
theorem mb_X4_makeLastEntryGap {p : Program} {l : Launch} {e : Env} {s : State} {m : MethodId} {args : Array Value} {below : List Frame} {meth : Method} {c : Code} {D : va_G} {cy : Nat → ClassId} {A : Nat → Prop} {t0 mi : Nat} {u0 : z_St} {h0 : Nat} (S : CallFix p m c cX4_makeLastEntryGap 1 s args z_T RX4) (hlk : meth.locks = false) (hr : meth.sig.returnType = none) (hE : z_EC D cy A t0 mi s) {post : z_St → Prop}  (u : z_St)  (hkh0 : z_kd h0 u = 6 ∧ 6 ≠ 0) (hw : w_X4_makeLastEntryGap post t0 mi h0 u ) : z_V A (z_hC D cy A t0 u0) p l e rm_X4_makeLastEntryGap s m args below meth c 1 (MQ below (va_Qv (fun (u' : z_St) => post u' ∧ z_mono u0 u') (fun (u' : z_St) t => z_hC D cy A t0 u0 u' t.heap) A) args s 0 0 A) 0 0 u 0 [(0, va_rf (some h0))] [] := by
  refine z_aload_n (x := some h0) S 0 dX4_makeLastEntryGap_0 rfl rfl ?_
  refine zb_g_X4_15 (x := z_gR 22 h0 u) S hE hkh0 rfl dX4_makeLastEntryGap_1 ?_
  refine z_ifnull (r := z_gR 22 h0 u) S 35 dX4_makeLastEntryGap_4 (by decide) (fun c1 => ?_) (fun c1 => ?_)
  · have hw := hw.1 c1
    exact z_cvret S hr hlk dX4_makeLastEntryGap_35 (Nat.le_of_ble_eq_true rfl) (Nat.le_of_ble_eq_true rfl) hw
  · have hw := hw.2 c1
    refine z_aload_n (x := some h0) S 0 dX4_makeLastEntryGap_7 rfl rfl ?_
    refine zb_g_X4_15 (x := z_gR 22 h0 u) S hE hkh0 rfl dX4_makeLastEntryGap_8 ?_
    obtain ⟨a1, ea1, hka1, hw⟩ := hw
    have hka1 : z_kd a1 u = 2 ∧ 2 ≠ 0 := ⟨hka1, by decide⟩
    refine z_st (st' := [va_rf (some a1)]) (congrArg (fun r : Option Nat => ([va_rf r] : List Value)) ea1) ?_
    refine zb_g_X4_28 (x := z_gI 2 a1 u) S hE hka1 rfl dX4_makeLastEntryGap_11 ?_
    refine z_if_le S 35 dX4_makeLastEntryGap_14 (by decide) (fun c2 => ?_) (fun c2 => ?_)
    · have hw := hw.1 c2
      exact z_cvret S hr hlk dX4_makeLastEntryGap_35 (Nat.le_of_ble_eq_true rfl) (Nat.le_of_ble_eq_true rfl) hw
    · have hw := hw.2 c2
      refine z_aload_n (x := some h0) S 0 dX4_makeLastEntryGap_17 rfl rfl ?_
      refine zb_g_X4_15 (x := z_gR 22 h0 u) S hE hkh0 rfl dX4_makeLastEntryGap_18 ?_
      refine z_st (st' := [va_rf (some a1)]) (congrArg (fun r : Option Nat => ([va_rf r] : List Value)) ea1) ?_
      refine zb_g_X4_39 (x := z_gR 0 a1 u) S hE hka1 rfl dX4_makeLastEntryGap_21 ?_
      refine z_aload_n (x := some h0) S 0 dX4_makeLastEntryGap_24 rfl rfl ?_
      refine zb_g_X4_15 (x := z_gR 22 h0 u) S hE hkh0 rfl dX4_makeLastEntryGap_25 ?_
      refine z_st (st' := [va_rf (some a1), va_rf (z_gR 0 a1 u)]) (congrArg (fun r : Option Nat => ([va_rf r, va_rf (z_gR 0 a1 u)] : List Value)) ea1) ?_
      refine zb_g_X4_28 (x := z_gI 2 a1 u) S hE hka1 rfl dX4_makeLastEntryGap_28 ?_
      refine z_iconst (v := 1) S dX4_makeLastEntryGap_31 (by decide) ?_
      refine z_isub S dX4_makeLastEntryGap_32 ?_
      refine z_iconst (v := 3) S dX4_makeLastEntryGap_33 (by decide) ?_
      obtain ⟨a2, ea2, hka2, hw⟩ := hw
      have hka2 : z_kd a2 u = 10 ∧ 10 ≠ 0 := ⟨hka2, by decide⟩
      obtain ⟨hi3, hw⟩ := hw
      refine z_st (st' := [.int 3, .int ((z_gI 2 a1 u) - 1), va_rf (some a2)]) (congrArg (fun r : Option Nat => ([.int 3, .int ((z_gI 2 a1 u) - 1), va_rf r] : List Value)) ea2) ?_
      refine z_cast S hE hka2 hi3 dX4_makeLastEntryGap_34 ?_
      exact z_cvret S hr hlk dX4_makeLastEntryGap_35 (Nat.le_of_ble_eq_true rfl) (Nat.le_of_ble_eq_true rfl) hw
theorem me_X4_makeLastEntryGap (l : Launch) (D : va_G) (cy : Nat → ClassId) (A : Nat → Prop) (t0 mi : Nat) (post : z_St → Prop) (u : z_St) (h0 : Nat) (hkh0 : z_kd h0 u = 6 ∧ 6 ≠ 0) (hw : w_X4_makeLastEntryGap post t0 mi h0 u ) : z_Mv l yX4_makeLastEntryGap (Cond.code yX4_makeLastEntryGap cX4_makeLastEntryGap 1 none :: z_T) rm_X4_makeLastEntryGap [va_rf (some h0)] (z_EC D cy A t0 mi) (z_hC D cy A t0 u) u (fun u' => post u' ∧ z_mono u u') 0 0 A :=
  z_met (by decide) (Nat.le_of_ble_eq_true rfl) (fun p e s m args below meth c S hlk hr hnm hE => mb_X4_makeLastEntryGap S hlk hr hE u  hkh0 hw)
abbrev rm_X4_lengthenLastEntry : Room := { frames := 0, cells := 0, slots := 0, locals := 0 }
def w_X4_lengthenLastEntry (post : z_St → Prop) (t0 mi h0 : Nat) (u : z_St)  : Prop := ((z_gR 22 h0 u = none → (post u)) ∧ (¬ z_gR 22 h0 u = none → (∃ a1 : Nat, z_gR 22 h0 u = some a1 ∧ z_kd a1 u = 2 ∧ (((z_gI 2 a1 u) ≤ 0 → (post u)) ∧ (¬ (z_gI 2 a1 u) ≤ 0 → (∃ a2 : Nat, z_gR 0 a1 u = some a2 ∧ z_kd a2 u = 10 ∧ (vp_in ((z_gI 2 a1 u) - 1) (z_ln a2 u) ∧ (vp_in ((z_gI 2 a1 u) - 1) (z_ln a2 u) ∧ (post (z_sI a2 ((z_gI 2 a1 u) - 1).toNatClampNeg ((z_aI a2 (((z_gI 2 a1 u) - 1).toNatClampNeg) u) + 1) u))))))))))
set_option maxRecDepth 20000 in
theorem mb_X4_lengthenLastEntry {p : Program} {l : Launch} {e : Env} {s : State} {m : MethodId} {args : Array Value} {below : List Frame} {meth : Method} {c : Code} {D : va_G} {cy : Nat → ClassId} {A : Nat → Prop} {t0 mi : Nat} {u0 : z_St} {h0 : Nat} (S : CallFix p m c cX4_lengthenLastEntry 1 s args z_T RX4) (hlk : meth.locks = false) (hr : meth.sig.returnType = none) (hE : z_EC D cy A t0 mi s) {post : z_St → Prop}  (u : z_St)  (hkh0 : z_kd h0 u = 6 ∧ 6 ≠ 0) (hw : w_X4_lengthenLastEntry post t0 mi h0 u ) : z_V A (z_hC D cy A t0 u0) p l e rm_X4_lengthenLastEntry s m args below meth c 1 (MQ below (va_Qv (fun (u' : z_St) => post u' ∧ z_mono u0 u') (fun (u' : z_St) t => z_hC D cy A t0 u0 u' t.heap) A) args s 0 0 A) 0 0 u 0 [(0, va_rf (some h0))] [] := by
  refine z_aload_n (x := some h0) S 0 dX4_lengthenLastEntry_0 rfl rfl ?_
  refine zb_g_X4_15 (x := z_gR 22 h0 u) S hE hkh0 rfl dX4_lengthenLastEntry_1 ?_
  refine z_ifnull (r := z_gR 22 h0 u) S 38 dX4_lengthenLastEntry_4 (by decide) (fun c1 => ?_) (fun c1 => ?_)
  · have hw := hw.1 c1
    exact z_cvret S hr hlk dX4_lengthenLastEntry_38 (Nat.le_of_ble_eq_true rfl) (Nat.le_of_ble_eq_true rfl) hw
  · have hw := hw.2 c1
    refine z_aload_n (x := some h0) S 0 dX4_lengthenLastEntry_7 rfl rfl ?_
    refine zb_g_X4_15 (x := z_gR 22 h0 u) S hE hkh0 rfl dX4_lengthenLastEntry_8 ?_
    obtain ⟨a1, ea1, hka1, hw⟩ := hw
    have hka1 : z_kd a1 u = 2 ∧ 2 ≠ 0 := ⟨hka1, by decide⟩
    refine z_st (st' := [va_rf (some a1)]) (congrArg (fun r : Option Nat => ([va_rf r] : List Value)) ea1) ?_
    refine zb_g_X4_28 (x := z_gI 2 a1 u) S hE hka1 rfl dX4_lengthenLastEntry_11 ?_
    refine z_if_le S 38 dX4_lengthenLastEntry_14 (by decide) (fun c2 => ?_) (fun c2 => ?_)
    · have hw := hw.1 c2
      exact z_cvret S hr hlk dX4_lengthenLastEntry_38 (Nat.le_of_ble_eq_true rfl) (Nat.le_of_ble_eq_true rfl) hw
    · have hw := hw.2 c2
      refine z_aload_n (x := some h0) S 0 dX4_lengthenLastEntry_17 rfl rfl ?_
      refine zb_g_X4_15 (x := z_gR 22 h0 u) S hE hkh0 rfl dX4_lengthenLastEntry_18 ?_
      refine z_st (st' := [va_rf (some a1)]) (congrArg (fun r : Option Nat => ([va_rf r] : List Value)) ea1) ?_
      refine zb_g_X4_39 (x := z_gR 0 a1 u) S hE hka1 rfl dX4_lengthenLastEntry_21 ?_
      refine z_aload_n (x := some h0) S 0 dX4_lengthenLastEntry_24 rfl rfl ?_
      refine zb_g_X4_15 (x := z_gR 22 h0 u) S hE hkh0 rfl dX4_lengthenLastEntry_25 ?_
      refine z_st (st' := [va_rf (some a1), va_rf (z_gR 0 a1 u)]) (congrArg (fun r : Option Nat => ([va_rf r, va_rf (z_gR 0 a1 u)] : List Value)) ea1) ?_
      refine zb_g_X4_28 (x := z_gI 2 a1 u) S hE hka1 rfl dX4_lengthenLastEntry_28 ?_
      refine z_iconst (v := 1) S dX4_lengthenLastEntry_31 (by decide) ?_
      refine z_isub S dX4_lengthenLastEntry_32 ?_
      refine z_dup2 S dX4_lengthenLastEntry_33 rfl (z_rfc (z_gR 0 a1 u)) ?_
      obtain ⟨a2, ea2, hka2, hw⟩ := hw
      have hka2 : z_kd a2 u = 10 ∧ 10 ≠ 0 := ⟨hka2, by decide⟩
      obtain ⟨hi3, hw⟩ := hw
      refine z_st (st' := [.int ((z_gI 2 a1 u) - 1), va_rf (some a2), .int ((z_gI 2 a1 u) - 1), va_rf (z_gR 0 a1 u)]) (congrArg (fun r : Option Nat => ([.int ((z_gI 2 a1 u) - 1), va_rf r, .int ((z_gI 2 a1 u) - 1), va_rf (z_gR 0 a1 u)] : List Value)) ea2) ?_
      refine z_cald S hE hka2 hi3 dX4_lengthenLastEntry_34 ?_
      refine z_iconst (v := 1) S dX4_lengthenLastEntry_35 (by decide) ?_
      refine z_iadd S dX4_lengthenLastEntry_36 ?_
      obtain ⟨hi4, hw⟩ := hw
      refine z_st (st' := [.int ((z_aI a2 (((z_gI 2 a1 u) - 1).toNatClampNeg) u) + 1), .int ((z_gI 2 a1 u) - 1), va_rf (some a2)]) (congrArg (fun r : Option Nat => ([.int ((z_aI a2 (((z_gI 2 a1 u) - 1).toNatClampNeg) u) + 1), .int ((z_gI 2 a1 u) - 1), va_rf r] : List Value)) ea2) ?_
      refine z_cast S hE hka2 hi4 dX4_lengthenLastEntry_37 ?_
      exact z_cvret S hr hlk dX4_lengthenLastEntry_38 (Nat.le_of_ble_eq_true rfl) (Nat.le_of_ble_eq_true rfl) hw
theorem me_X4_lengthenLastEntry (l : Launch) (D : va_G) (cy : Nat → ClassId) (A : Nat → Prop) (t0 mi : Nat) (post : z_St → Prop) (u : z_St) (h0 : Nat) (hkh0 : z_kd h0 u = 6 ∧ 6 ≠ 0) (hw : w_X4_lengthenLastEntry post t0 mi h0 u ) : z_Mv l yX4_lengthenLastEntry (Cond.code yX4_lengthenLastEntry cX4_lengthenLastEntry 1 none :: z_T) rm_X4_lengthenLastEntry [va_rf (some h0)] (z_EC D cy A t0 mi) (z_hC D cy A t0 u) u (fun u' => post u' ∧ z_mono u u') 0 0 A :=
  z_met (by decide) (Nat.le_of_ble_eq_true rfl) (fun p e s m args below meth c S hlk hr hnm hE => mb_X4_lengthenLastEntry S hlk hr hE u  hkh0 hw)
abbrev rm_X2_lengthenGap : Room := { frames := 2, cells := 0, slots := 0, locals := 42 }
def w_X2_lengthenGap_32 (post : z_St → Prop) (t0 mi h0 : Nat) (u : z_St)  : Prop := (w_X2_forgetGuess (fun u1 => (post u1)) t0 mi h0 u )
def w_X2_lengthenGap (post : z_St → Prop) (t0 mi h0 : Nat) (u : z_St)  : Prop := ((¬ (z_gI 13 h0 u) = 2 → (∃ a1 : Nat, z_gR 12 h0 u = some a1 ∧ z_kd a1 u = 6 ∧ (w_X4_lengthenLastEntry (fun u2 => (w_X2_lengthenGap_32 post t0 mi h0 u2 )) t0 mi a1 u ))) ∧ ((z_gI 13 h0 u) = 2 → (∃ a3 : Nat, z_gR 12 h0 u = some a3 ∧ z_kd a3 u = 6 ∧ (w_X4_dropLastEntry (fun u4 => (∃ a5 : Nat, z_gR 12 h0 u4 = some a5 ∧ z_kd a5 u4 = 6 ∧ (w_X4_makeLastEntryGap (fun u6 => (w_X2_lengthenGap_32 post t0 mi h0 u6 )) t0 mi a5 u4 ))) t0 mi a3 u ))))
set_option maxRecDepth 20000 in
theorem mb_X2_lengthenGap_32 {p : Program} {l : Launch} {e : Env} {s : State} {m : MethodId} {args : Array Value} {below : List Frame} {meth : Method} {c : Code} {D : va_G} {cy : Nat → ClassId} {A : Nat → Prop} {t0 mi : Nat} {u0 : z_St} {h0 : Nat} (S : CallFix p m c cX2_lengthenGap 1 s args z_T RX2) (hlk : meth.locks = false) (hr : meth.sig.returnType = none) (hE : z_EC D cy A t0 mi s) {post : z_St → Prop}  (u : z_St)  (hkh0 : z_kd h0 u = 4 ∧ 4 ≠ 0) (hw : w_X2_lengthenGap_32 post t0 mi h0 u ) : z_V A (z_hC D cy A t0 u0) p l e rm_X2_lengthenGap s m args below meth c 1 (MQ below (va_Qv (fun (u' : z_St) => post u' ∧ z_mono u0 u') (fun (u' : z_St) t => z_hC D cy A t0 u0 u' t.heap) A) args s 0 0 A) 0 0 u 32 [(0, va_rf (some h0))] [] := by
  refine z_aload_n (x := some h0) S 0 dX2_lengthenGap_32 rfl rfl ?_
  refine z_callVv (As := []) (st := []) S (z_ECok D cy A t0 mi) hE (me_X2_forgetGuess l D cy A t0 mi _ u h0 hkh0 hw) gV_X2_48 hdV_X2_forgetGuess ⟨Nat.le_of_ble_eq_true rfl, Nat.le_of_ble_eq_true rfl⟩ rfl rfl (z_recvC (u := u) hE hkh0 (by decide) rfl) (fun _ h => h.re) (fun _ _ _ h h' => h.ba h') rfl (Nat.le_trans z_s0 (by decide)) dX2_lengthenGap_33 ⟨(Nat.le_of_ble_eq_true rfl), (Nat.le_of_ble_eq_true rfl)⟩ rfl (fun u1 hw => ?_)
  obtain ⟨hw, hm1⟩ := hw
  have hkh0 := hm1.k hkh0
  exact z_cvret S hr hlk dX2_lengthenGap_36 (Nat.le_of_ble_eq_true rfl) (Nat.le_of_ble_eq_true rfl) hw
set_option maxRecDepth 20000 in
theorem mb_X2_lengthenGap {p : Program} {l : Launch} {e : Env} {s : State} {m : MethodId} {args : Array Value} {below : List Frame} {meth : Method} {c : Code} {D : va_G} {cy : Nat → ClassId} {A : Nat → Prop} {t0 mi : Nat} {u0 : z_St} {h0 : Nat} (S : CallFix p m c cX2_lengthenGap 1 s args z_T RX2) (hlk : meth.locks = false) (hr : meth.sig.returnType = none) (hE : z_EC D cy A t0 mi s) {post : z_St → Prop}  (u : z_St)  (hkh0 : z_kd h0 u = 4 ∧ 4 ≠ 0) (hw : w_X2_lengthenGap post t0 mi h0 u ) : z_V A (z_hC D cy A t0 u0) p l e rm_X2_lengthenGap s m args below meth c 1 (MQ below (va_Qv (fun (u' : z_St) => post u' ∧ z_mono u0 u') (fun (u' : z_St) t => z_hC D cy A t0 u0 u' t.heap) A) args s 0 0 A) 0 0 u 0 [(0, va_rf (some h0))] [] := by
  refine z_aload_n (x := some h0) S 0 dX2_lengthenGap_0 rfl rfl ?_
  refine zb_g_X2_39 (x := z_gI 13 h0 u) S hE hkh0 rfl dX2_lengthenGap_1 ?_
  refine z_iconst (v := 2) S dX2_lengthenGap_4 (by decide) ?_
  refine z_icmp_ne S 25 dX2_lengthenGap_5 (by decide) (fun c1 => ?_) (fun c1 => ?_)
  · have hw := hw.1 c1
    refine z_aload_n (x := some h0) S 0 dX2_lengthenGap_25 rfl rfl ?_
    refine zb_g_X2_35 (x := z_gR 12 h0 u) S hE hkh0 rfl dX2_lengthenGap_26 ?_
    obtain ⟨a1, ea1, hka1, hw⟩ := hw
    have hka1 : z_kd a1 u = 6 ∧ 6 ≠ 0 := ⟨hka1, by decide⟩
    refine z_st (st' := [va_rf (some a1)]) (congrArg (fun r : Option Nat => ([va_rf r] : List Value)) ea1) ?_
    refine z_callVv (As := []) (st := []) S (z_ECok D cy A t0 mi) hE (me_X4_lengthenLastEntry l D cy A t0 mi _ u a1 hka1 hw) gV_X2_57 hdV_X4_lengthenLastEntry ⟨Nat.le_of_ble_eq_true rfl, Nat.le_of_ble_eq_true rfl⟩ rfl rfl (z_recvC (u := u) hE hka1 (by decide) rfl) (fun _ h => h.re) (fun _ _ _ h h' => h.ba h') rfl (Nat.le_trans z_s0 (by decide)) dX2_lengthenGap_29 ⟨(Nat.le_of_ble_eq_true rfl), (Nat.le_of_ble_eq_true rfl)⟩ rfl (fun u2 hw => ?_)
    obtain ⟨hw, hm2⟩ := hw
    have hkh0 := hm2.k hkh0
    have hka1 := hm2.k hka1
    exact mb_X2_lengthenGap_32 S hlk hr hE u2  hkh0 hw
  · have hw := hw.2 c1
    refine z_aload_n (x := some h0) S 0 dX2_lengthenGap_8 rfl rfl ?_
    refine zb_g_X2_35 (x := z_gR 12 h0 u) S hE hkh0 rfl dX2_lengthenGap_9 ?_
    obtain ⟨a3, ea3, hka3, hw⟩ := hw
    have hka3 : z_kd a3 u = 6 ∧ 6 ≠ 0 := ⟨hka3, by decide⟩
    refine z_st (st' := [va_rf (some a3)]) (congrArg (fun r : Option Nat => ([va_rf r] : List Value)) ea3) ?_
    refine z_callVv (As := []) (st := []) S (z_ECok D cy A t0 mi) hE (me_X4_dropLastEntry l D cy A t0 mi _ u a3 hka3 hw) gV_X2_51 hdV_X4_dropLastEntry ⟨Nat.le_of_ble_eq_true rfl, Nat.le_of_ble_eq_true rfl⟩ rfl rfl (z_recvC (u := u) hE hka3 (by decide) rfl) (fun _ h => h.re) (fun _ _ _ h h' => h.ba h') rfl (Nat.le_trans z_s0 (by decide)) dX2_lengthenGap_12 ⟨(Nat.le_of_ble_eq_true rfl), (Nat.le_of_ble_eq_true rfl)⟩ rfl (fun u4 hw => ?_)
    obtain ⟨hw, hm4⟩ := hw
    have hkh0 := hm4.k hkh0
    have hka3 := hm4.k hka3
    refine z_aload_n (x := some h0) S 0 dX2_lengthenGap_15 rfl rfl ?_
    refine zb_g_X2_35 (x := z_gR 12 h0 u4) S hE hkh0 rfl dX2_lengthenGap_16 ?_
    obtain ⟨a5, ea5, hka5, hw⟩ := hw
    have hka5 : z_kd a5 u4 = 6 ∧ 6 ≠ 0 := ⟨hka5, by decide⟩
    refine z_st (st' := [va_rf (some a5)]) (congrArg (fun r : Option Nat => ([va_rf r] : List Value)) ea5) ?_
    refine z_callVv (As := []) (st := []) S (z_ECok D cy A t0 mi) hE (me_X4_makeLastEntryGap l D cy A t0 mi _ u4 a5 hka5 hw) gV_X2_54 hdV_X4_makeLastEntryGap ⟨Nat.le_of_ble_eq_true rfl, Nat.le_of_ble_eq_true rfl⟩ rfl rfl (z_recvC (u := u4) hE hka5 (by decide) rfl) (fun _ h => h.re) (fun _ _ _ h h' => h.ba h') rfl (Nat.le_trans z_s0 (by decide)) dX2_lengthenGap_19 ⟨(Nat.le_of_ble_eq_true rfl), (Nat.le_of_ble_eq_true rfl)⟩ rfl (fun u6 hw => ?_)
    obtain ⟨hw, hm6⟩ := hw
    have hkh0 := hm6.k hkh0
    have hka3 := hm6.k hka3
    have hka5 := hm6.k hka5
    refine z_goto S 32 dX2_lengthenGap_22 (by decide) ?_
    exact mb_X2_lengthenGap_32 S hlk hr hE u6  hkh0 hw
theorem me_X2_lengthenGap (l : Launch) (D : va_G) (cy : Nat → ClassId) (A : Nat → Prop) (t0 mi : Nat) (post : z_St → Prop) (u : z_St) (h0 : Nat) (hkh0 : z_kd h0 u = 4 ∧ 4 ≠ 0) (hw : w_X2_lengthenGap post t0 mi h0 u ) : z_Mv l yX2_lengthenGap (Cond.code yX2_lengthenGap cX2_lengthenGap 1 none :: z_T) rm_X2_lengthenGap [va_rf (some h0)] (z_EC D cy A t0 mi) (z_hC D cy A t0 u) u (fun u' => post u' ∧ z_mono u u') 0 0 A :=
  z_met (by decide) (Nat.le_of_ble_eq_true rfl) (fun p e s m args below meth c S hlk hr hnm hE => mb_X2_lengthenGap S hlk hr hE u  hkh0 hw)
abbrev rm_X4_isBlank : Room := { frames := 0, cells := 0, slots := 0, locals := 0 }
def w_X4_isBlank (post : Int32 → z_St → Prop) (t0 mi h0 : Nat) (u : z_St)  : Prop := ((¬ z_gR 21 h0 u = none → (post 0 u)) ∧ (z_gR 21 h0 u = none → (post 1 u)))
set_option maxRecDepth 20000 in
theorem mb_X4_isBlank {p : Program} {l : Launch} {e : Env} {s : State} {m : MethodId} {args : Array Value} {below : List Frame} {meth : Method} {c : Code} {D : va_G} {cy : Nat → ClassId} {A : Nat → Prop} {t0 mi : Nat} {u0 : z_St} {h0 : Nat} (S : CallFix p m c cX4_isBlank 1 s args z_T RX4) (hlk : meth.locks = false) (hr : meth.sig.returnType = (some .boolean)) (hE : z_EC D cy A t0 mi s) {post : Int32 → z_St → Prop}  (u : z_St)  (hkh0 : z_kd h0 u = 6 ∧ 6 ≠ 0) (hw : w_X4_isBlank post t0 mi h0 u ) : z_V A (z_hC D cy A t0 u0) p l e rm_X4_isBlank s m args below meth c 1 (MQ below (va_Qi (fun r (u' : z_St) => post r u' ∧ z_mono u0 u') (fun (u' : z_St) t => z_hC D cy A t0 u0 u' t.heap) A) args s 0 0 A) 0 0 u 0 [(0, va_rf (some h0))] [] := by
  refine z_aload_n (x := some h0) S 0 dX4_isBlank_0 rfl rfl ?_
  refine zb_g_X4_9 (x := z_gR 21 h0 u) S hE hkh0 rfl dX4_isBlank_1 ?_
  refine z_ifnonnull (r := z_gR 21 h0 u) S 11 dX4_isBlank_4 (by decide) (fun c1 => ?_) (fun c1 => ?_)
  · have hw := hw.1 c1
    refine z_iconst (v := 0) S dX4_isBlank_11 (by decide) ?_
    exact z_czret S hr hlk dX4_isBlank_12 (Nat.le_of_ble_eq_true rfl) (Nat.le_of_ble_eq_true rfl) rfl hw
  · have hw := hw.2 c1
    refine z_iconst (v := 1) S dX4_isBlank_7 (by decide) ?_
    refine z_goto S 12 dX4_isBlank_8 (by decide) ?_
    exact z_czret S hr hlk dX4_isBlank_12 (Nat.le_of_ble_eq_true rfl) (Nat.le_of_ble_eq_true rfl) rfl hw
theorem me_X4_isBlank (l : Launch) (D : va_G) (cy : Nat → ClassId) (A : Nat → Prop) (t0 mi : Nat) (post : Int32 → z_St → Prop) (u : z_St) (h0 : Nat) (hkh0 : z_kd h0 u = 6 ∧ 6 ≠ 0) (hw : w_X4_isBlank post t0 mi h0 u ) : z_Mi l yX4_isBlank (Cond.code yX4_isBlank cX4_isBlank 1 (some .boolean) :: z_T) rm_X4_isBlank [va_rf (some h0)] (z_EC D cy A t0 mi) (z_hC D cy A t0 u) u (fun r u' => post r u' ∧ z_mono u u') 0 0 A :=
  z_met (by decide) (Nat.le_of_ble_eq_true rfl) (fun p e s m args below meth c S hlk hr hnm hE => mb_X4_isBlank S hlk hr hE u  hkh0 hw)
abbrev rm_X5_greatestUsed : Room := { frames := 0, cells := 0, slots := 0, locals := 0 }
def w_X5_greatestUsed_3 (post : Int32 → z_St → Prop) (t0 mi h0 : Nat) : Nat → z_St → Int32 → Prop
  | 0 => fun _ _ => False
  | n + 1 => fun u x1 => ((x1 < 0 → (post (-1) u)) ∧ (¬ x1 < 0 → (∃ a1 : Nat, z_gR 26 h0 u = some a1 ∧ z_kd a1 u = 11 ∧ (vp_in x1 (z_ln a1 u) ∧ (∃ a2 : Nat, z_aR a1 x1.toNatClampNeg u = some a2 ∧ z_kd a2 u = 2 ∧ (((z_gI 2 a2 u) ≤ 0 → (w_X5_greatestUsed_3 post t0 mi h0 n u (x1 + (-1)))) ∧ (¬ (z_gI 2 a2 u) ≤ 0 → (post x1 u))))))))
def w_X5_greatestUsed (post : Int32 → z_St → Prop) (t0 mi h0 : Nat) (u : z_St)  : Prop := (∃ n0 : Nat, w_X5_greatestUsed_3 post t0 mi h0 n0 u 39)
set_option maxRecDepth 20000 in
theorem mb_X5_greatestUsed_3 {p : Program} {l : Launch} {e : Env} {s : State} {m : MethodId} {args : Array Value} {below : List Frame} {meth : Method} {c : Code} {D : va_G} {cy : Nat → ClassId} {A : Nat → Prop} {t0 mi : Nat} {u0 : z_St} {h0 : Nat} (S : CallFix p m c cX5_greatestUsed 2 s args z_T RX5) (hlk : meth.locks = false) (hr : meth.sig.returnType = (some .int)) (hE : z_EC D cy A t0 mi s) {post : Int32 → z_St → Prop}  : ∀ (n : Nat) (u : z_St) (x1 : Int32) (hkh0 : z_kd h0 u = 7 ∧ 7 ≠ 0), w_X5_greatestUsed_3 post t0 mi h0 n u x1 → z_V A (z_hC D cy A t0 u0) p l e rm_X5_greatestUsed s m args below meth c 2 (MQ below (va_Qi (fun r (u' : z_St) => post r u' ∧ z_mono u0 u') (fun (u' : z_St) t => z_hC D cy A t0 u0 u' t.heap) A) args s 0 0 A) 0 0 u 3 [(0, va_rf (some h0)), (1, .int x1)] [] := by
  intro n
  induction n with
  | zero => intro u x1 hkh0 hw; exact hw.elim
  | succ n ih =>
    intro u x1 hkh0 hw
    refine z_iload_n S 1 dX5_greatestUsed_3 rfl rfl ?_
    refine z_if_lt S 27 dX5_greatestUsed_4 (by decide) (fun c1 => ?_) (fun c1 => ?_)
    · have hw := hw.1 c1
      refine z_iconst (v := (-1)) S dX5_greatestUsed_27 (by decide) ?_
      exact z_ciret S hr hlk dX5_greatestUsed_28 (Nat.le_of_ble_eq_true rfl) (Nat.le_of_ble_eq_true rfl) hw
    · have hw := hw.2 c1
      refine z_aload_n (x := some h0) S 0 dX5_greatestUsed_7 rfl rfl ?_
      refine zb_g_X5_11 (x := z_gR 26 h0 u) S hE hkh0 rfl dX5_greatestUsed_8 ?_
      refine z_iload_n S 1 dX5_greatestUsed_11 rfl rfl ?_
      obtain ⟨a1, ea1, hka1, hw⟩ := hw
      have hka1 : z_kd a1 u = 11 ∧ 11 ≠ 0 := ⟨hka1, by decide⟩
      obtain ⟨hi2, hw⟩ := hw
      refine z_st (st' := [.int x1, va_rf (some a1)]) (congrArg (fun r : Option Nat => ([.int x1, va_rf r] : List Value)) ea1) ?_
      refine z_caald (κ := 11) S hE hka1 (by decide) rfl hi2 dX5_greatestUsed_12 ?_
      obtain ⟨a2, ea2, hka2, hw⟩ := hw
      have hka2 : z_kd a2 u = 2 ∧ 2 ≠ 0 := ⟨hka2, by decide⟩
      refine z_st (st' := [va_rf (some a2)]) (congrArg (fun r : Option Nat => ([va_rf r] : List Value)) ea2) ?_
      refine zb_g_X5_18 (x := z_gI 2 a2 u) S hE hka2 rfl dX5_greatestUsed_13 ?_
      refine z_if_le S 21 dX5_greatestUsed_16 (by decide) (fun c3 => ?_) (fun c3 => ?_)
      · have hw := hw.1 c3
        refine z_iinc (v := x1 + (-1)) (pl := 1) S [(1, .int (x1 + (-1))), (0, va_rf (some h0))] dX5_greatestUsed_21 rfl rfl (by decide) rfl ?_
        refine z_lv (lv' := [(0, va_rf (some h0)), (1, .int (x1 + (-1)))]) [1, 0] rfl ?_
        refine z_goto S 3 dX5_greatestUsed_24 (by decide) ?_
        exact ih u (x1 + (-1)) hkh0 hw
      · have hw := hw.2 c3
        refine z_iload_n S 1 dX5_greatestUsed_19 rfl rfl ?_
        exact z_ciret S hr hlk dX5_greatestUsed_20 (Nat.le_of_ble_eq_true rfl) (Nat.le_of_ble_eq_true rfl) hw
set_option maxRecDepth 20000 in
theorem mb_X5_greatestUsed {p : Program} {l : Launch} {e : Env} {s : State} {m : MethodId} {args : Array Value} {below : List Frame} {meth : Method} {c : Code} {D : va_G} {cy : Nat → ClassId} {A : Nat → Prop} {t0 mi : Nat} {u0 : z_St} {h0 : Nat} (S : CallFix p m c cX5_greatestUsed 2 s args z_T RX5) (hlk : meth.locks = false) (hr : meth.sig.returnType = (some .int)) (hE : z_EC D cy A t0 mi s) {post : Int32 → z_St → Prop}  (u : z_St)  (hkh0 : z_kd h0 u = 7 ∧ 7 ≠ 0) (hw : w_X5_greatestUsed post t0 mi h0 u ) : z_V A (z_hC D cy A t0 u0) p l e rm_X5_greatestUsed s m args below meth c 2 (MQ below (va_Qi (fun r (u' : z_St) => post r u' ∧ z_mono u0 u') (fun (u' : z_St) t => z_hC D cy A t0 u0 u' t.heap) A) args s 0 0 A) 0 0 u 0 [(0, va_rf (some h0))] [] := by
  refine z_bipush (v := 39) S dX5_greatestUsed_0 (by decide) ?_
  refine z_istore_n S [(1, .int 39), (0, va_rf (some h0))] dX5_greatestUsed_2 rfl (by decide) rfl ?_
  refine z_lv (lv' := [(0, va_rf (some h0)), (1, .int 39)]) [1, 0] rfl ?_
  obtain ⟨n0, hw⟩ := hw
  exact mb_X5_greatestUsed_3 S hlk hr hE n0 u 39 hkh0 hw
theorem me_X5_greatestUsed (l : Launch) (D : va_G) (cy : Nat → ClassId) (A : Nat → Prop) (t0 mi : Nat) (post : Int32 → z_St → Prop) (u : z_St) (h0 : Nat) (hkh0 : z_kd h0 u = 7 ∧ 7 ≠ 0) (hw : w_X5_greatestUsed post t0 mi h0 u ) : z_Mi l yX5_greatestUsed (Cond.code yX5_greatestUsed cX5_greatestUsed 2 (some .int) :: z_T) rm_X5_greatestUsed [va_rf (some h0)] (z_EC D cy A t0 mi) (z_hC D cy A t0 u) u (fun r u' => post r u' ∧ z_mono u u') 0 0 A :=
  z_met (by decide) (Nat.le_of_ble_eq_true rfl) (fun p e s m args below meth c S hlk hr hnm hE => mb_X5_greatestUsed S hlk hr hE u  hkh0 hw)
abbrev rm_X5_moveGreatest : Room := { frames := 1, cells := 0, slots := 0, locals := 21 }
def w_X5_moveGreatest (post : Int32 → z_St → Prop) (t0 mi h0 : Nat) (u : z_St)  : Prop := (w_X5_greatestUsed (fun r1 u1 => (w_X5_leastFree (fun r2 u2 => ((r2 = (-1) → (post 0 u2)) ∧ (¬ r2 = (-1) → ((r2 ≤ r1 → (∃ a3 : Nat, z_gR 26 h0 u2 = some a3 ∧ z_kd a3 u2 = 11 ∧ (vp_in r1 (z_ln a3 u2) ∧ (vp_in r2 (z_ln a3 u2) ∧ (∃ a4 : Nat, z_aR a3 r2.toNatClampNeg u2 = some a4 ∧ z_kd a4 u2 = 2 ∧ (vp_in r1 (z_ln a3 u2) ∧ (∃ a5 : Nat, z_aR a3 r1.toNatClampNeg u2 = some a5 ∧ z_kd a5 (z_sR a3 r1.toNatClampNeg (some a4) u2) = 2 ∧ (vp_in r2 (z_ln a3 u2) ∧ (post 1 (z_sR a3 r2.toNatClampNeg (some a5) (z_sR a3 r1.toNatClampNeg (some a4) u2))))))))))) ∧ (¬ r2 ≤ r1 → (post 0 u2)))))) t0 mi h0 u1 )) t0 mi h0 u )
set_option maxRecDepth 20000 in
theorem mb_X5_moveGreatest {p : Program} {l : Launch} {e : Env} {s : State} {m : MethodId} {args : Array Value} {below : List Frame} {meth : Method} {c : Code} {D : va_G} {cy : Nat → ClassId} {A : Nat → Prop} {t0 mi : Nat} {u0 : z_St} {h0 : Nat} (S : CallFix p m c cX5_moveGreatest 4 s args z_T RX5) (hlk : meth.locks = false) (hr : meth.sig.returnType = (some .boolean)) (hE : z_EC D cy A t0 mi s) {post : Int32 → z_St → Prop}  (u : z_St)  (hkh0 : z_kd h0 u = 7 ∧ 7 ≠ 0) (hw : w_X5_moveGreatest post t0 mi h0 u ) : z_V A (z_hC D cy A t0 u0) p l e rm_X5_moveGreatest s m args below meth c 4 (MQ below (va_Qi (fun r (u' : z_St) => post r u' ∧ z_mono u0 u') (fun (u' : z_St) t => z_hC D cy A t0 u0 u' t.heap) A) args s 0 0 A) 0 0 u 0 [(0, va_rf (some h0))] [] := by
  refine z_aload_n (x := some h0) S 0 dX5_moveGreatest_0 rfl rfl ?_
  refine z_callVi (As := []) (st := []) S (z_ECok D cy A t0 mi) hE (me_X5_greatestUsed l D cy A t0 mi _ u h0 hkh0 hw) gV_X5_22 hdV_X5_greatestUsed ⟨Nat.le_of_ble_eq_true rfl, Nat.le_of_ble_eq_true rfl⟩ rfl rfl (z_recvC (u := u) hE hkh0 (by decide) rfl) (fun _ h => h.re) (fun _ _ _ h h' => h.ba h') rfl (Nat.le_trans z_s0 (by decide)) dX5_moveGreatest_1 ⟨(Nat.le_of_ble_eq_true rfl), (Nat.le_of_ble_eq_true rfl)⟩ rfl (fun r1 u1 hw => ?_)
  obtain ⟨hw, hm1⟩ := hw
  have hkh0 := hm1.k hkh0
  refine z_istore_n S [(1, .int r1), (0, va_rf (some h0))] dX5_moveGreatest_4 rfl (by decide) rfl ?_
  refine z_lv (lv' := [(0, va_rf (some h0)), (1, .int r1)]) [1, 0] rfl ?_
  refine z_aload_n (x := some h0) S 0 dX5_moveGreatest_5 rfl rfl ?_
  refine z_callVi (As := []) (st := []) S (z_ECok D cy A t0 mi) hE (me_X5_leastFree l D cy A t0 mi _ u1 h0 hkh0 hw) gV_X5_26 hdV_X5_leastFree ⟨Nat.le_of_ble_eq_true rfl, Nat.le_of_ble_eq_true rfl⟩ rfl rfl (z_recvC (u := u1) hE hkh0 (by decide) rfl) (fun _ h => h.re) (fun _ _ _ h h' => h.ba h') rfl (Nat.le_trans z_s0 (by decide)) dX5_moveGreatest_6 ⟨(Nat.le_of_ble_eq_true rfl), (Nat.le_of_ble_eq_true rfl)⟩ rfl (fun r2 u2 hw => ?_)
  obtain ⟨hw, hm2⟩ := hw
  have hkh0 := hm2.k hkh0
  refine z_istore_n S [(2, .int r2), (0, va_rf (some h0)), (1, .int r1)] dX5_moveGreatest_9 rfl (by decide) rfl ?_
  refine z_lv (lv' := [(0, va_rf (some h0)), (1, .int r1), (2, .int r2)]) [1, 2, 0] rfl ?_
  refine z_iload_n S 2 dX5_moveGreatest_10 rfl rfl ?_
  refine z_iconst (v := (-1)) S dX5_moveGreatest_11 (by decide) ?_
  refine z_icmp_eq S 20 dX5_moveGreatest_12 (by decide) (fun c1 => ?_) (fun c1 => ?_)
  · have hw := hw.1 c1
    refine z_iconst (v := 0) S dX5_moveGreatest_20 (by decide) ?_
    exact z_czret S hr hlk dX5_moveGreatest_21 (Nat.le_of_ble_eq_true rfl) (Nat.le_of_ble_eq_true rfl) rfl hw
  · have hw := hw.2 c1
    refine z_iload_n S 2 dX5_moveGreatest_15 rfl rfl ?_
    refine z_iload_n S 1 dX5_moveGreatest_16 rfl rfl ?_
    refine z_icmp_le S 22 dX5_moveGreatest_17 (by decide) (fun c2 => ?_) (fun c2 => ?_)
    · have hw := hw.1 c2
      refine z_aload_n (x := some h0) S 0 dX5_moveGreatest_22 rfl rfl ?_
      refine zb_g_X5_11 (x := z_gR 26 h0 u2) S hE hkh0 rfl dX5_moveGreatest_23 ?_
      refine z_iload_n S 1 dX5_moveGreatest_26 rfl rfl ?_
      obtain ⟨a3, ea3, hka3, hw⟩ := hw
      have hka3 : z_kd a3 u2 = 11 ∧ 11 ≠ 0 := ⟨hka3, by decide⟩
      obtain ⟨hi3, hw⟩ := hw
      refine z_st (st' := [.int r1, va_rf (some a3)]) (congrArg (fun r : Option Nat => ([.int r1, va_rf r] : List Value)) ea3) ?_
      refine z_caald (κ := 11) S hE hka3 (by decide) rfl hi3 dX5_moveGreatest_27 ?_
      refine z_astore_n (x := z_aR a3 r1.toNatClampNeg u2) S [(3, va_rf (z_aR a3 r1.toNatClampNeg u2)), (0, va_rf (some h0)), (1, .int r1), (2, .int r2)] dX5_moveGreatest_28 rfl (by decide) rfl ?_
      refine z_lv (lv' := [(0, va_rf (some h0)), (1, .int r1), (2, .int r2), (3, va_rf (z_aR a3 r1.toNatClampNeg u2))]) [1, 2, 3, 0] rfl ?_
      refine z_aload_n (x := some h0) S 0 dX5_moveGreatest_29 rfl rfl ?_
      refine zb_g_X5_11 (x := z_gR 26 h0 u2) S hE hkh0 rfl dX5_moveGreatest_30 ?_
      refine z_iload_n S 1 dX5_moveGreatest_33 rfl rfl ?_
      refine z_aload_n (x := some h0) S 0 dX5_moveGreatest_34 rfl rfl ?_
      refine zb_g_X5_11 (x := z_gR 26 h0 u2) S hE hkh0 rfl dX5_moveGreatest_35 ?_
      refine z_iload_n S 2 dX5_moveGreatest_38 rfl rfl ?_
      obtain ⟨hi4, hw⟩ := hw
      refine z_st (st' := [.int r2, va_rf (some a3), .int r1, va_rf (z_gR 26 h0 u2)]) (congrArg (fun r : Option Nat => ([.int r2, va_rf r, .int r1, va_rf (z_gR 26 h0 u2)] : List Value)) ea3) ?_
      refine z_caald (κ := 11) S hE hka3 (by decide) rfl hi4 dX5_moveGreatest_39 ?_
      obtain ⟨a4, ea4, hka4, hw⟩ := hw
      have hka4 : z_kd a4 u2 = 2 ∧ 2 ≠ 0 := ⟨hka4, by decide⟩
      obtain ⟨hi5, hw⟩ := hw
      refine z_st (st' := [va_rf (some a4), .int r1, va_rf (z_gR 26 h0 u2)]) (congrArg (fun r : Option Nat => ([va_rf r, .int r1, va_rf (z_gR 26 h0 u2)] : List Value)) ea4) ?_
      refine z_st (st' := [va_rf (some a4), .int r1, va_rf (some a3)]) (congrArg (fun r : Option Nat => ([va_rf (some a4), .int r1, va_rf r] : List Value)) ea3) ?_
      refine z_caast (κ := 11) (κv := 2) (v := a4) S hE hka3 (by decide) rfl hka4 (by decide) rfl (fun comp c0 g1 g2 => (vb_asgS comp c0 g1 g2.1)) hi5 dX5_moveGreatest_40 ?_
      refine z_aload_n (x := some h0) S 0 dX5_moveGreatest_41 rfl rfl ?_
      refine zb_g_X5_11 (x := z_gR 26 h0 u2) S hE hkh0 rfl dX5_moveGreatest_42 ?_
      refine z_iload_n S 2 dX5_moveGreatest_45 rfl rfl ?_
      refine z_aload_n (x := z_aR a3 r1.toNatClampNeg u2) S 3 dX5_moveGreatest_46 rfl rfl ?_
      obtain ⟨a5, ea5, hka5, hw⟩ := hw
      have hka5 : z_kd a5 (z_sR a3 r1.toNatClampNeg (some a4) u2) = 2 ∧ 2 ≠ 0 := ⟨hka5, by decide⟩
      obtain ⟨hi6, hw⟩ := hw
      refine z_st (st' := [va_rf (some a5), .int r2, va_rf (z_gR 26 h0 u2)]) (congrArg (fun r : Option Nat => ([va_rf r, .int r2, va_rf (z_gR 26 h0 u2)] : List Value)) ea5) ?_
      refine z_st (st' := [va_rf (some a5), .int r2, va_rf (some a3)]) (congrArg (fun r : Option Nat => ([va_rf (some a5), .int r2, va_rf r] : List Value)) ea3) ?_
      refine z_caast (κ := 11) (κv := 2) (v := a5) S hE hka3 (by decide) rfl hka5 (by decide) rfl (fun comp c0 g1 g2 => (vb_asgS comp c0 g1 g2.1)) hi6 dX5_moveGreatest_47 ?_
      refine z_iconst (v := 1) S dX5_moveGreatest_48 (by decide) ?_
      exact z_czret S hr hlk dX5_moveGreatest_49 (Nat.le_of_ble_eq_true rfl) (Nat.le_of_ble_eq_true rfl) rfl hw
    · have hw := hw.2 c2
      refine z_iconst (v := 0) S dX5_moveGreatest_20 (by decide) ?_
      exact z_czret S hr hlk dX5_moveGreatest_21 (Nat.le_of_ble_eq_true rfl) (Nat.le_of_ble_eq_true rfl) rfl hw
theorem me_X5_moveGreatest (l : Launch) (D : va_G) (cy : Nat → ClassId) (A : Nat → Prop) (t0 mi : Nat) (post : Int32 → z_St → Prop) (u : z_St) (h0 : Nat) (hkh0 : z_kd h0 u = 7 ∧ 7 ≠ 0) (hw : w_X5_moveGreatest post t0 mi h0 u ) : z_Mi l yX5_moveGreatest (Cond.code yX5_moveGreatest cX5_moveGreatest 4 (some .boolean) :: z_T) rm_X5_moveGreatest [va_rf (some h0)] (z_EC D cy A t0 mi) (z_hC D cy A t0 u) u (fun r u' => post r u' ∧ z_mono u u') 0 0 A :=
  z_met (by decide) (Nat.le_of_ble_eq_true rfl) (fun p e s m args below meth c S hlk hr hnm hE => mb_X5_moveGreatest S hlk hr hE u  hkh0 hw)
abbrev rm_X2_addToFrame : Room := { frames := 0, cells := 0, slots := 0, locals := 0 }
def w_X2_addToFrame (post : z_St → Prop) (t0 mi h0 : Nat) (u : z_St) (x1 : Int32) : Prop := ((8 ≤ (z_gI 7 h0 u) → (post u)) ∧ (¬ 8 ≤ (z_gI 7 h0 u) → (∃ a1 : Nat, z_gR 6 h0 u = some a1 ∧ z_kd a1 u = 10 ∧ (vp_in (z_gI 7 h0 u) (z_ln a1 u) ∧ (post (z_pI 7 h0 ((z_gI 7 h0 u) + 1) (z_sI a1 (z_gI 7 h0 u).toNatClampNeg x1 u)))))))
set_option maxRecDepth 20000 in
theorem mb_X2_addToFrame {p : Program} {l : Launch} {e : Env} {s : State} {m : MethodId} {args : Array Value} {below : List Frame} {meth : Method} {c : Code} {D : va_G} {cy : Nat → ClassId} {A : Nat → Prop} {t0 mi : Nat} {u0 : z_St} {h0 : Nat} (S : CallFix p m c cX2_addToFrame 2 s args z_T RX2) (hlk : meth.locks = false) (hr : meth.sig.returnType = none) (hE : z_EC D cy A t0 mi s) {post : z_St → Prop}  (u : z_St) (x1 : Int32) (hkh0 : z_kd h0 u = 4 ∧ 4 ≠ 0) (hw : w_X2_addToFrame post t0 mi h0 u x1) : z_V A (z_hC D cy A t0 u0) p l e rm_X2_addToFrame s m args below meth c 2 (MQ below (va_Qv (fun (u' : z_St) => post u' ∧ z_mono u0 u') (fun (u' : z_St) t => z_hC D cy A t0 u0 u' t.heap) A) args s 0 0 A) 0 0 u 0 [(0, va_rf (some h0)), (1, .int x1)] [] := by
  refine z_aload_n (x := some h0) S 0 dX2_addToFrame_0 rfl rfl ?_
  refine zb_g_X2_15 (x := z_gI 7 h0 u) S hE hkh0 rfl dX2_addToFrame_1 ?_
  refine z_bipush (v := 8) S dX2_addToFrame_4 (by decide) ?_
  refine z_icmp_ge S 29 dX2_addToFrame_6 (by decide) (fun c1 => ?_) (fun c1 => ?_)
  · have hw := hw.1 c1
    exact z_cvret S hr hlk dX2_addToFrame_29 (Nat.le_of_ble_eq_true rfl) (Nat.le_of_ble_eq_true rfl) hw
  · have hw := hw.2 c1
    refine z_aload_n (x := some h0) S 0 dX2_addToFrame_9 rfl rfl ?_
    refine zb_g_X2_9 (x := z_gR 6 h0 u) S hE hkh0 rfl dX2_addToFrame_10 ?_
    refine z_aload_n (x := some h0) S 0 dX2_addToFrame_13 rfl rfl ?_
    refine zb_g_X2_15 (x := z_gI 7 h0 u) S hE hkh0 rfl dX2_addToFrame_14 ?_
    refine z_iload_n S 1 dX2_addToFrame_17 rfl rfl ?_
    obtain ⟨a1, ea1, hka1, hw⟩ := hw
    have hka1 : z_kd a1 u = 10 ∧ 10 ≠ 0 := ⟨hka1, by decide⟩
    obtain ⟨hi2, hw⟩ := hw
    refine z_st (st' := [.int x1, .int (z_gI 7 h0 u), va_rf (some a1)]) (congrArg (fun r : Option Nat => ([.int x1, .int (z_gI 7 h0 u), va_rf r] : List Value)) ea1) ?_
    refine z_cast S hE hka1 hi2 dX2_addToFrame_18 ?_
    refine z_aload_n (x := some h0) S 0 dX2_addToFrame_19 rfl rfl ?_
    refine z_dup S dX2_addToFrame_20 (z_rfc (some h0)) ?_
    refine zb_g_X2_15 (x := z_gI 7 h0 u) S hE hkh0 rfl dX2_addToFrame_21 ?_
    refine z_iconst (v := 1) S dX2_addToFrame_24 (by decide) ?_
    refine z_iadd S dX2_addToFrame_25 ?_
    refine zb_p_X2_15 S hE hkh0 dX2_addToFrame_26 ?_
    exact z_cvret S hr hlk dX2_addToFrame_29 (Nat.le_of_ble_eq_true rfl) (Nat.le_of_ble_eq_true rfl) hw
theorem me_X2_addToFrame (l : Launch) (D : va_G) (cy : Nat → ClassId) (A : Nat → Prop) (t0 mi : Nat) (post : z_St → Prop) (u : z_St) (h0 : Nat) (x1 : Int32) (hkh0 : z_kd h0 u = 4 ∧ 4 ≠ 0) (hw : w_X2_addToFrame post t0 mi h0 u x1) : z_Mv l yX2_addToFrame (Cond.code yX2_addToFrame cX2_addToFrame 2 none :: z_T) rm_X2_addToFrame [va_rf (some h0), .int x1] (z_EC D cy A t0 mi) (z_hC D cy A t0 u) u (fun u' => post u' ∧ z_mono u u') 0 0 A :=
  z_met (by decide) (Nat.le_of_ble_eq_true rfl) (fun p e s m args below meth c S hlk hr hnm hE => mb_X2_addToFrame S hlk hr hE u x1 hkh0 hw)
abbrev rm_X5_countFree : Room := { frames := 0, cells := 0, slots := 0, locals := 0 }
def w_X5_countFree_4 (post : Int32 → z_St → Prop) (t0 mi h0 : Nat) : Nat → z_St → Int32 → Int32 → Prop
  | 0 => fun _ _ _ => False
  | n + 1 => fun u x1 x2 => ((40 ≤ x2 → (post x1 u)) ∧ (¬ 40 ≤ x2 → (∃ a1 : Nat, z_gR 26 h0 u = some a1 ∧ z_kd a1 u = 11 ∧ (vp_in x2 (z_ln a1 u) ∧ (∃ a2 : Nat, z_aR a1 x2.toNatClampNeg u = some a2 ∧ z_kd a2 u = 2 ∧ (∀ y3 : Int32, y3 = (if (z_gI 2 a2 u) = 0 then x1 + 1 else x1) → (w_X5_countFree_4 post t0 mi h0 n u y3 (x2 + 1))))))))
def w_X5_countFree (post : Int32 → z_St → Prop) (t0 mi h0 : Nat) (u : z_St)  : Prop := (∃ n0 : Nat, w_X5_countFree_4 post t0 mi h0 n0 u 0 0)
set_option maxRecDepth 20000 in
theorem mb_X5_countFree_4 {p : Program} {l : Launch} {e : Env} {s : State} {m : MethodId} {args : Array Value} {below : List Frame} {meth : Method} {c : Code} {D : va_G} {cy : Nat → ClassId} {A : Nat → Prop} {t0 mi : Nat} {u0 : z_St} {h0 : Nat} (S : CallFix p m c cX5_countFree 3 s args z_T RX5) (hlk : meth.locks = false) (hr : meth.sig.returnType = (some .int)) (hE : z_EC D cy A t0 mi s) {post : Int32 → z_St → Prop}  : ∀ (n : Nat) (u : z_St) (x1 : Int32) (x2 : Int32) (hkh0 : z_kd h0 u = 7 ∧ 7 ≠ 0), w_X5_countFree_4 post t0 mi h0 n u x1 x2 → z_V A (z_hC D cy A t0 u0) p l e rm_X5_countFree s m args below meth c 3 (MQ below (va_Qi (fun r (u' : z_St) => post r u' ∧ z_mono u0 u') (fun (u' : z_St) t => z_hC D cy A t0 u0 u' t.heap) A) args s 0 0 A) 0 0 u 4 [(0, va_rf (some h0)), (1, .int x1), (2, .int x2)] [] := by
  intro n
  induction n with
  | zero => intro u x1 x2 hkh0 hw; exact hw.elim
  | succ n ih =>
    intro u x1 x2 hkh0 hw
    refine z_iload_n S 2 dX5_countFree_4 rfl rfl ?_
    refine z_bipush (v := 40) S dX5_countFree_5 (by decide) ?_
    refine z_icmp_ge S 31 dX5_countFree_7 (by decide) (fun c1 => ?_) (fun c1 => ?_)
    · have hw := hw.1 c1
      refine z_iload_n S 1 dX5_countFree_31 rfl rfl ?_
      exact z_ciret S hr hlk dX5_countFree_32 (Nat.le_of_ble_eq_true rfl) (Nat.le_of_ble_eq_true rfl) hw
    · have hw := hw.2 c1
      refine z_aload_n (x := some h0) S 0 dX5_countFree_10 rfl rfl ?_
      refine zb_g_X5_11 (x := z_gR 26 h0 u) S hE hkh0 rfl dX5_countFree_11 ?_
      refine z_iload_n S 2 dX5_countFree_14 rfl rfl ?_
      obtain ⟨a1, ea1, hka1, hw⟩ := hw
      have hka1 : z_kd a1 u = 11 ∧ 11 ≠ 0 := ⟨hka1, by decide⟩
      obtain ⟨hi2, hw⟩ := hw
      refine z_st (st' := [.int x2, va_rf (some a1)]) (congrArg (fun r : Option Nat => ([.int x2, va_rf r] : List Value)) ea1) ?_
      refine z_caald (κ := 11) S hE hka1 (by decide) rfl hi2 dX5_countFree_15 ?_
      obtain ⟨a2, ea2, hka2, hw⟩ := hw
      have hka2 : z_kd a2 u = 2 ∧ 2 ≠ 0 := ⟨hka2, by decide⟩
      refine z_st (st' := [va_rf (some a2)]) (congrArg (fun r : Option Nat => ([va_rf r] : List Value)) ea2) ?_
      refine zb_g_X5_18 (x := z_gI 2 a2 u) S hE hka2 rfl dX5_countFree_16 ?_
      suffices hJ : ∀ y3 : Int32, y3 = (if (z_gI 2 a2 u) = 0 then x1 + 1 else x1) → z_V A (z_hC D cy A t0 u0) p l e rm_X5_countFree s m args below meth c 3 (MQ below (va_Qi (fun r (u' : z_St) => post r u' ∧ z_mono u0 u') (fun (u' : z_St) t => z_hC D cy A t0 u0 u' t.heap) A) args s 0 0 A) 0 0 u 25 [(0, va_rf (some h0)), (1, .int y3), (2, .int x2)] [] from by
        refine z_if_ne S 25 dX5_countFree_19 (by decide) (fun c4 => ?_) (fun c4 => ?_)
        · exact hJ _ (by rw [if_neg c4])
        · refine z_iinc (v := x1 + 1) (pl := 1) S [(1, .int (x1 + 1)), (0, va_rf (some h0)), (2, .int x2)] dX5_countFree_22 rfl rfl (by decide) rfl ?_
          refine z_lv (lv' := [(0, va_rf (some h0)), (1, .int (x1 + 1)), (2, .int x2)]) [1, 0, 2] rfl ?_
          exact hJ _ (by rw [if_pos c4])
      intro y3 ey3
      have hw := hw y3 ey3
      refine z_iinc (v := x2 + 1) (pl := 2) S [(2, .int (x2 + 1)), (0, va_rf (some h0)), (1, .int y3)] dX5_countFree_25 rfl rfl (by decide) rfl ?_
      refine z_lv (lv' := [(0, va_rf (some h0)), (1, .int y3), (2, .int (x2 + 1))]) [1, 2, 0] rfl ?_
      refine z_goto S 4 dX5_countFree_28 (by decide) ?_
      exact ih u y3 (x2 + 1) hkh0 hw
set_option maxRecDepth 20000 in
theorem mb_X5_countFree {p : Program} {l : Launch} {e : Env} {s : State} {m : MethodId} {args : Array Value} {below : List Frame} {meth : Method} {c : Code} {D : va_G} {cy : Nat → ClassId} {A : Nat → Prop} {t0 mi : Nat} {u0 : z_St} {h0 : Nat} (S : CallFix p m c cX5_countFree 3 s args z_T RX5) (hlk : meth.locks = false) (hr : meth.sig.returnType = (some .int)) (hE : z_EC D cy A t0 mi s) {post : Int32 → z_St → Prop}  (u : z_St)  (hkh0 : z_kd h0 u = 7 ∧ 7 ≠ 0) (hw : w_X5_countFree post t0 mi h0 u ) : z_V A (z_hC D cy A t0 u0) p l e rm_X5_countFree s m args below meth c 3 (MQ below (va_Qi (fun r (u' : z_St) => post r u' ∧ z_mono u0 u') (fun (u' : z_St) t => z_hC D cy A t0 u0 u' t.heap) A) args s 0 0 A) 0 0 u 0 [(0, va_rf (some h0))] [] := by
  refine z_iconst (v := 0) S dX5_countFree_0 (by decide) ?_
  refine z_istore_n S [(1, .int 0), (0, va_rf (some h0))] dX5_countFree_1 rfl (by decide) rfl ?_
  refine z_lv (lv' := [(0, va_rf (some h0)), (1, .int 0)]) [1, 0] rfl ?_
  refine z_iconst (v := 0) S dX5_countFree_2 (by decide) ?_
  refine z_istore_n S [(2, .int 0), (0, va_rf (some h0)), (1, .int 0)] dX5_countFree_3 rfl (by decide) rfl ?_
  refine z_lv (lv' := [(0, va_rf (some h0)), (1, .int 0), (2, .int 0)]) [1, 2, 0] rfl ?_
  obtain ⟨n0, hw⟩ := hw
  exact mb_X5_countFree_4 S hlk hr hE n0 u 0 0 hkh0 hw
theorem me_X5_countFree (l : Launch) (D : va_G) (cy : Nat → ClassId) (A : Nat → Prop) (t0 mi : Nat) (post : Int32 → z_St → Prop) (u : z_St) (h0 : Nat) (hkh0 : z_kd h0 u = 7 ∧ 7 ≠ 0) (hw : w_X5_countFree post t0 mi h0 u ) : z_Mi l yX5_countFree (Cond.code yX5_countFree cX5_countFree 3 (some .int) :: z_T) rm_X5_countFree [va_rf (some h0)] (z_EC D cy A t0 mi) (z_hC D cy A t0 u) u (fun r u' => post r u' ∧ z_mono u u') 0 0 A :=
  z_met (by decide) (Nat.le_of_ble_eq_true rfl) (fun p e s m args below meth c S hlk hr hnm hE => mb_X5_countFree S hlk hr hE u  hkh0 hw)
