abbrev rm_X6_release : Room := { frames := 1, cells := 0, slots := 0, locals := 23 }
def w_X6_release (post : Int32 → z_St → Prop) (t0 mi h0 : Nat) (u : z_St) (x1 : Option Nat) : Prop := ((¬ x1 = none → (∃ a1 : Nat, x1 = some a1 ∧ z_kd a1 u = 6 ∧ (((z_gI 25 a1 (z_pI 25 a1 ((z_gI 25 a1 u) - 1) u)) ≤ 0 → (w_X4_freeBlocks (fun r2 u2 => (post r2 u2)) t0 mi a1 (z_pI 34 h0 ((z_gI 34 h0 u) - 1) (z_pI 25 a1 ((z_gI 25 a1 u) - 1) u)) )) ∧ (¬ (z_gI 25 a1 (z_pI 25 a1 ((z_gI 25 a1 u) - 1) u)) ≤ 0 → (post 0 (z_pI 25 a1 ((z_gI 25 a1 u) - 1) u)))))) ∧ (x1 = none → (post 0 u)))
set_option maxRecDepth 20000 in
theorem mb_X6_release {p : Program} {l : Launch} {e : Env} {s : State} {m : MethodId} {args : Array Value} {below : List Frame} {meth : Method} {c : Code} {D : va_G} {cy : Nat → ClassId} {A : Nat → Prop} {t0 mi : Nat} {u0 : z_St} {h0 : Nat} (S : CallFix p m c cX6_release 2 s args z_T RX6) (hlk : meth.locks = false) (hr : meth.sig.returnType = (some .int)) (hE : z_EC D cy A t0 mi s) {post : Int32 → z_St → Prop}  (u : z_St) (x1 : Option Nat) (hkh0 : z_kd h0 u = 8 ∧ 8 ≠ 0) (hw : w_X6_release post t0 mi h0 u x1) : z_V A (z_hC D cy A t0 u0) p l e rm_X6_release s m args below meth c 2 (MQ below (va_Qi (fun r (u' : z_St) => post r u' ∧ z_mono u0 u') (fun (u' : z_St) t => z_hC D cy A t0 u0 u' t.heap) A) args s 0 0 A) 0 0 u 0 [(0, va_rf (some h0)), (1, va_rf x1)] [] := by
  refine z_aload_n (x := x1) S 1 dX6_release_0 rfl rfl ?_
  refine z_ifnonnull (r := x1) S 6 dX6_release_1 (by decide) (fun c1 => ?_) (fun c1 => ?_)
  · have hw := hw.1 c1
    refine z_aload_n (x := x1) S 1 dX6_release_6 rfl rfl ?_
    refine z_dup S dX6_release_7 (z_rfc x1) ?_
    obtain ⟨a1, ea1, hka1, hw⟩ := hw
    have hka1 : z_kd a1 u = 6 ∧ 6 ≠ 0 := ⟨hka1, by decide⟩
    refine z_st (st' := [va_rf (some a1), va_rf x1]) (congrArg (fun r : Option Nat => ([va_rf r, va_rf x1] : List Value)) ea1) ?_
    refine zb_g_X6_267 (x := z_gI 25 a1 u) S hE hka1 rfl dX6_release_8 ?_
    refine z_iconst (v := 1) S dX6_release_11 (by decide) ?_
    refine z_isub S dX6_release_12 ?_
    refine z_st (st' := [.int ((z_gI 25 a1 u) - 1), va_rf (some a1)]) (congrArg (fun r : Option Nat => ([.int ((z_gI 25 a1 u) - 1), va_rf r] : List Value)) ea1) ?_
    refine zb_p_X6_267 S hE hka1 dX6_release_13 ?_
    refine z_aload_n (x := x1) S 1 dX6_release_16 rfl rfl ?_
    refine z_st (st' := [va_rf (some a1)]) (congrArg (fun r : Option Nat => ([va_rf r] : List Value)) ea1) ?_
    refine zb_g_X6_267 (x := z_gI 25 a1 (z_pI 25 a1 ((z_gI 25 a1 u) - 1) u)) S hE hka1 rfl dX6_release_17 ?_
    refine z_if_le S 25 dX6_release_20 (by decide) (fun c2 => ?_) (fun c2 => ?_)
    · have hw := hw.1 c2
      refine z_aload_n (x := some h0) S 0 dX6_release_25 rfl rfl ?_
      refine z_dup S dX6_release_26 (z_rfc (some h0)) ?_
      refine zb_g_X6_46 (x := z_gI 34 h0 u) S hE hkh0 rfl dX6_release_27 ?_
      refine z_iconst (v := 1) S dX6_release_30 (by decide) ?_
      refine z_isub S dX6_release_31 ?_
      refine zb_p_X6_46 S hE hkh0 dX6_release_32 ?_
      refine z_aload_n (x := x1) S 1 dX6_release_35 rfl rfl ?_
      refine z_st (st' := [va_rf (some a1)]) (congrArg (fun r : Option Nat => ([va_rf r] : List Value)) ea1) ?_
      refine z_callVi (As := []) (st := []) S (z_ECok D cy A t0 mi) hE (me_X4_freeBlocks l D cy A t0 mi _ (z_pI 34 h0 ((z_gI 34 h0 u) - 1) (z_pI 25 a1 ((z_gI 25 a1 u) - 1) u)) a1 hka1 hw) gV_X6_270 hdV_X4_freeBlocks ⟨Nat.le_of_ble_eq_true rfl, Nat.le_of_ble_eq_true rfl⟩ rfl rfl (z_recvC (u := z_pI 34 h0 ((z_gI 34 h0 u) - 1) (z_pI 25 a1 ((z_gI 25 a1 u) - 1) u)) hE hka1 (by decide) rfl) (fun _ h => h.re) (fun _ _ _ h h' => h.ba h') rfl (Nat.le_trans z_s0 (by decide)) dX6_release_36 ⟨(Nat.le_of_ble_eq_true rfl), (Nat.le_of_ble_eq_true rfl)⟩ rfl (fun r2 u2 hw => ?_)
      obtain ⟨hw, hm2⟩ := hw
      have hkh0 := hm2.k hkh0
      have hka1 := hm2.k hka1
      exact z_ciret S hr hlk dX6_release_39 (Nat.le_of_ble_eq_true rfl) (Nat.le_of_ble_eq_true rfl) hw
    · have hw := hw.2 c2
      refine z_iconst (v := 0) S dX6_release_23 (by decide) ?_
      exact z_ciret S hr hlk dX6_release_24 (Nat.le_of_ble_eq_true rfl) (Nat.le_of_ble_eq_true rfl) hw
  · have hw := hw.2 c1
    refine z_iconst (v := 0) S dX6_release_4 (by decide) ?_
    exact z_ciret S hr hlk dX6_release_5 (Nat.le_of_ble_eq_true rfl) (Nat.le_of_ble_eq_true rfl) hw
theorem me_X6_release (l : Launch) (D : va_G) (cy : Nat → ClassId) (A : Nat → Prop) (t0 mi : Nat) (post : Int32 → z_St → Prop) (u : z_St) (h0 : Nat) (x1 : Option Nat) (hkh0 : z_kd h0 u = 8 ∧ 8 ≠ 0) (hw : w_X6_release post t0 mi h0 u x1) : z_Mi l yX6_release (Cond.code yX6_release cX6_release 2 (some .int) :: z_T) rm_X6_release [va_rf (some h0), va_rf x1] (z_EC D cy A t0 mi) (z_hC D cy A t0 u) u (fun r u' => post r u' ∧ z_mono u u') 0 0 A :=
  z_met (by decide) (by simp [lg_sl, z_rfc, z_ic]) (fun p e s m args below meth c S hlk hr hnm hE => (by simp [lv_args, z_rfc, z_ic] : lv_args 0 [va_rf (some h0), va_rf x1] = [(0, va_rf (some h0)), (1, va_rf x1)]) ▸ mb_X6_release S hlk hr hE u x1 hkh0 hw)
abbrev rm_X6_erase : Room := { frames := 7, cells := 1, slots := 6, locals := 112 }
def w_X6_erase (post : Int32 → z_St → Prop) (px : String → z_St → Prop) (t0 mi h0 : Nat) (u : z_St) (x1 : Int32) : Prop := (w_X6_placeOf (fun r1 u1 => (∃ a2 : Nat, z_gR 31 h0 u1 = some a2 ∧ z_kd a2 u1 = 1 ∧ (w_Jx4a65c_get_915e3 (fun r3 u3 => (∃ a4 : Nat, r3 = some a4 ∧ z_kd a4 u3 = 5 ∧ (∃ a5 : Nat, z_gR 31 h0 u3 = some a5 ∧ z_kd a5 u3 = 1 ∧ (w_Jx4a65c_remove_915e3 (fun r6 u6 => (w_X6_release (fun r7 u7 => (w_X6_release (fun r8 u8 => (post (r7 + r8) u8)) t0 mi h0 u7 (z_gR 19 a4 u7))) t0 mi h0 u6 (z_gR 18 a4 u6))) t0 mi a5 u3 r1)))) t0 mi a2 u1 r1))) px t0 mi h0 u x1)
set_option maxRecDepth 20000 in
theorem mb_X6_erase {p : Program} {l : Launch} {e : Env} {s : State} {m : MethodId} {args : Array Value} {below : List Frame} {meth : Method} {c : Code} {D : va_G} {cy : Nat → ClassId} {A : Nat → Prop} {t0 mi : Nat} {u0 : z_St} {h0 : Nat} (S : CallFix p m c cX6_erase 4 s args z_T RX6) (hlk : meth.locks = false) (hr : meth.sig.returnType = (some .int)) (hE : z_EC D cy A t0 mi s) (hl : l.stackTraces = false) (htb : ∀ x ∈ c.exceptionTable.toList, False) {post : Int32 → z_St → Prop} {px : String → z_St → Prop}  (u : z_St) (x1 : Int32) (hkh0 : z_kd h0 u = 8 ∧ 8 ≠ 0) (hw : w_X6_erase post px t0 mi h0 u x1) : z_V A (z_hC D cy A t0 u0) p l e rm_X6_erase s m args below meth c 4 (vx_MQ below (va_Qi (fun r (u' : z_St) => post r u' ∧ z_mono u0 u') (fun (u' : z_St) t => z_hC D cy A t0 u0 u' t.heap) A) (zx_X px (z_hC D cy A t0 u0) A) args s 1 6 A) 0 0 u 0 [(0, va_rf (some h0)), (1, .int x1)] [] := by
  refine z_aload_n (x := some h0) S 0 dX6_erase_0 rfl rfl ?_
  refine z_iload_n S 1 dX6_erase_1 rfl rfl ?_
  refine zx_callVi (As := [.int x1]) (st := []) S (z_ECok D cy A t0 mi) hE htb hlk (me_X6_placeOf l D cy A t0 mi _ px u h0 x1 hkh0 hl hw) gV_X6_149 hdV_X6_placeOf ⟨Nat.le_of_ble_eq_true rfl, Nat.le_of_ble_eq_true rfl⟩ rfl rfl (z_recvC (u := u) hE hkh0 (by decide) rfl) (fun _ h => h.re) (fun _ _ _ h h' => h.ba h') (fun _ _ h => h) rfl (Nat.le_trans z_s0 (by decide)) dX6_erase_2 ⟨(Nat.le_of_ble_eq_true rfl), (Nat.le_of_ble_eq_true rfl)⟩ ⟨(Nat.le_of_ble_eq_true rfl), (Nat.le_of_ble_eq_true rfl)⟩ rfl (fun r1 u1 hw => ?_)
  obtain ⟨hw, hm1⟩ := hw
  have hkh0 := hm1.k hkh0
  refine z_istore_n S [(2, .int r1), (0, va_rf (some h0)), (1, .int x1)] dX6_erase_5 rfl (by decide) rfl ?_
  refine z_lv (lv' := [(0, va_rf (some h0)), (1, .int x1), (2, .int r1)]) [1, 2, 0] rfl ?_
  refine z_aload_n (x := some h0) S 0 dX6_erase_6 rfl rfl ?_
  refine zb_g_X6_35 (x := z_gR 31 h0 u1) S hE hkh0 rfl dX6_erase_7 ?_
  refine z_iload_n S 2 dX6_erase_10 rfl rfl ?_
  obtain ⟨a2, ea2, hka2, hw⟩ := hw
  have hka2 : z_kd a2 u1 = 1 ∧ 1 ≠ 0 := ⟨hka2, by decide⟩
  refine z_st (st' := [.int r1, va_rf (some a2)]) (congrArg (fun r : Option Nat => ([.int r1, va_rf r] : List Value)) ea2) ?_
  refine z_callVq (As := [.int r1]) (st := []) S (z_ECok D cy A t0 mi) hE (me_Jx4a65c_get_915e3 l D cy A t0 mi _ u1 a2 r1 hka2 hw) gV_X6_153 hdV_Jx4a65c_get_915e3 ⟨Nat.le_of_ble_eq_true rfl, Nat.le_of_ble_eq_true rfl⟩ rfl rfl (z_recvC (u := u1) hE hka2 (by decide) rfl) (fun _ h => h.re) (fun _ _ _ h h' => h.ba h') rfl (Nat.le_trans z_s0 (by decide)) dX6_erase_11 ⟨(Nat.le_of_ble_eq_true rfl), (Nat.le_of_ble_eq_true rfl)⟩ rfl (fun r3 u3 hw => ?_)
  obtain ⟨hw, hm3⟩ := hw
  have hkh0 := hm3.k hkh0
  have hka2 := hm3.k hka2
  obtain ⟨a4, ea4, hka4, hw⟩ := hw
  have hka4 : z_kd a4 u3 = 5 ∧ 5 ≠ 0 := ⟨hka4, by decide⟩
  refine z_st (st' := [va_rf (some a4)]) (congrArg (fun r : Option Nat => ([va_rf r] : List Value)) ea4) ?_
  refine z_cst (κ := 5) S hE hka4 (by decide) rfl wd_499 dX6_erase_14 ?_
  refine z_astore_n (x := some a4) S [(3, va_rf (some a4)), (0, va_rf (some h0)), (1, .int x1), (2, .int r1)] dX6_erase_17 rfl (by decide) rfl ?_
  refine z_lv (lv' := [(0, va_rf (some h0)), (1, .int x1), (2, .int r1), (3, va_rf (some a4))]) [1, 2, 3, 0] rfl ?_
  refine z_aload_n (x := some h0) S 0 dX6_erase_18 rfl rfl ?_
  refine zb_g_X6_35 (x := z_gR 31 h0 u3) S hE hkh0 rfl dX6_erase_19 ?_
  refine z_iload_n S 2 dX6_erase_22 rfl rfl ?_
  obtain ⟨a5, ea5, hka5, hw⟩ := hw
  have hka5 : z_kd a5 u3 = 1 ∧ 1 ≠ 0 := ⟨hka5, by decide⟩
  refine z_st (st' := [.int r1, va_rf (some a5)]) (congrArg (fun r : Option Nat => ([.int r1, va_rf r] : List Value)) ea5) ?_
  refine z_callVq (As := [.int r1]) (st := []) S (z_ECok D cy A t0 mi) hE (me_Jx4a65c_remove_915e3 l D cy A t0 mi _ u3 a5 r1 hka5 hw) gV_X6_162 hdV_Jx4a65c_remove_915e3 ⟨Nat.le_of_ble_eq_true rfl, Nat.le_of_ble_eq_true rfl⟩ rfl rfl (z_recvC (u := u3) hE hka5 (by decide) rfl) (fun _ h => h.re) (fun _ _ _ h h' => h.ba h') rfl (Nat.le_trans z_s0 (by decide)) dX6_erase_23 ⟨(Nat.le_of_ble_eq_true rfl), (Nat.le_of_ble_eq_true rfl)⟩ rfl (fun r6 u6 hw => ?_)
  obtain ⟨hw, hm6⟩ := hw
  have hkh0 := hm6.k hkh0
  have hka2 := hm6.k hka2
  have hka4 := hm6.k hka4
  have hka5 := hm6.k hka5
  refine z_pop S dX6_erase_26 (z_rfc r6) ?_
  refine z_aload_n (x := some h0) S 0 dX6_erase_27 rfl rfl ?_
  refine z_aload_n (x := some a4) S 3 dX6_erase_28 rfl rfl ?_
  refine zb_g_X6_165 (x := z_gR 18 a4 u6) S hE hka4 rfl dX6_erase_29 ?_
  refine z_callVi (As := [va_rf (z_gR 18 a4 u6)]) (st := []) S (z_ECok D cy A t0 mi) hE (me_X6_release l D cy A t0 mi _ u6 h0 (z_gR 18 a4 u6) hkh0 hw) gV_X6_166 hdV_X6_release ⟨Nat.le_of_ble_eq_true rfl, Nat.le_of_ble_eq_true rfl⟩ rfl rfl (z_recvC (u := u6) hE hkh0 (by decide) rfl) (fun _ h => h.re) (fun _ _ _ h h' => h.ba h') rfl (Nat.le_trans z_s0 (by decide)) dX6_erase_32 ⟨(Nat.le_of_ble_eq_true rfl), (Nat.le_of_ble_eq_true rfl)⟩ rfl (fun r7 u7 hw => ?_)
  obtain ⟨hw, hm7⟩ := hw
  have hkh0 := hm7.k hkh0
  have hka2 := hm7.k hka2
  have hka4 := hm7.k hka4
  have hka5 := hm7.k hka5
  refine z_aload_n (x := some h0) S 0 dX6_erase_35 rfl rfl ?_
  refine z_aload_n (x := some a4) S 3 dX6_erase_36 rfl rfl ?_
  refine zb_g_X6_170 (x := z_gR 19 a4 u7) S hE hka4 rfl dX6_erase_37 ?_
  refine z_callVi (As := [va_rf (z_gR 19 a4 u7)]) (st := [.int r7]) S (z_ECok D cy A t0 mi) hE (me_X6_release l D cy A t0 mi _ u7 h0 (z_gR 19 a4 u7) hkh0 hw) gV_X6_166 hdV_X6_release ⟨Nat.le_of_ble_eq_true rfl, Nat.le_of_ble_eq_true rfl⟩ rfl rfl (z_recvC (u := u7) hE hkh0 (by decide) rfl) (fun _ h => h.re) (fun _ _ _ h h' => h.ba h') rfl (Nat.le_trans (z_s1 z_s0) (by decide)) dX6_erase_40 ⟨(Nat.le_of_ble_eq_true rfl), (Nat.le_of_ble_eq_true rfl)⟩ rfl (fun r8 u8 hw => ?_)
  obtain ⟨hw, hm8⟩ := hw
  have hkh0 := hm8.k hkh0
  have hka2 := hm8.k hka2
  have hka4 := hm8.k hka4
  have hka5 := hm8.k hka5
  refine z_iadd S dX6_erase_43 ?_
  exact z_cxiret S hr hlk dX6_erase_44 (Nat.le_of_ble_eq_true rfl) (Nat.le_of_ble_eq_true rfl) hw
theorem me_X6_erase (l : Launch) (D : va_G) (cy : Nat → ClassId) (A : Nat → Prop) (t0 mi : Nat) (post : Int32 → z_St → Prop) (px : String → z_St → Prop) (u : z_St) (h0 : Nat) (x1 : Int32) (hkh0 : z_kd h0 u = 8 ∧ 8 ≠ 0) (hl : l.stackTraces = false) (hw : w_X6_erase post px t0 mi h0 u x1) : zx_Mi l yX6_erase (Cond.code yX6_erase cX6_erase 4 (some .int) :: z_T) rm_X6_erase [va_rf (some h0), .int x1] (z_EC D cy A t0 mi) (z_hC D cy A t0 u) u (fun r u' => post r u' ∧ z_mono u u') px 1 6 A :=
  zx_met (by decide) (Nat.le_of_ble_eq_true rfl) (fun p e s m args below meth c S hlk hr hnm htb hE => mb_X6_erase S hlk hr hE hl htb u x1 hkh0 hw)
abbrev rm_X6_usedBy : Room := { frames := 3, cells := 0, slots := 0, locals := 64 }
def w_X6_usedBy_57 (post : Int32 → z_St → Prop) (J4 : z_St → Int32 → Int32 → Int32 → Prop) (t0 mi h0 : Nat) (u : z_St) (x1 : Int32) (x2 : Int32) (x3 : Int32) : Prop := (J4 u x1 x2 (x3 + 1))
def w_X6_usedBy_110 (post : Int32 → z_St → Prop) (J65 : z_St → Int32 → Int32 → Int32 → Prop) (t0 mi h0 : Nat) (u : z_St) (x1 : Int32) (x2 : Int32) (x3 : Int32) : Prop := (J65 u x1 x2 (x3 + 1))
def w_X6_usedBy_65 (post : Int32 → z_St → Prop) (t0 mi h0 : Nat) : Nat → z_St → Int32 → Int32 → Int32 → Prop
  | 0 => fun _ _ _ _ => False
  | n + 1 => fun u x1 x2 x3 => ((3 ≤ x3 → (post x2 u)) ∧ (¬ 3 ≤ x3 → (∃ a1 : Nat, z_gR 30 h0 u = some a1 ∧ z_kd a1 u = 13 ∧ (vp_in x3 (z_ln a1 u) ∧ (∃ a2 : Nat, z_aR a1 x3.toNatClampNeg u = some a2 ∧ z_kd a2 u = 4 ∧ (w_X2_speaksMessage (fun r3 u3 => ((r3 = 0 → (w_X6_usedBy_110 post (w_X6_usedBy_65 post t0 mi h0 n) t0 mi h0 u3 x1 x2 x3)) ∧ (¬ r3 = 0 → (∃ a4 : Nat, z_gR 30 h0 u3 = some a4 ∧ z_kd a4 u3 = 13 ∧ (vp_in x3 (z_ln a4 u3) ∧ (∃ a5 : Nat, z_aR a4 x3.toNatClampNeg u3 = some a5 ∧ z_kd a5 u3 = 4 ∧ ((¬ (z_gI 10 a5 u3) = x1 → (w_X6_usedBy_110 post (w_X6_usedBy_65 post t0 mi h0 n) t0 mi h0 u3 x1 x2 x3)) ∧ ((z_gI 10 a5 u3) = x1 → (vp_in x3 (z_ln a4 u3) ∧ (w_X6_costOf (fun r6 u6 => (w_X6_usedBy_110 post (w_X6_usedBy_65 post t0 mi h0 n) t0 mi h0 u6 x1 (x2 + r6) x3)) t0 mi u3 (z_gR 12 a5 u3))))))))))) t0 mi a2 u ))))))
def w_X6_usedBy_4 (post : Int32 → z_St → Prop) (t0 mi h0 : Nat) : Nat → z_St → Int32 → Int32 → Int32 → Prop
  | 0 => fun _ _ _ _ => False
  | n + 1 => fun u x1 x2 x3 => (∃ a1 : Nat, z_gR 31 h0 u = some a1 ∧ z_kd a1 u = 1 ∧ (w_Jx4a65c_size_8abf5 (fun r2 u2 => ((r2 ≤ x3 → (∃ n0 : Nat, w_X6_usedBy_65 post t0 mi h0 n0 u2 x1 x2 0)) ∧ (¬ r2 ≤ x3 → (∃ a3 : Nat, z_gR 31 h0 u2 = some a3 ∧ z_kd a3 u2 = 1 ∧ (w_Jx4a65c_get_915e3 (fun r4 u4 => (∃ a5 : Nat, r4 = some a5 ∧ z_kd a5 u4 = 5 ∧ ((¬ (z_gI 17 a5 u4) = x1 → (w_X6_usedBy_57 post (w_X6_usedBy_4 post t0 mi h0 n) t0 mi h0 u4 x1 x2 x3)) ∧ ((z_gI 17 a5 u4) = x1 → (w_X6_costOf (fun r6 u6 => (w_X6_costOf (fun r7 u7 => (∀ x2_3 : Int32, x2_3 = x2 + (r6 + r7) → (w_X6_usedBy_57 post (w_X6_usedBy_4 post t0 mi h0 n) t0 mi h0 u7 x1 x2_3 x3))) t0 mi u6 (z_gR 19 a5 u6))) t0 mi u4 (z_gR 18 a5 u4)))))) t0 mi a3 u2 x3))))) t0 mi a1 u ))
def w_X6_usedBy (post : Int32 → z_St → Prop) (t0 mi h0 : Nat) (u : z_St) (x1 : Int32) : Prop := (∃ n0 : Nat, w_X6_usedBy_4 post t0 mi h0 n0 u x1 0 0)
set_option maxRecDepth 20000 in
theorem mb_X6_usedBy_57 {p : Program} {l : Launch} {e : Env} {s : State} {m : MethodId} {args : Array Value} {below : List Frame} {meth : Method} {c : Code} {D : va_G} {cy : Nat → ClassId} {A : Nat → Prop} {t0 mi : Nat} {u0 : z_St} {h0 : Nat} (S : CallFix p m c cX6_usedBy 5 s args z_T RX6) (hlk : meth.locks = false) (hr : meth.sig.returnType = (some .int)) (hE : z_EC D cy A t0 mi s) {post : Int32 → z_St → Prop} {J4 : z_St → Int32 → Int32 → Int32 → Prop} (hJ4 : ∀ (u : z_St) (x1 : Int32) (x2 : Int32) (x3 : Int32) (hkh0 : z_kd h0 u = 8 ∧ 8 ≠ 0), J4 u x1 x2 x3 → z_V A (z_hC D cy A t0 u0) p l e rm_X6_usedBy s m args below meth c 5 (MQ below (va_Qi (fun r (u' : z_St) => post r u' ∧ z_mono u0 u') (fun (u' : z_St) t => z_hC D cy A t0 u0 u' t.heap) A) args s 0 0 A) 0 0 u 4 [(0, va_rf (some h0)), (1, .int x1), (2, .int x2), (3, .int x3)] []) (u : z_St) (x1 : Int32) (x2 : Int32) (x3 : Int32) (hkh0 : z_kd h0 u = 8 ∧ 8 ≠ 0) (hw : w_X6_usedBy_57 post J4 t0 mi h0 u x1 x2 x3) : z_V A (z_hC D cy A t0 u0) p l e rm_X6_usedBy s m args below meth c 5 (MQ below (va_Qi (fun r (u' : z_St) => post r u' ∧ z_mono u0 u') (fun (u' : z_St) t => z_hC D cy A t0 u0 u' t.heap) A) args s 0 0 A) 0 0 u 57 [(0, va_rf (some h0)), (1, .int x1), (2, .int x2), (3, .int x3)] [] := by
  refine z_iinc (v := x3 + 1) (pl := 3) S [(3, .int (x3 + 1)), (0, va_rf (some h0)), (1, .int x1), (2, .int x2)] dX6_usedBy_57 rfl rfl (by decide) rfl ?_
  refine z_lv (lv' := [(0, va_rf (some h0)), (1, .int x1), (2, .int x2), (3, .int (x3 + 1))]) [1, 2, 3, 0] rfl ?_
  refine z_goto S 4 dX6_usedBy_60 (by decide) ?_
  exact hJ4 u x1 x2 (x3 + 1) hkh0 hw
set_option maxRecDepth 20000 in
theorem mb_X6_usedBy_110 {p : Program} {l : Launch} {e : Env} {s : State} {m : MethodId} {args : Array Value} {below : List Frame} {meth : Method} {c : Code} {D : va_G} {cy : Nat → ClassId} {A : Nat → Prop} {t0 mi : Nat} {u0 : z_St} {h0 : Nat} (S : CallFix p m c cX6_usedBy 5 s args z_T RX6) (hlk : meth.locks = false) (hr : meth.sig.returnType = (some .int)) (hE : z_EC D cy A t0 mi s) {post : Int32 → z_St → Prop} {J65 : z_St → Int32 → Int32 → Int32 → Prop} (hJ65 : ∀ (u : z_St) (x1 : Int32) (x2 : Int32) (x3 : Int32) (hkh0 : z_kd h0 u = 8 ∧ 8 ≠ 0), J65 u x1 x2 x3 → z_V A (z_hC D cy A t0 u0) p l e rm_X6_usedBy s m args below meth c 5 (MQ below (va_Qi (fun r (u' : z_St) => post r u' ∧ z_mono u0 u') (fun (u' : z_St) t => z_hC D cy A t0 u0 u' t.heap) A) args s 0 0 A) 0 0 u 65 [(0, va_rf (some h0)), (1, .int x1), (2, .int x2), (3, .int x3)] []) (u : z_St) (x1 : Int32) (x2 : Int32) (x3 : Int32) (hkh0 : z_kd h0 u = 8 ∧ 8 ≠ 0) (hw : w_X6_usedBy_110 post J65 t0 mi h0 u x1 x2 x3) : z_V A (z_hC D cy A t0 u0) p l e rm_X6_usedBy s m args below meth c 5 (MQ below (va_Qi (fun r (u' : z_St) => post r u' ∧ z_mono u0 u') (fun (u' : z_St) t => z_hC D cy A t0 u0 u' t.heap) A) args s 0 0 A) 0 0 u 110 [(0, va_rf (some h0)), (1, .int x1), (2, .int x2), (3, .int x3)] [] := by
  refine z_iinc (v := x3 + 1) (pl := 3) S [(3, .int (x3 + 1)), (0, va_rf (some h0)), (1, .int x1), (2, .int x2)] dX6_usedBy_110 rfl rfl (by decide) rfl ?_
  refine z_lv (lv' := [(0, va_rf (some h0)), (1, .int x1), (2, .int x2), (3, .int (x3 + 1))]) [1, 2, 3, 0] rfl ?_
  refine z_goto S 65 dX6_usedBy_113 (by decide) ?_
  exact hJ65 u x1 x2 (x3 + 1) hkh0 hw
set_option maxRecDepth 20000 in
theorem mb_X6_usedBy_65 {p : Program} {l : Launch} {e : Env} {s : State} {m : MethodId} {args : Array Value} {below : List Frame} {meth : Method} {c : Code} {D : va_G} {cy : Nat → ClassId} {A : Nat → Prop} {t0 mi : Nat} {u0 : z_St} {h0 : Nat} (S : CallFix p m c cX6_usedBy 5 s args z_T RX6) (hlk : meth.locks = false) (hr : meth.sig.returnType = (some .int)) (hE : z_EC D cy A t0 mi s) {post : Int32 → z_St → Prop}  : ∀ (n : Nat) (u : z_St) (x1 : Int32) (x2 : Int32) (x3 : Int32) (hkh0 : z_kd h0 u = 8 ∧ 8 ≠ 0), w_X6_usedBy_65 post t0 mi h0 n u x1 x2 x3 → z_V A (z_hC D cy A t0 u0) p l e rm_X6_usedBy s m args below meth c 5 (MQ below (va_Qi (fun r (u' : z_St) => post r u' ∧ z_mono u0 u') (fun (u' : z_St) t => z_hC D cy A t0 u0 u' t.heap) A) args s 0 0 A) 0 0 u 65 [(0, va_rf (some h0)), (1, .int x1), (2, .int x2), (3, .int x3)] [] := by
  intro n
  induction n with
  | zero => intro u x1 x2 x3 hkh0 hw; exact hw.elim
  | succ n ih =>
    intro u x1 x2 x3 hkh0 hw
    refine z_iload_n S 3 dX6_usedBy_65 rfl rfl ?_
    refine z_iconst (v := 3) S dX6_usedBy_66 (by decide) ?_
    refine z_icmp_ge S 116 dX6_usedBy_67 (by decide) (fun c1 => ?_) (fun c1 => ?_)
    · have hw := hw.1 c1
      refine z_iload_n S 2 dX6_usedBy_116 rfl rfl ?_
      exact z_ciret S hr hlk dX6_usedBy_117 (Nat.le_of_ble_eq_true rfl) (Nat.le_of_ble_eq_true rfl) hw
    · have hw := hw.2 c1
      refine z_aload_n (x := some h0) S 0 dX6_usedBy_70 rfl rfl ?_
      refine zb_g_X6_28 (x := z_gR 30 h0 u) S hE hkh0 rfl dX6_usedBy_71 ?_
      refine z_iload_n S 3 dX6_usedBy_74 rfl rfl ?_
      obtain ⟨a1, ea1, hka1, hw⟩ := hw
      have hka1 : z_kd a1 u = 13 ∧ 13 ≠ 0 := ⟨hka1, by decide⟩
      obtain ⟨hi2, hw⟩ := hw
      refine z_st (st' := [.int x3, va_rf (some a1)]) (congrArg (fun r : Option Nat => ([.int x3, va_rf r] : List Value)) ea1) ?_
      refine z_caald (κ := 13) S hE hka1 (by decide) rfl hi2 dX6_usedBy_75 ?_
      obtain ⟨a2, ea2, hka2, hw⟩ := hw
      have hka2 : z_kd a2 u = 4 ∧ 4 ≠ 0 := ⟨hka2, by decide⟩
      refine z_st (st' := [va_rf (some a2)]) (congrArg (fun r : Option Nat => ([va_rf r] : List Value)) ea2) ?_
      refine z_callVi (As := []) (st := []) S (z_ECok D cy A t0 mi) hE (me_X2_speaksMessage l D cy A t0 mi _ u a2 hka2 hw) gV_X6_253 hdV_X2_speaksMessage ⟨Nat.le_of_ble_eq_true rfl, Nat.le_of_ble_eq_true rfl⟩ rfl rfl (z_recvC (u := u) hE hka2 (by decide) rfl) (fun _ h => h.re) (fun _ _ _ h h' => h.ba h') rfl (Nat.le_trans z_s0 (by decide)) dX6_usedBy_76 ⟨(Nat.le_of_ble_eq_true rfl), (Nat.le_of_ble_eq_true rfl)⟩ rfl (fun r3 u3 hw => ?_)
      obtain ⟨hw, hm3⟩ := hw
      have hkh0 := hm3.k hkh0
      have hka1 := hm3.k hka1
      have hka2 := hm3.k hka2
      refine z_if_eq S 110 dX6_usedBy_79 (by decide) (fun c3 => ?_) (fun c3 => ?_)
      · have hw := hw.1 c3
        exact mb_X6_usedBy_110 S hlk hr hE ih u3 x1 x2 x3 hkh0 hw
      · have hw := hw.2 c3
        refine z_aload_n (x := some h0) S 0 dX6_usedBy_82 rfl rfl ?_
        refine zb_g_X6_28 (x := z_gR 30 h0 u3) S hE hkh0 rfl dX6_usedBy_83 ?_
        refine z_iload_n S 3 dX6_usedBy_86 rfl rfl ?_
        obtain ⟨a4, ea4, hka4, hw⟩ := hw
        have hka4 : z_kd a4 u3 = 13 ∧ 13 ≠ 0 := ⟨hka4, by decide⟩
        obtain ⟨hi4, hw⟩ := hw
        refine z_st (st' := [.int x3, va_rf (some a4)]) (congrArg (fun r : Option Nat => ([.int x3, va_rf r] : List Value)) ea4) ?_
        refine z_caald (κ := 13) S hE hka4 (by decide) rfl hi4 dX6_usedBy_87 ?_
        obtain ⟨a5, ea5, hka5, hw⟩ := hw
        have hka5 : z_kd a5 u3 = 4 ∧ 4 ≠ 0 := ⟨hka5, by decide⟩
        refine z_st (st' := [va_rf (some a5)]) (congrArg (fun r : Option Nat => ([va_rf r] : List Value)) ea5) ?_
        refine zb_g_X6_127 (x := z_gI 10 a5 u3) S hE hka5 rfl dX6_usedBy_88 ?_
        refine z_iload_n S 1 dX6_usedBy_91 rfl rfl ?_
        refine z_icmp_ne S 110 dX6_usedBy_92 (by decide) (fun c5 => ?_) (fun c5 => ?_)
        · have hw := hw.1 c5
          exact mb_X6_usedBy_110 S hlk hr hE ih u3 x1 x2 x3 hkh0 hw
        · have hw := hw.2 c5
          refine z_iload_n S 2 dX6_usedBy_95 rfl rfl ?_
          refine z_aload_n (x := some h0) S 0 dX6_usedBy_96 rfl rfl ?_
          refine zb_g_X6_28 (x := z_gR 30 h0 u3) S hE hkh0 rfl dX6_usedBy_97 ?_
          refine z_iload_n S 3 dX6_usedBy_100 rfl rfl ?_
          obtain ⟨hi6, hw⟩ := hw
          refine z_st (st' := [.int x3, va_rf (some a4), .int x2]) (congrArg (fun r : Option Nat => ([.int x3, va_rf r, .int x2] : List Value)) ea4) ?_
          refine z_caald (κ := 13) S hE hka4 (by decide) rfl hi6 dX6_usedBy_101 ?_
          refine z_st (st' := [va_rf (some a5), .int x2]) (congrArg (fun r : Option Nat => ([va_rf r, .int x2] : List Value)) ea5) ?_
          refine zb_g_X6_115 (x := z_gR 12 a5 u3) S hE hka5 rfl dX6_usedBy_102 ?_
          refine z_callSi (As := [va_rf (z_gR 12 a5 u3)]) (st := [.int x2]) S (z_ECok D cy A t0 mi) hE (me_X6_costOf l D cy A t0 mi _ u3 (z_gR 12 a5 u3) hw) gS_X6_178 hdS_X6_costOf ⟨Nat.le_of_ble_eq_true rfl, Nat.le_of_ble_eq_true rfl⟩ rfl rfl (fun _ h => h.re) (fun _ _ _ h h' => h.ba h') rfl (Nat.le_trans (z_s1 z_s0) (by decide)) dX6_usedBy_105 ⟨(Nat.le_of_ble_eq_true rfl), (Nat.le_of_ble_eq_true rfl)⟩ rfl (fun r6 u6 hw => ?_)
          obtain ⟨hw, hm6⟩ := hw
          have hkh0 := hm6.k hkh0
          have hka1 := hm6.k hka1
          have hka2 := hm6.k hka2
          have hka4 := hm6.k hka4
          have hka5 := hm6.k hka5
          refine z_iadd S dX6_usedBy_108 ?_
          refine z_istore_n S [(2, .int (x2 + r6)), (0, va_rf (some h0)), (1, .int x1), (3, .int x3)] dX6_usedBy_109 rfl (by decide) rfl ?_
          refine z_lv (lv' := [(0, va_rf (some h0)), (1, .int x1), (2, .int (x2 + r6)), (3, .int x3)]) [1, 2, 0, 3] rfl ?_
          exact mb_X6_usedBy_110 S hlk hr hE ih u6 x1 (x2 + r6) x3 hkh0 hw
set_option maxRecDepth 20000 in
theorem mb_X6_usedBy_4 {p : Program} {l : Launch} {e : Env} {s : State} {m : MethodId} {args : Array Value} {below : List Frame} {meth : Method} {c : Code} {D : va_G} {cy : Nat → ClassId} {A : Nat → Prop} {t0 mi : Nat} {u0 : z_St} {h0 : Nat} (S : CallFix p m c cX6_usedBy 5 s args z_T RX6) (hlk : meth.locks = false) (hr : meth.sig.returnType = (some .int)) (hE : z_EC D cy A t0 mi s) {post : Int32 → z_St → Prop}  : ∀ (n : Nat) (u : z_St) (x1 : Int32) (x2 : Int32) (x3 : Int32) (hkh0 : z_kd h0 u = 8 ∧ 8 ≠ 0), w_X6_usedBy_4 post t0 mi h0 n u x1 x2 x3 → z_V A (z_hC D cy A t0 u0) p l e rm_X6_usedBy s m args below meth c 5 (MQ below (va_Qi (fun r (u' : z_St) => post r u' ∧ z_mono u0 u') (fun (u' : z_St) t => z_hC D cy A t0 u0 u' t.heap) A) args s 0 0 A) 0 0 u 4 [(0, va_rf (some h0)), (1, .int x1), (2, .int x2), (3, .int x3)] [] := by
  intro n
  induction n with
  | zero => intro u x1 x2 x3 hkh0 hw; exact hw.elim
  | succ n ih =>
    intro u x1 x2 x3 hkh0 hw
    refine z_iload_n S 3 dX6_usedBy_4 rfl rfl ?_
    refine z_aload_n (x := some h0) S 0 dX6_usedBy_5 rfl rfl ?_
    refine zb_g_X6_35 (x := z_gR 31 h0 u) S hE hkh0 rfl dX6_usedBy_6 ?_
    obtain ⟨a1, ea1, hka1, hw⟩ := hw
    have hka1 : z_kd a1 u = 1 ∧ 1 ≠ 0 := ⟨hka1, by decide⟩
    refine z_st (st' := [va_rf (some a1), .int x3]) (congrArg (fun r : Option Nat => ([va_rf r, .int x3] : List Value)) ea1) ?_
    refine z_callVi (As := []) (st := [.int x3]) S (z_ECok D cy A t0 mi) hE (me_Jx4a65c_size_8abf5 l D cy A t0 mi _ u a1 hka1 hw) gV_X6_222 hdV_Jx4a65c_size_8abf5 ⟨Nat.le_of_ble_eq_true rfl, Nat.le_of_ble_eq_true rfl⟩ rfl rfl (z_recvC (u := u) hE hka1 (by decide) rfl) (fun _ h => h.re) (fun _ _ _ h h' => h.ba h') rfl (Nat.le_trans (z_s1 z_s0) (by decide)) dX6_usedBy_9 ⟨(Nat.le_of_ble_eq_true rfl), (Nat.le_of_ble_eq_true rfl)⟩ rfl (fun r2 u2 hw => ?_)
    obtain ⟨hw, hm2⟩ := hw
    have hkh0 := hm2.k hkh0
    have hka1 := hm2.k hka1
    refine z_icmp_ge S 63 dX6_usedBy_12 (by decide) (fun c1 => ?_) (fun c1 => ?_)
    · have hw := hw.1 c1
      refine z_iconst (v := 0) S dX6_usedBy_63 (by decide) ?_
      refine z_istore_n S [(3, .int 0), (0, va_rf (some h0)), (1, .int x1), (2, .int x2)] dX6_usedBy_64 rfl (by decide) rfl ?_
      refine z_lv (lv' := [(0, va_rf (some h0)), (1, .int x1), (2, .int x2), (3, .int 0)]) [1, 2, 3, 0] rfl ?_
      obtain ⟨n0, hw⟩ := hw
      exact mb_X6_usedBy_65 S hlk hr hE n0 u2 x1 x2 0 hkh0 hw
    · have hw := hw.2 c1
      refine z_aload_n (x := some h0) S 0 dX6_usedBy_15 rfl rfl ?_
      refine zb_g_X6_35 (x := z_gR 31 h0 u2) S hE hkh0 rfl dX6_usedBy_16 ?_
      refine z_iload_n S 3 dX6_usedBy_19 rfl rfl ?_
      obtain ⟨a3, ea3, hka3, hw⟩ := hw
      have hka3 : z_kd a3 u2 = 1 ∧ 1 ≠ 0 := ⟨hka3, by decide⟩
      refine z_st (st' := [.int x3, va_rf (some a3)]) (congrArg (fun r : Option Nat => ([.int x3, va_rf r] : List Value)) ea3) ?_
      refine z_callVq (As := [.int x3]) (st := []) S (z_ECok D cy A t0 mi) hE (me_Jx4a65c_get_915e3 l D cy A t0 mi _ u2 a3 x3 hka3 hw) gV_X6_153 hdV_Jx4a65c_get_915e3 ⟨Nat.le_of_ble_eq_true rfl, Nat.le_of_ble_eq_true rfl⟩ rfl rfl (z_recvC (u := u2) hE hka3 (by decide) rfl) (fun _ h => h.re) (fun _ _ _ h h' => h.ba h') rfl (Nat.le_trans z_s0 (by decide)) dX6_usedBy_20 ⟨(Nat.le_of_ble_eq_true rfl), (Nat.le_of_ble_eq_true rfl)⟩ rfl (fun r4 u4 hw => ?_)
      obtain ⟨hw, hm4⟩ := hw
      have hkh0 := hm4.k hkh0
      have hka1 := hm4.k hka1
      have hka3 := hm4.k hka3
      obtain ⟨a5, ea5, hka5, hw⟩ := hw
      have hka5 : z_kd a5 u4 = 5 ∧ 5 ≠ 0 := ⟨hka5, by decide⟩
      refine z_st (st' := [va_rf (some a5)]) (congrArg (fun r : Option Nat => ([va_rf r] : List Value)) ea5) ?_
      refine z_cst (κ := 5) S hE hka5 (by decide) rfl wd_499 dX6_usedBy_23 ?_
      refine z_astore (x := some a5) S [(4, va_rf (some a5)), (0, va_rf (some h0)), (1, .int x1), (2, .int x2), (3, .int x3)] dX6_usedBy_26 (by decide) rfl ?_
      refine z_lv (lv' := [(0, va_rf (some h0)), (1, .int x1), (2, .int x2), (3, .int x3), (4, va_rf (some a5))]) [1, 2, 3, 4, 0] rfl ?_
      refine z_aload (x := some a5) S 4 dX6_usedBy_28 rfl ?_
      refine zb_g_X6_173 (x := z_gI 17 a5 u4) S hE hka5 rfl dX6_usedBy_30 ?_
      refine z_iload_n S 1 dX6_usedBy_33 rfl rfl ?_
      refine z_icmp_ne S 57 dX6_usedBy_34 (by decide) (fun c2 => ?_) (fun c2 => ?_)
      · have hw := hw.1 c2
        refine z_lv (lv' := [(0, va_rf (some h0)), (1, .int x1), (2, .int x2), (3, .int x3)]) [0, 1, 2, 3] rfl ?_
        exact mb_X6_usedBy_57 S hlk hr hE ih u4 x1 x2 x3 hkh0 hw
      · have hw := hw.2 c2
        refine z_iload_n S 2 dX6_usedBy_37 rfl rfl ?_
        refine z_aload (x := some a5) S 4 dX6_usedBy_38 rfl ?_
        refine zb_g_X6_165 (x := z_gR 18 a5 u4) S hE hka5 rfl dX6_usedBy_40 ?_
        refine z_callSi (As := [va_rf (z_gR 18 a5 u4)]) (st := [.int x2]) S (z_ECok D cy A t0 mi) hE (me_X6_costOf l D cy A t0 mi _ u4 (z_gR 18 a5 u4) hw) gS_X6_178 hdS_X6_costOf ⟨Nat.le_of_ble_eq_true rfl, Nat.le_of_ble_eq_true rfl⟩ rfl rfl (fun _ h => h.re) (fun _ _ _ h h' => h.ba h') rfl (Nat.le_trans (z_s1 z_s0) (by decide)) dX6_usedBy_43 ⟨(Nat.le_of_ble_eq_true rfl), (Nat.le_of_ble_eq_true rfl)⟩ rfl (fun r6 u6 hw => ?_)
        obtain ⟨hw, hm6⟩ := hw
        have hkh0 := hm6.k hkh0
        have hka1 := hm6.k hka1
        have hka3 := hm6.k hka3
        have hka5 := hm6.k hka5
        refine z_aload (x := some a5) S 4 dX6_usedBy_46 rfl ?_
        refine zb_g_X6_170 (x := z_gR 19 a5 u6) S hE hka5 rfl dX6_usedBy_48 ?_
        refine z_callSi (As := [va_rf (z_gR 19 a5 u6)]) (st := [.int r6, .int x2]) S (z_ECok D cy A t0 mi) hE (me_X6_costOf l D cy A t0 mi _ u6 (z_gR 19 a5 u6) hw) gS_X6_178 hdS_X6_costOf ⟨Nat.le_of_ble_eq_true rfl, Nat.le_of_ble_eq_true rfl⟩ rfl rfl (fun _ h => h.re) (fun _ _ _ h h' => h.ba h') rfl (Nat.le_trans (z_s1 (z_s1 z_s0)) (by decide)) dX6_usedBy_51 ⟨(Nat.le_of_ble_eq_true rfl), (Nat.le_of_ble_eq_true rfl)⟩ rfl (fun r7 u7 hw => ?_)
        obtain ⟨hw, hm7⟩ := hw
        have hkh0 := hm7.k hkh0
        have hka1 := hm7.k hka1
        have hka3 := hm7.k hka3
        have hka5 := hm7.k hka5
        refine z_iadd S dX6_usedBy_54 ?_
        refine z_iadd S dX6_usedBy_55 ?_
        refine z_top (fun x2_3 ex2_3 => ?_)
        have hw := hw x2_3 ex2_3
        refine z_istore_n S [(2, .int x2_3), (0, va_rf (some h0)), (1, .int x1), (3, .int x3), (4, va_rf (some a5))] dX6_usedBy_56 rfl (by decide) rfl ?_
        refine z_lv (lv' := [(0, va_rf (some h0)), (1, .int x1), (2, .int x2_3), (3, .int x3), (4, va_rf (some a5))]) [1, 2, 0, 3, 4] rfl ?_
        refine z_lv (lv' := [(0, va_rf (some h0)), (1, .int x1), (2, .int x2_3), (3, .int x3)]) [0, 1, 2, 3] rfl ?_
        exact mb_X6_usedBy_57 S hlk hr hE ih u7 x1 x2_3 x3 hkh0 hw
set_option maxRecDepth 20000 in
theorem mb_X6_usedBy {p : Program} {l : Launch} {e : Env} {s : State} {m : MethodId} {args : Array Value} {below : List Frame} {meth : Method} {c : Code} {D : va_G} {cy : Nat → ClassId} {A : Nat → Prop} {t0 mi : Nat} {u0 : z_St} {h0 : Nat} (S : CallFix p m c cX6_usedBy 5 s args z_T RX6) (hlk : meth.locks = false) (hr : meth.sig.returnType = (some .int)) (hE : z_EC D cy A t0 mi s) {post : Int32 → z_St → Prop}  (u : z_St) (x1 : Int32) (hkh0 : z_kd h0 u = 8 ∧ 8 ≠ 0) (hw : w_X6_usedBy post t0 mi h0 u x1) : z_V A (z_hC D cy A t0 u0) p l e rm_X6_usedBy s m args below meth c 5 (MQ below (va_Qi (fun r (u' : z_St) => post r u' ∧ z_mono u0 u') (fun (u' : z_St) t => z_hC D cy A t0 u0 u' t.heap) A) args s 0 0 A) 0 0 u 0 [(0, va_rf (some h0)), (1, .int x1)] [] := by
  refine z_iconst (v := 0) S dX6_usedBy_0 (by decide) ?_
  refine z_istore_n S [(2, .int 0), (0, va_rf (some h0)), (1, .int x1)] dX6_usedBy_1 rfl (by decide) rfl ?_
  refine z_lv (lv' := [(0, va_rf (some h0)), (1, .int x1), (2, .int 0)]) [1, 2, 0] rfl ?_
  refine z_iconst (v := 0) S dX6_usedBy_2 (by decide) ?_
  refine z_istore_n S [(3, .int 0), (0, va_rf (some h0)), (1, .int x1), (2, .int 0)] dX6_usedBy_3 rfl (by decide) rfl ?_
  refine z_lv (lv' := [(0, va_rf (some h0)), (1, .int x1), (2, .int 0), (3, .int 0)]) [1, 2, 3, 0] rfl ?_
  obtain ⟨n0, hw⟩ := hw
  exact mb_X6_usedBy_4 S hlk hr hE n0 u x1 0 0 hkh0 hw
theorem me_X6_usedBy (l : Launch) (D : va_G) (cy : Nat → ClassId) (A : Nat → Prop) (t0 mi : Nat) (post : Int32 → z_St → Prop) (u : z_St) (h0 : Nat) (x1 : Int32) (hkh0 : z_kd h0 u = 8 ∧ 8 ≠ 0) (hw : w_X6_usedBy post t0 mi h0 u x1) : z_Mi l yX6_usedBy (Cond.code yX6_usedBy cX6_usedBy 5 (some .int) :: z_T) rm_X6_usedBy [va_rf (some h0), .int x1] (z_EC D cy A t0 mi) (z_hC D cy A t0 u) u (fun r u' => post r u' ∧ z_mono u u') 0 0 A :=
  z_met (by decide) (Nat.le_of_ble_eq_true rfl) (fun p e s m args below meth c S hlk hr hnm hE => mb_X6_usedBy S hlk hr hE u x1 hkh0 hw)
abbrev rm_X6_isWithinQuota : Room := { frames := 4, cells := 0, slots := 0, locals := 88 }
def w_X6_isWithinQuota (post : Int32 → z_St → Prop) (t0 mi h0 : Nat) (u : z_St) (x1 : Int32) (x2 : Int32) : Prop := (w_X6_usedBy (fun r1 u1 => (∃ a2 : Nat, z_gR 29 h0 u1 = some a2 ∧ z_kd a2 u1 = 12 ∧ (vp_in x1 (z_ln a2 u1) ∧ (∃ a3 : Nat, z_aR a2 x1.toNatClampNeg u1 = some a3 ∧ z_kd a3 u1 = 3 ∧ (∀ y2 : Int32, y2 = (if (z_gI 5 a3 u1) < (r1 + x2) then 0 else 1) → (narrow .boolean (.int y2) = .int y2 ∧ post y2 u1)))))) t0 mi h0 u x1)
set_option maxRecDepth 20000 in
theorem mb_X6_isWithinQuota {p : Program} {l : Launch} {e : Env} {s : State} {m : MethodId} {args : Array Value} {below : List Frame} {meth : Method} {c : Code} {D : va_G} {cy : Nat → ClassId} {A : Nat → Prop} {t0 mi : Nat} {u0 : z_St} {h0 : Nat} (S : CallFix p m c cX6_isWithinQuota 3 s args z_T RX6) (hlk : meth.locks = false) (hr : meth.sig.returnType = (some .boolean)) (hE : z_EC D cy A t0 mi s) {post : Int32 → z_St → Prop}  (u : z_St) (x1 : Int32) (x2 : Int32) (hkh0 : z_kd h0 u = 8 ∧ 8 ≠ 0) (hw : w_X6_isWithinQuota post t0 mi h0 u x1 x2) : z_V A (z_hC D cy A t0 u0) p l e rm_X6_isWithinQuota s m args below meth c 3 (MQ below (va_Qi (fun r (u' : z_St) => post r u' ∧ z_mono u0 u') (fun (u' : z_St) t => z_hC D cy A t0 u0 u' t.heap) A) args s 0 0 A) 0 0 u 0 [(0, va_rf (some h0)), (1, .int x1), (2, .int x2)] [] := by
  refine z_aload_n (x := some h0) S 0 dX6_isWithinQuota_0 rfl rfl ?_
  refine z_iload_n S 1 dX6_isWithinQuota_1 rfl rfl ?_
  refine z_callVi (As := [.int x1]) (st := []) S (z_ECok D cy A t0 mi) hE (me_X6_usedBy l D cy A t0 mi _ u h0 x1 hkh0 hw) gV_X6_201 hdV_X6_usedBy ⟨Nat.le_of_ble_eq_true rfl, Nat.le_of_ble_eq_true rfl⟩ rfl rfl (z_recvC (u := u) hE hkh0 (by decide) rfl) (fun _ h => h.re) (fun _ _ _ h h' => h.ba h') rfl (Nat.le_trans z_s0 (by decide)) dX6_isWithinQuota_2 ⟨(Nat.le_of_ble_eq_true rfl), (Nat.le_of_ble_eq_true rfl)⟩ rfl (fun r1 u1 hw => ?_)
  obtain ⟨hw, hm1⟩ := hw
  have hkh0 := hm1.k hkh0
  refine z_iload_n S 2 dX6_isWithinQuota_5 rfl rfl ?_
  refine z_iadd S dX6_isWithinQuota_6 ?_
  refine z_aload_n (x := some h0) S 0 dX6_isWithinQuota_7 rfl rfl ?_
  refine zb_g_X6_22 (x := z_gR 29 h0 u1) S hE hkh0 rfl dX6_isWithinQuota_8 ?_
  refine z_iload_n S 1 dX6_isWithinQuota_11 rfl rfl ?_
  obtain ⟨a2, ea2, hka2, hw⟩ := hw
  have hka2 : z_kd a2 u1 = 12 ∧ 12 ≠ 0 := ⟨hka2, by decide⟩
  obtain ⟨hi1, hw⟩ := hw
  refine z_st (st' := [.int x1, va_rf (some a2), .int (r1 + x2)]) (congrArg (fun r : Option Nat => ([.int x1, va_rf r, .int (r1 + x2)] : List Value)) ea2) ?_
  refine z_caald (κ := 12) S hE hka2 (by decide) rfl hi1 dX6_isWithinQuota_12 ?_
  obtain ⟨a3, ea3, hka3, hw⟩ := hw
  have hka3 : z_kd a3 u1 = 3 ∧ 3 ≠ 0 := ⟨hka3, by decide⟩
  refine z_st (st' := [va_rf (some a3), .int (r1 + x2)]) (congrArg (fun r : Option Nat => ([va_rf r, .int (r1 + x2)] : List Value)) ea3) ?_
  refine zb_g_X6_63 (x := z_gI 5 a3 u1) S hE hka3 rfl dX6_isWithinQuota_13 ?_
  suffices hJ : ∀ y2 : Int32, y2 = (if (z_gI 5 a3 u1) < (r1 + x2) then 0 else 1) → z_V A (z_hC D cy A t0 u0) p l e rm_X6_isWithinQuota s m args below meth c 3 (MQ below (va_Qi (fun r (u' : z_St) => post r u' ∧ z_mono u0 u') (fun (u' : z_St) t => z_hC D cy A t0 u0 u' t.heap) A) args s 0 0 A) 0 0 u1 24 [] [.int y2] from by
    refine z_icmp_gt S 23 dX6_isWithinQuota_16 (by decide) (fun c3 => ?_) (fun c3 => ?_)
    · refine z_iconst (v := 0) S dX6_isWithinQuota_23 (by decide) ?_
      refine z_lv (lv' := []) [] rfl ?_
      exact hJ _ (by rw [if_pos c3])
    · refine z_iconst (v := 1) S dX6_isWithinQuota_19 (by decide) ?_
      refine z_goto S 24 dX6_isWithinQuota_20 (by decide) ?_
      refine z_lv (lv' := []) [] rfl ?_
      exact hJ _ (by rw [if_neg c3])
  intro y2 ey2
  have hw := hw y2 ey2
  exact z_czret S hr hlk dX6_isWithinQuota_24 (Nat.le_of_ble_eq_true rfl) (Nat.le_of_ble_eq_true rfl) hw.1 hw.2
theorem me_X6_isWithinQuota (l : Launch) (D : va_G) (cy : Nat → ClassId) (A : Nat → Prop) (t0 mi : Nat) (post : Int32 → z_St → Prop) (u : z_St) (h0 : Nat) (x1 : Int32) (x2 : Int32) (hkh0 : z_kd h0 u = 8 ∧ 8 ≠ 0) (hw : w_X6_isWithinQuota post t0 mi h0 u x1 x2) : z_Mi l yX6_isWithinQuota (Cond.code yX6_isWithinQuota cX6_isWithinQuota 3 (some .boolean) :: z_T) rm_X6_isWithinQuota [va_rf (some h0), .int x1, .int x2] (z_EC D cy A t0 mi) (z_hC D cy A t0 u) u (fun r u' => post r u' ∧ z_mono u u') 0 0 A :=
  z_met (by decide) (Nat.le_of_ble_eq_true rfl) (fun p e s m args below meth c S hlk hr hnm hE => mb_X6_isWithinQuota S hlk hr hE u x1 x2 hkh0 hw)
abbrev rm_X6_fits : Room := { frames := 5, cells := 0, slots := 0, locals := 110 }
def w_X6_fits_46 (post : Int32 → z_St → Prop) (t0 mi h0 : Nat) (u : z_St)  : Prop := (post 1 u)
def w_X6_fits_27 (post : Int32 → z_St → Prop) (t0 mi h0 : Nat) (u : z_St) (x1 : Option Nat) (x3 : Int32) : Prop := (∃ a1 : Nat, x1 = some a1 ∧ z_kd a1 u = 4 ∧ ((¬ (z_gI 11 a1 u) = 0 → (w_X6_fits_46 post t0 mi h0 u )) ∧ ((z_gI 11 a1 u) = 0 → (w_X6_isWithinQuota (fun r2 u2 => ((r2 = 0 → (post 0 u2)) ∧ (¬ r2 = 0 → (w_X6_fits_46 post t0 mi h0 u2 )))) t0 mi h0 u (z_gI 10 a1 u) x3))))
def w_X6_fits (post : Int32 → z_St → Prop) (t0 mi h0 : Nat) (u : z_St) (x1 : Option Nat) (x2 : Int32) (x3 : Int32) : Prop := ((¬ x2 = 0 → (w_X6_fits_27 post t0 mi h0 u x1 x3)) ∧ (x2 = 0 → (∃ a1 : Nat, x1 = some a1 ∧ z_kd a1 u = 4 ∧ (∃ a2 : Nat, z_gR 12 a1 u = some a2 ∧ z_kd a2 u = 6 ∧ (w_X4_needsBlock (fun r3 u3 => ((r3 = 0 → (w_X6_fits_27 post t0 mi h0 u3 x1 x3)) ∧ (¬ r3 = 0 → (∃ a4 : Nat, z_gR 28 h0 u3 = some a4 ∧ z_kd a4 u3 = 7 ∧ (w_X5_leastFree (fun r5 u5 => ((¬ r5 = (-1) → (w_X6_fits_27 post t0 mi h0 u5 x1 x3)) ∧ (r5 = (-1) → (post 0 u5)))) t0 mi a4 u3 ))))) t0 mi a2 u )))))
set_option maxRecDepth 20000 in
theorem mb_X6_fits_46 {p : Program} {l : Launch} {e : Env} {s : State} {m : MethodId} {args : Array Value} {below : List Frame} {meth : Method} {c : Code} {D : va_G} {cy : Nat → ClassId} {A : Nat → Prop} {t0 mi : Nat} {u0 : z_St} {h0 : Nat} (S : CallFix p m c cX6_fits 4 s args z_T RX6) (hlk : meth.locks = false) (hr : meth.sig.returnType = (some .boolean)) (hE : z_EC D cy A t0 mi s) {post : Int32 → z_St → Prop}  (u : z_St)  (hkh0 : z_kd h0 u = 8 ∧ 8 ≠ 0) (hw : w_X6_fits_46 post t0 mi h0 u ) : z_V A (z_hC D cy A t0 u0) p l e rm_X6_fits s m args below meth c 4 (MQ below (va_Qi (fun r (u' : z_St) => post r u' ∧ z_mono u0 u') (fun (u' : z_St) t => z_hC D cy A t0 u0 u' t.heap) A) args s 0 0 A) 0 0 u 46 [] [] := by
  refine z_iconst (v := 1) S dX6_fits_46 (by decide) ?_
  refine z_goto S 51 dX6_fits_47 (by decide) ?_
  exact z_czret S hr hlk dX6_fits_51 (Nat.le_of_ble_eq_true rfl) (Nat.le_of_ble_eq_true rfl) rfl hw
set_option maxRecDepth 20000 in
theorem mb_X6_fits_27 {p : Program} {l : Launch} {e : Env} {s : State} {m : MethodId} {args : Array Value} {below : List Frame} {meth : Method} {c : Code} {D : va_G} {cy : Nat → ClassId} {A : Nat → Prop} {t0 mi : Nat} {u0 : z_St} {h0 : Nat} (S : CallFix p m c cX6_fits 4 s args z_T RX6) (hlk : meth.locks = false) (hr : meth.sig.returnType = (some .boolean)) (hE : z_EC D cy A t0 mi s) {post : Int32 → z_St → Prop}  (u : z_St) (x1 : Option Nat) (x3 : Int32) (hkh0 : z_kd h0 u = 8 ∧ 8 ≠ 0) (hw : w_X6_fits_27 post t0 mi h0 u x1 x3) : z_V A (z_hC D cy A t0 u0) p l e rm_X6_fits s m args below meth c 4 (MQ below (va_Qi (fun r (u' : z_St) => post r u' ∧ z_mono u0 u') (fun (u' : z_St) t => z_hC D cy A t0 u0 u' t.heap) A) args s 0 0 A) 0 0 u 27 [(0, va_rf (some h0)), (1, va_rf x1), (3, .int x3)] [] := by
  refine z_aload_n (x := x1) S 1 dX6_fits_27 rfl rfl ?_
  obtain ⟨a1, ea1, hka1, hw⟩ := hw
  have hka1 : z_kd a1 u = 4 ∧ 4 ≠ 0 := ⟨hka1, by decide⟩
  refine z_st (st' := [va_rf (some a1)]) (congrArg (fun r : Option Nat => ([va_rf r] : List Value)) ea1) ?_
  refine zb_g_X6_124 (x := z_gI 11 a1 u) S hE hka1 rfl dX6_fits_28 ?_
  refine z_if_ne S 46 dX6_fits_31 (by decide) (fun c1 => ?_) (fun c1 => ?_)
  · have hw := hw.1 c1
    refine z_lv (lv' := []) [] rfl ?_
    exact mb_X6_fits_46 S hlk hr hE u  hkh0 hw
  · have hw := hw.2 c1
    refine z_aload_n (x := some h0) S 0 dX6_fits_34 rfl rfl ?_
    refine z_aload_n (x := x1) S 1 dX6_fits_35 rfl rfl ?_
    refine z_st (st' := [va_rf (some a1), va_rf (some h0)]) (congrArg (fun r : Option Nat => ([va_rf r, va_rf (some h0)] : List Value)) ea1) ?_
    refine zb_g_X6_127 (x := z_gI 10 a1 u) S hE hka1 rfl dX6_fits_36 ?_
    refine z_iload_n S 2 dX6_fits_39 rfl rfl ?_
    refine z_callVi (As := [.int (z_gI 10 a1 u), .int x3]) (st := []) S (z_ECok D cy A t0 mi) hE (me_X6_isWithinQuota l D cy A t0 mi _ u h0 (z_gI 10 a1 u) x3 hkh0 hw) gV_X6_181 hdV_X6_isWithinQuota ⟨Nat.le_of_ble_eq_true rfl, Nat.le_of_ble_eq_true rfl⟩ rfl rfl (z_recvC (u := u) hE hkh0 (by decide) rfl) (fun _ h => h.re) (fun _ _ _ h h' => h.ba h') rfl (Nat.le_trans z_s0 (by decide)) dX6_fits_40 ⟨(Nat.le_of_ble_eq_true rfl), (Nat.le_of_ble_eq_true rfl)⟩ rfl (fun r2 u2 hw => ?_)
    obtain ⟨hw, hm2⟩ := hw
    have hkh0 := hm2.k hkh0
    have hka1 := hm2.k hka1
    refine z_if_eq S 50 dX6_fits_43 (by decide) (fun c2 => ?_) (fun c2 => ?_)
    · have hw := hw.1 c2
      refine z_iconst (v := 0) S dX6_fits_50 (by decide) ?_
      exact z_czret S hr hlk dX6_fits_51 (Nat.le_of_ble_eq_true rfl) (Nat.le_of_ble_eq_true rfl) rfl hw
    · have hw := hw.2 c2
      refine z_lv (lv' := []) [] rfl ?_
      exact mb_X6_fits_46 S hlk hr hE u2  hkh0 hw
set_option maxRecDepth 20000 in
theorem mb_X6_fits {p : Program} {l : Launch} {e : Env} {s : State} {m : MethodId} {args : Array Value} {below : List Frame} {meth : Method} {c : Code} {D : va_G} {cy : Nat → ClassId} {A : Nat → Prop} {t0 mi : Nat} {u0 : z_St} {h0 : Nat} (S : CallFix p m c cX6_fits 4 s args z_T RX6) (hlk : meth.locks = false) (hr : meth.sig.returnType = (some .boolean)) (hE : z_EC D cy A t0 mi s) {post : Int32 → z_St → Prop}  (u : z_St) (x1 : Option Nat) (x2 : Int32) (x3 : Int32) (hkh0 : z_kd h0 u = 8 ∧ 8 ≠ 0) (hw : w_X6_fits post t0 mi h0 u x1 x2 x3) : z_V A (z_hC D cy A t0 u0) p l e rm_X6_fits s m args below meth c 4 (MQ below (va_Qi (fun r (u' : z_St) => post r u' ∧ z_mono u0 u') (fun (u' : z_St) t => z_hC D cy A t0 u0 u' t.heap) A) args s 0 0 A) 0 0 u 0 [(0, va_rf (some h0)), (1, va_rf x1), (2, .int x2), (3, .int x3)] [] := by
  refine z_iload_n S 2 dX6_fits_0 rfl rfl ?_
  refine z_if_ne S 27 dX6_fits_1 (by decide) (fun c1 => ?_) (fun c1 => ?_)
  · have hw := hw.1 c1
    refine z_lv (lv' := [(0, va_rf (some h0)), (1, va_rf x1), (3, .int x3)]) [0, 1, 3] rfl ?_
    exact mb_X6_fits_27 S hlk hr hE u x1 x3 hkh0 hw
  · have hw := hw.2 c1
    refine z_aload_n (x := x1) S 1 dX6_fits_4 rfl rfl ?_
    obtain ⟨a1, ea1, hka1, hw⟩ := hw
    have hka1 : z_kd a1 u = 4 ∧ 4 ≠ 0 := ⟨hka1, by decide⟩
    refine z_st (st' := [va_rf (some a1)]) (congrArg (fun r : Option Nat => ([va_rf r] : List Value)) ea1) ?_
    refine zb_g_X6_115 (x := z_gR 12 a1 u) S hE hka1 rfl dX6_fits_5 ?_
    obtain ⟨a2, ea2, hka2, hw⟩ := hw
    have hka2 : z_kd a2 u = 6 ∧ 6 ≠ 0 := ⟨hka2, by decide⟩
    refine z_st (st' := [va_rf (some a2)]) (congrArg (fun r : Option Nat => ([va_rf r] : List Value)) ea2) ?_
    refine z_callVi (As := []) (st := []) S (z_ECok D cy A t0 mi) hE (me_X4_needsBlock l D cy A t0 mi _ u a2 hka2 hw) gV_X6_298 hdV_X4_needsBlock ⟨Nat.le_of_ble_eq_true rfl, Nat.le_of_ble_eq_true rfl⟩ rfl rfl (z_recvC (u := u) hE hka2 (by decide) rfl) (fun _ h => h.re) (fun _ _ _ h h' => h.ba h') rfl (Nat.le_trans z_s0 (by decide)) dX6_fits_8 ⟨(Nat.le_of_ble_eq_true rfl), (Nat.le_of_ble_eq_true rfl)⟩ rfl (fun r3 u3 hw => ?_)
    obtain ⟨hw, hm3⟩ := hw
    have hkh0 := hm3.k hkh0
    have hka1 := hm3.k hka1
    have hka2 := hm3.k hka2
    refine z_if_eq S 27 dX6_fits_11 (by decide) (fun c2 => ?_) (fun c2 => ?_)
    · have hw := hw.1 c2
      refine z_lv (lv' := [(0, va_rf (some h0)), (1, va_rf x1), (3, .int x3)]) [0, 1, 3] rfl ?_
      exact mb_X6_fits_27 S hlk hr hE u3 x1 x3 hkh0 hw
    · have hw := hw.2 c2
      refine z_aload_n (x := some h0) S 0 dX6_fits_14 rfl rfl ?_
      refine zb_g_X6_16 (x := z_gR 28 h0 u3) S hE hkh0 rfl dX6_fits_15 ?_
      obtain ⟨a4, ea4, hka4, hw⟩ := hw
      have hka4 : z_kd a4 u3 = 7 ∧ 7 ≠ 0 := ⟨hka4, by decide⟩
      refine z_st (st' := [va_rf (some a4)]) (congrArg (fun r : Option Nat => ([va_rf r] : List Value)) ea4) ?_
      refine z_callVi (As := []) (st := []) S (z_ECok D cy A t0 mi) hE (me_X5_leastFree l D cy A t0 mi _ u3 a4 hka4 hw) gV_X6_301 hdV_X5_leastFree ⟨Nat.le_of_ble_eq_true rfl, Nat.le_of_ble_eq_true rfl⟩ rfl rfl (z_recvC (u := u3) hE hka4 (by decide) rfl) (fun _ h => h.re) (fun _ _ _ h h' => h.ba h') rfl (Nat.le_trans z_s0 (by decide)) dX6_fits_18 ⟨(Nat.le_of_ble_eq_true rfl), (Nat.le_of_ble_eq_true rfl)⟩ rfl (fun r5 u5 hw => ?_)
      obtain ⟨hw, hm5⟩ := hw
      have hkh0 := hm5.k hkh0
      have hka1 := hm5.k hka1
      have hka2 := hm5.k hka2
      have hka4 := hm5.k hka4
      refine z_iconst (v := (-1)) S dX6_fits_21 (by decide) ?_
      refine z_icmp_ne S 27 dX6_fits_22 (by decide) (fun c3 => ?_) (fun c3 => ?_)
      · have hw := hw.1 c3
        refine z_lv (lv' := [(0, va_rf (some h0)), (1, va_rf x1), (3, .int x3)]) [0, 1, 3] rfl ?_
        exact mb_X6_fits_27 S hlk hr hE u5 x1 x3 hkh0 hw
      · have hw := hw.2 c3
        refine z_iconst (v := 0) S dX6_fits_25 (by decide) ?_
        exact z_czret S hr hlk dX6_fits_26 (Nat.le_of_ble_eq_true rfl) (Nat.le_of_ble_eq_true rfl) rfl hw
theorem me_X6_fits (l : Launch) (D : va_G) (cy : Nat → ClassId) (A : Nat → Prop) (t0 mi : Nat) (post : Int32 → z_St → Prop) (u : z_St) (h0 : Nat) (x1 : Option Nat) (x2 : Int32) (x3 : Int32) (hkh0 : z_kd h0 u = 8 ∧ 8 ≠ 0) (hw : w_X6_fits post t0 mi h0 u x1 x2 x3) : z_Mi l yX6_fits (Cond.code yX6_fits cX6_fits 4 (some .boolean) :: z_T) rm_X6_fits [va_rf (some h0), va_rf x1, .int x2, .int x3] (z_EC D cy A t0 mi) (z_hC D cy A t0 u) u (fun r u' => post r u' ∧ z_mono u u') 0 0 A :=
  z_met (by decide) (by simp [lg_sl, z_rfc, z_ic]) (fun p e s m args below meth c S hlk hr hnm hE => (by simp [lv_args, z_rfc, z_ic] : lv_args 0 [va_rf (some h0), va_rf x1, .int x2, .int x3] = [(0, va_rf (some h0)), (1, va_rf x1), (2, .int x2), (3, .int x3)]) ▸ mb_X6_fits S hlk hr hE u x1 x2 x3 hkh0 hw)
abbrev rm_X6_forward : Room := { frames := 8, cells := 4, slots := 41, locals := 195 }
def w_X6_forward (post : Int32 → z_St → Prop) (px : String → z_St → Prop) (t0 mi h0 : Nat) (u : z_St) (x1 : Int32) (x2 : Int32) : Prop := (w_X6_placeOf (fun r1 u1 => (∃ a2 : Nat, z_gR 31 h0 u = some a2 ∧ z_kd a2 u1 = 1 ∧ (w_Jx4a65c_get_915e3 (fun r3 u3 => (∃ a4 : Nat, r3 = some a4 ∧ z_kd a4 u3 = 5 ∧ (w_X6_requireBox (fun u5 => (∃ a6 : Nat, z_gR 29 h0 u5 = some a6 ∧ z_kd a6 u5 = 12 ∧ (vp_in (z_gI 17 a4 u5) (z_ln a6 u5) ∧ (∃ a7 : Nat, z_aR a6 ((z_gI 17 a4 u5).toNatClampNeg) u5 = some a7 ∧ z_kd a7 u5 = 3 ∧ (∃ a8 : Nat, z_gR 4 a7 u5 = some a8 ∧ z_kd a8 u5 = 14 ∧ (vp_in 2 (z_ln a8 u5) ∧ (w_X6_costOf (fun r9 u9 => (w_X6_costOf (fun r10 u10 => (w_X6_hasRoomForMessage (fun r11 u11 => ((r11 = 0 → (px "java/lang/IllegalStateException" u11)) ∧ (¬ r11 = 0 → (w_X6_isWithinQuota (fun r12 u12 => ((¬ r12 = 0 → (w_X6_addMessage (fun r13 u13 => (post r13 u13)) t0 mi h0 u12 x2 (z_gR 18 a4 u12) (z_aR a8 ((2 : Int32).toNatClampNeg) u5))) ∧ (r12 = 0 → (px "java/lang/IllegalStateException" u12)))) t0 mi h0 u11 x2 (r9 + r10))))) t0 mi h0 u10 )) t0 mi u9 (z_aR a8 ((2 : Int32).toNatClampNeg) u5))) t0 mi u5 (z_gR 18 a4 u5)))))))) px t0 mi h0 u3 x2))) t0 mi a2 u1 r1))) px t0 mi h0 u x1)
set_option maxRecDepth 20000 in
theorem mb_X6_forward {p : Program} {l : Launch} {e : Env} {s : State} {m : MethodId} {args : Array Value} {below : List Frame} {meth : Method} {c : Code} {D : va_G} {cy : Nat → ClassId} {A : Nat → Prop} {t0 mi : Nat} {u0 : z_St} {h0 : Nat} (S : CallFix p m c cX6_forward 6 s args z_T RX6) (hlk : meth.locks = false) (hr : meth.sig.returnType = (some .int)) (hE : z_EC D cy A t0 mi s) (hl : l.stackTraces = false) (htb : ∀ x ∈ c.exceptionTable.toList, False) {post : Int32 → z_St → Prop} {px : String → z_St → Prop}  (u : z_St) (x1 : Int32) (x2 : Int32) (hkh0 : z_kd h0 u = 8 ∧ 8 ≠ 0) (hw : w_X6_forward post px t0 mi h0 u x1 x2) : z_V A (z_hC D cy A t0 u0) p l e rm_X6_forward s m args below meth c 6 (vx_MQ below (va_Qi (fun r (u' : z_St) => post r u' ∧ z_mono u0 u') (fun (u' : z_St) t => z_hC D cy A t0 u0 u' t.heap) A) (zx_X px (z_hC D cy A t0 u0) A) args s 4 41 A) 0 0 u 0 [(0, va_rf (some h0)), (1, .int x1), (2, .int x2)] [] := by
  refine z_aload_n (x := some h0) S 0 dX6_forward_0 rfl rfl ?_
  refine zb_g_X6_35 (x := z_gR 31 h0 u) S hE hkh0 rfl dX6_forward_1 ?_
  refine z_aload_n (x := some h0) S 0 dX6_forward_4 rfl rfl ?_
  refine z_iload_n S 1 dX6_forward_5 rfl rfl ?_
  refine zx_callVi (As := [.int x1]) (st := [va_rf (z_gR 31 h0 u)]) S (z_ECok D cy A t0 mi) hE htb hlk (me_X6_placeOf l D cy A t0 mi _ px u h0 x1 hkh0 hl hw) gV_X6_149 hdV_X6_placeOf ⟨Nat.le_of_ble_eq_true rfl, Nat.le_of_ble_eq_true rfl⟩ rfl rfl (z_recvC (u := u) hE hkh0 (by decide) rfl) (fun _ h => h.re) (fun _ _ _ h h' => h.ba h') (fun _ _ h => h) rfl (Nat.le_trans (z_sq z_s0) (by decide)) dX6_forward_6 ⟨(Nat.le_of_ble_eq_true rfl), (Nat.le_of_ble_eq_true rfl)⟩ ⟨(Nat.le_of_ble_eq_true rfl), (Nat.le_of_ble_eq_true rfl)⟩ rfl (fun r1 u1 hw => ?_)
  obtain ⟨hw, hm1⟩ := hw
  have hkh0 := hm1.k hkh0
  obtain ⟨a2, ea2, hka2, hw⟩ := hw
  have hka2 : z_kd a2 u1 = 1 ∧ 1 ≠ 0 := ⟨hka2, by decide⟩
  refine z_st (st' := [.int r1, va_rf (some a2)]) (congrArg (fun r : Option Nat => ([.int r1, va_rf r] : List Value)) ea2) ?_
  refine z_callVq (As := [.int r1]) (st := []) S (z_ECok D cy A t0 mi) hE (me_Jx4a65c_get_915e3 l D cy A t0 mi _ u1 a2 r1 hka2 hw) gV_X6_153 hdV_Jx4a65c_get_915e3 ⟨Nat.le_of_ble_eq_true rfl, Nat.le_of_ble_eq_true rfl⟩ rfl rfl (z_recvC (u := u1) hE hka2 (by decide) rfl) (fun _ h => h.re) (fun _ _ _ h h' => h.ba h') rfl (Nat.le_trans z_s0 (by decide)) dX6_forward_9 ⟨(Nat.le_of_ble_eq_true rfl), (Nat.le_of_ble_eq_true rfl)⟩ rfl (fun r3 u3 hw => ?_)
  obtain ⟨hw, hm3⟩ := hw
  have hkh0 := hm3.k hkh0
  have hka2 := hm3.k hka2
  obtain ⟨a4, ea4, hka4, hw⟩ := hw
  have hka4 : z_kd a4 u3 = 5 ∧ 5 ≠ 0 := ⟨hka4, by decide⟩
  refine z_st (st' := [va_rf (some a4)]) (congrArg (fun r : Option Nat => ([va_rf r] : List Value)) ea4) ?_
  refine z_cst (κ := 5) S hE hka4 (by decide) rfl wd_499 dX6_forward_12 ?_
  refine z_astore_n (x := some a4) S [(3, va_rf (some a4)), (0, va_rf (some h0)), (1, .int x1), (2, .int x2)] dX6_forward_15 rfl (by decide) rfl ?_
  refine z_lv (lv' := [(0, va_rf (some h0)), (1, .int x1), (2, .int x2), (3, va_rf (some a4))]) [1, 2, 3, 0] rfl ?_
  refine z_aload_n (x := some h0) S 0 dX6_forward_16 rfl rfl ?_
  refine z_iload_n S 2 dX6_forward_17 rfl rfl ?_
  refine zx_callVv (As := [.int x2]) (st := []) S (z_ECok D cy A t0 mi) hE htb hlk (me_X6_requireBox l D cy A t0 mi _ px u3 h0 x2 hkh0 hl hw) gV_X6_66 hdV_X6_requireBox ⟨Nat.le_of_ble_eq_true rfl, Nat.le_of_ble_eq_true rfl⟩ rfl rfl (z_recvC (u := u3) hE hkh0 (by decide) rfl) (fun _ h => h.re) (fun _ _ _ h h' => h.ba h') (fun _ _ h => h) rfl (Nat.le_trans z_s0 (by decide)) dX6_forward_18 ⟨(Nat.le_of_ble_eq_true rfl), (Nat.le_of_ble_eq_true rfl)⟩ ⟨(Nat.le_of_ble_eq_true rfl), (Nat.le_of_ble_eq_true rfl)⟩ rfl (fun u5 hw => ?_)
  obtain ⟨hw, hm5⟩ := hw
  have hkh0 := hm5.k hkh0
  have hka2 := hm5.k hka2
  have hka4 := hm5.k hka4
  refine z_aload_n (x := some h0) S 0 dX6_forward_21 rfl rfl ?_
  refine zb_g_X6_22 (x := z_gR 29 h0 u5) S hE hkh0 rfl dX6_forward_22 ?_
  refine z_aload_n (x := some a4) S 3 dX6_forward_25 rfl rfl ?_
  refine zb_g_X6_173 (x := z_gI 17 a4 u5) S hE hka4 rfl dX6_forward_26 ?_
  obtain ⟨a6, ea6, hka6, hw⟩ := hw
  have hka6 : z_kd a6 u5 = 12 ∧ 12 ≠ 0 := ⟨hka6, by decide⟩
  obtain ⟨hi1, hw⟩ := hw
  refine z_st (st' := [.int (z_gI 17 a4 u5), va_rf (some a6)]) (congrArg (fun r : Option Nat => ([.int (z_gI 17 a4 u5), va_rf r] : List Value)) ea6) ?_
  refine z_caald (κ := 12) S hE hka6 (by decide) rfl hi1 dX6_forward_29 ?_
  obtain ⟨a7, ea7, hka7, hw⟩ := hw
  have hka7 : z_kd a7 u5 = 3 ∧ 3 ≠ 0 := ⟨hka7, by decide⟩
  refine z_st (st' := [va_rf (some a7)]) (congrArg (fun r : Option Nat => ([va_rf r] : List Value)) ea7) ?_
  refine zb_g_X6_174 (x := z_gR 4 a7 u5) S hE hka7 rfl dX6_forward_30 ?_
  refine z_iconst (v := 2) S dX6_forward_33 (by decide) ?_
  obtain ⟨a8, ea8, hka8, hw⟩ := hw
  have hka8 : z_kd a8 u5 = 14 ∧ 14 ≠ 0 := ⟨hka8, by decide⟩
  obtain ⟨hi2, hw⟩ := hw
  refine z_st (st' := [.int 2, va_rf (some a8)]) (congrArg (fun r : Option Nat => ([.int 2, va_rf r] : List Value)) ea8) ?_
  refine z_caald (κ := 14) S hE hka8 (by decide) rfl hi2 dX6_forward_34 ?_
  refine z_astore (x := z_aR a8 ((2 : Int32).toNatClampNeg) u5) S [(4, va_rf (z_aR a8 ((2 : Int32).toNatClampNeg) u5)), (0, va_rf (some h0)), (1, .int x1), (2, .int x2), (3, va_rf (some a4))] dX6_forward_35 (by decide) rfl ?_
  refine z_lv (lv' := [(0, va_rf (some h0)), (1, .int x1), (2, .int x2), (3, va_rf (some a4)), (4, va_rf (z_aR a8 ((2 : Int32).toNatClampNeg) u5))]) [1, 2, 3, 4, 0] rfl ?_
  refine z_aload_n (x := some a4) S 3 dX6_forward_37 rfl rfl ?_
  refine zb_g_X6_165 (x := z_gR 18 a4 u5) S hE hka4 rfl dX6_forward_38 ?_
  refine z_callSi (As := [va_rf (z_gR 18 a4 u5)]) (st := []) S (z_ECok D cy A t0 mi) hE (me_X6_costOf l D cy A t0 mi _ u5 (z_gR 18 a4 u5) hw) gS_X6_178 hdS_X6_costOf ⟨Nat.le_of_ble_eq_true rfl, Nat.le_of_ble_eq_true rfl⟩ rfl rfl (fun _ h => h.re) (fun _ _ _ h h' => h.ba h') rfl (Nat.le_trans z_s0 (by decide)) dX6_forward_41 ⟨(Nat.le_of_ble_eq_true rfl), (Nat.le_of_ble_eq_true rfl)⟩ rfl (fun r9 u9 hw => ?_)
  obtain ⟨hw, hm9⟩ := hw
  have hkh0 := hm9.k hkh0
  have hka2 := hm9.k hka2
  have hka4 := hm9.k hka4
  have hka6 := hm9.k hka6
  have hka7 := hm9.k hka7
  have hka8 := hm9.k hka8
  refine z_aload (x := z_aR a8 ((2 : Int32).toNatClampNeg) u5) S 4 dX6_forward_44 rfl ?_
  refine z_callSi (As := [va_rf (z_aR a8 ((2 : Int32).toNatClampNeg) u5)]) (st := [.int r9]) S (z_ECok D cy A t0 mi) hE (me_X6_costOf l D cy A t0 mi _ u9 (z_aR a8 ((2 : Int32).toNatClampNeg) u5) hw) gS_X6_178 hdS_X6_costOf ⟨Nat.le_of_ble_eq_true rfl, Nat.le_of_ble_eq_true rfl⟩ rfl rfl (fun _ h => h.re) (fun _ _ _ h h' => h.ba h') rfl (Nat.le_trans (z_s1 z_s0) (by decide)) dX6_forward_46 ⟨(Nat.le_of_ble_eq_true rfl), (Nat.le_of_ble_eq_true rfl)⟩ rfl (fun r10 u10 hw => ?_)
  obtain ⟨hw, hm10⟩ := hw
  have hkh0 := hm10.k hkh0
  have hka2 := hm10.k hka2
  have hka4 := hm10.k hka4
  have hka6 := hm10.k hka6
  have hka7 := hm10.k hka7
  have hka8 := hm10.k hka8
  refine z_iadd S dX6_forward_49 ?_
  refine z_istore S [(5, .int (r9 + r10)), (0, va_rf (some h0)), (1, .int x1), (2, .int x2), (3, va_rf (some a4)), (4, va_rf (z_aR a8 ((2 : Int32).toNatClampNeg) u5))] dX6_forward_50 (by decide) (by simp only [List.filter, z_rfc]; rfl) ?_
  refine z_lv (lv' := [(0, va_rf (some h0)), (1, .int x1), (2, .int x2), (3, va_rf (some a4)), (4, va_rf (z_aR a8 ((2 : Int32).toNatClampNeg) u5)), (5, .int (r9 + r10))]) [1, 2, 3, 4, 5, 0] rfl ?_
  refine z_aload_n (x := some h0) S 0 dX6_forward_52 rfl rfl ?_
  refine z_callVi (As := []) (st := []) S (z_ECok D cy A t0 mi) hE (me_X6_hasRoomForMessage l D cy A t0 mi _ u10 h0 hkh0 hw) gV_X6_81 hdV_X6_hasRoomForMessage ⟨Nat.le_of_ble_eq_true rfl, Nat.le_of_ble_eq_true rfl⟩ rfl rfl (z_recvC (u := u10) hE hkh0 (by decide) rfl) (fun _ h => h.re) (fun _ _ _ h h' => h.ba h') rfl (Nat.le_trans z_s0 (by decide)) dX6_forward_53 ⟨(Nat.le_of_ble_eq_true rfl), (Nat.le_of_ble_eq_true rfl)⟩ rfl (fun r11 u11 hw => ?_)
  obtain ⟨hw, hm11⟩ := hw
  have hkh0 := hm11.k hkh0
  have hka2 := hm11.k hka2
  have hka4 := hm11.k hka4
  have hka6 := hm11.k hka6
  have hka7 := hm11.k hka7
  have hka8 := hm11.k hka8
  refine z_if_eq S 69 dX6_forward_56 (by decide) (fun c3 => ?_) (fun c3 => ?_)
  · have hw := hw.1 c3
    exact zx_thr_58 (is := 185) (text := "there are 16 messages, or the quota does not allow it") S hE hl htb hlk (by decide) dX6_forward_69 dX6_forward_72 dX6_forward_73 dX6_forward_75 dX6_forward_78 (Nat.le_of_ble_eq_true rfl) (Nat.le_of_ble_eq_true rfl) (Nat.le_of_ble_eq_true rfl) (Nat.le_of_ble_eq_true rfl) (Nat.le_of_ble_eq_true rfl) (Nat.le_of_ble_eq_true rfl) hw
  · have hw := hw.2 c3
    refine z_aload_n (x := some h0) S 0 dX6_forward_59 rfl rfl ?_
    refine z_iload_n S 2 dX6_forward_60 rfl rfl ?_
    refine z_iload S 5 dX6_forward_61 rfl ?_
    refine z_callVi (As := [.int x2, .int (r9 + r10)]) (st := []) S (z_ECok D cy A t0 mi) hE (me_X6_isWithinQuota l D cy A t0 mi _ u11 h0 x2 (r9 + r10) hkh0 hw) gV_X6_181 hdV_X6_isWithinQuota ⟨Nat.le_of_ble_eq_true rfl, Nat.le_of_ble_eq_true rfl⟩ rfl rfl (z_recvC (u := u11) hE hkh0 (by decide) rfl) (fun _ h => h.re) (fun _ _ _ h h' => h.ba h') rfl (Nat.le_trans z_s0 (by decide)) dX6_forward_63 ⟨(Nat.le_of_ble_eq_true rfl), (Nat.le_of_ble_eq_true rfl)⟩ rfl (fun r12 u12 hw => ?_)
    obtain ⟨hw, hm12⟩ := hw
    have hkh0 := hm12.k hkh0
    have hka2 := hm12.k hka2
    have hka4 := hm12.k hka4
    have hka6 := hm12.k hka6
    have hka7 := hm12.k hka7
    have hka8 := hm12.k hka8
    refine z_if_ne S 79 dX6_forward_66 (by decide) (fun c4 => ?_) (fun c4 => ?_)
    · have hw := hw.1 c4
      refine z_aload_n (x := some h0) S 0 dX6_forward_79 rfl rfl ?_
      refine z_iload_n S 2 dX6_forward_80 rfl rfl ?_
      refine z_aload_n (x := some a4) S 3 dX6_forward_81 rfl rfl ?_
      refine zb_g_X6_165 (x := z_gR 18 a4 u12) S hE hka4 rfl dX6_forward_82 ?_
      refine z_aload (x := z_aR a8 ((2 : Int32).toNatClampNeg) u5) S 4 dX6_forward_85 rfl ?_
      refine z_callVi (As := [.int x2, va_rf (z_gR 18 a4 u12), va_rf (z_aR a8 ((2 : Int32).toNatClampNeg) u5)]) (st := []) S (z_ECok D cy A t0 mi) hE (me_X6_addMessage l D cy A t0 mi _ u12 h0 x2 (z_gR 18 a4 u12) (z_aR a8 ((2 : Int32).toNatClampNeg) u5) hkh0 hw) gV_X6_130 hdV_X6_addMessage ⟨Nat.le_of_ble_eq_true rfl, Nat.le_of_ble_eq_true rfl⟩ rfl rfl (z_recvC (u := u12) hE hkh0 (by decide) rfl) (fun _ h => h.re) (fun _ _ _ h h' => h.ba h') rfl (Nat.le_trans z_s0 (by decide)) dX6_forward_87 ⟨(Nat.le_of_ble_eq_true rfl), (Nat.le_of_ble_eq_true rfl)⟩ rfl (fun r13 u13 hw => ?_)
      obtain ⟨hw, hm13⟩ := hw
      have hkh0 := hm13.k hkh0
      have hka2 := hm13.k hka2
      have hka4 := hm13.k hka4
      have hka6 := hm13.k hka6
      have hka7 := hm13.k hka7
      have hka8 := hm13.k hka8
      exact z_cxiret S hr hlk dX6_forward_90 (Nat.le_of_ble_eq_true rfl) (Nat.le_of_ble_eq_true rfl) hw
    · have hw := hw.2 c4
      exact zx_thr_58 (is := 185) (text := "there are 16 messages, or the quota does not allow it") S hE hl htb hlk (by decide) dX6_forward_69 dX6_forward_72 dX6_forward_73 dX6_forward_75 dX6_forward_78 (Nat.le_of_ble_eq_true rfl) (Nat.le_of_ble_eq_true rfl) (Nat.le_of_ble_eq_true rfl) (Nat.le_of_ble_eq_true rfl) (Nat.le_of_ble_eq_true rfl) (Nat.le_of_ble_eq_true rfl) hw
theorem me_X6_forward (l : Launch) (D : va_G) (cy : Nat → ClassId) (A : Nat → Prop) (t0 mi : Nat) (post : Int32 → z_St → Prop) (px : String → z_St → Prop) (u : z_St) (h0 : Nat) (x1 : Int32) (x2 : Int32) (hkh0 : z_kd h0 u = 8 ∧ 8 ≠ 0) (hl : l.stackTraces = false) (hw : w_X6_forward post px t0 mi h0 u x1 x2) : zx_Mi l yX6_forward (Cond.code yX6_forward cX6_forward 6 (some .int) :: z_T) rm_X6_forward [va_rf (some h0), .int x1, .int x2] (z_EC D cy A t0 mi) (z_hC D cy A t0 u) u (fun r u' => post r u' ∧ z_mono u u') px 4 41 A :=
  zx_met (by decide) (Nat.le_of_ble_eq_true rfl) (fun p e s m args below meth c S hlk hr hnm htb hE => mb_X6_forward S hlk hr hE hl htb u x1 x2 hkh0 hw)
abbrev rm_X6_gapPrice : Room := { frames := 0, cells := 0, slots := 0, locals := 0 }
def w_X6_gapPrice (post : Int32 → z_St → Prop) (t0 mi h0 : Nat) (u : z_St) (x1 : Int32) : Prop := ((¬ x1 = 2 → (∀ y2 : Int32, y2 = (if (x1 - x1 / 4 * 4) = 0 then 1 else 0) → (post y2 u))) ∧ (x1 = 2 → (post (-1) u)))
set_option maxRecDepth 20000 in
theorem mb_X6_gapPrice {p : Program} {l : Launch} {e : Env} {s : State} {m : MethodId} {args : Array Value} {below : List Frame} {meth : Method} {c : Code} {D : va_G} {cy : Nat → ClassId} {A : Nat → Prop} {t0 mi : Nat} {u0 : z_St} {h0 : Nat} (S : CallFix p m c cX6_gapPrice 2 s args z_T RX6) (hlk : meth.locks = false) (hr : meth.sig.returnType = (some .int)) (hE : z_EC D cy A t0 mi s) {post : Int32 → z_St → Prop}  (u : z_St) (x1 : Int32) (hkh0 : z_kd h0 u = 8 ∧ 8 ≠ 0) (hw : w_X6_gapPrice post t0 mi h0 u x1) : z_V A (z_hC D cy A t0 u0) p l e rm_X6_gapPrice s m args below meth c 2 (MQ below (va_Qi (fun r (u' : z_St) => post r u' ∧ z_mono u0 u') (fun (u' : z_St) t => z_hC D cy A t0 u0 u' t.heap) A) args s 0 0 A) 0 0 u 0 [(0, va_rf (some h0)), (1, .int x1)] [] := by
  refine z_iload_n S 1 dX6_gapPrice_0 rfl rfl ?_
  refine z_iconst (v := 2) S dX6_gapPrice_1 (by decide) ?_
  refine z_icmp_ne S 7 dX6_gapPrice_2 (by decide) (fun c1 => ?_) (fun c1 => ?_)
  · have hw := hw.1 c1
    refine z_iload_n S 1 dX6_gapPrice_7 rfl rfl ?_
    refine z_iconst (v := 4) S dX6_gapPrice_8 (by decide) ?_
    refine z_irem S dX6_gapPrice_9 (by decide) ?_
    suffices hJ : ∀ y2 : Int32, y2 = (if (x1 - x1 / 4 * 4) = 0 then 1 else 0) → z_V A (z_hC D cy A t0 u0) p l e rm_X6_gapPrice s m args below meth c 2 (MQ below (va_Qi (fun r (u' : z_St) => post r u' ∧ z_mono u0 u') (fun (u' : z_St) t => z_hC D cy A t0 u0 u' t.heap) A) args s 0 0 A) 0 0 u 18 [] [.int y2] from by
      refine z_if_ne S 17 dX6_gapPrice_10 (by decide) (fun c3 => ?_) (fun c3 => ?_)
      · refine z_iconst (v := 0) S dX6_gapPrice_17 (by decide) ?_
        refine z_lv (lv' := []) [] rfl ?_
        exact hJ _ (by rw [if_neg c3])
      · refine z_iconst (v := 1) S dX6_gapPrice_13 (by decide) ?_
        refine z_goto S 18 dX6_gapPrice_14 (by decide) ?_
        refine z_lv (lv' := []) [] rfl ?_
        exact hJ _ (by rw [if_pos c3])
    intro y2 ey2
    have hw := hw y2 ey2
    exact z_ciret S hr hlk dX6_gapPrice_18 (Nat.le_of_ble_eq_true rfl) (Nat.le_of_ble_eq_true rfl) hw
  · have hw := hw.2 c1
    refine z_iconst (v := (-1)) S dX6_gapPrice_5 (by decide) ?_
    exact z_ciret S hr hlk dX6_gapPrice_6 (Nat.le_of_ble_eq_true rfl) (Nat.le_of_ble_eq_true rfl) hw
theorem me_X6_gapPrice (l : Launch) (D : va_G) (cy : Nat → ClassId) (A : Nat → Prop) (t0 mi : Nat) (post : Int32 → z_St → Prop) (u : z_St) (h0 : Nat) (x1 : Int32) (hkh0 : z_kd h0 u = 8 ∧ 8 ≠ 0) (hw : w_X6_gapPrice post t0 mi h0 u x1) : z_Mi l yX6_gapPrice (Cond.code yX6_gapPrice cX6_gapPrice 2 (some .int) :: z_T) rm_X6_gapPrice [va_rf (some h0), .int x1] (z_EC D cy A t0 mi) (z_hC D cy A t0 u) u (fun r u' => post r u' ∧ z_mono u u') 0 0 A :=
  z_met (by decide) (Nat.le_of_ble_eq_true rfl) (fun p e s m args below meth c S hlk hr hnm hE => mb_X6_gapPrice S hlk hr hE u x1 hkh0 hw)
abbrev rm_X6_requireOwn : Room := { frames := 6, cells := 1, slots := 6, locals := 90 }
def w_X6_requireOwn (post : z_St → Prop) (px : String → z_St → Prop) (t0 mi h0 : Nat) (u : z_St) (x1 : Int32) : Prop := ((x1 < 0 → (px "java/lang/IllegalArgumentException" u)) ∧ (¬ x1 < 0 → ((x1 < 3 → (post u)) ∧ (¬ x1 < 3 → (px "java/lang/IllegalArgumentException" u)))))
set_option maxRecDepth 20000 in
theorem mb_X6_requireOwn {p : Program} {l : Launch} {e : Env} {s : State} {m : MethodId} {args : Array Value} {below : List Frame} {meth : Method} {c : Code} {D : va_G} {cy : Nat → ClassId} {A : Nat → Prop} {t0 mi : Nat} {u0 : z_St} {h0 : Nat} (S : CallFix p m c cX6_requireOwn 2 s args z_T RX6) (hlk : meth.locks = false) (hr : meth.sig.returnType = none) (hE : z_EC D cy A t0 mi s) (hl : l.stackTraces = false) (htb : ∀ x ∈ c.exceptionTable.toList, False) {post : z_St → Prop} {px : String → z_St → Prop}  (u : z_St) (x1 : Int32) (hkh0 : z_kd h0 u = 8 ∧ 8 ≠ 0) (hw : w_X6_requireOwn post px t0 mi h0 u x1) : z_V A (z_hC D cy A t0 u0) p l e rm_X6_requireOwn s m args below meth c 2 (vx_MQ below (va_Qv (fun (u' : z_St) => post u' ∧ z_mono u0 u') (fun (u' : z_St) t => z_hC D cy A t0 u0 u' t.heap) A) (zx_X px (z_hC D cy A t0 u0) A) args s 1 6 A) 0 0 u 0 [(0, va_rf (some h0)), (1, .int x1)] [] := by
  refine z_iload_n S 1 dX6_requireOwn_0 rfl rfl ?_
  refine z_if_lt S 9 dX6_requireOwn_1 (by decide) (fun c1 => ?_) (fun c1 => ?_)
  · have hw := hw.1 c1
    exact zx_thr_51 (is := 244) (text := "a box has no such recording") S hE hl htb hlk (by decide) dX6_requireOwn_9 dX6_requireOwn_12 dX6_requireOwn_13 dX6_requireOwn_15 dX6_requireOwn_18 (Nat.le_of_ble_eq_true rfl) (Nat.le_of_ble_eq_true rfl) (Nat.le_of_ble_eq_true rfl) (Nat.le_of_ble_eq_true rfl) (Nat.le_of_ble_eq_true rfl) (Nat.le_of_ble_eq_true rfl) hw
  · have hw := hw.2 c1
    refine z_iload_n S 1 dX6_requireOwn_4 rfl rfl ?_
    refine z_iconst (v := 3) S dX6_requireOwn_5 (by decide) ?_
    refine z_icmp_lt S 19 dX6_requireOwn_6 (by decide) (fun c2 => ?_) (fun c2 => ?_)
    · have hw := hw.1 c2
      exact z_cxvret S hr hlk dX6_requireOwn_19 (Nat.le_of_ble_eq_true rfl) (Nat.le_of_ble_eq_true rfl) hw
    · have hw := hw.2 c2
      exact zx_thr_51 (is := 244) (text := "a box has no such recording") S hE hl htb hlk (by decide) dX6_requireOwn_9 dX6_requireOwn_12 dX6_requireOwn_13 dX6_requireOwn_15 dX6_requireOwn_18 (Nat.le_of_ble_eq_true rfl) (Nat.le_of_ble_eq_true rfl) (Nat.le_of_ble_eq_true rfl) (Nat.le_of_ble_eq_true rfl) (Nat.le_of_ble_eq_true rfl) (Nat.le_of_ble_eq_true rfl) hw
theorem me_X6_requireOwn (l : Launch) (D : va_G) (cy : Nat → ClassId) (A : Nat → Prop) (t0 mi : Nat) (post : z_St → Prop) (px : String → z_St → Prop) (u : z_St) (h0 : Nat) (x1 : Int32) (hkh0 : z_kd h0 u = 8 ∧ 8 ≠ 0) (hl : l.stackTraces = false) (hw : w_X6_requireOwn post px t0 mi h0 u x1) : zx_Mv l yX6_requireOwn (Cond.code yX6_requireOwn cX6_requireOwn 2 none :: z_T) rm_X6_requireOwn [va_rf (some h0), .int x1] (z_EC D cy A t0 mi) (z_hC D cy A t0 u) u (fun u' => post u' ∧ z_mono u u') px 1 6 A :=
  zx_met (by decide) (Nat.le_of_ble_eq_true rfl) (fun p e s m args below meth c S hlk hr hnm htb hE => mb_X6_requireOwn S hlk hr hE hl htb u x1 hkh0 hw)
abbrev rm_X6_soundOf : Room := { frames := 2, cells := 0, slots := 0, locals := 47 }
def w_X6_soundOf (post : Int32 → z_St → Prop) (t0 mi : Nat) (u : z_St) (x0 : Option Nat) (x1 : Int32) : Prop := ((¬ x0 = none → (∃ a1 : Nat, x0 = some a1 ∧ z_kd a1 u = 6 ∧ (w_X4_soundAt (fun r2 u2 => (post r2 u2)) t0 mi a1 u x1))) ∧ (x0 = none → (post 0 u)))
set_option maxRecDepth 20000 in
theorem mb_X6_soundOf {p : Program} {l : Launch} {e : Env} {s : State} {m : MethodId} {args : Array Value} {below : List Frame} {meth : Method} {c : Code} {D : va_G} {cy : Nat → ClassId} {A : Nat → Prop} {t0 mi : Nat} {u0 : z_St} (S : CallFix p m c cX6_soundOf 2 s args z_T RX6) (hlk : meth.locks = false) (hr : meth.sig.returnType = (some .int)) (hE : z_EC D cy A t0 mi s) {post : Int32 → z_St → Prop}  (u : z_St) (x0 : Option Nat) (x1 : Int32) (hw : w_X6_soundOf post t0 mi u x0 x1) : z_V A (z_hC D cy A t0 u0) p l e rm_X6_soundOf s m args below meth c 2 (MQ below (va_Qi (fun r (u' : z_St) => post r u' ∧ z_mono u0 u') (fun (u' : z_St) t => z_hC D cy A t0 u0 u' t.heap) A) args s 0 0 A) 0 0 u 0 [(0, va_rf x0), (1, .int x1)] [] := by
  refine z_aload_n (x := x0) S 0 dX6_soundOf_0 rfl rfl ?_
  refine z_ifnonnull (r := x0) S 8 dX6_soundOf_1 (by decide) (fun c1 => ?_) (fun c1 => ?_)
  · have hw := hw.1 c1
    refine z_aload_n (x := x0) S 0 dX6_soundOf_8 rfl rfl ?_
    refine z_iload_n S 1 dX6_soundOf_9 rfl rfl ?_
    obtain ⟨a1, ea1, hka1, hw⟩ := hw
    have hka1 : z_kd a1 u = 6 ∧ 6 ≠ 0 := ⟨hka1, by decide⟩
    refine z_st (st' := [.int x1, va_rf (some a1)]) (congrArg (fun r : Option Nat => ([.int x1, va_rf r] : List Value)) ea1) ?_
    refine z_callVi (As := [.int x1]) (st := []) S (z_ECok D cy A t0 mi) hE (me_X4_soundAt l D cy A t0 mi _ u a1 x1 hka1 hw) gV_X6_316 hdV_X4_soundAt ⟨Nat.le_of_ble_eq_true rfl, Nat.le_of_ble_eq_true rfl⟩ rfl rfl (z_recvC (u := u) hE hka1 (by decide) rfl) (fun _ h => h.re) (fun _ _ _ h h' => h.ba h') rfl (Nat.le_trans z_s0 (by decide)) dX6_soundOf_10 ⟨(Nat.le_of_ble_eq_true rfl), (Nat.le_of_ble_eq_true rfl)⟩ rfl (fun r2 u2 hw => ?_)
    obtain ⟨hw, hm2⟩ := hw
    have hka1 := hm2.k hka1
    exact z_ciret S hr hlk dX6_soundOf_13 (Nat.le_of_ble_eq_true rfl) (Nat.le_of_ble_eq_true rfl) hw
  · have hw := hw.2 c1
    refine z_iconst (v := 0) S dX6_soundOf_4 (by decide) ?_
    refine z_goto S 13 dX6_soundOf_5 (by decide) ?_
    exact z_ciret S hr hlk dX6_soundOf_13 (Nat.le_of_ble_eq_true rfl) (Nat.le_of_ble_eq_true rfl) hw
theorem me_X6_soundOf (l : Launch) (D : va_G) (cy : Nat → ClassId) (A : Nat → Prop) (t0 mi : Nat) (post : Int32 → z_St → Prop) (u : z_St) (x0 : Option Nat) (x1 : Int32) (hw : w_X6_soundOf post t0 mi u x0 x1) : z_Mi l yX6_soundOf (Cond.code yX6_soundOf cX6_soundOf 2 (some .int) :: z_T) rm_X6_soundOf [va_rf x0, .int x1] (z_EC D cy A t0 mi) (z_hC D cy A t0 u) u (fun r u' => post r u' ∧ z_mono u u') 0 0 A :=
  z_met (by decide) (by simp [lg_sl, z_rfc, z_ic]) (fun p e s m args below meth c S hlk hr hnm hE => (by simp [lv_args, z_rfc, z_ic] : lv_args 0 [va_rf x0, .int x1] = [(0, va_rf x0), (1, .int x1)]) ▸ mb_X6_soundOf S hlk hr hE u x0 x1 hw)
abbrev rm_X6_greeting : Room := { frames := 7, cells := 3, slots := 18, locals := 111 }
def w_X6_greeting (post : Int32 → z_St → Prop) (px : String → z_St → Prop) (t0 mi h0 : Nat) (u : z_St) (x1 : Int32) (x2 : Int32) (x3 : Int32) : Prop := (w_X6_requireBox (fun u1 => (w_X6_requireOwn (fun u2 => (∃ a3 : Nat, z_gR 29 h0 u2 = some a3 ∧ z_kd a3 u2 = 12 ∧ (vp_in x1 (z_ln a3 u2) ∧ (∃ a4 : Nat, z_aR a3 x1.toNatClampNeg u2 = some a4 ∧ z_kd a4 u2 = 3 ∧ (∃ a5 : Nat, z_gR 4 a4 u2 = some a5 ∧ z_kd a5 u2 = 14 ∧ (vp_in x2 (z_ln a5 u2) ∧ ((x3 < 0 → (px "java/lang/IndexOutOfBoundsException" u2)) ∧ (¬ x3 < 0 → (w_X6_samplesOf (fun r6 u6 => ((x3 < r6 → (w_X6_soundOf (fun r7 u7 => (post r7 u7)) t0 mi u6 (z_aR a5 x2.toNatClampNeg u2) x3)) ∧ (¬ x3 < r6 → (px "java/lang/IndexOutOfBoundsException" u6)))) t0 mi u2 (z_aR a5 x2.toNatClampNeg u2)))))))))) px t0 mi h0 u1 x2)) px t0 mi h0 u x1)
set_option maxRecDepth 20000 in
theorem mb_X6_greeting {p : Program} {l : Launch} {e : Env} {s : State} {m : MethodId} {args : Array Value} {below : List Frame} {meth : Method} {c : Code} {D : va_G} {cy : Nat → ClassId} {A : Nat → Prop} {t0 mi : Nat} {u0 : z_St} {h0 : Nat} (S : CallFix p m c cX6_greeting 5 s args z_T RX6) (hlk : meth.locks = false) (hr : meth.sig.returnType = (some .int)) (hE : z_EC D cy A t0 mi s) (hl : l.stackTraces = false) (htb : ∀ x ∈ c.exceptionTable.toList, False) {post : Int32 → z_St → Prop} {px : String → z_St → Prop}  (u : z_St) (x1 : Int32) (x2 : Int32) (x3 : Int32) (hkh0 : z_kd h0 u = 8 ∧ 8 ≠ 0) (hw : w_X6_greeting post px t0 mi h0 u x1 x2 x3) : z_V A (z_hC D cy A t0 u0) p l e rm_X6_greeting s m args below meth c 5 (vx_MQ below (va_Qi (fun r (u' : z_St) => post r u' ∧ z_mono u0 u') (fun (u' : z_St) t => z_hC D cy A t0 u0 u' t.heap) A) (zx_X px (z_hC D cy A t0 u0) A) args s 3 18 A) 0 0 u 0 [(0, va_rf (some h0)), (1, .int x1), (2, .int x2), (3, .int x3)] [] := by
  refine z_aload_n (x := some h0) S 0 dX6_greeting_0 rfl rfl ?_
  refine z_iload_n S 1 dX6_greeting_1 rfl rfl ?_
  refine zx_callVv (As := [.int x1]) (st := []) S (z_ECok D cy A t0 mi) hE htb hlk (me_X6_requireBox l D cy A t0 mi _ px u h0 x1 hkh0 hl hw) gV_X6_66 hdV_X6_requireBox ⟨Nat.le_of_ble_eq_true rfl, Nat.le_of_ble_eq_true rfl⟩ rfl rfl (z_recvC (u := u) hE hkh0 (by decide) rfl) (fun _ h => h.re) (fun _ _ _ h h' => h.ba h') (fun _ _ h => h) rfl (Nat.le_trans z_s0 (by decide)) dX6_greeting_2 ⟨(Nat.le_of_ble_eq_true rfl), (Nat.le_of_ble_eq_true rfl)⟩ ⟨(Nat.le_of_ble_eq_true rfl), (Nat.le_of_ble_eq_true rfl)⟩ rfl (fun u1 hw => ?_)
  obtain ⟨hw, hm1⟩ := hw
  have hkh0 := hm1.k hkh0
  refine z_aload_n (x := some h0) S 0 dX6_greeting_5 rfl rfl ?_
  refine z_iload_n S 2 dX6_greeting_6 rfl rfl ?_
  refine zx_callVv (As := [.int x2]) (st := []) S (z_ECok D cy A t0 mi) hE htb hlk (me_X6_requireOwn l D cy A t0 mi _ px u1 h0 x2 hkh0 hl hw) gV_X6_196 hdV_X6_requireOwn ⟨Nat.le_of_ble_eq_true rfl, Nat.le_of_ble_eq_true rfl⟩ rfl rfl (z_recvC (u := u1) hE hkh0 (by decide) rfl) (fun _ h => h.re) (fun _ _ _ h h' => h.ba h') (fun _ _ h => h) rfl (Nat.le_trans z_s0 (by decide)) dX6_greeting_7 ⟨(Nat.le_of_ble_eq_true rfl), (Nat.le_of_ble_eq_true rfl)⟩ ⟨(Nat.le_of_ble_eq_true rfl), (Nat.le_of_ble_eq_true rfl)⟩ rfl (fun u2 hw => ?_)
  obtain ⟨hw, hm2⟩ := hw
  have hkh0 := hm2.k hkh0
  refine z_aload_n (x := some h0) S 0 dX6_greeting_10 rfl rfl ?_
  refine zb_g_X6_22 (x := z_gR 29 h0 u2) S hE hkh0 rfl dX6_greeting_11 ?_
  refine z_iload_n S 1 dX6_greeting_14 rfl rfl ?_
  obtain ⟨a3, ea3, hka3, hw⟩ := hw
  have hka3 : z_kd a3 u2 = 12 ∧ 12 ≠ 0 := ⟨hka3, by decide⟩
  obtain ⟨hi1, hw⟩ := hw
  refine z_st (st' := [.int x1, va_rf (some a3)]) (congrArg (fun r : Option Nat => ([.int x1, va_rf r] : List Value)) ea3) ?_
  refine z_caald (κ := 12) S hE hka3 (by decide) rfl hi1 dX6_greeting_15 ?_
  obtain ⟨a4, ea4, hka4, hw⟩ := hw
  have hka4 : z_kd a4 u2 = 3 ∧ 3 ≠ 0 := ⟨hka4, by decide⟩
  refine z_st (st' := [va_rf (some a4)]) (congrArg (fun r : Option Nat => ([va_rf r] : List Value)) ea4) ?_
  refine zb_g_X6_174 (x := z_gR 4 a4 u2) S hE hka4 rfl dX6_greeting_16 ?_
  refine z_iload_n S 2 dX6_greeting_19 rfl rfl ?_
  obtain ⟨a5, ea5, hka5, hw⟩ := hw
  have hka5 : z_kd a5 u2 = 14 ∧ 14 ≠ 0 := ⟨hka5, by decide⟩
  obtain ⟨hi2, hw⟩ := hw
  refine z_st (st' := [.int x2, va_rf (some a5)]) (congrArg (fun r : Option Nat => ([.int x2, va_rf r] : List Value)) ea5) ?_
  refine z_caald (κ := 14) S hE hka5 (by decide) rfl hi2 dX6_greeting_20 ?_
  refine z_astore (x := z_aR a5 x2.toNatClampNeg u2) S [(4, va_rf (z_aR a5 x2.toNatClampNeg u2)), (0, va_rf (some h0)), (1, .int x1), (2, .int x2), (3, .int x3)] dX6_greeting_21 (by decide) rfl ?_
  refine z_lv (lv' := [(0, va_rf (some h0)), (1, .int x1), (2, .int x2), (3, .int x3), (4, va_rf (z_aR a5 x2.toNatClampNeg u2))]) [1, 2, 3, 4, 0] rfl ?_
  refine z_iload_n S 3 dX6_greeting_23 rfl rfl ?_
  refine z_if_lt S 36 dX6_greeting_24 (by decide) (fun c3 => ?_) (fun c3 => ?_)
  · have hw := hw.1 c3
    exact zx_thr_144 (is := 199) (text := "the recording has no such sample") S hE hl htb hlk (by decide) dX6_greeting_36 dX6_greeting_39 dX6_greeting_40 dX6_greeting_42 dX6_greeting_45 (Nat.le_of_ble_eq_true rfl) (Nat.le_of_ble_eq_true rfl) (Nat.le_of_ble_eq_true rfl) (Nat.le_of_ble_eq_true rfl) (Nat.le_of_ble_eq_true rfl) (Nat.le_of_ble_eq_true rfl) hw
  · have hw := hw.2 c3
    refine z_iload_n S 3 dX6_greeting_27 rfl rfl ?_
    refine z_aload (x := z_aR a5 x2.toNatClampNeg u2) S 4 dX6_greeting_28 rfl ?_
    refine z_callSi (As := [va_rf (z_aR a5 x2.toNatClampNeg u2)]) (st := [.int x3]) S (z_ECok D cy A t0 mi) hE (me_X6_samplesOf l D cy A t0 mi _ u2 (z_aR a5 x2.toNatClampNeg u2) hw) gS_X6_187 hdS_X6_samplesOf ⟨Nat.le_of_ble_eq_true rfl, Nat.le_of_ble_eq_true rfl⟩ rfl rfl (fun _ h => h.re) (fun _ _ _ h h' => h.ba h') rfl (Nat.le_trans (z_s1 z_s0) (by decide)) dX6_greeting_30 ⟨(Nat.le_of_ble_eq_true rfl), (Nat.le_of_ble_eq_true rfl)⟩ rfl (fun r6 u6 hw => ?_)
    obtain ⟨hw, hm6⟩ := hw
    have hkh0 := hm6.k hkh0
    have hka3 := hm6.k hka3
    have hka4 := hm6.k hka4
    have hka5 := hm6.k hka5
    refine z_icmp_lt S 46 dX6_greeting_33 (by decide) (fun c4 => ?_) (fun c4 => ?_)
    · have hw := hw.1 c4
      refine z_aload (x := z_aR a5 x2.toNatClampNeg u2) S 4 dX6_greeting_46 rfl ?_
      refine z_iload_n S 3 dX6_greeting_48 rfl rfl ?_
      refine z_callSi (As := [va_rf (z_aR a5 x2.toNatClampNeg u2), .int x3]) (st := []) S (z_ECok D cy A t0 mi) hE (me_X6_soundOf l D cy A t0 mi _ u6 (z_aR a5 x2.toNatClampNeg u2) x3 hw) gS_X6_192 hdS_X6_soundOf ⟨Nat.le_of_ble_eq_true rfl, Nat.le_of_ble_eq_true rfl⟩ rfl rfl (fun _ h => h.re) (fun _ _ _ h h' => h.ba h') rfl (Nat.le_trans z_s0 (by decide)) dX6_greeting_49 ⟨(Nat.le_of_ble_eq_true rfl), (Nat.le_of_ble_eq_true rfl)⟩ rfl (fun r7 u7 hw => ?_)
      obtain ⟨hw, hm7⟩ := hw
      have hkh0 := hm7.k hkh0
      have hka3 := hm7.k hka3
      have hka4 := hm7.k hka4
      have hka5 := hm7.k hka5
      exact z_cxiret S hr hlk dX6_greeting_52 (Nat.le_of_ble_eq_true rfl) (Nat.le_of_ble_eq_true rfl) hw
    · have hw := hw.2 c4
      exact zx_thr_144 (is := 199) (text := "the recording has no such sample") S hE hl htb hlk (by decide) dX6_greeting_36 dX6_greeting_39 dX6_greeting_40 dX6_greeting_42 dX6_greeting_45 (Nat.le_of_ble_eq_true rfl) (Nat.le_of_ble_eq_true rfl) (Nat.le_of_ble_eq_true rfl) (Nat.le_of_ble_eq_true rfl) (Nat.le_of_ble_eq_true rfl) (Nat.le_of_ble_eq_true rfl) hw
theorem me_X6_greeting (l : Launch) (D : va_G) (cy : Nat → ClassId) (A : Nat → Prop) (t0 mi : Nat) (post : Int32 → z_St → Prop) (px : String → z_St → Prop) (u : z_St) (h0 : Nat) (x1 : Int32) (x2 : Int32) (x3 : Int32) (hkh0 : z_kd h0 u = 8 ∧ 8 ≠ 0) (hl : l.stackTraces = false) (hw : w_X6_greeting post px t0 mi h0 u x1 x2 x3) : zx_Mi l yX6_greeting (Cond.code yX6_greeting cX6_greeting 5 (some .int) :: z_T) rm_X6_greeting [va_rf (some h0), .int x1, .int x2, .int x3] (z_EC D cy A t0 mi) (z_hC D cy A t0 u) u (fun r u' => post r u' ∧ z_mono u u') px 3 18 A :=
  zx_met (by decide) (Nat.le_of_ble_eq_true rfl) (fun p e s m args below meth c S hlk hr hnm htb hE => mb_X6_greeting S hlk hr hE hl htb u x1 x2 x3 hkh0 hw)
abbrev rm_X6_takeFrame : Room := { frames := 6, cells := 0, slots := 0, locals := 137 }
def w_X6_takeFrame_79 (post : z_St → Prop) (t0 mi h0 : Nat) (u : z_St) (x1 : Option Nat) (x2 : Int32) (x4 : Int32) : Prop := (∃ a1 : Nat, x1 = some a1 ∧ z_kd a1 u = 4 ∧ (∀ y1 : Int32, y1 = (if x2 = 0 then 0 else (z_gI 13 a1 u) + 1) → (∃ a2 : Nat, z_gR 12 a1 u = some a2 ∧ z_kd a2 (z_pI 13 a1 y1 u) = 6 ∧ (post (z_pI 23 a2 ((z_gI 23 a2 u) + 8) (z_pI 24 a2 ((z_gI 24 a2 u) + x4) (z_pI 13 a1 y1 u)))))))
def w_X6_takeFrame_39 (post : z_St → Prop) (t0 mi h0 : Nat) (u : z_St) (x1 : Option Nat) (x2 : Int32) (x3 : Int32) (z0 : Int32) : Prop := (∃ a1 : Nat, x1 = some a1 ∧ z_kd a1 u = 4 ∧ (w_X6_fits (fun r2 u2 => ((¬ r2 = 0 → ((x3 = 0 → (w_X6_codeFrame (fun u3 => (w_X6_takeFrame_79 post t0 mi h0 u3 x1 x2 z0)) t0 mi h0 u2 x1)) ∧ (¬ x3 = 0 → (w_X2_lengthenGap (fun u4 => (w_X6_takeFrame_79 post t0 mi h0 u4 x1 x2 z0)) t0 mi a1 u2 )))) ∧ (r2 = 0 → (post (z_pI 9 a1 1 u2))))) t0 mi h0 (z_pI 7 a1 0 u) x1 x3 z0))
def w_X6_takeFrame (post : z_St → Prop) (t0 mi h0 : Nat) (u : z_St) (x1 : Option Nat) : Prop := (∃ a1 : Nat, x1 = some a1 ∧ z_kd a1 u = 4 ∧ (w_X2_isFrameQuiet (fun r2 u2 => (∀ y1 : Int32, y1 = (if r2 = 0 then 0 else (if (z_gI 13 a1 u2) < 2 then 0 else 1)) → ((y1 = 0 → (w_X6_takeFrame_39 post t0 mi h0 u2 x1 r2 y1 1)) ∧ (¬ y1 = 0 → (w_X6_gapPrice (fun r3 u3 => (w_X6_takeFrame_39 post t0 mi h0 u3 x1 r2 y1 r3)) t0 mi h0 u2 (z_gI 13 a1 u2)))))) t0 mi a1 u ))
set_option maxRecDepth 20000 in
theorem mb_X6_takeFrame_79 {p : Program} {l : Launch} {e : Env} {s : State} {m : MethodId} {args : Array Value} {below : List Frame} {meth : Method} {c : Code} {D : va_G} {cy : Nat → ClassId} {A : Nat → Prop} {t0 mi : Nat} {u0 : z_St} {h0 : Nat} (S : CallFix p m c cX6_takeFrame 5 s args z_T RX6) (hlk : meth.locks = false) (hr : meth.sig.returnType = none) (hE : z_EC D cy A t0 mi s) {post : z_St → Prop}  (u : z_St) (x1 : Option Nat) (x2 : Int32) (x4 : Int32) (hkh0 : z_kd h0 u = 8 ∧ 8 ≠ 0) (hw : w_X6_takeFrame_79 post t0 mi h0 u x1 x2 x4) : z_V A (z_hC D cy A t0 u0) p l e rm_X6_takeFrame s m args below meth c 5 (MQ below (va_Qv (fun (u' : z_St) => post u' ∧ z_mono u0 u') (fun (u' : z_St) t => z_hC D cy A t0 u0 u' t.heap) A) args s 0 0 A) 0 0 u 79 [(1, va_rf x1), (2, .int x2), (4, .int x4)] [] := by
  refine z_aload_n (x := x1) S 0 dX6_takeFrame_79 rfl rfl ?_
  refine z_iload_n S 1 dX6_takeFrame_80 rfl rfl ?_
  obtain ⟨a1, ea1, hka1, hw⟩ := hw
  have hka1 : z_kd a1 u = 4 ∧ 4 ≠ 0 := ⟨hka1, by decide⟩
  suffices hJ : ∀ y1 : Int32, y1 = (if x2 = 0 then 0 else (z_gI 13 a1 u) + 1) → z_V A (z_hC D cy A t0 u0) p l e rm_X6_takeFrame s m args below meth c 5 (MQ below (va_Qv (fun (u' : z_St) => post u' ∧ z_mono u0 u') (fun (u' : z_St) t => z_hC D cy A t0 u0 u' t.heap) A) args s 0 0 A) 0 0 u 94 [(1, va_rf x1), (4, .int x4)] [.int y1, va_rf x1] from by
    refine z_if_eq S 93 dX6_takeFrame_81 (by decide) (fun c2 => ?_) (fun c2 => ?_)
    · refine z_iconst (v := 0) S dX6_takeFrame_93 (by decide) ?_
      refine z_lv (lv' := [(1, va_rf x1), (4, .int x4)]) [0, 2] rfl ?_
      exact hJ _ (by rw [if_pos c2])
    · refine z_aload_n (x := x1) S 0 dX6_takeFrame_84 rfl rfl ?_
      refine z_st (st' := [va_rf (some a1), va_rf x1]) (congrArg (fun r : Option Nat => ([va_rf r, va_rf x1] : List Value)) ea1) ?_
      refine zb_g_X6_276 (x := z_gI 13 a1 u) S hE hka1 rfl dX6_takeFrame_85 ?_
      refine z_iconst (v := 1) S dX6_takeFrame_88 (by decide) ?_
      refine z_iadd S dX6_takeFrame_89 ?_
      refine z_goto S 94 dX6_takeFrame_90 (by decide) ?_
      refine z_lv (lv' := [(1, va_rf x1), (4, .int x4)]) [0, 2] rfl ?_
      exact hJ _ (by rw [if_neg c2])
  intro y1 ey1
  have hw := hw y1 ey1
  refine z_st (st' := [.int y1, va_rf (some a1)]) (congrArg (fun r : Option Nat => ([.int y1, va_rf r] : List Value)) ea1) ?_
  refine zb_p_X6_276 S hE hka1 dX6_takeFrame_94 ?_
  refine z_aload_n (x := x1) S 0 dX6_takeFrame_97 rfl rfl ?_
  refine z_st (st' := [va_rf (some a1)]) (congrArg (fun r : Option Nat => ([va_rf r] : List Value)) ea1) ?_
  refine zb_g_X6_115 (x := z_gR 12 a1 u) S hE hka1 rfl dX6_takeFrame_98 ?_
  refine z_dup S dX6_takeFrame_101 (z_rfc (z_gR 12 a1 u)) ?_
  obtain ⟨a2, ea2, hka2, hw⟩ := hw
  have hka2 : z_kd a2 (z_pI 13 a1 y1 u) = 6 ∧ 6 ≠ 0 := ⟨hka2, by decide⟩
  refine z_st (st' := [va_rf (some a2), va_rf (z_gR 12 a1 u)]) (congrArg (fun r : Option Nat => ([va_rf r, va_rf (z_gR 12 a1 u)] : List Value)) ea2) ?_
  refine zb_g_X6_292 (x := z_gI 24 a2 u) S hE hka2 rfl dX6_takeFrame_102 ?_
  refine z_iload S 1 dX6_takeFrame_105 rfl ?_
  refine z_iadd S dX6_takeFrame_107 ?_
  refine z_st (st' := [.int ((z_gI 24 a2 u) + x4), va_rf (some a2)]) (congrArg (fun r : Option Nat => ([.int ((z_gI 24 a2 u) + x4), va_rf r] : List Value)) ea2) ?_
  refine zb_p_X6_292 S hE hka2 dX6_takeFrame_108 ?_
  refine z_aload_n (x := x1) S 0 dX6_takeFrame_111 rfl rfl ?_
  refine z_st (st' := [va_rf (some a1)]) (congrArg (fun r : Option Nat => ([va_rf r] : List Value)) ea1) ?_
  refine zb_g_X6_115 (x := z_gR 12 a1 u) S hE hka1 rfl dX6_takeFrame_112 ?_
  refine z_dup S dX6_takeFrame_115 (z_rfc (z_gR 12 a1 u)) ?_
  refine z_st (st' := [va_rf (some a2), va_rf (z_gR 12 a1 u)]) (congrArg (fun r : Option Nat => ([va_rf r, va_rf (z_gR 12 a1 u)] : List Value)) ea2) ?_
  refine zb_g_X6_295 (x := z_gI 23 a2 u) S hE hka2 rfl dX6_takeFrame_116 ?_
  refine z_bipush (v := 8) S dX6_takeFrame_119 (by decide) ?_
  refine z_iadd S dX6_takeFrame_121 ?_
  refine z_st (st' := [.int ((z_gI 23 a2 u) + 8), va_rf (some a2)]) (congrArg (fun r : Option Nat => ([.int ((z_gI 23 a2 u) + 8), va_rf r] : List Value)) ea2) ?_
  refine zb_p_X6_295 S hE hka2 dX6_takeFrame_122 ?_
  exact z_cvret S hr hlk dX6_takeFrame_125 (Nat.le_of_ble_eq_true rfl) (Nat.le_of_ble_eq_true rfl) hw
set_option maxRecDepth 20000 in
theorem mb_X6_takeFrame_39 {p : Program} {l : Launch} {e : Env} {s : State} {m : MethodId} {args : Array Value} {below : List Frame} {meth : Method} {c : Code} {D : va_G} {cy : Nat → ClassId} {A : Nat → Prop} {t0 mi : Nat} {u0 : z_St} {h0 : Nat} (S : CallFix p m c cX6_takeFrame 5 s args z_T RX6) (hlk : meth.locks = false) (hr : meth.sig.returnType = none) (hE : z_EC D cy A t0 mi s) {post : z_St → Prop}  (u : z_St) (x1 : Option Nat) (x2 : Int32) (x3 : Int32) (z0 : Int32) (hkh0 : z_kd h0 u = 8 ∧ 8 ≠ 0) (hw : w_X6_takeFrame_39 post t0 mi h0 u x1 x2 x3 z0) : z_V A (z_hC D cy A t0 u0) p l e rm_X6_takeFrame s m args below meth c 5 (MQ below (va_Qv (fun (u' : z_St) => post u' ∧ z_mono u0 u') (fun (u' : z_St) t => z_hC D cy A t0 u0 u' t.heap) A) args s 0 0 A) 0 0 u 39 [(0, va_rf (some h0)), (1, va_rf x1), (2, .int x2), (3, .int x3)] [.int z0] := by
  refine z_istore S [(4, .int z0), (0, va_rf (some h0)), (1, va_rf x1), (2, .int x2), (3, .int x3)] dX6_takeFrame_39 (by decide) rfl ?_
  refine z_lv (lv' := [(0, va_rf (some h0)), (1, va_rf x1), (2, .int x2), (3, .int x3), (4, .int z0)]) [1, 2, 3, 4, 0] rfl ?_
  refine z_aload_n (x := x1) S 1 dX6_takeFrame_41 rfl rfl ?_
  refine z_iconst (v := 0) S dX6_takeFrame_42 (by decide) ?_
  obtain ⟨a1, ea1, hka1, hw⟩ := hw
  have hka1 : z_kd a1 u = 4 ∧ 4 ≠ 0 := ⟨hka1, by decide⟩
  refine z_st (st' := [.int 0, va_rf (some a1)]) (congrArg (fun r : Option Nat => ([.int 0, va_rf r] : List Value)) ea1) ?_
  refine zb_p_X6_105 S hE hka1 dX6_takeFrame_43 ?_
  refine z_aload_n (x := some h0) S 0 dX6_takeFrame_46 rfl rfl ?_
  refine z_aload_n (x := x1) S 1 dX6_takeFrame_47 rfl rfl ?_
  refine z_iload_n S 3 dX6_takeFrame_48 rfl rfl ?_
  refine z_iload S 4 dX6_takeFrame_49 rfl ?_
  refine z_callVi (As := [va_rf x1, .int x3, .int z0]) (st := []) S (z_ECok D cy A t0 mi) hE (me_X6_fits l D cy A t0 mi _ (z_pI 7 a1 0 u) h0 x1 x3 z0 hkh0 hw) gV_X6_282 hdV_X6_fits ⟨Nat.le_of_ble_eq_true rfl, Nat.le_of_ble_eq_true rfl⟩ rfl rfl (z_recvC (u := z_pI 7 a1 0 u) hE hkh0 (by decide) rfl) (fun _ h => h.re) (fun _ _ _ h h' => h.ba h') rfl (Nat.le_trans z_s0 (by decide)) dX6_takeFrame_51 ⟨(Nat.le_of_ble_eq_true rfl), (Nat.le_of_ble_eq_true rfl)⟩ rfl (fun r2 u2 hw => ?_)
  obtain ⟨hw, hm2⟩ := hw
  have hkh0 := hm2.k hkh0
  have hka1 := hm2.k hka1
  refine z_if_ne S 63 dX6_takeFrame_54 (by decide) (fun c1 => ?_) (fun c1 => ?_)
  · have hw := hw.1 c1
    refine z_iload_n S 3 dX6_takeFrame_63 rfl rfl ?_
    refine z_if_eq S 74 dX6_takeFrame_64 (by decide) (fun c2 => ?_) (fun c2 => ?_)
    · have hw := hw.1 c2
      refine z_aload_n (x := some h0) S 0 dX6_takeFrame_74 rfl rfl ?_
      refine z_aload_n (x := x1) S 1 dX6_takeFrame_75 rfl rfl ?_
      refine z_callVv (As := [va_rf x1]) (st := []) S (z_ECok D cy A t0 mi) hE (me_X6_codeFrame l D cy A t0 mi _ u2 h0 x1 hkh0 hw) gV_X6_289 hdV_X6_codeFrame ⟨Nat.le_of_ble_eq_true rfl, Nat.le_of_ble_eq_true rfl⟩ rfl rfl (z_recvC (u := u2) hE hkh0 (by decide) rfl) (fun _ h => h.re) (fun _ _ _ h h' => h.ba h') rfl (Nat.le_trans z_s0 (by decide)) dX6_takeFrame_76 ⟨(Nat.le_of_ble_eq_true rfl), (Nat.le_of_ble_eq_true rfl)⟩ rfl (fun u3 hw => ?_)
      obtain ⟨hw, hm3⟩ := hw
      have hkh0 := hm3.k hkh0
      have hka1 := hm3.k hka1
      refine z_lv (lv' := [(1, va_rf x1), (2, .int x2), (4, .int z0)]) [1, 2, 4] rfl ?_
      exact mb_X6_takeFrame_79 S hlk hr hE u3 x1 x2 z0 hkh0 hw
    · have hw := hw.2 c2
      refine z_aload_n (x := x1) S 1 dX6_takeFrame_67 rfl rfl ?_
      refine z_st (st' := [va_rf (some a1)]) (congrArg (fun r : Option Nat => ([va_rf r] : List Value)) ea1) ?_
      refine z_callVv (As := []) (st := []) S (z_ECok D cy A t0 mi) hE (me_X2_lengthenGap l D cy A t0 mi _ u2 a1 hka1 hw) gV_X6_286 hdV_X2_lengthenGap ⟨Nat.le_of_ble_eq_true rfl, Nat.le_of_ble_eq_true rfl⟩ rfl rfl (z_recvC (u := u2) hE hka1 (by decide) rfl) (fun _ h => h.re) (fun _ _ _ h h' => h.ba h') rfl (Nat.le_trans z_s0 (by decide)) dX6_takeFrame_68 ⟨(Nat.le_of_ble_eq_true rfl), (Nat.le_of_ble_eq_true rfl)⟩ rfl (fun u4 hw => ?_)
      obtain ⟨hw, hm4⟩ := hw
      have hkh0 := hm4.k hkh0
      have hka1 := hm4.k hka1
      refine z_goto S 79 dX6_takeFrame_71 (by decide) ?_
      refine z_lv (lv' := [(1, va_rf x1), (2, .int x2), (4, .int z0)]) [1, 2, 4] rfl ?_
      exact mb_X6_takeFrame_79 S hlk hr hE u4 x1 x2 z0 hkh0 hw
  · have hw := hw.2 c1
    refine z_aload_n (x := x1) S 1 dX6_takeFrame_57 rfl rfl ?_
    refine z_iconst (v := 1) S dX6_takeFrame_58 (by decide) ?_
    refine z_st (st' := [.int 1, va_rf (some a1)]) (congrArg (fun r : Option Nat => ([.int 1, va_rf r] : List Value)) ea1) ?_
    refine zb_p_X6_95 S hE hka1 (Or.inr rfl) dX6_takeFrame_59 ?_
    exact z_cvret S hr hlk dX6_takeFrame_62 (Nat.le_of_ble_eq_true rfl) (Nat.le_of_ble_eq_true rfl) hw
set_option maxRecDepth 20000 in
theorem mb_X6_takeFrame {p : Program} {l : Launch} {e : Env} {s : State} {m : MethodId} {args : Array Value} {below : List Frame} {meth : Method} {c : Code} {D : va_G} {cy : Nat → ClassId} {A : Nat → Prop} {t0 mi : Nat} {u0 : z_St} {h0 : Nat} (S : CallFix p m c cX6_takeFrame 5 s args z_T RX6) (hlk : meth.locks = false) (hr : meth.sig.returnType = none) (hE : z_EC D cy A t0 mi s) {post : z_St → Prop}  (u : z_St) (x1 : Option Nat) (hkh0 : z_kd h0 u = 8 ∧ 8 ≠ 0) (hw : w_X6_takeFrame post t0 mi h0 u x1) : z_V A (z_hC D cy A t0 u0) p l e rm_X6_takeFrame s m args below meth c 5 (MQ below (va_Qv (fun (u' : z_St) => post u' ∧ z_mono u0 u') (fun (u' : z_St) t => z_hC D cy A t0 u0 u' t.heap) A) args s 0 0 A) 0 0 u 0 [(0, va_rf (some h0)), (1, va_rf x1)] [] := by
  refine z_aload_n (x := x1) S 1 dX6_takeFrame_0 rfl rfl ?_
  obtain ⟨a1, ea1, hka1, hw⟩ := hw
  have hka1 : z_kd a1 u = 4 ∧ 4 ≠ 0 := ⟨hka1, by decide⟩
  refine z_st (st' := [va_rf (some a1)]) (congrArg (fun r : Option Nat => ([va_rf r] : List Value)) ea1) ?_
  refine z_callVi (As := []) (st := []) S (z_ECok D cy A t0 mi) hE (me_X2_isFrameQuiet l D cy A t0 mi _ u a1 hka1 hw) gV_X6_273 hdV_X2_isFrameQuiet ⟨Nat.le_of_ble_eq_true rfl, Nat.le_of_ble_eq_true rfl⟩ rfl rfl (z_recvC (u := u) hE hka1 (by decide) rfl) (fun _ h => h.re) (fun _ _ _ h h' => h.ba h') rfl (Nat.le_trans z_s0 (by decide)) dX6_takeFrame_1 ⟨(Nat.le_of_ble_eq_true rfl), (Nat.le_of_ble_eq_true rfl)⟩ rfl (fun r2 u2 hw => ?_)
  obtain ⟨hw, hm2⟩ := hw
  have hkh0 := hm2.k hkh0
  have hka1 := hm2.k hka1
  refine z_istore_n S [(2, .int r2), (0, va_rf (some h0)), (1, va_rf x1)] dX6_takeFrame_4 rfl (by decide) (by simp only [List.filter, z_rfc]; rfl) ?_
  refine z_lv (lv' := [(0, va_rf (some h0)), (1, va_rf x1), (2, .int r2)]) [1, 2, 0] rfl ?_
  refine z_iload_n S 2 dX6_takeFrame_5 rfl rfl ?_
  suffices hJ : ∀ y1 : Int32, y1 = (if r2 = 0 then 0 else (if (z_gI 13 a1 u2) < 2 then 0 else 1)) → z_V A (z_hC D cy A t0 u0) p l e rm_X6_takeFrame s m args below meth c 5 (MQ below (va_Qv (fun (u' : z_St) => post u' ∧ z_mono u0 u') (fun (u' : z_St) t => z_hC D cy A t0 u0 u' t.heap) A) args s 0 0 A) 0 0 u2 22 [(0, va_rf (some h0)), (1, va_rf x1), (2, .int r2)] [.int y1] from by
    refine z_if_eq S 21 dX6_takeFrame_6 (by decide) (fun c3 => ?_) (fun c3 => ?_)
    · refine z_iconst (v := 0) S dX6_takeFrame_21 (by decide) ?_
      exact hJ _ (by rw [if_pos c3])
    · refine z_aload_n (x := x1) S 1 dX6_takeFrame_9 rfl rfl ?_
      refine z_st (st' := [va_rf (some a1)]) (congrArg (fun r : Option Nat => ([va_rf r] : List Value)) ea1) ?_
      refine zb_g_X6_276 (x := z_gI 13 a1 u2) S hE hka1 rfl dX6_takeFrame_10 ?_
      refine z_iconst (v := 2) S dX6_takeFrame_13 (by decide) ?_
      refine z_icmp_lt S 21 dX6_takeFrame_14 (by decide) (fun c4 => ?_) (fun c4 => ?_)
      · refine z_iconst (v := 0) S dX6_takeFrame_21 (by decide) ?_
        exact hJ _ (by rw [if_neg c3, if_pos c4])
      · refine z_iconst (v := 1) S dX6_takeFrame_17 (by decide) ?_
        refine z_goto S 22 dX6_takeFrame_18 (by decide) ?_
        exact hJ _ (by rw [if_neg c3, if_neg c4])
  intro y1 ey1
  have hw := hw y1 ey1
  refine z_istore_n S [(3, .int y1), (0, va_rf (some h0)), (1, va_rf x1), (2, .int r2)] dX6_takeFrame_22 rfl (by decide) rfl ?_
  refine z_lv (lv' := [(0, va_rf (some h0)), (1, va_rf x1), (2, .int r2), (3, .int y1)]) [1, 2, 3, 0] rfl ?_
  refine z_iload_n S 3 dX6_takeFrame_23 rfl rfl ?_
  refine z_if_eq S 38 dX6_takeFrame_24 (by decide) (fun c2 => ?_) (fun c2 => ?_)
  · have hw := hw.1 c2
    refine z_iconst (v := 1) S dX6_takeFrame_38 (by decide) ?_
    exact mb_X6_takeFrame_39 S hlk hr hE u2 x1 r2 y1 1 hkh0 hw
  · have hw := hw.2 c2
    refine z_aload_n (x := some h0) S 0 dX6_takeFrame_27 rfl rfl ?_
    refine z_aload_n (x := x1) S 1 dX6_takeFrame_28 rfl rfl ?_
    refine z_st (st' := [va_rf (some a1), va_rf (some h0)]) (congrArg (fun r : Option Nat => ([va_rf r, va_rf (some h0)] : List Value)) ea1) ?_
    refine zb_g_X6_276 (x := z_gI 13 a1 u2) S hE hka1 rfl dX6_takeFrame_29 ?_
    refine z_callVi (As := [.int (z_gI 13 a1 u2)]) (st := []) S (z_ECok D cy A t0 mi) hE (me_X6_gapPrice l D cy A t0 mi _ u2 h0 (z_gI 13 a1 u2) hkh0 hw) gV_X6_279 hdV_X6_gapPrice ⟨Nat.le_of_ble_eq_true rfl, Nat.le_of_ble_eq_true rfl⟩ rfl rfl (z_recvC (u := u2) hE hkh0 (by decide) rfl) (fun _ h => h.re) (fun _ _ _ h h' => h.ba h') rfl (Nat.le_trans z_s0 (by decide)) dX6_takeFrame_32 ⟨(Nat.le_of_ble_eq_true rfl), (Nat.le_of_ble_eq_true rfl)⟩ rfl (fun r3 u3 hw => ?_)
    obtain ⟨hw, hm3⟩ := hw
    have hkh0 := hm3.k hkh0
    have hka1 := hm3.k hka1
    refine z_goto S 39 dX6_takeFrame_35 (by decide) ?_
    exact mb_X6_takeFrame_39 S hlk hr hE u3 x1 r2 y1 r3 hkh0 hw
theorem me_X6_takeFrame (l : Launch) (D : va_G) (cy : Nat → ClassId) (A : Nat → Prop) (t0 mi : Nat) (post : z_St → Prop) (u : z_St) (h0 : Nat) (x1 : Option Nat) (hkh0 : z_kd h0 u = 8 ∧ 8 ≠ 0) (hw : w_X6_takeFrame post t0 mi h0 u x1) : z_Mv l yX6_takeFrame (Cond.code yX6_takeFrame cX6_takeFrame 5 none :: z_T) rm_X6_takeFrame [va_rf (some h0), va_rf x1] (z_EC D cy A t0 mi) (z_hC D cy A t0 u) u (fun u' => post u' ∧ z_mono u u') 0 0 A :=
  z_met (by decide) (by simp [lg_sl, z_rfc, z_ic]) (fun p e s m args below meth c S hlk hr hnm hE => (by simp [lv_args, z_rfc, z_ic] : lv_args 0 [va_rf (some h0), va_rf x1] = [(0, va_rf (some h0)), (1, va_rf x1)]) ▸ mb_X6_takeFrame S hlk hr hE u x1 hkh0 hw)
abbrev rm_X6_replaceOwn : Room := { frames := 2, cells := 0, slots := 0, locals := 44 }
def w_X6_replaceOwn (post : z_St → Prop) (t0 mi h0 : Nat) (u : z_St) (x1 : Option Nat) (x2 : Int32) (x3 : Option Nat) : Prop := (∃ a1 : Nat, x1 = some a1 ∧ z_kd a1 u = 3 ∧ (∃ a2 : Nat, z_gR 4 a1 u = some a2 ∧ z_kd a2 u = 14 ∧ (vp_in x2 (z_ln a2 u) ∧ (∃ a3 : Nat, x3 = some a3 ∧ z_kd a3 u = 6 ∧ (vp_in x2 (z_ln a2 u) ∧ (w_X6_hold (fun u4 => (w_X6_release (fun r5 u5 => (post u5)) t0 mi h0 u4 (z_aR a2 x2.toNatClampNeg u))) t0 mi h0 (z_sR a2 x2.toNatClampNeg (some a3) u) x3))))))
set_option maxRecDepth 20000 in
theorem mb_X6_replaceOwn {p : Program} {l : Launch} {e : Env} {s : State} {m : MethodId} {args : Array Value} {below : List Frame} {meth : Method} {c : Code} {D : va_G} {cy : Nat → ClassId} {A : Nat → Prop} {t0 mi : Nat} {u0 : z_St} {h0 : Nat} (S : CallFix p m c cX6_replaceOwn 5 s args z_T RX6) (hlk : meth.locks = false) (hr : meth.sig.returnType = none) (hE : z_EC D cy A t0 mi s) {post : z_St → Prop}  (u : z_St) (x1 : Option Nat) (x2 : Int32) (x3 : Option Nat) (hkh0 : z_kd h0 u = 8 ∧ 8 ≠ 0) (hw : w_X6_replaceOwn post t0 mi h0 u x1 x2 x3) : z_V A (z_hC D cy A t0 u0) p l e rm_X6_replaceOwn s m args below meth c 5 (MQ below (va_Qv (fun (u' : z_St) => post u' ∧ z_mono u0 u') (fun (u' : z_St) t => z_hC D cy A t0 u0 u' t.heap) A) args s 0 0 A) 0 0 u 0 [(0, va_rf (some h0)), (1, va_rf x1), (2, .int x2), (3, va_rf x3)] [] := by
  refine z_aload_n (x := x1) S 1 dX6_replaceOwn_0 rfl rfl ?_
  obtain ⟨a1, ea1, hka1, hw⟩ := hw
  have hka1 : z_kd a1 u = 3 ∧ 3 ≠ 0 := ⟨hka1, by decide⟩
  refine z_st (st' := [va_rf (some a1)]) (congrArg (fun r : Option Nat => ([va_rf r] : List Value)) ea1) ?_
  refine zb_g_X6_174 (x := z_gR 4 a1 u) S hE hka1 rfl dX6_replaceOwn_1 ?_
  refine z_iload_n S 2 dX6_replaceOwn_4 rfl rfl ?_
  obtain ⟨a2, ea2, hka2, hw⟩ := hw
  have hka2 : z_kd a2 u = 14 ∧ 14 ≠ 0 := ⟨hka2, by decide⟩
  obtain ⟨hi1, hw⟩ := hw
  refine z_st (st' := [.int x2, va_rf (some a2)]) (congrArg (fun r : Option Nat => ([.int x2, va_rf r] : List Value)) ea2) ?_
  refine z_caald (κ := 14) S hE hka2 (by decide) rfl hi1 dX6_replaceOwn_5 ?_
  refine z_astore (x := z_aR a2 x2.toNatClampNeg u) S [(4, va_rf (z_aR a2 x2.toNatClampNeg u)), (0, va_rf (some h0)), (1, va_rf x1), (2, .int x2), (3, va_rf x3)] dX6_replaceOwn_6 (by decide) (by simp only [List.filter, z_rfc]; rfl) ?_
  refine z_lv (lv' := [(0, va_rf (some h0)), (1, va_rf x1), (2, .int x2), (3, va_rf x3), (4, va_rf (z_aR a2 x2.toNatClampNeg u))]) [1, 2, 3, 4, 0] rfl ?_
  refine z_aload_n (x := x1) S 1 dX6_replaceOwn_8 rfl rfl ?_
  refine z_st (st' := [va_rf (some a1)]) (congrArg (fun r : Option Nat => ([va_rf r] : List Value)) ea1) ?_
  refine zb_g_X6_174 (x := z_gR 4 a1 u) S hE hka1 rfl dX6_replaceOwn_9 ?_
  refine z_iload_n S 2 dX6_replaceOwn_12 rfl rfl ?_
  refine z_aload_n (x := x3) S 3 dX6_replaceOwn_13 rfl rfl ?_
  obtain ⟨a3, ea3, hka3, hw⟩ := hw
  have hka3 : z_kd a3 u = 6 ∧ 6 ≠ 0 := ⟨hka3, by decide⟩
  obtain ⟨hi2, hw⟩ := hw
  refine z_st (st' := [va_rf (some a3), .int x2, va_rf (z_gR 4 a1 u)]) (congrArg (fun r : Option Nat => ([va_rf r, .int x2, va_rf (z_gR 4 a1 u)] : List Value)) ea3) ?_
  refine z_st (st' := [va_rf (some a3), .int x2, va_rf (some a2)]) (congrArg (fun r : Option Nat => ([va_rf (some a3), .int x2, va_rf r] : List Value)) ea2) ?_
  refine z_caast (κ := 14) (κv := 6) (v := a3) S hE hka2 (by decide) rfl hka3 (by decide) rfl (fun comp c0 g1 g2 => (vb_asgS comp c0 g1 g2.1)) hi2 dX6_replaceOwn_14 ?_
  refine z_aload_n (x := some h0) S 0 dX6_replaceOwn_15 rfl rfl ?_
  refine z_aload_n (x := x3) S 3 dX6_replaceOwn_16 rfl rfl ?_
  refine z_callVv (As := [va_rf x3]) (st := []) S (z_ECok D cy A t0 mi) hE (me_X6_hold l D cy A t0 mi _ (z_sR a2 x2.toNatClampNeg (some a3) u) h0 x3 hkh0 hw) gV_X6_263 hdV_X6_hold ⟨Nat.le_of_ble_eq_true rfl, Nat.le_of_ble_eq_true rfl⟩ rfl rfl (z_recvC (u := z_sR a2 x2.toNatClampNeg (some a3) u) hE hkh0 (by decide) rfl) (fun _ h => h.re) (fun _ _ _ h h' => h.ba h') rfl (Nat.le_trans z_s0 (by decide)) dX6_replaceOwn_17 ⟨(Nat.le_of_ble_eq_true rfl), (Nat.le_of_ble_eq_true rfl)⟩ rfl (fun u4 hw => ?_)
  obtain ⟨hw, hm4⟩ := hw
  have hkh0 := hm4.k hkh0
  have hka1 := hm4.k hka1
  have hka2 := hm4.k hka2
  have hka3 := hm4.k hka3
  refine z_aload_n (x := some h0) S 0 dX6_replaceOwn_20 rfl rfl ?_
  refine z_aload (x := z_aR a2 x2.toNatClampNeg u) S 4 dX6_replaceOwn_21 rfl ?_
  refine z_callVi (As := [va_rf (z_aR a2 x2.toNatClampNeg u)]) (st := []) S (z_ECok D cy A t0 mi) hE (me_X6_release l D cy A t0 mi _ u4 h0 (z_aR a2 x2.toNatClampNeg u) hkh0 hw) gV_X6_166 hdV_X6_release ⟨Nat.le_of_ble_eq_true rfl, Nat.le_of_ble_eq_true rfl⟩ rfl rfl (z_recvC (u := u4) hE hkh0 (by decide) rfl) (fun _ h => h.re) (fun _ _ _ h h' => h.ba h') rfl (Nat.le_trans z_s0 (by decide)) dX6_replaceOwn_23 ⟨(Nat.le_of_ble_eq_true rfl), (Nat.le_of_ble_eq_true rfl)⟩ rfl (fun r5 u5 hw => ?_)
  obtain ⟨hw, hm5⟩ := hw
  have hkh0 := hm5.k hkh0
  have hka1 := hm5.k hka1
  have hka2 := hm5.k hka2
  have hka3 := hm5.k hka3
  refine z_pop S dX6_replaceOwn_26 rfl ?_
  exact z_cvret S hr hlk dX6_replaceOwn_27 (Nat.le_of_ble_eq_true rfl) (Nat.le_of_ble_eq_true rfl) hw
theorem me_X6_replaceOwn (l : Launch) (D : va_G) (cy : Nat → ClassId) (A : Nat → Prop) (t0 mi : Nat) (post : z_St → Prop) (u : z_St) (h0 : Nat) (x1 : Option Nat) (x2 : Int32) (x3 : Option Nat) (hkh0 : z_kd h0 u = 8 ∧ 8 ≠ 0) (hw : w_X6_replaceOwn post t0 mi h0 u x1 x2 x3) : z_Mv l yX6_replaceOwn (Cond.code yX6_replaceOwn cX6_replaceOwn 5 none :: z_T) rm_X6_replaceOwn [va_rf (some h0), va_rf x1, .int x2, va_rf x3] (z_EC D cy A t0 mi) (z_hC D cy A t0 u) u (fun u' => post u' ∧ z_mono u u') 0 0 A :=
  z_met (by decide) (by simp [lg_sl, z_rfc, z_ic]) (fun p e s m args below meth c S hlk hr hnm hE => (by simp [lv_args, z_rfc, z_ic] : lv_args 0 [va_rf (some h0), va_rf x1, .int x2, va_rf x3] = [(0, va_rf (some h0)), (1, va_rf x1), (2, .int x2), (3, va_rf x3)]) ▸ mb_X6_replaceOwn S hlk hr hE u x1 x2 x3 hkh0 hw)
abbrev rm_X6_hang : Room := { frames := 8, cells := 4, slots := 41, locals := 195 }
def w_X6_hang_22 (post : Int32 → z_St → Prop) (px : String → z_St → Prop) (t0 mi h0 : Nat) (u : z_St) (x2 : Option Nat) : Prop := (∃ a1 : Nat, x2 = some a1 ∧ z_kd a1 u = 4 ∧ (∃ a2 : Nat, z_gR 12 a1 u = some a2 ∧ z_kd a2 (z_pI 8 a1 0 u) = 6 ∧ (w_X4_isBlank (fun r3 u3 => ((r3 = 0 → ((¬ (z_gI 11 a1 u3) = 0 → (∃ a4 : Nat, z_gR 29 h0 u3 = some a4 ∧ z_kd a4 u3 = 12 ∧ (vp_in (z_gI 10 a1 u3) (z_ln a4 u3) ∧ (w_X6_replaceOwn (fun u5 => (post 0 u5)) t0 mi h0 u3 (z_aR a4 ((z_gI 10 a1 u3).toNatClampNeg) u3) ((z_gI 11 a1 u3) - 1) (z_gR 12 a1 u))))) ∧ ((z_gI 11 a1 u3) = 0 → (w_X6_addMessage (fun r6 u6 => (post r6 u6)) t0 mi h0 u3 (z_gI 10 a1 u3) (z_gR 12 a1 u) none)))) ∧ (¬ r3 = 0 → (post (-1) u3)))) t0 mi a2 (z_pI 8 a1 0 u) )))
def w_X6_hang (post : Int32 → z_St → Prop) (px : String → z_St → Prop) (t0 mi h0 : Nat) (u : z_St) (x1 : Int32) : Prop := (w_X6_busyLine (fun r1 u1 => (∃ a2 : Nat, r1 = some a2 ∧ z_kd a2 u1 = 4 ∧ (((z_gI 7 a2 u1) ≤ 0 → (w_X6_hang_22 post px t0 mi h0 u1 r1)) ∧ (¬ (z_gI 7 a2 u1) ≤ 0 → (∃ n0 : Nat, w_X2_fillFrame (fun u3 => (w_X6_takeFrame (fun u4 => (w_X6_hang_22 post px t0 mi h0 u4 r1)) t0 mi h0 u3 r1)) t0 mi a2 n0 u1 ))))) px t0 mi h0 u x1)
set_option maxRecDepth 20000 in
theorem mb_X6_hang_22 {p : Program} {l : Launch} {e : Env} {s : State} {m : MethodId} {args : Array Value} {below : List Frame} {meth : Method} {c : Code} {D : va_G} {cy : Nat → ClassId} {A : Nat → Prop} {t0 mi : Nat} {u0 : z_St} {h0 : Nat} (S : CallFix p m c cX6_hang 4 s args z_T RX6) (hlk : meth.locks = false) (hr : meth.sig.returnType = (some .int)) (hE : z_EC D cy A t0 mi s) (hl : l.stackTraces = false) (htb : ∀ x ∈ c.exceptionTable.toList, False) {post : Int32 → z_St → Prop} {px : String → z_St → Prop}  (u : z_St) (x2 : Option Nat) (hkh0 : z_kd h0 u = 8 ∧ 8 ≠ 0) (hw : w_X6_hang_22 post px t0 mi h0 u x2) : z_V A (z_hC D cy A t0 u0) p l e rm_X6_hang s m args below meth c 4 (vx_MQ below (va_Qi (fun r (u' : z_St) => post r u' ∧ z_mono u0 u') (fun (u' : z_St) t => z_hC D cy A t0 u0 u' t.heap) A) (zx_X px (z_hC D cy A t0 u0) A) args s 4 41 A) 2 12 u 22 [(0, va_rf (some h0)), (2, va_rf x2)] [] := by
  refine z_aload_n (x := x2) S 1 dX6_hang_22 rfl rfl ?_
  refine z_iconst (v := 0) S dX6_hang_23 (by decide) ?_
  obtain ⟨a1, ea1, hka1, hw⟩ := hw
  have hka1 : z_kd a1 u = 4 ∧ 4 ≠ 0 := ⟨hka1, by decide⟩
  refine z_st (st' := [.int 0, va_rf (some a1)]) (congrArg (fun r : Option Nat => ([.int 0, va_rf r] : List Value)) ea1) ?_
  refine zb_p_X6_75 S hE hka1 (Or.inl rfl) dX6_hang_24 ?_
  refine z_aload_n (x := x2) S 1 dX6_hang_27 rfl rfl ?_
  refine z_st (st' := [va_rf (some a1)]) (congrArg (fun r : Option Nat => ([va_rf r] : List Value)) ea1) ?_
  refine zb_g_X6_115 (x := z_gR 12 a1 u) S hE hka1 rfl dX6_hang_28 ?_
  refine z_astore_n (x := z_gR 12 a1 u) S [(3, va_rf (z_gR 12 a1 u)), (0, va_rf (some h0)), (2, va_rf x2)] dX6_hang_31 rfl (by decide) (by simp only [List.filter, z_rfc]; rfl) ?_
  refine z_lv (lv' := [(0, va_rf (some h0)), (2, va_rf x2), (3, va_rf (z_gR 12 a1 u))]) [1, 2, 0] rfl ?_
  refine z_aload_n (x := z_gR 12 a1 u) S 2 dX6_hang_32 rfl rfl ?_
  obtain ⟨a2, ea2, hka2, hw⟩ := hw
  have hka2 : z_kd a2 (z_pI 8 a1 0 u) = 6 ∧ 6 ≠ 0 := ⟨hka2, by decide⟩
  refine z_st (st' := [va_rf (some a2)]) (congrArg (fun r : Option Nat => ([va_rf r] : List Value)) ea2) ?_
  refine z_callVi (As := []) (st := []) S (z_ECok D cy A t0 mi) hE (me_X4_isBlank l D cy A t0 mi _ (z_pI 8 a1 0 u) a2 hka2 hw) gV_X6_119 hdV_X4_isBlank ⟨Nat.le_of_ble_eq_true rfl, Nat.le_of_ble_eq_true rfl⟩ rfl rfl (z_recvC (u := z_pI 8 a1 0 u) hE hka2 (by decide) rfl) (fun _ h => h.re) (fun _ _ _ h h' => h.ba h') rfl (Nat.le_trans z_s0 (by decide)) dX6_hang_33 ⟨(Nat.le_of_ble_eq_true rfl), (Nat.le_of_ble_eq_true rfl)⟩ rfl (fun r3 u3 hw => ?_)
  obtain ⟨hw, hm3⟩ := hw
  have hkh0 := hm3.k hkh0
  have hka1 := hm3.k hka1
  have hka2 := hm3.k hka2
  refine z_if_eq S 41 dX6_hang_36 (by decide) (fun c1 => ?_) (fun c1 => ?_)
  · have hw := hw.1 c1
    refine z_aload_n (x := x2) S 1 dX6_hang_41 rfl rfl ?_
    refine z_st (st' := [va_rf (some a1)]) (congrArg (fun r : Option Nat => ([va_rf r] : List Value)) ea1) ?_
    refine zb_g_X6_124 (x := z_gI 11 a1 u3) S hE hka1 rfl dX6_hang_42 ?_
    refine z_if_ne S 59 dX6_hang_45 (by decide) (fun c2 => ?_) (fun c2 => ?_)
    · have hw := hw.1 c2
      refine z_aload_n (x := some h0) S 0 dX6_hang_59 rfl rfl ?_
      refine z_aload_n (x := some h0) S 0 dX6_hang_60 rfl rfl ?_
      refine zb_g_X6_22 (x := z_gR 29 h0 u3) S hE hkh0 rfl dX6_hang_61 ?_
      refine z_aload_n (x := x2) S 1 dX6_hang_64 rfl rfl ?_
      refine z_st (st' := [va_rf (some a1), va_rf (z_gR 29 h0 u3), va_rf (some h0)]) (congrArg (fun r : Option Nat => ([va_rf r, va_rf (z_gR 29 h0 u3), va_rf (some h0)] : List Value)) ea1) ?_
      refine zb_g_X6_127 (x := z_gI 10 a1 u3) S hE hka1 rfl dX6_hang_65 ?_
      obtain ⟨a4, ea4, hka4, hw⟩ := hw
      have hka4 : z_kd a4 u3 = 12 ∧ 12 ≠ 0 := ⟨hka4, by decide⟩
      obtain ⟨hi3, hw⟩ := hw
      refine z_st (st' := [.int (z_gI 10 a1 u3), va_rf (some a4), va_rf (some h0)]) (congrArg (fun r : Option Nat => ([.int (z_gI 10 a1 u3), va_rf r, va_rf (some h0)] : List Value)) ea4) ?_
      refine z_caald (κ := 12) S hE hka4 (by decide) rfl hi3 dX6_hang_68 ?_
      refine z_aload_n (x := x2) S 1 dX6_hang_69 rfl rfl ?_
      refine z_st (st' := [va_rf (some a1), va_rf (z_aR a4 ((z_gI 10 a1 u3).toNatClampNeg) u3), va_rf (some h0)]) (congrArg (fun r : Option Nat => ([va_rf r, va_rf (z_aR a4 ((z_gI 10 a1 u3).toNatClampNeg) u3), va_rf (some h0)] : List Value)) ea1) ?_
      refine zb_g_X6_124 (x := z_gI 11 a1 u3) S hE hka1 rfl dX6_hang_70 ?_
      refine z_iconst (v := 1) S dX6_hang_73 (by decide) ?_
      refine z_isub S dX6_hang_74 ?_
      refine z_aload_n (x := z_gR 12 a1 u) S 2 dX6_hang_75 rfl rfl ?_
      refine z_callVv (As := [va_rf (z_aR a4 ((z_gI 10 a1 u3).toNatClampNeg) u3), .int ((z_gI 11 a1 u3) - 1), va_rf (z_gR 12 a1 u)]) (st := []) S (z_ECok D cy A t0 mi) hE (me_X6_replaceOwn l D cy A t0 mi _ u3 h0 (z_aR a4 ((z_gI 10 a1 u3).toNatClampNeg) u3) ((z_gI 11 a1 u3) - 1) (z_gR 12 a1 u) hkh0 hw) gV_X6_134 hdV_X6_replaceOwn ⟨Nat.le_of_ble_eq_true rfl, Nat.le_of_ble_eq_true rfl⟩ rfl rfl (z_recvC (u := u3) hE hkh0 (by decide) rfl) (fun _ h => h.re) (fun _ _ _ h h' => h.ba h') rfl (Nat.le_trans z_s0 (by decide)) dX6_hang_76 ⟨(Nat.le_of_ble_eq_true rfl), (Nat.le_of_ble_eq_true rfl)⟩ rfl (fun u5 hw => ?_)
      obtain ⟨hw, hm5⟩ := hw
      have hkh0 := hm5.k hkh0
      have hka1 := hm5.k hka1
      have hka2 := hm5.k hka2
      have hka4 := hm5.k hka4
      refine z_iconst (v := 0) S dX6_hang_79 (by decide) ?_
      exact z_cxiret S hr hlk dX6_hang_80 (Nat.le_of_ble_eq_true rfl) (Nat.le_of_ble_eq_true rfl) hw
    · have hw := hw.2 c2
      refine z_aload_n (x := some h0) S 0 dX6_hang_48 rfl rfl ?_
      refine z_aload_n (x := x2) S 1 dX6_hang_49 rfl rfl ?_
      refine z_st (st' := [va_rf (some a1), va_rf (some h0)]) (congrArg (fun r : Option Nat => ([va_rf r, va_rf (some h0)] : List Value)) ea1) ?_
      refine zb_g_X6_127 (x := z_gI 10 a1 u3) S hE hka1 rfl dX6_hang_50 ?_
      refine z_aload_n (x := z_gR 12 a1 u) S 2 dX6_hang_53 rfl rfl ?_
      refine z_null S dX6_hang_54 ?_
      refine z_callVi (As := [.int (z_gI 10 a1 u3), va_rf (z_gR 12 a1 u), va_rf none]) (st := []) S (z_ECok D cy A t0 mi) hE (me_X6_addMessage l D cy A t0 mi _ u3 h0 (z_gI 10 a1 u3) (z_gR 12 a1 u) none hkh0 hw) gV_X6_130 hdV_X6_addMessage ⟨Nat.le_of_ble_eq_true rfl, Nat.le_of_ble_eq_true rfl⟩ rfl rfl (z_recvC (u := u3) hE hkh0 (by decide) rfl) (fun _ h => h.re) (fun _ _ _ h h' => h.ba h') rfl (Nat.le_trans z_s0 (by decide)) dX6_hang_55 ⟨(Nat.le_of_ble_eq_true rfl), (Nat.le_of_ble_eq_true rfl)⟩ rfl (fun r6 u6 hw => ?_)
      obtain ⟨hw, hm6⟩ := hw
      have hkh0 := hm6.k hkh0
      have hka1 := hm6.k hka1
      have hka2 := hm6.k hka2
      exact z_cxiret S hr hlk dX6_hang_58 (Nat.le_of_ble_eq_true rfl) (Nat.le_of_ble_eq_true rfl) hw
  · have hw := hw.2 c1
    refine z_iconst (v := (-1)) S dX6_hang_39 (by decide) ?_
    exact z_cxiret S hr hlk dX6_hang_40 (Nat.le_of_ble_eq_true rfl) (Nat.le_of_ble_eq_true rfl) hw
set_option maxRecDepth 20000 in
theorem mb_X6_hang {p : Program} {l : Launch} {e : Env} {s : State} {m : MethodId} {args : Array Value} {below : List Frame} {meth : Method} {c : Code} {D : va_G} {cy : Nat → ClassId} {A : Nat → Prop} {t0 mi : Nat} {u0 : z_St} {h0 : Nat} (S : CallFix p m c cX6_hang 4 s args z_T RX6) (hlk : meth.locks = false) (hr : meth.sig.returnType = (some .int)) (hE : z_EC D cy A t0 mi s) (hl : l.stackTraces = false) (htb : ∀ x ∈ c.exceptionTable.toList, False) {post : Int32 → z_St → Prop} {px : String → z_St → Prop}  (u : z_St) (x1 : Int32) (hkh0 : z_kd h0 u = 8 ∧ 8 ≠ 0) (hw : w_X6_hang post px t0 mi h0 u x1) : z_V A (z_hC D cy A t0 u0) p l e rm_X6_hang s m args below meth c 4 (vx_MQ below (va_Qi (fun r (u' : z_St) => post r u' ∧ z_mono u0 u') (fun (u' : z_St) t => z_hC D cy A t0 u0 u' t.heap) A) (zx_X px (z_hC D cy A t0 u0) A) args s 4 41 A) 0 0 u 0 [(0, va_rf (some h0)), (1, .int x1)] [] := by
  refine z_aload_n (x := some h0) S 0 dX6_hang_0 rfl rfl ?_
  refine z_iload_n S 1 dX6_hang_1 rfl rfl ?_
  refine zx_callVq (As := [.int x1]) (st := []) S (z_ECok D cy A t0 mi) hE htb hlk (me_X6_busyLine l D cy A t0 mi _ px u h0 x1 hkh0 hl hw) gV_X6_91 hdV_X6_busyLine ⟨Nat.le_of_ble_eq_true rfl, Nat.le_of_ble_eq_true rfl⟩ rfl rfl (z_recvC (u := u) hE hkh0 (by decide) rfl) (fun _ h => h.re) (fun _ _ _ h h' => h.ba h') (fun _ _ h => h) rfl (Nat.le_trans z_s0 (by decide)) dX6_hang_2 ⟨(Nat.le_of_ble_eq_true rfl), (Nat.le_of_ble_eq_true rfl)⟩ ⟨(Nat.le_of_ble_eq_true rfl), (Nat.le_of_ble_eq_true rfl)⟩ rfl (fun r1 u1 hw => ?_)
  obtain ⟨hw, hm1⟩ := hw
  have hkh0 := hm1.k hkh0
  refine z_astore_n (x := r1) S [(2, va_rf r1), (0, va_rf (some h0)), (1, .int x1)] dX6_hang_5 rfl (by decide) rfl ?_
  refine z_lv (lv' := [(0, va_rf (some h0)), (1, .int x1), (2, va_rf r1)]) [1, 2, 0] rfl ?_
  refine z_aload_n (x := r1) S 2 dX6_hang_6 rfl rfl ?_
  obtain ⟨a2, ea2, hka2, hw⟩ := hw
  have hka2 : z_kd a2 u1 = 4 ∧ 4 ≠ 0 := ⟨hka2, by decide⟩
  refine z_st (st' := [va_rf (some a2)]) (congrArg (fun r : Option Nat => ([va_rf r] : List Value)) ea2) ?_
  refine zb_g_X6_105 (x := z_gI 7 a2 u1) S hE hka2 rfl dX6_hang_7 ?_
  refine z_if_le S 22 dX6_hang_10 (by decide) (fun c1 => ?_) (fun c1 => ?_)
  · have hw := hw.1 c1
    refine z_lv (lv' := [(0, va_rf (some h0)), (2, va_rf r1)]) [0, 2] rfl ?_
    exact mb_X6_hang_22 S hlk hr hE hl htb u1 r1 hkh0 hw
  · have hw := hw.2 c1
    refine z_aload_n (x := r1) S 2 dX6_hang_13 rfl rfl ?_
    refine z_st (st' := [va_rf (some a2)]) (congrArg (fun r : Option Nat => ([va_rf r] : List Value)) ea2) ?_
    refine z_callVv (As := []) (st := []) S (z_ECok D cy A t0 mi) hE (me_X2_fillFrame l D cy A t0 mi _ u1 a2 hka2 hw) gV_X6_112 hdV_X2_fillFrame ⟨Nat.le_of_ble_eq_true rfl, Nat.le_of_ble_eq_true rfl⟩ rfl rfl (z_recvC (u := u1) hE hka2 (by decide) rfl) (fun _ h => h.re) (fun _ _ _ h h' => h.ba h') rfl (Nat.le_trans z_s0 (by decide)) dX6_hang_14 ⟨(Nat.le_of_ble_eq_true rfl), (Nat.le_of_ble_eq_true rfl)⟩ rfl (fun u3 hw => ?_)
    obtain ⟨hw, hm3⟩ := hw
    have hkh0 := hm3.k hkh0
    have hka2 := hm3.k hka2
    refine z_aload_n (x := some h0) S 0 dX6_hang_17 rfl rfl ?_
    refine z_aload_n (x := r1) S 2 dX6_hang_18 rfl rfl ?_
    refine z_callVv (As := [va_rf r1]) (st := []) S (z_ECok D cy A t0 mi) hE (me_X6_takeFrame l D cy A t0 mi _ u3 h0 r1 hkh0 hw) gV_X6_108 hdV_X6_takeFrame ⟨Nat.le_of_ble_eq_true rfl, Nat.le_of_ble_eq_true rfl⟩ rfl rfl (z_recvC (u := u3) hE hkh0 (by decide) rfl) (fun _ h => h.re) (fun _ _ _ h h' => h.ba h') rfl (Nat.le_trans z_s0 (by decide)) dX6_hang_19 ⟨(Nat.le_of_ble_eq_true rfl), (Nat.le_of_ble_eq_true rfl)⟩ rfl (fun u4 hw => ?_)
    obtain ⟨hw, hm4⟩ := hw
    have hkh0 := hm4.k hkh0
    have hka2 := hm4.k hka2
    refine z_lv (lv' := [(0, va_rf (some h0)), (2, va_rf r1)]) [0, 2] rfl ?_
    exact mb_X6_hang_22 S hlk hr hE hl htb u4 r1 hkh0 hw
theorem me_X6_hang (l : Launch) (D : va_G) (cy : Nat → ClassId) (A : Nat → Prop) (t0 mi : Nat) (post : Int32 → z_St → Prop) (px : String → z_St → Prop) (u : z_St) (h0 : Nat) (x1 : Int32) (hkh0 : z_kd h0 u = 8 ∧ 8 ≠ 0) (hl : l.stackTraces = false) (hw : w_X6_hang post px t0 mi h0 u x1) : zx_Mi l yX6_hang (Cond.code yX6_hang cX6_hang 4 (some .int) :: z_T) rm_X6_hang [va_rf (some h0), .int x1] (z_EC D cy A t0 mi) (z_hC D cy A t0 u) u (fun r u' => post r u' ∧ z_mono u u') px 4 41 A :=
  zx_met (by decide) (Nat.le_of_ble_eq_true rfl) (fun p e s m args below meth c S hlk hr hnm htb hE => mb_X6_hang S hlk hr hE hl htb u x1 hkh0 hw)
abbrev rm_X6_length : Room := { frames := 7, cells := 2, slots := 12, locals := 111 }
def w_X6_length (post : Int32 → z_St → Prop) (px : String → z_St → Prop) (t0 mi h0 : Nat) (u : z_St) (x1 : Int32) (x2 : Int32) : Prop := (w_X6_requireBox (fun u1 => (w_X6_requireOwn (fun u2 => (∃ a3 : Nat, z_gR 29 h0 u2 = some a3 ∧ z_kd a3 u2 = 12 ∧ (vp_in x1 (z_ln a3 u2) ∧ (∃ a4 : Nat, z_aR a3 x1.toNatClampNeg u2 = some a4 ∧ z_kd a4 u2 = 3 ∧ (∃ a5 : Nat, z_gR 4 a4 u2 = some a5 ∧ z_kd a5 u2 = 14 ∧ (vp_in x2 (z_ln a5 u2) ∧ (w_X6_samplesOf (fun r6 u6 => (post r6 u6)) t0 mi u2 (z_aR a5 x2.toNatClampNeg u2)))))))) px t0 mi h0 u1 x2)) px t0 mi h0 u x1)
set_option maxRecDepth 20000 in
theorem mb_X6_length {p : Program} {l : Launch} {e : Env} {s : State} {m : MethodId} {args : Array Value} {below : List Frame} {meth : Method} {c : Code} {D : va_G} {cy : Nat → ClassId} {A : Nat → Prop} {t0 mi : Nat} {u0 : z_St} {h0 : Nat} (S : CallFix p m c cX6_length 3 s args z_T RX6) (hlk : meth.locks = false) (hr : meth.sig.returnType = (some .int)) (hE : z_EC D cy A t0 mi s) (hl : l.stackTraces = false) (htb : ∀ x ∈ c.exceptionTable.toList, False) {post : Int32 → z_St → Prop} {px : String → z_St → Prop}  (u : z_St) (x1 : Int32) (x2 : Int32) (hkh0 : z_kd h0 u = 8 ∧ 8 ≠ 0) (hw : w_X6_length post px t0 mi h0 u x1 x2) : z_V A (z_hC D cy A t0 u0) p l e rm_X6_length s m args below meth c 3 (vx_MQ below (va_Qi (fun r (u' : z_St) => post r u' ∧ z_mono u0 u') (fun (u' : z_St) t => z_hC D cy A t0 u0 u' t.heap) A) (zx_X px (z_hC D cy A t0 u0) A) args s 2 12 A) 0 0 u 0 [(0, va_rf (some h0)), (1, .int x1), (2, .int x2)] [] := by
  refine z_aload_n (x := some h0) S 0 dX6_length_0 rfl rfl ?_
  refine z_iload_n S 1 dX6_length_1 rfl rfl ?_
  refine zx_callVv (As := [.int x1]) (st := []) S (z_ECok D cy A t0 mi) hE htb hlk (me_X6_requireBox l D cy A t0 mi _ px u h0 x1 hkh0 hl hw) gV_X6_66 hdV_X6_requireBox ⟨Nat.le_of_ble_eq_true rfl, Nat.le_of_ble_eq_true rfl⟩ rfl rfl (z_recvC (u := u) hE hkh0 (by decide) rfl) (fun _ h => h.re) (fun _ _ _ h h' => h.ba h') (fun _ _ h => h) rfl (Nat.le_trans z_s0 (by decide)) dX6_length_2 ⟨(Nat.le_of_ble_eq_true rfl), (Nat.le_of_ble_eq_true rfl)⟩ ⟨(Nat.le_of_ble_eq_true rfl), (Nat.le_of_ble_eq_true rfl)⟩ rfl (fun u1 hw => ?_)
  obtain ⟨hw, hm1⟩ := hw
  have hkh0 := hm1.k hkh0
  refine z_aload_n (x := some h0) S 0 dX6_length_5 rfl rfl ?_
  refine z_iload_n S 2 dX6_length_6 rfl rfl ?_
  refine zx_callVv (As := [.int x2]) (st := []) S (z_ECok D cy A t0 mi) hE htb hlk (me_X6_requireOwn l D cy A t0 mi _ px u1 h0 x2 hkh0 hl hw) gV_X6_196 hdV_X6_requireOwn ⟨Nat.le_of_ble_eq_true rfl, Nat.le_of_ble_eq_true rfl⟩ rfl rfl (z_recvC (u := u1) hE hkh0 (by decide) rfl) (fun _ h => h.re) (fun _ _ _ h h' => h.ba h') (fun _ _ h => h) rfl (Nat.le_trans z_s0 (by decide)) dX6_length_7 ⟨(Nat.le_of_ble_eq_true rfl), (Nat.le_of_ble_eq_true rfl)⟩ ⟨(Nat.le_of_ble_eq_true rfl), (Nat.le_of_ble_eq_true rfl)⟩ rfl (fun u2 hw => ?_)
  obtain ⟨hw, hm2⟩ := hw
  have hkh0 := hm2.k hkh0
  refine z_aload_n (x := some h0) S 0 dX6_length_10 rfl rfl ?_
  refine zb_g_X6_22 (x := z_gR 29 h0 u2) S hE hkh0 rfl dX6_length_11 ?_
  refine z_iload_n S 1 dX6_length_14 rfl rfl ?_
  obtain ⟨a3, ea3, hka3, hw⟩ := hw
  have hka3 : z_kd a3 u2 = 12 ∧ 12 ≠ 0 := ⟨hka3, by decide⟩
  obtain ⟨hi1, hw⟩ := hw
  refine z_st (st' := [.int x1, va_rf (some a3)]) (congrArg (fun r : Option Nat => ([.int x1, va_rf r] : List Value)) ea3) ?_
  refine z_caald (κ := 12) S hE hka3 (by decide) rfl hi1 dX6_length_15 ?_
  obtain ⟨a4, ea4, hka4, hw⟩ := hw
  have hka4 : z_kd a4 u2 = 3 ∧ 3 ≠ 0 := ⟨hka4, by decide⟩
  refine z_st (st' := [va_rf (some a4)]) (congrArg (fun r : Option Nat => ([va_rf r] : List Value)) ea4) ?_
  refine zb_g_X6_174 (x := z_gR 4 a4 u2) S hE hka4 rfl dX6_length_16 ?_
  refine z_iload_n S 2 dX6_length_19 rfl rfl ?_
  obtain ⟨a5, ea5, hka5, hw⟩ := hw
  have hka5 : z_kd a5 u2 = 14 ∧ 14 ≠ 0 := ⟨hka5, by decide⟩
  obtain ⟨hi2, hw⟩ := hw
  refine z_st (st' := [.int x2, va_rf (some a5)]) (congrArg (fun r : Option Nat => ([.int x2, va_rf r] : List Value)) ea5) ?_
  refine z_caald (κ := 14) S hE hka5 (by decide) rfl hi2 dX6_length_20 ?_
  refine z_callSi (As := [va_rf (z_aR a5 x2.toNatClampNeg u2)]) (st := []) S (z_ECok D cy A t0 mi) hE (me_X6_samplesOf l D cy A t0 mi _ u2 (z_aR a5 x2.toNatClampNeg u2) hw) gS_X6_187 hdS_X6_samplesOf ⟨Nat.le_of_ble_eq_true rfl, Nat.le_of_ble_eq_true rfl⟩ rfl rfl (fun _ h => h.re) (fun _ _ _ h h' => h.ba h') rfl (Nat.le_trans z_s0 (by decide)) dX6_length_21 ⟨(Nat.le_of_ble_eq_true rfl), (Nat.le_of_ble_eq_true rfl)⟩ rfl (fun r6 u6 hw => ?_)
  obtain ⟨hw, hm6⟩ := hw
  have hkh0 := hm6.k hkh0
  have hka3 := hm6.k hka3
  have hka4 := hm6.k hka4
  have hka5 := hm6.k hka5
  exact z_cxiret S hr hlk dX6_length_24 (Nat.le_of_ble_eq_true rfl) (Nat.le_of_ble_eq_true rfl) hw
theorem me_X6_length (l : Launch) (D : va_G) (cy : Nat → ClassId) (A : Nat → Prop) (t0 mi : Nat) (post : Int32 → z_St → Prop) (px : String → z_St → Prop) (u : z_St) (h0 : Nat) (x1 : Int32) (x2 : Int32) (hkh0 : z_kd h0 u = 8 ∧ 8 ≠ 0) (hl : l.stackTraces = false) (hw : w_X6_length post px t0 mi h0 u x1 x2) : zx_Mi l yX6_length (Cond.code yX6_length cX6_length 3 (some .int) :: z_T) rm_X6_length [va_rf (some h0), .int x1, .int x2] (z_EC D cy A t0 mi) (z_hC D cy A t0 u) u (fun r u' => post r u' ∧ z_mono u u') px 2 12 A :=
  zx_met (by decide) (Nat.le_of_ble_eq_true rfl) (fun p e s m args below meth c S hlk hr hnm htb hE => mb_X6_length S hlk hr hE hl htb u x1 x2 hkh0 hw)
abbrev rm_X6_requireList : Room := { frames := 6, cells := 1, slots := 6, locals := 90 }
def w_X6_requireList (post : z_St → Prop) (px : String → z_St → Prop) (t0 mi h0 : Nat) (u : z_St) (x1 : Int32) : Prop := ((x1 < 0 → (px "java/lang/IllegalArgumentException" u)) ∧ (¬ x1 < 0 → ((x1 < 3 → (post u)) ∧ (¬ x1 < 3 → (px "java/lang/IllegalArgumentException" u)))))
set_option maxRecDepth 20000 in
theorem mb_X6_requireList {p : Program} {l : Launch} {e : Env} {s : State} {m : MethodId} {args : Array Value} {below : List Frame} {meth : Method} {c : Code} {D : va_G} {cy : Nat → ClassId} {A : Nat → Prop} {t0 mi : Nat} {u0 : z_St} {h0 : Nat} (S : CallFix p m c cX6_requireList 2 s args z_T RX6) (hlk : meth.locks = false) (hr : meth.sig.returnType = none) (hE : z_EC D cy A t0 mi s) (hl : l.stackTraces = false) (htb : ∀ x ∈ c.exceptionTable.toList, False) {post : z_St → Prop} {px : String → z_St → Prop}  (u : z_St) (x1 : Int32) (hkh0 : z_kd h0 u = 8 ∧ 8 ≠ 0) (hw : w_X6_requireList post px t0 mi h0 u x1) : z_V A (z_hC D cy A t0 u0) p l e rm_X6_requireList s m args below meth c 2 (vx_MQ below (va_Qv (fun (u' : z_St) => post u' ∧ z_mono u0 u') (fun (u' : z_St) t => z_hC D cy A t0 u0 u' t.heap) A) (zx_X px (z_hC D cy A t0 u0) A) args s 1 6 A) 0 0 u 0 [(0, va_rf (some h0)), (1, .int x1)] [] := by
  refine z_iload_n S 1 dX6_requireList_0 rfl rfl ?_
  refine z_if_lt S 9 dX6_requireList_1 (by decide) (fun c1 => ?_) (fun c1 => ?_)
  · have hw := hw.1 c1
    exact zx_thr_51 (is := 242) (text := "there is no such list") S hE hl htb hlk (by decide) dX6_requireList_9 dX6_requireList_12 dX6_requireList_13 dX6_requireList_15 dX6_requireList_18 (Nat.le_of_ble_eq_true rfl) (Nat.le_of_ble_eq_true rfl) (Nat.le_of_ble_eq_true rfl) (Nat.le_of_ble_eq_true rfl) (Nat.le_of_ble_eq_true rfl) (Nat.le_of_ble_eq_true rfl) hw
  · have hw := hw.2 c1
    refine z_iload_n S 1 dX6_requireList_4 rfl rfl ?_
    refine z_iconst (v := 3) S dX6_requireList_5 (by decide) ?_
    refine z_icmp_lt S 19 dX6_requireList_6 (by decide) (fun c2 => ?_) (fun c2 => ?_)
    · have hw := hw.1 c2
      exact z_cxvret S hr hlk dX6_requireList_19 (Nat.le_of_ble_eq_true rfl) (Nat.le_of_ble_eq_true rfl) hw
    · have hw := hw.2 c2
      exact zx_thr_51 (is := 242) (text := "there is no such list") S hE hl htb hlk (by decide) dX6_requireList_9 dX6_requireList_12 dX6_requireList_13 dX6_requireList_15 dX6_requireList_18 (Nat.le_of_ble_eq_true rfl) (Nat.le_of_ble_eq_true rfl) (Nat.le_of_ble_eq_true rfl) (Nat.le_of_ble_eq_true rfl) (Nat.le_of_ble_eq_true rfl) (Nat.le_of_ble_eq_true rfl) hw
theorem me_X6_requireList (l : Launch) (D : va_G) (cy : Nat → ClassId) (A : Nat → Prop) (t0 mi : Nat) (post : z_St → Prop) (px : String → z_St → Prop) (u : z_St) (h0 : Nat) (x1 : Int32) (hkh0 : z_kd h0 u = 8 ∧ 8 ≠ 0) (hl : l.stackTraces = false) (hw : w_X6_requireList post px t0 mi h0 u x1) : zx_Mv l yX6_requireList (Cond.code yX6_requireList cX6_requireList 2 none :: z_T) rm_X6_requireList [va_rf (some h0), .int x1] (z_EC D cy A t0 mi) (z_hC D cy A t0 u) u (fun u' => post u' ∧ z_mono u u') px 1 6 A :=
  zx_met (by decide) (Nat.le_of_ble_eq_true rfl) (fun p e s m args below meth c S hlk hr hnm htb hE => mb_X6_requireList S hlk hr hE hl htb u x1 hkh0 hw)
abbrev rm_X6_mark : Room := { frames := 7, cells := 2, slots := 12, locals := 112 }
def w_X6_mark (post : Int32 → z_St → Prop) (px : String → z_St → Prop) (t0 mi h0 : Nat) (u : z_St) (x1 : Int32) (x2 : Int32) : Prop := (w_X6_placeOf (fun r1 u1 => (∃ a2 : Nat, z_gR 31 h0 u = some a2 ∧ z_kd a2 u1 = 1 ∧ (w_Jx4a65c_get_915e3 (fun r3 u3 => (∃ a4 : Nat, r3 = some a4 ∧ z_kd a4 u3 = 5 ∧ (w_X6_requireList (fun u5 => (∀ x4_1 : Int32, x4_1 = z_gI 20 a4 u5 → (post x4_1 (z_pI 20 a4 x2 u5)))) px t0 mi h0 u3 x2))) t0 mi a2 u1 r1))) px t0 mi h0 u x1)
set_option maxRecDepth 20000 in
theorem mb_X6_mark {p : Program} {l : Launch} {e : Env} {s : State} {m : MethodId} {args : Array Value} {below : List Frame} {meth : Method} {c : Code} {D : va_G} {cy : Nat → ClassId} {A : Nat → Prop} {t0 mi : Nat} {u0 : z_St} {h0 : Nat} (S : CallFix p m c cX6_mark 5 s args z_T RX6) (hlk : meth.locks = false) (hr : meth.sig.returnType = (some .int)) (hE : z_EC D cy A t0 mi s) (hl : l.stackTraces = false) (htb : ∀ x ∈ c.exceptionTable.toList, False) {post : Int32 → z_St → Prop} {px : String → z_St → Prop}  (u : z_St) (x1 : Int32) (x2 : Int32) (hkh0 : z_kd h0 u = 8 ∧ 8 ≠ 0) (hw : w_X6_mark post px t0 mi h0 u x1 x2) : z_V A (z_hC D cy A t0 u0) p l e rm_X6_mark s m args below meth c 5 (vx_MQ below (va_Qi (fun r (u' : z_St) => post r u' ∧ z_mono u0 u') (fun (u' : z_St) t => z_hC D cy A t0 u0 u' t.heap) A) (zx_X px (z_hC D cy A t0 u0) A) args s 2 12 A) 0 0 u 0 [(0, va_rf (some h0)), (1, .int x1), (2, .int x2)] [] := by
  refine z_aload_n (x := some h0) S 0 dX6_mark_0 rfl rfl ?_
  refine zb_g_X6_35 (x := z_gR 31 h0 u) S hE hkh0 rfl dX6_mark_1 ?_
  refine z_aload_n (x := some h0) S 0 dX6_mark_4 rfl rfl ?_
  refine z_iload_n S 1 dX6_mark_5 rfl rfl ?_
  refine zx_callVi (As := [.int x1]) (st := [va_rf (z_gR 31 h0 u)]) S (z_ECok D cy A t0 mi) hE htb hlk (me_X6_placeOf l D cy A t0 mi _ px u h0 x1 hkh0 hl hw) gV_X6_149 hdV_X6_placeOf ⟨Nat.le_of_ble_eq_true rfl, Nat.le_of_ble_eq_true rfl⟩ rfl rfl (z_recvC (u := u) hE hkh0 (by decide) rfl) (fun _ h => h.re) (fun _ _ _ h h' => h.ba h') (fun _ _ h => h) rfl (Nat.le_trans (z_sq z_s0) (by decide)) dX6_mark_6 ⟨(Nat.le_of_ble_eq_true rfl), (Nat.le_of_ble_eq_true rfl)⟩ ⟨(Nat.le_of_ble_eq_true rfl), (Nat.le_of_ble_eq_true rfl)⟩ rfl (fun r1 u1 hw => ?_)
  obtain ⟨hw, hm1⟩ := hw
  have hkh0 := hm1.k hkh0
  obtain ⟨a2, ea2, hka2, hw⟩ := hw
  have hka2 : z_kd a2 u1 = 1 ∧ 1 ≠ 0 := ⟨hka2, by decide⟩
  refine z_st (st' := [.int r1, va_rf (some a2)]) (congrArg (fun r : Option Nat => ([.int r1, va_rf r] : List Value)) ea2) ?_
  refine z_callVq (As := [.int r1]) (st := []) S (z_ECok D cy A t0 mi) hE (me_Jx4a65c_get_915e3 l D cy A t0 mi _ u1 a2 r1 hka2 hw) gV_X6_153 hdV_Jx4a65c_get_915e3 ⟨Nat.le_of_ble_eq_true rfl, Nat.le_of_ble_eq_true rfl⟩ rfl rfl (z_recvC (u := u1) hE hka2 (by decide) rfl) (fun _ h => h.re) (fun _ _ _ h h' => h.ba h') rfl (Nat.le_trans z_s0 (by decide)) dX6_mark_9 ⟨(Nat.le_of_ble_eq_true rfl), (Nat.le_of_ble_eq_true rfl)⟩ rfl (fun r3 u3 hw => ?_)
  obtain ⟨hw, hm3⟩ := hw
  have hkh0 := hm3.k hkh0
  have hka2 := hm3.k hka2
  obtain ⟨a4, ea4, hka4, hw⟩ := hw
  have hka4 : z_kd a4 u3 = 5 ∧ 5 ≠ 0 := ⟨hka4, by decide⟩
  refine z_st (st' := [va_rf (some a4)]) (congrArg (fun r : Option Nat => ([va_rf r] : List Value)) ea4) ?_
  refine z_cst (κ := 5) S hE hka4 (by decide) rfl wd_499 dX6_mark_12 ?_
  refine z_astore_n (x := some a4) S [(3, va_rf (some a4)), (0, va_rf (some h0)), (1, .int x1), (2, .int x2)] dX6_mark_15 rfl (by decide) rfl ?_
  refine z_lv (lv' := [(0, va_rf (some h0)), (1, .int x1), (2, .int x2), (3, va_rf (some a4))]) [1, 2, 3, 0] rfl ?_
  refine z_aload_n (x := some h0) S 0 dX6_mark_16 rfl rfl ?_
  refine z_iload_n S 2 dX6_mark_17 rfl rfl ?_
  refine zx_callVv (As := [.int x2]) (st := []) S (z_ECok D cy A t0 mi) hE htb hlk (me_X6_requireList l D cy A t0 mi _ px u3 h0 x2 hkh0 hl hw) gV_X6_138 hdV_X6_requireList ⟨Nat.le_of_ble_eq_true rfl, Nat.le_of_ble_eq_true rfl⟩ rfl rfl (z_recvC (u := u3) hE hkh0 (by decide) rfl) (fun _ h => h.re) (fun _ _ _ h h' => h.ba h') (fun _ _ h => h) rfl (Nat.le_trans z_s0 (by decide)) dX6_mark_18 ⟨(Nat.le_of_ble_eq_true rfl), (Nat.le_of_ble_eq_true rfl)⟩ ⟨(Nat.le_of_ble_eq_true rfl), (Nat.le_of_ble_eq_true rfl)⟩ rfl (fun u5 hw => ?_)
  obtain ⟨hw, hm5⟩ := hw
  have hkh0 := hm5.k hkh0
  have hka2 := hm5.k hka2
  have hka4 := hm5.k hka4
  refine z_aload_n (x := some a4) S 3 dX6_mark_21 rfl rfl ?_
  refine zb_g_X6_159 (x := z_gI 20 a4 u5) S hE hka4 rfl dX6_mark_22 ?_
  refine z_top (fun x4_1 ex4_1 => ?_)
  have hw := hw x4_1 ex4_1
  refine z_istore S [(4, .int x4_1), (0, va_rf (some h0)), (1, .int x1), (2, .int x2), (3, va_rf (some a4))] dX6_mark_25 (by decide) rfl ?_
  refine z_lv (lv' := [(0, va_rf (some h0)), (1, .int x1), (2, .int x2), (3, va_rf (some a4)), (4, .int x4_1)]) [1, 2, 3, 4, 0] rfl ?_
  refine z_aload_n (x := some a4) S 3 dX6_mark_27 rfl rfl ?_
  refine z_iload_n S 2 dX6_mark_28 rfl rfl ?_
  refine zb_p_X6_159 S hE hka4 dX6_mark_29 ?_
  refine z_iload S 4 dX6_mark_32 rfl ?_
  exact z_cxiret S hr hlk dX6_mark_34 (Nat.le_of_ble_eq_true rfl) (Nat.le_of_ble_eq_true rfl) hw
theorem me_X6_mark (l : Launch) (D : va_G) (cy : Nat → ClassId) (A : Nat → Prop) (t0 mi : Nat) (post : Int32 → z_St → Prop) (px : String → z_St → Prop) (u : z_St) (h0 : Nat) (x1 : Int32) (x2 : Int32) (hkh0 : z_kd h0 u = 8 ∧ 8 ≠ 0) (hl : l.stackTraces = false) (hw : w_X6_mark post px t0 mi h0 u x1 x2) : zx_Mi l yX6_mark (Cond.code yX6_mark cX6_mark 5 (some .int) :: z_T) rm_X6_mark [va_rf (some h0), .int x1, .int x2] (z_EC D cy A t0 mi) (z_hC D cy A t0 u) u (fun r u' => post r u' ∧ z_mono u u') px 2 12 A :=
  zx_met (by decide) (Nat.le_of_ble_eq_true rfl) (fun p e s m args below meth c S hlk hr hnm htb hE => mb_X6_mark S hlk hr hE hl htb u x1 x2 hkh0 hw)
abbrev rm_X6_numberInList : Room := { frames := 3, cells := 0, slots := 0, locals := 64 }
def w_X6_numberInList_65 (post : Int32 → z_St → Prop) (J6 : z_St → Int32 → Int32 → Int32 → Int32 → Int32 → Prop) (t0 mi h0 : Nat) (u : z_St) (x1 : Int32) (x2 : Int32) (x3 : Int32) (x4 : Int32) (x5 : Int32) : Prop := (J6 u x1 x2 x3 x4 (x5 + 1))
def w_X6_numberInList_6 (post : Int32 → z_St → Prop) (t0 mi h0 : Nat) : Nat → z_St → Int32 → Int32 → Int32 → Int32 → Int32 → Prop
  | 0 => fun _ _ _ _ _ _ => False
  | n + 1 => fun u x1 x2 x3 x4 x5 => (∃ a1 : Nat, z_gR 31 h0 u = some a1 ∧ z_kd a1 u = 1 ∧ (w_Jx4a65c_size_8abf5 (fun r2 u2 => ((r2 ≤ x5 → (post (-1) u2)) ∧ (¬ r2 ≤ x5 → (∃ a3 : Nat, z_gR 31 h0 u2 = some a3 ∧ z_kd a3 u2 = 1 ∧ (w_Jx4a65c_get_915e3 (fun r4 u4 => (∃ a5 : Nat, r4 = some a5 ∧ z_kd a5 u4 = 5 ∧ ((¬ (z_gI 17 a5 u4) = x1 → (w_X6_numberInList_65 post (w_X6_numberInList_6 post t0 mi h0 n) t0 mi h0 u4 x1 x2 x3 x4 x5)) ∧ ((z_gI 17 a5 u4) = x1 → ((¬ (z_gI 20 a5 u4) = x2 → (w_X6_numberInList_65 post (w_X6_numberInList_6 post t0 mi h0 n) t0 mi h0 u4 x1 x2 x3 x4 x5)) ∧ ((z_gI 20 a5 u4) = x2 → ((¬ x4 = x3 → (w_X6_numberInList_65 post (w_X6_numberInList_6 post t0 mi h0 n) t0 mi h0 u4 x1 x2 x3 (x4 + 1) x5)) ∧ (x4 = x3 → (post (z_gI 16 a5 u4) u4))))))))) t0 mi a3 u2 x5))))) t0 mi a1 u ))
def w_X6_numberInList (post : Int32 → z_St → Prop) (t0 mi h0 : Nat) (u : z_St) (x1 : Int32) (x2 : Int32) (x3 : Int32) : Prop := (∃ n0 : Nat, w_X6_numberInList_6 post t0 mi h0 n0 u x1 x2 x3 0 0)
set_option maxRecDepth 20000 in
theorem mb_X6_numberInList_65 {p : Program} {l : Launch} {e : Env} {s : State} {m : MethodId} {args : Array Value} {below : List Frame} {meth : Method} {c : Code} {D : va_G} {cy : Nat → ClassId} {A : Nat → Prop} {t0 mi : Nat} {u0 : z_St} {h0 : Nat} (S : CallFix p m c cX6_numberInList 7 s args z_T RX6) (hlk : meth.locks = false) (hr : meth.sig.returnType = (some .int)) (hE : z_EC D cy A t0 mi s) {post : Int32 → z_St → Prop} {J6 : z_St → Int32 → Int32 → Int32 → Int32 → Int32 → Prop} (hJ6 : ∀ (u : z_St) (x1 : Int32) (x2 : Int32) (x3 : Int32) (x4 : Int32) (x5 : Int32) (hkh0 : z_kd h0 u = 8 ∧ 8 ≠ 0), J6 u x1 x2 x3 x4 x5 → z_V A (z_hC D cy A t0 u0) p l e rm_X6_numberInList s m args below meth c 7 (MQ below (va_Qi (fun r (u' : z_St) => post r u' ∧ z_mono u0 u') (fun (u' : z_St) t => z_hC D cy A t0 u0 u' t.heap) A) args s 0 0 A) 0 0 u 6 [(0, va_rf (some h0)), (1, .int x1), (2, .int x2), (3, .int x3), (4, .int x4), (5, .int x5)] []) (u : z_St) (x1 : Int32) (x2 : Int32) (x3 : Int32) (x4 : Int32) (x5 : Int32) (hkh0 : z_kd h0 u = 8 ∧ 8 ≠ 0) (hw : w_X6_numberInList_65 post J6 t0 mi h0 u x1 x2 x3 x4 x5) : z_V A (z_hC D cy A t0 u0) p l e rm_X6_numberInList s m args below meth c 7 (MQ below (va_Qi (fun r (u' : z_St) => post r u' ∧ z_mono u0 u') (fun (u' : z_St) t => z_hC D cy A t0 u0 u' t.heap) A) args s 0 0 A) 0 0 u 65 [(0, va_rf (some h0)), (1, .int x1), (2, .int x2), (3, .int x3), (4, .int x4), (5, .int x5)] [] := by
  refine z_iinc (v := x5 + 1) (pl := 5) S [(5, .int (x5 + 1)), (0, va_rf (some h0)), (1, .int x1), (2, .int x2), (3, .int x3), (4, .int x4)] dX6_numberInList_65 rfl rfl (by decide) rfl ?_
  refine z_lv (lv' := [(0, va_rf (some h0)), (1, .int x1), (2, .int x2), (3, .int x3), (4, .int x4), (5, .int (x5 + 1))]) [1, 2, 3, 4, 5, 0] rfl ?_
  refine z_goto S 6 dX6_numberInList_68 (by decide) ?_
  exact hJ6 u x1 x2 x3 x4 (x5 + 1) hkh0 hw
set_option maxRecDepth 20000 in
theorem mb_X6_numberInList_6 {p : Program} {l : Launch} {e : Env} {s : State} {m : MethodId} {args : Array Value} {below : List Frame} {meth : Method} {c : Code} {D : va_G} {cy : Nat → ClassId} {A : Nat → Prop} {t0 mi : Nat} {u0 : z_St} {h0 : Nat} (S : CallFix p m c cX6_numberInList 7 s args z_T RX6) (hlk : meth.locks = false) (hr : meth.sig.returnType = (some .int)) (hE : z_EC D cy A t0 mi s) {post : Int32 → z_St → Prop}  : ∀ (n : Nat) (u : z_St) (x1 : Int32) (x2 : Int32) (x3 : Int32) (x4 : Int32) (x5 : Int32) (hkh0 : z_kd h0 u = 8 ∧ 8 ≠ 0), w_X6_numberInList_6 post t0 mi h0 n u x1 x2 x3 x4 x5 → z_V A (z_hC D cy A t0 u0) p l e rm_X6_numberInList s m args below meth c 7 (MQ below (va_Qi (fun r (u' : z_St) => post r u' ∧ z_mono u0 u') (fun (u' : z_St) t => z_hC D cy A t0 u0 u' t.heap) A) args s 0 0 A) 0 0 u 6 [(0, va_rf (some h0)), (1, .int x1), (2, .int x2), (3, .int x3), (4, .int x4), (5, .int x5)] [] := by
  intro n
  induction n with
  | zero => intro u x1 x2 x3 x4 x5 hkh0 hw; exact hw.elim
  | succ n ih =>
    intro u x1 x2 x3 x4 x5 hkh0 hw
    refine z_iload S 5 dX6_numberInList_6 rfl ?_
    refine z_aload_n (x := some h0) S 0 dX6_numberInList_8 rfl rfl ?_
    refine zb_g_X6_35 (x := z_gR 31 h0 u) S hE hkh0 rfl dX6_numberInList_9 ?_
    obtain ⟨a1, ea1, hka1, hw⟩ := hw
    have hka1 : z_kd a1 u = 1 ∧ 1 ≠ 0 := ⟨hka1, by decide⟩
    refine z_st (st' := [va_rf (some a1), .int x5]) (congrArg (fun r : Option Nat => ([va_rf r, .int x5] : List Value)) ea1) ?_
    refine z_callVi (As := []) (st := [.int x5]) S (z_ECok D cy A t0 mi) hE (me_Jx4a65c_size_8abf5 l D cy A t0 mi _ u a1 hka1 hw) gV_X6_222 hdV_Jx4a65c_size_8abf5 ⟨Nat.le_of_ble_eq_true rfl, Nat.le_of_ble_eq_true rfl⟩ rfl rfl (z_recvC (u := u) hE hka1 (by decide) rfl) (fun _ h => h.re) (fun _ _ _ h h' => h.ba h') rfl (Nat.le_trans (z_s1 z_s0) (by decide)) dX6_numberInList_12 ⟨(Nat.le_of_ble_eq_true rfl), (Nat.le_of_ble_eq_true rfl)⟩ rfl (fun r2 u2 hw => ?_)
    obtain ⟨hw, hm2⟩ := hw
    have hkh0 := hm2.k hkh0
    have hka1 := hm2.k hka1
    refine z_icmp_ge S 71 dX6_numberInList_15 (by decide) (fun c1 => ?_) (fun c1 => ?_)
    · have hw := hw.1 c1
      refine z_iconst (v := (-1)) S dX6_numberInList_71 (by decide) ?_
      exact z_ciret S hr hlk dX6_numberInList_72 (Nat.le_of_ble_eq_true rfl) (Nat.le_of_ble_eq_true rfl) hw
    · have hw := hw.2 c1
      refine z_aload_n (x := some h0) S 0 dX6_numberInList_18 rfl rfl ?_
      refine zb_g_X6_35 (x := z_gR 31 h0 u2) S hE hkh0 rfl dX6_numberInList_19 ?_
      refine z_iload S 5 dX6_numberInList_22 rfl ?_
      obtain ⟨a3, ea3, hka3, hw⟩ := hw
      have hka3 : z_kd a3 u2 = 1 ∧ 1 ≠ 0 := ⟨hka3, by decide⟩
      refine z_st (st' := [.int x5, va_rf (some a3)]) (congrArg (fun r : Option Nat => ([.int x5, va_rf r] : List Value)) ea3) ?_
      refine z_callVq (As := [.int x5]) (st := []) S (z_ECok D cy A t0 mi) hE (me_Jx4a65c_get_915e3 l D cy A t0 mi _ u2 a3 x5 hka3 hw) gV_X6_153 hdV_Jx4a65c_get_915e3 ⟨Nat.le_of_ble_eq_true rfl, Nat.le_of_ble_eq_true rfl⟩ rfl rfl (z_recvC (u := u2) hE hka3 (by decide) rfl) (fun _ h => h.re) (fun _ _ _ h h' => h.ba h') rfl (Nat.le_trans z_s0 (by decide)) dX6_numberInList_24 ⟨(Nat.le_of_ble_eq_true rfl), (Nat.le_of_ble_eq_true rfl)⟩ rfl (fun r4 u4 hw => ?_)
      obtain ⟨hw, hm4⟩ := hw
      have hkh0 := hm4.k hkh0
      have hka1 := hm4.k hka1
      have hka3 := hm4.k hka3
      obtain ⟨a5, ea5, hka5, hw⟩ := hw
      have hka5 : z_kd a5 u4 = 5 ∧ 5 ≠ 0 := ⟨hka5, by decide⟩
      refine z_st (st' := [va_rf (some a5)]) (congrArg (fun r : Option Nat => ([va_rf r] : List Value)) ea5) ?_
      refine z_cst (κ := 5) S hE hka5 (by decide) rfl wd_499 dX6_numberInList_27 ?_
      refine z_astore (x := some a5) S [(6, va_rf (some a5)), (0, va_rf (some h0)), (1, .int x1), (2, .int x2), (3, .int x3), (4, .int x4), (5, .int x5)] dX6_numberInList_30 (by decide) rfl ?_
      refine z_lv (lv' := [(0, va_rf (some h0)), (1, .int x1), (2, .int x2), (3, .int x3), (4, .int x4), (5, .int x5), (6, va_rf (some a5))]) [1, 2, 3, 4, 5, 6, 0] rfl ?_
      refine z_aload (x := some a5) S 6 dX6_numberInList_32 rfl ?_
      refine zb_g_X6_173 (x := z_gI 17 a5 u4) S hE hka5 rfl dX6_numberInList_34 ?_
      refine z_iload_n S 1 dX6_numberInList_37 rfl rfl ?_
      refine z_icmp_ne S 65 dX6_numberInList_38 (by decide) (fun c2 => ?_) (fun c2 => ?_)
      · have hw := hw.1 c2
        refine z_lv (lv' := [(0, va_rf (some h0)), (1, .int x1), (2, .int x2), (3, .int x3), (4, .int x4), (5, .int x5)]) [0, 1, 2, 3, 4, 5] rfl ?_
        exact mb_X6_numberInList_65 S hlk hr hE ih u4 x1 x2 x3 x4 x5 hkh0 hw
      · have hw := hw.2 c2
        refine z_aload (x := some a5) S 6 dX6_numberInList_41 rfl ?_
        refine zb_g_X6_159 (x := z_gI 20 a5 u4) S hE hka5 rfl dX6_numberInList_43 ?_
        refine z_iload_n S 2 dX6_numberInList_46 rfl rfl ?_
        refine z_icmp_ne S 65 dX6_numberInList_47 (by decide) (fun c3 => ?_) (fun c3 => ?_)
        · have hw := hw.1 c3
          refine z_lv (lv' := [(0, va_rf (some h0)), (1, .int x1), (2, .int x2), (3, .int x3), (4, .int x4), (5, .int x5)]) [0, 1, 2, 3, 4, 5] rfl ?_
          exact mb_X6_numberInList_65 S hlk hr hE ih u4 x1 x2 x3 x4 x5 hkh0 hw
        · have hw := hw.2 c3
          refine z_iload S 4 dX6_numberInList_50 rfl ?_
          refine z_iload_n S 3 dX6_numberInList_52 rfl rfl ?_
          refine z_icmp_ne S 62 dX6_numberInList_53 (by decide) (fun c4 => ?_) (fun c4 => ?_)
          · have hw := hw.1 c4
            refine z_iinc (v := x4 + 1) (pl := 4) S [(4, .int (x4 + 1)), (0, va_rf (some h0)), (1, .int x1), (2, .int x2), (3, .int x3), (5, .int x5), (6, va_rf (some a5))] dX6_numberInList_62 rfl rfl (by decide) rfl ?_
            refine z_lv (lv' := [(0, va_rf (some h0)), (1, .int x1), (2, .int x2), (3, .int x3), (4, .int (x4 + 1)), (5, .int x5), (6, va_rf (some a5))]) [1, 2, 3, 4, 0, 5, 6] rfl ?_
            refine z_lv (lv' := [(0, va_rf (some h0)), (1, .int x1), (2, .int x2), (3, .int x3), (4, .int (x4 + 1)), (5, .int x5)]) [0, 1, 2, 3, 4, 5] rfl ?_
            exact mb_X6_numberInList_65 S hlk hr hE ih u4 x1 x2 x3 (x4 + 1) x5 hkh0 hw
          · have hw := hw.2 c4
            refine z_aload (x := some a5) S 6 dX6_numberInList_56 rfl ?_
            refine zb_g_X6_248 (x := z_gI 16 a5 u4) S hE hka5 rfl dX6_numberInList_58 ?_
            exact z_ciret S hr hlk dX6_numberInList_61 (Nat.le_of_ble_eq_true rfl) (Nat.le_of_ble_eq_true rfl) hw
set_option maxRecDepth 20000 in
theorem mb_X6_numberInList {p : Program} {l : Launch} {e : Env} {s : State} {m : MethodId} {args : Array Value} {below : List Frame} {meth : Method} {c : Code} {D : va_G} {cy : Nat → ClassId} {A : Nat → Prop} {t0 mi : Nat} {u0 : z_St} {h0 : Nat} (S : CallFix p m c cX6_numberInList 7 s args z_T RX6) (hlk : meth.locks = false) (hr : meth.sig.returnType = (some .int)) (hE : z_EC D cy A t0 mi s) {post : Int32 → z_St → Prop}  (u : z_St) (x1 : Int32) (x2 : Int32) (x3 : Int32) (hkh0 : z_kd h0 u = 8 ∧ 8 ≠ 0) (hw : w_X6_numberInList post t0 mi h0 u x1 x2 x3) : z_V A (z_hC D cy A t0 u0) p l e rm_X6_numberInList s m args below meth c 7 (MQ below (va_Qi (fun r (u' : z_St) => post r u' ∧ z_mono u0 u') (fun (u' : z_St) t => z_hC D cy A t0 u0 u' t.heap) A) args s 0 0 A) 0 0 u 0 [(0, va_rf (some h0)), (1, .int x1), (2, .int x2), (3, .int x3)] [] := by
  refine z_iconst (v := 0) S dX6_numberInList_0 (by decide) ?_
  refine z_istore S [(4, .int 0), (0, va_rf (some h0)), (1, .int x1), (2, .int x2), (3, .int x3)] dX6_numberInList_1 (by decide) rfl ?_
  refine z_lv (lv' := [(0, va_rf (some h0)), (1, .int x1), (2, .int x2), (3, .int x3), (4, .int 0)]) [1, 2, 3, 4, 0] rfl ?_
  refine z_iconst (v := 0) S dX6_numberInList_3 (by decide) ?_
  refine z_istore S [(5, .int 0), (0, va_rf (some h0)), (1, .int x1), (2, .int x2), (3, .int x3), (4, .int 0)] dX6_numberInList_4 (by decide) rfl ?_
  refine z_lv (lv' := [(0, va_rf (some h0)), (1, .int x1), (2, .int x2), (3, .int x3), (4, .int 0), (5, .int 0)]) [1, 2, 3, 4, 5, 0] rfl ?_
  obtain ⟨n0, hw⟩ := hw
  exact mb_X6_numberInList_6 S hlk hr hE n0 u x1 x2 x3 0 0 hkh0 hw
theorem me_X6_numberInList (l : Launch) (D : va_G) (cy : Nat → ClassId) (A : Nat → Prop) (t0 mi : Nat) (post : Int32 → z_St → Prop) (u : z_St) (h0 : Nat) (x1 : Int32) (x2 : Int32) (x3 : Int32) (hkh0 : z_kd h0 u = 8 ∧ 8 ≠ 0) (hw : w_X6_numberInList post t0 mi h0 u x1 x2 x3) : z_Mi l yX6_numberInList (Cond.code yX6_numberInList cX6_numberInList 7 (some .int) :: z_T) rm_X6_numberInList [va_rf (some h0), .int x1, .int x2, .int x3] (z_EC D cy A t0 mi) (z_hC D cy A t0 u) u (fun r u' => post r u' ∧ z_mono u u') 0 0 A :=
  z_met (by decide) (Nat.le_of_ble_eq_true rfl) (fun p e s m args below meth c S hlk hr hnm hE => mb_X6_numberInList S hlk hr hE u x1 x2 x3 hkh0 hw)
abbrev rm_X6_next : Room := { frames := 7, cells := 3, slots := 18, locals := 111 }
def w_X6_next (post : Int32 → z_St → Prop) (px : String → z_St → Prop) (t0 mi h0 : Nat) (u : z_St) (x1 : Int32) (x2 : Int32) (x3 : Int32) : Prop := (w_X6_requireBox (fun u1 => (w_X6_requireList (fun u2 => (w_X6_numberInList (fun r3 u3 => ((¬ r3 = (-1) → (post r3 u3)) ∧ (r3 = (-1) → (px "java/lang/IndexOutOfBoundsException" u3)))) t0 mi h0 u2 x1 x2 x3)) px t0 mi h0 u1 x2)) px t0 mi h0 u x1)
set_option maxRecDepth 20000 in
theorem mb_X6_next {p : Program} {l : Launch} {e : Env} {s : State} {m : MethodId} {args : Array Value} {below : List Frame} {meth : Method} {c : Code} {D : va_G} {cy : Nat → ClassId} {A : Nat → Prop} {t0 mi : Nat} {u0 : z_St} {h0 : Nat} (S : CallFix p m c cX6_next 5 s args z_T RX6) (hlk : meth.locks = false) (hr : meth.sig.returnType = (some .int)) (hE : z_EC D cy A t0 mi s) (hl : l.stackTraces = false) (htb : ∀ x ∈ c.exceptionTable.toList, False) {post : Int32 → z_St → Prop} {px : String → z_St → Prop}  (u : z_St) (x1 : Int32) (x2 : Int32) (x3 : Int32) (hkh0 : z_kd h0 u = 8 ∧ 8 ≠ 0) (hw : w_X6_next post px t0 mi h0 u x1 x2 x3) : z_V A (z_hC D cy A t0 u0) p l e rm_X6_next s m args below meth c 5 (vx_MQ below (va_Qi (fun r (u' : z_St) => post r u' ∧ z_mono u0 u') (fun (u' : z_St) t => z_hC D cy A t0 u0 u' t.heap) A) (zx_X px (z_hC D cy A t0 u0) A) args s 3 18 A) 0 0 u 0 [(0, va_rf (some h0)), (1, .int x1), (2, .int x2), (3, .int x3)] [] := by
  refine z_aload_n (x := some h0) S 0 dX6_next_0 rfl rfl ?_
  refine z_iload_n S 1 dX6_next_1 rfl rfl ?_
  refine zx_callVv (As := [.int x1]) (st := []) S (z_ECok D cy A t0 mi) hE htb hlk (me_X6_requireBox l D cy A t0 mi _ px u h0 x1 hkh0 hl hw) gV_X6_66 hdV_X6_requireBox ⟨Nat.le_of_ble_eq_true rfl, Nat.le_of_ble_eq_true rfl⟩ rfl rfl (z_recvC (u := u) hE hkh0 (by decide) rfl) (fun _ h => h.re) (fun _ _ _ h h' => h.ba h') (fun _ _ h => h) rfl (Nat.le_trans z_s0 (by decide)) dX6_next_2 ⟨(Nat.le_of_ble_eq_true rfl), (Nat.le_of_ble_eq_true rfl)⟩ ⟨(Nat.le_of_ble_eq_true rfl), (Nat.le_of_ble_eq_true rfl)⟩ rfl (fun u1 hw => ?_)
  obtain ⟨hw, hm1⟩ := hw
  have hkh0 := hm1.k hkh0
  refine z_aload_n (x := some h0) S 0 dX6_next_5 rfl rfl ?_
  refine z_iload_n S 2 dX6_next_6 rfl rfl ?_
  refine zx_callVv (As := [.int x2]) (st := []) S (z_ECok D cy A t0 mi) hE htb hlk (me_X6_requireList l D cy A t0 mi _ px u1 h0 x2 hkh0 hl hw) gV_X6_138 hdV_X6_requireList ⟨Nat.le_of_ble_eq_true rfl, Nat.le_of_ble_eq_true rfl⟩ rfl rfl (z_recvC (u := u1) hE hkh0 (by decide) rfl) (fun _ h => h.re) (fun _ _ _ h h' => h.ba h') (fun _ _ h => h) rfl (Nat.le_trans z_s0 (by decide)) dX6_next_7 ⟨(Nat.le_of_ble_eq_true rfl), (Nat.le_of_ble_eq_true rfl)⟩ ⟨(Nat.le_of_ble_eq_true rfl), (Nat.le_of_ble_eq_true rfl)⟩ rfl (fun u2 hw => ?_)
  obtain ⟨hw, hm2⟩ := hw
  have hkh0 := hm2.k hkh0
  refine z_aload_n (x := some h0) S 0 dX6_next_10 rfl rfl ?_
  refine z_iload_n S 1 dX6_next_11 rfl rfl ?_
  refine z_iload_n S 2 dX6_next_12 rfl rfl ?_
  refine z_iload_n S 3 dX6_next_13 rfl rfl ?_
  refine z_callVi (As := [.int x1, .int x2, .int x3]) (st := []) S (z_ECok D cy A t0 mi) hE (me_X6_numberInList l D cy A t0 mi _ u2 h0 x1 x2 x3 hkh0 hw) gV_X6_141 hdV_X6_numberInList ⟨Nat.le_of_ble_eq_true rfl, Nat.le_of_ble_eq_true rfl⟩ rfl rfl (z_recvC (u := u2) hE hkh0 (by decide) rfl) (fun _ h => h.re) (fun _ _ _ h h' => h.ba h') rfl (Nat.le_trans z_s0 (by decide)) dX6_next_14 ⟨(Nat.le_of_ble_eq_true rfl), (Nat.le_of_ble_eq_true rfl)⟩ rfl (fun r3 u3 hw => ?_)
  obtain ⟨hw, hm3⟩ := hw
  have hkh0 := hm3.k hkh0
  refine z_istore S [(4, .int r3), (0, va_rf (some h0)), (1, .int x1), (2, .int x2), (3, .int x3)] dX6_next_17 (by decide) rfl ?_
  refine z_lv (lv' := [(0, va_rf (some h0)), (1, .int x1), (2, .int x2), (3, .int x3), (4, .int r3)]) [1, 2, 3, 4, 0] rfl ?_
  refine z_iload S 4 dX6_next_19 rfl ?_
  refine z_iconst (v := (-1)) S dX6_next_21 (by decide) ?_
  refine z_icmp_ne S 35 dX6_next_22 (by decide) (fun c1 => ?_) (fun c1 => ?_)
  · have hw := hw.1 c1
    refine z_iload S 4 dX6_next_35 rfl ?_
    exact z_cxiret S hr hlk dX6_next_37 (Nat.le_of_ble_eq_true rfl) (Nat.le_of_ble_eq_true rfl) hw
  · have hw := hw.2 c1
    exact zx_thr_144 (is := 146) (text := "the list has no such message") S hE hl htb hlk (by decide) dX6_next_25 dX6_next_28 dX6_next_29 dX6_next_31 dX6_next_34 (Nat.le_of_ble_eq_true rfl) (Nat.le_of_ble_eq_true rfl) (Nat.le_of_ble_eq_true rfl) (Nat.le_of_ble_eq_true rfl) (Nat.le_of_ble_eq_true rfl) (Nat.le_of_ble_eq_true rfl) hw
theorem me_X6_next (l : Launch) (D : va_G) (cy : Nat → ClassId) (A : Nat → Prop) (t0 mi : Nat) (post : Int32 → z_St → Prop) (px : String → z_St → Prop) (u : z_St) (h0 : Nat) (x1 : Int32) (x2 : Int32) (x3 : Int32) (hkh0 : z_kd h0 u = 8 ∧ 8 ≠ 0) (hl : l.stackTraces = false) (hw : w_X6_next post px t0 mi h0 u x1 x2 x3) : zx_Mi l yX6_next (Cond.code yX6_next cX6_next 5 (some .int) :: z_T) rm_X6_next [va_rf (some h0), .int x1, .int x2, .int x3] (z_EC D cy A t0 mi) (z_hC D cy A t0 u) u (fun r u' => post r u' ∧ z_mono u u') px 3 18 A :=
  zx_met (by decide) (Nat.le_of_ble_eq_true rfl) (fun p e s m args below meth c S hlk hr hnm htb hE => mb_X6_next S hlk hr hE hl htb u x1 x2 x3 hkh0 hw)
abbrev rm_X6_pack : Room := { frames := 6, cells := 1, slots := 6, locals := 90 }
def w_X6_pack_22 (post : Int32 → z_St → Prop) (px : String → z_St → Prop) (t0 mi h0 : Nat) : Nat → z_St → Int32 → Int32 → Prop
  | 0 => fun _ _ _ => False
  | n + 1 => fun u x1 x2 => ((x1 ≤ x2 → (post x2 u)) ∧ (¬ x1 ≤ x2 → (∃ a1 : Nat, z_gR 28 h0 u = some a1 ∧ z_kd a1 u = 7 ∧ (w_X5_moveGreatest (fun r2 u2 => ((r2 = 0 → (post x2 u2)) ∧ (¬ r2 = 0 → (w_X6_pack_22 post px t0 mi h0 n u2 x1 (x2 + 1))))) t0 mi a1 u ))))
def w_X6_pack (post : Int32 → z_St → Prop) (px : String → z_St → Prop) (t0 mi h0 : Nat) (u : z_St) (x1 : Int32) : Prop := ((x1 < 0 → (px "java/lang/IllegalArgumentException" u)) ∧ (¬ x1 < 0 → ((x1 ≤ 100 → (∃ n0 : Nat, w_X6_pack_22 post px t0 mi h0 n0 u x1 0)) ∧ (¬ x1 ≤ 100 → (px "java/lang/IllegalArgumentException" u)))))
set_option maxRecDepth 20000 in
theorem mb_X6_pack_22 {p : Program} {l : Launch} {e : Env} {s : State} {m : MethodId} {args : Array Value} {below : List Frame} {meth : Method} {c : Code} {D : va_G} {cy : Nat → ClassId} {A : Nat → Prop} {t0 mi : Nat} {u0 : z_St} {h0 : Nat} (S : CallFix p m c cX6_pack 3 s args z_T RX6) (hlk : meth.locks = false) (hr : meth.sig.returnType = (some .int)) (hE : z_EC D cy A t0 mi s) (hl : l.stackTraces = false) (htb : ∀ x ∈ c.exceptionTable.toList, False) {post : Int32 → z_St → Prop} {px : String → z_St → Prop}  : ∀ (n : Nat) (u : z_St) (x1 : Int32) (x2 : Int32) (hkh0 : z_kd h0 u = 8 ∧ 8 ≠ 0), w_X6_pack_22 post px t0 mi h0 n u x1 x2 → z_V A (z_hC D cy A t0 u0) p l e rm_X6_pack s m args below meth c 3 (vx_MQ below (va_Qi (fun r (u' : z_St) => post r u' ∧ z_mono u0 u') (fun (u' : z_St) t => z_hC D cy A t0 u0 u' t.heap) A) (zx_X px (z_hC D cy A t0 u0) A) args s 1 6 A) 0 0 u 22 [(0, va_rf (some h0)), (1, .int x1), (2, .int x2)] [] := by
  intro n
  induction n with
  | zero => intro u x1 x2 hkh0 hw; exact hw.elim
  | succ n ih =>
    intro u x1 x2 hkh0 hw
    refine z_iload_n S 2 dX6_pack_22 rfl rfl ?_
    refine z_iload_n S 1 dX6_pack_23 rfl rfl ?_
    refine z_icmp_ge S 43 dX6_pack_24 (by decide) (fun c1 => ?_) (fun c1 => ?_)
    · have hw := hw.1 c1
      refine z_iload_n S 2 dX6_pack_43 rfl rfl ?_
      exact z_cxiret S hr hlk dX6_pack_44 (Nat.le_of_ble_eq_true rfl) (Nat.le_of_ble_eq_true rfl) hw
    · have hw := hw.2 c1
      refine z_aload_n (x := some h0) S 0 dX6_pack_27 rfl rfl ?_
      refine zb_g_X6_16 (x := z_gR 28 h0 u) S hE hkh0 rfl dX6_pack_28 ?_
      obtain ⟨a1, ea1, hka1, hw⟩ := hw
      have hka1 : z_kd a1 u = 7 ∧ 7 ≠ 0 := ⟨hka1, by decide⟩
      refine z_st (st' := [va_rf (some a1)]) (congrArg (fun r : Option Nat => ([va_rf r] : List Value)) ea1) ?_
      refine z_callVi (As := []) (st := []) S (z_ECok D cy A t0 mi) hE (me_X5_moveGreatest l D cy A t0 mi _ u a1 hka1 hw) gV_X6_206 hdV_X5_moveGreatest ⟨Nat.le_of_ble_eq_true rfl, Nat.le_of_ble_eq_true rfl⟩ rfl rfl (z_recvC (u := u) hE hka1 (by decide) rfl) (fun _ h => h.re) (fun _ _ _ h h' => h.ba h') rfl (Nat.le_trans z_s0 (by decide)) dX6_pack_31 ⟨(Nat.le_of_ble_eq_true rfl), (Nat.le_of_ble_eq_true rfl)⟩ rfl (fun r2 u2 hw => ?_)
      obtain ⟨hw, hm2⟩ := hw
      have hkh0 := hm2.k hkh0
      have hka1 := hm2.k hka1
      refine z_if_eq S 43 dX6_pack_34 (by decide) (fun c2 => ?_) (fun c2 => ?_)
      · have hw := hw.1 c2
        refine z_iload_n S 2 dX6_pack_43 rfl rfl ?_
        exact z_cxiret S hr hlk dX6_pack_44 (Nat.le_of_ble_eq_true rfl) (Nat.le_of_ble_eq_true rfl) hw
      · have hw := hw.2 c2
        refine z_iinc (v := x2 + 1) (pl := 2) S [(2, .int (x2 + 1)), (0, va_rf (some h0)), (1, .int x1)] dX6_pack_37 rfl rfl (by decide) rfl ?_
        refine z_lv (lv' := [(0, va_rf (some h0)), (1, .int x1), (2, .int (x2 + 1))]) [1, 2, 0] rfl ?_
        refine z_goto S 22 dX6_pack_40 (by decide) ?_
        exact ih u2 x1 (x2 + 1) hkh0 hw
set_option maxRecDepth 20000 in
theorem mb_X6_pack {p : Program} {l : Launch} {e : Env} {s : State} {m : MethodId} {args : Array Value} {below : List Frame} {meth : Method} {c : Code} {D : va_G} {cy : Nat → ClassId} {A : Nat → Prop} {t0 mi : Nat} {u0 : z_St} {h0 : Nat} (S : CallFix p m c cX6_pack 3 s args z_T RX6) (hlk : meth.locks = false) (hr : meth.sig.returnType = (some .int)) (hE : z_EC D cy A t0 mi s) (hl : l.stackTraces = false) (htb : ∀ x ∈ c.exceptionTable.toList, False) {post : Int32 → z_St → Prop} {px : String → z_St → Prop}  (u : z_St) (x1 : Int32) (hkh0 : z_kd h0 u = 8 ∧ 8 ≠ 0) (hw : w_X6_pack post px t0 mi h0 u x1) : z_V A (z_hC D cy A t0 u0) p l e rm_X6_pack s m args below meth c 3 (vx_MQ below (va_Qi (fun r (u' : z_St) => post r u' ∧ z_mono u0 u') (fun (u' : z_St) t => z_hC D cy A t0 u0 u' t.heap) A) (zx_X px (z_hC D cy A t0 u0) A) args s 1 6 A) 0 0 u 0 [(0, va_rf (some h0)), (1, .int x1)] [] := by
  refine z_iload_n S 1 dX6_pack_0 rfl rfl ?_
  refine z_if_lt S 10 dX6_pack_1 (by decide) (fun c1 => ?_) (fun c1 => ?_)
  · have hw := hw.1 c1
    exact zx_thr_51 (is := 204) (text := "the number of moves is not 0 .. 100") S hE hl htb hlk (by decide) dX6_pack_10 dX6_pack_13 dX6_pack_14 dX6_pack_16 dX6_pack_19 (Nat.le_of_ble_eq_true rfl) (Nat.le_of_ble_eq_true rfl) (Nat.le_of_ble_eq_true rfl) (Nat.le_of_ble_eq_true rfl) (Nat.le_of_ble_eq_true rfl) (Nat.le_of_ble_eq_true rfl) hw
  · have hw := hw.2 c1
    refine z_iload_n S 1 dX6_pack_4 rfl rfl ?_
    refine z_bipush (v := 100) S dX6_pack_5 (by decide) ?_
    refine z_icmp_le S 20 dX6_pack_7 (by decide) (fun c2 => ?_) (fun c2 => ?_)
    · have hw := hw.1 c2
      refine z_iconst (v := 0) S dX6_pack_20 (by decide) ?_
      refine z_istore_n S [(2, .int 0), (0, va_rf (some h0)), (1, .int x1)] dX6_pack_21 rfl (by decide) rfl ?_
      refine z_lv (lv' := [(0, va_rf (some h0)), (1, .int x1), (2, .int 0)]) [1, 2, 0] rfl ?_
      obtain ⟨n0, hw⟩ := hw
      exact mb_X6_pack_22 S hlk hr hE hl htb n0 u x1 0 hkh0 hw
    · have hw := hw.2 c2
      exact zx_thr_51 (is := 204) (text := "the number of moves is not 0 .. 100") S hE hl htb hlk (by decide) dX6_pack_10 dX6_pack_13 dX6_pack_14 dX6_pack_16 dX6_pack_19 (Nat.le_of_ble_eq_true rfl) (Nat.le_of_ble_eq_true rfl) (Nat.le_of_ble_eq_true rfl) (Nat.le_of_ble_eq_true rfl) (Nat.le_of_ble_eq_true rfl) (Nat.le_of_ble_eq_true rfl) hw
theorem me_X6_pack (l : Launch) (D : va_G) (cy : Nat → ClassId) (A : Nat → Prop) (t0 mi : Nat) (post : Int32 → z_St → Prop) (px : String → z_St → Prop) (u : z_St) (h0 : Nat) (x1 : Int32) (hkh0 : z_kd h0 u = 8 ∧ 8 ≠ 0) (hl : l.stackTraces = false) (hw : w_X6_pack post px t0 mi h0 u x1) : zx_Mi l yX6_pack (Cond.code yX6_pack cX6_pack 3 (some .int) :: z_T) rm_X6_pack [va_rf (some h0), .int x1] (z_EC D cy A t0 mi) (z_hC D cy A t0 u) u (fun r u' => post r u' ∧ z_mono u u') px 1 6 A :=
  zx_met (by decide) (Nat.le_of_ble_eq_true rfl) (fun p e s m args below meth c S hlk hr hnm htb hE => mb_X6_pack S hlk hr hE hl htb u x1 hkh0 hw)
abbrev rm_X6_play : Room := { frames := 7, cells := 2, slots := 12, locals := 112 }
def w_X6_play (post : Int32 → z_St → Prop) (px : String → z_St → Prop) (t0 mi h0 : Nat) (u : z_St) (x1 : Int32) (x2 : Int32) : Prop := (w_X6_placeOf (fun r1 u1 => (∃ a2 : Nat, z_gR 31 h0 u = some a2 ∧ z_kd a2 u1 = 1 ∧ (w_Jx4a65c_get_915e3 (fun r3 u3 => (∃ a4 : Nat, r3 = some a4 ∧ z_kd a4 u3 = 5 ∧ (w_X6_samplesOf (fun r5 u5 => ((x2 < 0 → (px "java/lang/IndexOutOfBoundsException" u5)) ∧ (¬ x2 < 0 → (w_X6_samplesOf (fun r6 u6 => ((x2 < (r5 + r6) → ((r5 ≤ x2 → (w_X6_soundOf (fun r7 u7 => (post r7 u7)) t0 mi u6 (z_gR 18 a4 u6) (x2 - r5))) ∧ (¬ r5 ≤ x2 → (w_X6_soundOf (fun r8 u8 => (post r8 u8)) t0 mi u6 (z_gR 19 a4 u6) x2)))) ∧ (¬ x2 < (r5 + r6) → (px "java/lang/IndexOutOfBoundsException" u6)))) t0 mi u5 (z_gR 18 a4 u5))))) t0 mi u3 (z_gR 19 a4 u3)))) t0 mi a2 u1 r1))) px t0 mi h0 u x1)
set_option maxRecDepth 20000 in
theorem mb_X6_play {p : Program} {l : Launch} {e : Env} {s : State} {m : MethodId} {args : Array Value} {below : List Frame} {meth : Method} {c : Code} {D : va_G} {cy : Nat → ClassId} {A : Nat → Prop} {t0 mi : Nat} {u0 : z_St} {h0 : Nat} (S : CallFix p m c cX6_play 5 s args z_T RX6) (hlk : meth.locks = false) (hr : meth.sig.returnType = (some .int)) (hE : z_EC D cy A t0 mi s) (hl : l.stackTraces = false) (htb : ∀ x ∈ c.exceptionTable.toList, False) {post : Int32 → z_St → Prop} {px : String → z_St → Prop}  (u : z_St) (x1 : Int32) (x2 : Int32) (hkh0 : z_kd h0 u = 8 ∧ 8 ≠ 0) (hw : w_X6_play post px t0 mi h0 u x1 x2) : z_V A (z_hC D cy A t0 u0) p l e rm_X6_play s m args below meth c 5 (vx_MQ below (va_Qi (fun r (u' : z_St) => post r u' ∧ z_mono u0 u') (fun (u' : z_St) t => z_hC D cy A t0 u0 u' t.heap) A) (zx_X px (z_hC D cy A t0 u0) A) args s 2 12 A) 0 0 u 0 [(0, va_rf (some h0)), (1, .int x1), (2, .int x2)] [] := by
  refine z_aload_n (x := some h0) S 0 dX6_play_0 rfl rfl ?_
  refine zb_g_X6_35 (x := z_gR 31 h0 u) S hE hkh0 rfl dX6_play_1 ?_
  refine z_aload_n (x := some h0) S 0 dX6_play_4 rfl rfl ?_
  refine z_iload_n S 1 dX6_play_5 rfl rfl ?_
  refine zx_callVi (As := [.int x1]) (st := [va_rf (z_gR 31 h0 u)]) S (z_ECok D cy A t0 mi) hE htb hlk (me_X6_placeOf l D cy A t0 mi _ px u h0 x1 hkh0 hl hw) gV_X6_149 hdV_X6_placeOf ⟨Nat.le_of_ble_eq_true rfl, Nat.le_of_ble_eq_true rfl⟩ rfl rfl (z_recvC (u := u) hE hkh0 (by decide) rfl) (fun _ h => h.re) (fun _ _ _ h h' => h.ba h') (fun _ _ h => h) rfl (Nat.le_trans (z_sq z_s0) (by decide)) dX6_play_6 ⟨(Nat.le_of_ble_eq_true rfl), (Nat.le_of_ble_eq_true rfl)⟩ ⟨(Nat.le_of_ble_eq_true rfl), (Nat.le_of_ble_eq_true rfl)⟩ rfl (fun r1 u1 hw => ?_)
  obtain ⟨hw, hm1⟩ := hw
  have hkh0 := hm1.k hkh0
  obtain ⟨a2, ea2, hka2, hw⟩ := hw
  have hka2 : z_kd a2 u1 = 1 ∧ 1 ≠ 0 := ⟨hka2, by decide⟩
  refine z_st (st' := [.int r1, va_rf (some a2)]) (congrArg (fun r : Option Nat => ([.int r1, va_rf r] : List Value)) ea2) ?_
  refine z_callVq (As := [.int r1]) (st := []) S (z_ECok D cy A t0 mi) hE (me_Jx4a65c_get_915e3 l D cy A t0 mi _ u1 a2 r1 hka2 hw) gV_X6_153 hdV_Jx4a65c_get_915e3 ⟨Nat.le_of_ble_eq_true rfl, Nat.le_of_ble_eq_true rfl⟩ rfl rfl (z_recvC (u := u1) hE hka2 (by decide) rfl) (fun _ h => h.re) (fun _ _ _ h h' => h.ba h') rfl (Nat.le_trans z_s0 (by decide)) dX6_play_9 ⟨(Nat.le_of_ble_eq_true rfl), (Nat.le_of_ble_eq_true rfl)⟩ rfl (fun r3 u3 hw => ?_)
  obtain ⟨hw, hm3⟩ := hw
  have hkh0 := hm3.k hkh0
  have hka2 := hm3.k hka2
  obtain ⟨a4, ea4, hka4, hw⟩ := hw
  have hka4 : z_kd a4 u3 = 5 ∧ 5 ≠ 0 := ⟨hka4, by decide⟩
  refine z_st (st' := [va_rf (some a4)]) (congrArg (fun r : Option Nat => ([va_rf r] : List Value)) ea4) ?_
  refine z_cst (κ := 5) S hE hka4 (by decide) rfl wd_499 dX6_play_12 ?_
  refine z_astore_n (x := some a4) S [(3, va_rf (some a4)), (0, va_rf (some h0)), (1, .int x1), (2, .int x2)] dX6_play_15 rfl (by decide) rfl ?_
  refine z_lv (lv' := [(0, va_rf (some h0)), (1, .int x1), (2, .int x2), (3, va_rf (some a4))]) [1, 2, 3, 0] rfl ?_
  refine z_aload_n (x := some a4) S 3 dX6_play_16 rfl rfl ?_
  refine zb_g_X6_170 (x := z_gR 19 a4 u3) S hE hka4 rfl dX6_play_17 ?_
  refine z_callSi (As := [va_rf (z_gR 19 a4 u3)]) (st := []) S (z_ECok D cy A t0 mi) hE (me_X6_samplesOf l D cy A t0 mi _ u3 (z_gR 19 a4 u3) hw) gS_X6_187 hdS_X6_samplesOf ⟨Nat.le_of_ble_eq_true rfl, Nat.le_of_ble_eq_true rfl⟩ rfl rfl (fun _ h => h.re) (fun _ _ _ h h' => h.ba h') rfl (Nat.le_trans z_s0 (by decide)) dX6_play_20 ⟨(Nat.le_of_ble_eq_true rfl), (Nat.le_of_ble_eq_true rfl)⟩ rfl (fun r5 u5 hw => ?_)
  obtain ⟨hw, hm5⟩ := hw
  have hkh0 := hm5.k hkh0
  have hka2 := hm5.k hka2
  have hka4 := hm5.k hka4
  refine z_istore S [(4, .int r5), (0, va_rf (some h0)), (1, .int x1), (2, .int x2), (3, va_rf (some a4))] dX6_play_23 (by decide) rfl ?_
  refine z_lv (lv' := [(0, va_rf (some h0)), (1, .int x1), (2, .int x2), (3, va_rf (some a4)), (4, .int r5)]) [1, 2, 3, 4, 0] rfl ?_
  refine z_iload_n S 2 dX6_play_25 rfl rfl ?_
  refine z_if_lt S 43 dX6_play_26 (by decide) (fun c1 => ?_) (fun c1 => ?_)
  · have hw := hw.1 c1
    exact zx_thr_144 (is := 190) (text := "the message has no such sample") S hE hl htb hlk (by decide) dX6_play_43 dX6_play_46 dX6_play_47 dX6_play_49 dX6_play_52 (Nat.le_of_ble_eq_true rfl) (Nat.le_of_ble_eq_true rfl) (Nat.le_of_ble_eq_true rfl) (Nat.le_of_ble_eq_true rfl) (Nat.le_of_ble_eq_true rfl) (Nat.le_of_ble_eq_true rfl) hw
  · have hw := hw.2 c1
    refine z_iload_n S 2 dX6_play_29 rfl rfl ?_
    refine z_iload S 4 dX6_play_30 rfl ?_
    refine z_aload_n (x := some a4) S 3 dX6_play_32 rfl rfl ?_
    refine zb_g_X6_165 (x := z_gR 18 a4 u5) S hE hka4 rfl dX6_play_33 ?_
    refine z_callSi (As := [va_rf (z_gR 18 a4 u5)]) (st := [.int r5, .int x2]) S (z_ECok D cy A t0 mi) hE (me_X6_samplesOf l D cy A t0 mi _ u5 (z_gR 18 a4 u5) hw) gS_X6_187 hdS_X6_samplesOf ⟨Nat.le_of_ble_eq_true rfl, Nat.le_of_ble_eq_true rfl⟩ rfl rfl (fun _ h => h.re) (fun _ _ _ h h' => h.ba h') rfl (Nat.le_trans (z_s1 (z_s1 z_s0)) (by decide)) dX6_play_36 ⟨(Nat.le_of_ble_eq_true rfl), (Nat.le_of_ble_eq_true rfl)⟩ rfl (fun r6 u6 hw => ?_)
    obtain ⟨hw, hm6⟩ := hw
    have hkh0 := hm6.k hkh0
    have hka2 := hm6.k hka2
    have hka4 := hm6.k hka4
    refine z_iadd S dX6_play_39 ?_
    refine z_icmp_lt S 53 dX6_play_40 (by decide) (fun c2 => ?_) (fun c2 => ?_)
    · have hw := hw.1 c2
      refine z_iload_n S 2 dX6_play_53 rfl rfl ?_
      refine z_iload S 4 dX6_play_54 rfl ?_
      refine z_icmp_ge S 70 dX6_play_56 (by decide) (fun c3 => ?_) (fun c3 => ?_)
      · have hw := hw.1 c3
        refine z_aload_n (x := some a4) S 3 dX6_play_70 rfl rfl ?_
        refine zb_g_X6_165 (x := z_gR 18 a4 u6) S hE hka4 rfl dX6_play_71 ?_
        refine z_iload_n S 2 dX6_play_74 rfl rfl ?_
        refine z_iload S 4 dX6_play_75 rfl ?_
        refine z_isub S dX6_play_77 ?_
        refine z_callSi (As := [va_rf (z_gR 18 a4 u6), .int (x2 - r5)]) (st := []) S (z_ECok D cy A t0 mi) hE (me_X6_soundOf l D cy A t0 mi _ u6 (z_gR 18 a4 u6) (x2 - r5) hw) gS_X6_192 hdS_X6_soundOf ⟨Nat.le_of_ble_eq_true rfl, Nat.le_of_ble_eq_true rfl⟩ rfl rfl (fun _ h => h.re) (fun _ _ _ h h' => h.ba h') rfl (Nat.le_trans z_s0 (by decide)) dX6_play_78 ⟨(Nat.le_of_ble_eq_true rfl), (Nat.le_of_ble_eq_true rfl)⟩ rfl (fun r7 u7 hw => ?_)
        obtain ⟨hw, hm7⟩ := hw
        have hkh0 := hm7.k hkh0
        have hka2 := hm7.k hka2
        have hka4 := hm7.k hka4
        exact z_cxiret S hr hlk dX6_play_81 (Nat.le_of_ble_eq_true rfl) (Nat.le_of_ble_eq_true rfl) hw
      · have hw := hw.2 c3
        refine z_aload_n (x := some a4) S 3 dX6_play_59 rfl rfl ?_
        refine zb_g_X6_170 (x := z_gR 19 a4 u6) S hE hka4 rfl dX6_play_60 ?_
        refine z_iload_n S 2 dX6_play_63 rfl rfl ?_
        refine z_callSi (As := [va_rf (z_gR 19 a4 u6), .int x2]) (st := []) S (z_ECok D cy A t0 mi) hE (me_X6_soundOf l D cy A t0 mi _ u6 (z_gR 19 a4 u6) x2 hw) gS_X6_192 hdS_X6_soundOf ⟨Nat.le_of_ble_eq_true rfl, Nat.le_of_ble_eq_true rfl⟩ rfl rfl (fun _ h => h.re) (fun _ _ _ h h' => h.ba h') rfl (Nat.le_trans z_s0 (by decide)) dX6_play_64 ⟨(Nat.le_of_ble_eq_true rfl), (Nat.le_of_ble_eq_true rfl)⟩ rfl (fun r8 u8 hw => ?_)
        obtain ⟨hw, hm8⟩ := hw
        have hkh0 := hm8.k hkh0
        have hka2 := hm8.k hka2
        have hka4 := hm8.k hka4
        refine z_goto S 81 dX6_play_67 (by decide) ?_
        exact z_cxiret S hr hlk dX6_play_81 (Nat.le_of_ble_eq_true rfl) (Nat.le_of_ble_eq_true rfl) hw
    · have hw := hw.2 c2
      exact zx_thr_144 (is := 190) (text := "the message has no such sample") S hE hl htb hlk (by decide) dX6_play_43 dX6_play_46 dX6_play_47 dX6_play_49 dX6_play_52 (Nat.le_of_ble_eq_true rfl) (Nat.le_of_ble_eq_true rfl) (Nat.le_of_ble_eq_true rfl) (Nat.le_of_ble_eq_true rfl) (Nat.le_of_ble_eq_true rfl) (Nat.le_of_ble_eq_true rfl) hw
theorem me_X6_play (l : Launch) (D : va_G) (cy : Nat → ClassId) (A : Nat → Prop) (t0 mi : Nat) (post : Int32 → z_St → Prop) (px : String → z_St → Prop) (u : z_St) (h0 : Nat) (x1 : Int32) (x2 : Int32) (hkh0 : z_kd h0 u = 8 ∧ 8 ≠ 0) (hl : l.stackTraces = false) (hw : w_X6_play post px t0 mi h0 u x1 x2) : zx_Mi l yX6_play (Cond.code yX6_play cX6_play 5 (some .int) :: z_T) rm_X6_play [va_rf (some h0), .int x1, .int x2] (z_EC D cy A t0 mi) (z_hC D cy A t0 u) u (fun r u' => post r u' ∧ z_mono u u') px 2 12 A :=
  zx_met (by decide) (Nat.le_of_ble_eq_true rfl) (fun p e s m args below meth c S hlk hr hnm htb hE => mb_X6_play S hlk hr hE hl htb u x1 x2 hkh0 hw)
abbrev rm_X6_quota : Room := { frames := 7, cells := 1, slots := 6, locals := 111 }
def w_X6_quota (post : Int32 → z_St → Prop) (px : String → z_St → Prop) (t0 mi h0 : Nat) (u : z_St) (x1 : Int32) : Prop := (w_X6_requireBox (fun u1 => (∃ a2 : Nat, z_gR 29 h0 u1 = some a2 ∧ z_kd a2 u1 = 12 ∧ (vp_in x1 (z_ln a2 u1) ∧ (∃ a3 : Nat, z_aR a2 x1.toNatClampNeg u1 = some a3 ∧ z_kd a3 u1 = 3 ∧ (post (z_gI 5 a3 u1) u1))))) px t0 mi h0 u x1)
set_option maxRecDepth 20000 in
theorem mb_X6_quota {p : Program} {l : Launch} {e : Env} {s : State} {m : MethodId} {args : Array Value} {below : List Frame} {meth : Method} {c : Code} {D : va_G} {cy : Nat → ClassId} {A : Nat → Prop} {t0 mi : Nat} {u0 : z_St} {h0 : Nat} (S : CallFix p m c cX6_quota 2 s args z_T RX6) (hlk : meth.locks = false) (hr : meth.sig.returnType = (some .int)) (hE : z_EC D cy A t0 mi s) (hl : l.stackTraces = false) (htb : ∀ x ∈ c.exceptionTable.toList, False) {post : Int32 → z_St → Prop} {px : String → z_St → Prop}  (u : z_St) (x1 : Int32) (hkh0 : z_kd h0 u = 8 ∧ 8 ≠ 0) (hw : w_X6_quota post px t0 mi h0 u x1) : z_V A (z_hC D cy A t0 u0) p l e rm_X6_quota s m args below meth c 2 (vx_MQ below (va_Qi (fun r (u' : z_St) => post r u' ∧ z_mono u0 u') (fun (u' : z_St) t => z_hC D cy A t0 u0 u' t.heap) A) (zx_X px (z_hC D cy A t0 u0) A) args s 1 6 A) 0 0 u 0 [(0, va_rf (some h0)), (1, .int x1)] [] := by
  refine z_aload_n (x := some h0) S 0 dX6_quota_0 rfl rfl ?_
  refine z_iload_n S 1 dX6_quota_1 rfl rfl ?_
  refine zx_callVv (As := [.int x1]) (st := []) S (z_ECok D cy A t0 mi) hE htb hlk (me_X6_requireBox l D cy A t0 mi _ px u h0 x1 hkh0 hl hw) gV_X6_66 hdV_X6_requireBox ⟨Nat.le_of_ble_eq_true rfl, Nat.le_of_ble_eq_true rfl⟩ rfl rfl (z_recvC (u := u) hE hkh0 (by decide) rfl) (fun _ h => h.re) (fun _ _ _ h h' => h.ba h') (fun _ _ h => h) rfl (Nat.le_trans z_s0 (by decide)) dX6_quota_2 ⟨(Nat.le_of_ble_eq_true rfl), (Nat.le_of_ble_eq_true rfl)⟩ ⟨(Nat.le_of_ble_eq_true rfl), (Nat.le_of_ble_eq_true rfl)⟩ rfl (fun u1 hw => ?_)
  obtain ⟨hw, hm1⟩ := hw
  have hkh0 := hm1.k hkh0
  refine z_aload_n (x := some h0) S 0 dX6_quota_5 rfl rfl ?_
  refine zb_g_X6_22 (x := z_gR 29 h0 u1) S hE hkh0 rfl dX6_quota_6 ?_
  refine z_iload_n S 1 dX6_quota_9 rfl rfl ?_
  obtain ⟨a2, ea2, hka2, hw⟩ := hw
  have hka2 : z_kd a2 u1 = 12 ∧ 12 ≠ 0 := ⟨hka2, by decide⟩
  obtain ⟨hi1, hw⟩ := hw
  refine z_st (st' := [.int x1, va_rf (some a2)]) (congrArg (fun r : Option Nat => ([.int x1, va_rf r] : List Value)) ea2) ?_
  refine z_caald (κ := 12) S hE hka2 (by decide) rfl hi1 dX6_quota_10 ?_
  obtain ⟨a3, ea3, hka3, hw⟩ := hw
  have hka3 : z_kd a3 u1 = 3 ∧ 3 ≠ 0 := ⟨hka3, by decide⟩
  refine z_st (st' := [va_rf (some a3)]) (congrArg (fun r : Option Nat => ([va_rf r] : List Value)) ea3) ?_
  refine zb_g_X6_63 (x := z_gI 5 a3 u1) S hE hka3 rfl dX6_quota_11 ?_
  exact z_cxiret S hr hlk dX6_quota_14 (Nat.le_of_ble_eq_true rfl) (Nat.le_of_ble_eq_true rfl) hw
theorem me_X6_quota (l : Launch) (D : va_G) (cy : Nat → ClassId) (A : Nat → Prop) (t0 mi : Nat) (post : Int32 → z_St → Prop) (px : String → z_St → Prop) (u : z_St) (h0 : Nat) (x1 : Int32) (hkh0 : z_kd h0 u = 8 ∧ 8 ≠ 0) (hl : l.stackTraces = false) (hw : w_X6_quota post px t0 mi h0 u x1) : zx_Mi l yX6_quota (Cond.code yX6_quota cX6_quota 2 (some .int) :: z_T) rm_X6_quota [va_rf (some h0), .int x1] (z_EC D cy A t0 mi) (z_hC D cy A t0 u) u (fun r u' => post r u' ∧ z_mono u u') px 1 6 A :=
  zx_met (by decide) (Nat.le_of_ble_eq_true rfl) (fun p e s m args below meth c S hlk hr hnm htb hE => mb_X6_quota S hlk hr hE hl htb u x1 hkh0 hw)
abbrev rm_X6_sample : Room := { frames := 8, cells := 2, slots := 12, locals := 161 }
def w_X6_sample (post : Int32 → z_St → Prop) (px : String → z_St → Prop) (t0 mi h0 : Nat) (u : z_St) (x1 : Int32) (x2 : Int32) : Prop := (w_X6_busyLine (fun r1 u1 => (∃ a2 : Nat, r1 = some a2 ∧ z_kd a2 u1 = 4 ∧ ((¬ (z_gI 9 a2 u1) = 0 → (narrow .boolean (.int (z_gI 9 a2 u1)) = .int (z_gI 9 a2 u1) ∧ post (z_gI 9 a2 u1) u1)) ∧ ((z_gI 9 a2 u1) = 0 → (w_X6_between (fun r3 u3 => (w_X2_addToFrame (fun u4 => (((z_gI 7 a2 u4) < 8 → (narrow .boolean (.int (z_gI 9 a2 u4)) = .int (z_gI 9 a2 u4) ∧ post (z_gI 9 a2 u4) u4)) ∧ (¬ (z_gI 7 a2 u4) < 8 → (w_X6_takeFrame (fun u5 => (narrow .boolean (.int (z_gI 9 a2 u5)) = .int (z_gI 9 a2 u5) ∧ post (z_gI 9 a2 u5) u5)) t0 mi h0 u4 r1)))) t0 mi a2 u3 r3)) t0 mi u1 x2 (-32768) 32767))))) px t0 mi h0 u x1)
set_option maxRecDepth 20000 in
theorem mb_X6_sample {p : Program} {l : Launch} {e : Env} {s : State} {m : MethodId} {args : Array Value} {below : List Frame} {meth : Method} {c : Code} {D : va_G} {cy : Nat → ClassId} {A : Nat → Prop} {t0 mi : Nat} {u0 : z_St} {h0 : Nat} (S : CallFix p m c cX6_sample 4 s args z_T RX6) (hlk : meth.locks = false) (hr : meth.sig.returnType = (some .boolean)) (hE : z_EC D cy A t0 mi s) (hl : l.stackTraces = false) (htb : ∀ x ∈ c.exceptionTable.toList, False) {post : Int32 → z_St → Prop} {px : String → z_St → Prop}  (u : z_St) (x1 : Int32) (x2 : Int32) (hkh0 : z_kd h0 u = 8 ∧ 8 ≠ 0) (hw : w_X6_sample post px t0 mi h0 u x1 x2) : z_V A (z_hC D cy A t0 u0) p l e rm_X6_sample s m args below meth c 4 (vx_MQ below (va_Qi (fun r (u' : z_St) => post r u' ∧ z_mono u0 u') (fun (u' : z_St) t => z_hC D cy A t0 u0 u' t.heap) A) (zx_X px (z_hC D cy A t0 u0) A) args s 2 12 A) 0 0 u 0 [(0, va_rf (some h0)), (1, .int x1), (2, .int x2)] [] := by
  refine z_aload_n (x := some h0) S 0 dX6_sample_0 rfl rfl ?_
  refine z_iload_n S 1 dX6_sample_1 rfl rfl ?_
  refine zx_callVq (As := [.int x1]) (st := []) S (z_ECok D cy A t0 mi) hE htb hlk (me_X6_busyLine l D cy A t0 mi _ px u h0 x1 hkh0 hl hw) gV_X6_91 hdV_X6_busyLine ⟨Nat.le_of_ble_eq_true rfl, Nat.le_of_ble_eq_true rfl⟩ rfl rfl (z_recvC (u := u) hE hkh0 (by decide) rfl) (fun _ h => h.re) (fun _ _ _ h h' => h.ba h') (fun _ _ h => h) rfl (Nat.le_trans z_s0 (by decide)) dX6_sample_2 ⟨(Nat.le_of_ble_eq_true rfl), (Nat.le_of_ble_eq_true rfl)⟩ ⟨(Nat.le_of_ble_eq_true rfl), (Nat.le_of_ble_eq_true rfl)⟩ rfl (fun r1 u1 hw => ?_)
  obtain ⟨hw, hm1⟩ := hw
  have hkh0 := hm1.k hkh0
  refine z_astore_n (x := r1) S [(3, va_rf r1), (0, va_rf (some h0)), (1, .int x1), (2, .int x2)] dX6_sample_5 rfl (by decide) rfl ?_
  refine z_lv (lv' := [(0, va_rf (some h0)), (1, .int x1), (2, .int x2), (3, va_rf r1)]) [1, 2, 3, 0] rfl ?_
  refine z_aload_n (x := r1) S 3 dX6_sample_6 rfl rfl ?_
  obtain ⟨a2, ea2, hka2, hw⟩ := hw
  have hka2 : z_kd a2 u1 = 4 ∧ 4 ≠ 0 := ⟨hka2, by decide⟩
  refine z_st (st' := [va_rf (some a2)]) (congrArg (fun r : Option Nat => ([va_rf r] : List Value)) ea2) ?_
  refine zb_g_X6_95 (x := z_gI 9 a2 u1) S hE hka2 rfl dX6_sample_7 ?_
  refine z_if_ne S 41 dX6_sample_10 (by decide) (fun c1 => ?_) (fun c1 => ?_)
  · have hw := hw.1 c1
    refine z_aload_n (x := r1) S 3 dX6_sample_41 rfl rfl ?_
    refine z_st (st' := [va_rf (some a2)]) (congrArg (fun r : Option Nat => ([va_rf r] : List Value)) ea2) ?_
    refine zb_g_X6_95 (x := z_gI 9 a2 u1) S hE hka2 rfl dX6_sample_42 ?_
    exact z_cxzret S hr hlk dX6_sample_45 (Nat.le_of_ble_eq_true rfl) (Nat.le_of_ble_eq_true rfl) hw.1 hw.2
  · have hw := hw.2 c1
    refine z_aload_n (x := r1) S 3 dX6_sample_13 rfl rfl ?_
    refine z_iload_n S 2 dX6_sample_14 rfl rfl ?_
    refine z_sipush (v := (-32768)) S dX6_sample_15 (by decide) ?_
    refine z_sipush (v := 32767) S dX6_sample_18 (by decide) ?_
    refine z_callSi (As := [.int x2, .int (-32768), .int 32767]) (st := [va_rf r1]) S (z_ECok D cy A t0 mi) hE (me_X6_between l D cy A t0 mi _ u1 x2 (-32768) 32767 hw) gS_X6_98 hdS_X6_between ⟨Nat.le_of_ble_eq_true rfl, Nat.le_of_ble_eq_true rfl⟩ rfl rfl (fun _ h => h.re) (fun _ _ _ h h' => h.ba h') rfl (Nat.le_trans (z_sq z_s0) (by decide)) dX6_sample_21 ⟨(Nat.le_of_ble_eq_true rfl), (Nat.le_of_ble_eq_true rfl)⟩ rfl (fun r3 u3 hw => ?_)
    obtain ⟨hw, hm3⟩ := hw
    have hkh0 := hm3.k hkh0
    have hka2 := hm3.k hka2
    refine z_st (st' := [.int r3, va_rf (some a2)]) (congrArg (fun r : Option Nat => ([.int r3, va_rf r] : List Value)) ea2) ?_
    refine z_callVv (As := [.int r3]) (st := []) S (z_ECok D cy A t0 mi) hE (me_X2_addToFrame l D cy A t0 mi _ u3 a2 r3 hka2 hw) gV_X6_102 hdV_X2_addToFrame ⟨Nat.le_of_ble_eq_true rfl, Nat.le_of_ble_eq_true rfl⟩ rfl rfl (z_recvC (u := u3) hE hka2 (by decide) rfl) (fun _ h => h.re) (fun _ _ _ h h' => h.ba h') rfl (Nat.le_trans z_s0 (by decide)) dX6_sample_24 ⟨(Nat.le_of_ble_eq_true rfl), (Nat.le_of_ble_eq_true rfl)⟩ rfl (fun u4 hw => ?_)
    obtain ⟨hw, hm4⟩ := hw
    have hkh0 := hm4.k hkh0
    have hka2 := hm4.k hka2
    refine z_aload_n (x := r1) S 3 dX6_sample_27 rfl rfl ?_
    refine z_st (st' := [va_rf (some a2)]) (congrArg (fun r : Option Nat => ([va_rf r] : List Value)) ea2) ?_
    refine zb_g_X6_105 (x := z_gI 7 a2 u4) S hE hka2 rfl dX6_sample_28 ?_
    refine z_bipush (v := 8) S dX6_sample_31 (by decide) ?_
    refine z_icmp_lt S 41 dX6_sample_33 (by decide) (fun c2 => ?_) (fun c2 => ?_)
    · have hw := hw.1 c2
      refine z_aload_n (x := r1) S 3 dX6_sample_41 rfl rfl ?_
      refine z_st (st' := [va_rf (some a2)]) (congrArg (fun r : Option Nat => ([va_rf r] : List Value)) ea2) ?_
      refine zb_g_X6_95 (x := z_gI 9 a2 u4) S hE hka2 rfl dX6_sample_42 ?_
      exact z_cxzret S hr hlk dX6_sample_45 (Nat.le_of_ble_eq_true rfl) (Nat.le_of_ble_eq_true rfl) hw.1 hw.2
    · have hw := hw.2 c2
      refine z_aload_n (x := some h0) S 0 dX6_sample_36 rfl rfl ?_
      refine z_aload_n (x := r1) S 3 dX6_sample_37 rfl rfl ?_
      refine z_callVv (As := [va_rf r1]) (st := []) S (z_ECok D cy A t0 mi) hE (me_X6_takeFrame l D cy A t0 mi _ u4 h0 r1 hkh0 hw) gV_X6_108 hdV_X6_takeFrame ⟨Nat.le_of_ble_eq_true rfl, Nat.le_of_ble_eq_true rfl⟩ rfl rfl (z_recvC (u := u4) hE hkh0 (by decide) rfl) (fun _ h => h.re) (fun _ _ _ h h' => h.ba h') rfl (Nat.le_trans z_s0 (by decide)) dX6_sample_38 ⟨(Nat.le_of_ble_eq_true rfl), (Nat.le_of_ble_eq_true rfl)⟩ rfl (fun u5 hw => ?_)
      obtain ⟨hw, hm5⟩ := hw
      have hkh0 := hm5.k hkh0
      have hka2 := hm5.k hka2
      refine z_aload_n (x := r1) S 3 dX6_sample_41 rfl rfl ?_
      refine z_st (st' := [va_rf (some a2)]) (congrArg (fun r : Option Nat => ([va_rf r] : List Value)) ea2) ?_
      refine zb_g_X6_95 (x := z_gI 9 a2 u5) S hE hka2 rfl dX6_sample_42 ?_
      exact z_cxzret S hr hlk dX6_sample_45 (Nat.le_of_ble_eq_true rfl) (Nat.le_of_ble_eq_true rfl) hw.1 hw.2
theorem me_X6_sample (l : Launch) (D : va_G) (cy : Nat → ClassId) (A : Nat → Prop) (t0 mi : Nat) (post : Int32 → z_St → Prop) (px : String → z_St → Prop) (u : z_St) (h0 : Nat) (x1 : Int32) (x2 : Int32) (hkh0 : z_kd h0 u = 8 ∧ 8 ≠ 0) (hl : l.stackTraces = false) (hw : w_X6_sample post px t0 mi h0 u x1 x2) : zx_Mi l yX6_sample (Cond.code yX6_sample cX6_sample 4 (some .boolean) :: z_T) rm_X6_sample [va_rf (some h0), .int x1, .int x2] (z_EC D cy A t0 mi) (z_hC D cy A t0 u) u (fun r u' => post r u' ∧ z_mono u u') px 2 12 A :=
  zx_met (by decide) (Nat.le_of_ble_eq_true rfl) (fun p e s m args below meth c S hlk hr hnm htb hE => mb_X6_sample S hlk hr hE hl htb u x1 x2 hkh0 hw)
abbrev rm_X6_step : Room := { frames := 6, cells := 1, slots := 6, locals := 90 }
def w_X6_step (post : Int32 → z_St → Prop) (px : String → z_St → Prop) (t0 mi h0 : Nat) (u : z_St) (x1 : Int32) : Prop := ((x1 < 0 → (px "java/lang/IndexOutOfBoundsException" u)) ∧ (¬ x1 < 0 → ((x1 < 49 → (∃ a1 : Nat, z_gR 27 h0 u = some a1 ∧ z_kd a1 u = 10 ∧ (vp_in x1 (z_ln a1 u) ∧ (post (z_aI a1 x1.toNatClampNeg u) u)))) ∧ (¬ x1 < 49 → (px "java/lang/IndexOutOfBoundsException" u)))))
set_option maxRecDepth 20000 in
theorem mb_X6_step {p : Program} {l : Launch} {e : Env} {s : State} {m : MethodId} {args : Array Value} {below : List Frame} {meth : Method} {c : Code} {D : va_G} {cy : Nat → ClassId} {A : Nat → Prop} {t0 mi : Nat} {u0 : z_St} {h0 : Nat} (S : CallFix p m c cX6_step 2 s args z_T RX6) (hlk : meth.locks = false) (hr : meth.sig.returnType = (some .int)) (hE : z_EC D cy A t0 mi s) (hl : l.stackTraces = false) (htb : ∀ x ∈ c.exceptionTable.toList, False) {post : Int32 → z_St → Prop} {px : String → z_St → Prop}  (u : z_St) (x1 : Int32) (hkh0 : z_kd h0 u = 8 ∧ 8 ≠ 0) (hw : w_X6_step post px t0 mi h0 u x1) : z_V A (z_hC D cy A t0 u0) p l e rm_X6_step s m args below meth c 2 (vx_MQ below (va_Qi (fun r (u' : z_St) => post r u' ∧ z_mono u0 u') (fun (u' : z_St) t => z_hC D cy A t0 u0 u' t.heap) A) (zx_X px (z_hC D cy A t0 u0) A) args s 1 6 A) 0 0 u 0 [(0, va_rf (some h0)), (1, .int x1)] [] := by
  refine z_iload_n S 1 dX6_step_0 rfl rfl ?_
  refine z_if_lt S 10 dX6_step_1 (by decide) (fun c1 => ?_) (fun c1 => ?_)
  · have hw := hw.1 c1
    exact zx_thr_144 (is := 220) (text := "there is no such step") S hE hl htb hlk (by decide) dX6_step_10 dX6_step_13 dX6_step_14 dX6_step_16 dX6_step_19 (Nat.le_of_ble_eq_true rfl) (Nat.le_of_ble_eq_true rfl) (Nat.le_of_ble_eq_true rfl) (Nat.le_of_ble_eq_true rfl) (Nat.le_of_ble_eq_true rfl) (Nat.le_of_ble_eq_true rfl) hw
  · have hw := hw.2 c1
    refine z_iload_n S 1 dX6_step_4 rfl rfl ?_
    refine z_bipush (v := 49) S dX6_step_5 (by decide) ?_
    refine z_icmp_lt S 20 dX6_step_7 (by decide) (fun c2 => ?_) (fun c2 => ?_)
    · have hw := hw.1 c2
      refine z_aload_n (x := some h0) S 0 dX6_step_20 rfl rfl ?_
      refine zb_g_X6_9 (x := z_gR 27 h0 u) S hE hkh0 rfl dX6_step_21 ?_
      refine z_iload_n S 1 dX6_step_24 rfl rfl ?_
      obtain ⟨a1, ea1, hka1, hw⟩ := hw
      have hka1 : z_kd a1 u = 10 ∧ 10 ≠ 0 := ⟨hka1, by decide⟩
      obtain ⟨hi3, hw⟩ := hw
      refine z_st (st' := [.int x1, va_rf (some a1)]) (congrArg (fun r : Option Nat => ([.int x1, va_rf r] : List Value)) ea1) ?_
      refine z_cald S hE hka1 hi3 dX6_step_25 ?_
      exact z_cxiret S hr hlk dX6_step_26 (Nat.le_of_ble_eq_true rfl) (Nat.le_of_ble_eq_true rfl) hw
    · have hw := hw.2 c2
      exact zx_thr_144 (is := 220) (text := "there is no such step") S hE hl htb hlk (by decide) dX6_step_10 dX6_step_13 dX6_step_14 dX6_step_16 dX6_step_19 (Nat.le_of_ble_eq_true rfl) (Nat.le_of_ble_eq_true rfl) (Nat.le_of_ble_eq_true rfl) (Nat.le_of_ble_eq_true rfl) (Nat.le_of_ble_eq_true rfl) (Nat.le_of_ble_eq_true rfl) hw
theorem me_X6_step (l : Launch) (D : va_G) (cy : Nat → ClassId) (A : Nat → Prop) (t0 mi : Nat) (post : Int32 → z_St → Prop) (px : String → z_St → Prop) (u : z_St) (h0 : Nat) (x1 : Int32) (hkh0 : z_kd h0 u = 8 ∧ 8 ≠ 0) (hl : l.stackTraces = false) (hw : w_X6_step post px t0 mi h0 u x1) : zx_Mi l yX6_step (Cond.code yX6_step cX6_step 2 (some .int) :: z_T) rm_X6_step [va_rf (some h0), .int x1] (z_EC D cy A t0 mi) (z_hC D cy A t0 u) u (fun r u' => post r u' ∧ z_mono u u') px 1 6 A :=
  zx_met (by decide) (Nat.le_of_ble_eq_true rfl) (fun p e s m args below meth c S hlk hr hnm htb hE => mb_X6_step S hlk hr hE hl htb u x1 hkh0 hw)
abbrev rm_X6_total : Room := { frames := 1, cells := 0, slots := 0, locals := 22 }
def w_X6_total (post : Int32 → z_St → Prop) (t0 mi h0 : Nat) (u : z_St) (x1 : Int32) : Prop := ((x1 = 0 → (post (z_gI 32 h0 u) u)) ∧ (x1 = 1 → (∃ a1 : Nat, z_gR 31 h0 u = some a1 ∧ z_kd a1 u = 1 ∧ (w_Jx4a65c_size_8abf5 (fun r2 u2 => (post r2 u2)) t0 mi a1 u ))) ∧ (x1 = 2 → (post (z_gI 34 h0 u) u)) ∧ (x1 = 3 → (∃ a3 : Nat, z_gR 28 h0 u = some a3 ∧ z_kd a3 u = 7 ∧ (w_X5_countFree (fun r4 u4 => (post r4 u4)) t0 mi a3 u ))) ∧ (x1 = 4 → (∃ a5 : Nat, z_gR 28 h0 u = some a5 ∧ z_kd a5 u = 7 ∧ (w_X5_greatestUsed (fun r6 u6 => (post r6 u6)) t0 mi a5 u ))) ∧ (x1 = 5 → (w_X6_busyBits (fun r7 u7 => (post r7 u7)) t0 mi h0 u )) ∧ (¬ x1 = 0 → ¬ x1 = 1 → ¬ x1 = 2 → ¬ x1 = 3 → ¬ x1 = 4 → ¬ x1 = 5 → (post (-1) u)))
set_option maxRecDepth 20000 in
theorem mb_X6_total {p : Program} {l : Launch} {e : Env} {s : State} {m : MethodId} {args : Array Value} {below : List Frame} {meth : Method} {c : Code} {D : va_G} {cy : Nat → ClassId} {A : Nat → Prop} {t0 mi : Nat} {u0 : z_St} {h0 : Nat} (S : CallFix p m c cX6_total 2 s args z_T RX6) (hlk : meth.locks = false) (hr : meth.sig.returnType = (some .int)) (hE : z_EC D cy A t0 mi s) {post : Int32 → z_St → Prop}  (u : z_St) (x1 : Int32) (hkh0 : z_kd h0 u = 8 ∧ 8 ≠ 0) (hw : w_X6_total post t0 mi h0 u x1) : z_V A (z_hC D cy A t0 u0) p l e rm_X6_total s m args below meth c 2 (MQ below (va_Qi (fun r (u' : z_St) => post r u' ∧ z_mono u0 u') (fun (u' : z_St) t => z_hC D cy A t0 u0 u' t.heap) A) args s 0 0 A) 0 0 u 0 [(0, va_rf (some h0)), (1, .int x1)] [] := by
  refine z_iload_n S 1 dX6_total_0 rfl rfl ?_
  by_cases c0_ : x1 = 0
  · have hw := hw.1 c0_
    refine z_tabIn 40 S dX6_total_1 (by rw [c0_]; decide) (by rw [c0_]; decide) (by rw [c0_]; rfl) (by decide) ?_
    refine z_aload_n (x := some h0) S 0 dX6_total_40 rfl rfl ?_
    refine zb_g_X6_39 (x := z_gI 32 h0 u) S hE hkh0 rfl dX6_total_41 ?_
    exact z_ciret S hr hlk dX6_total_44 (Nat.le_of_ble_eq_true rfl) (Nat.le_of_ble_eq_true rfl) hw
  have hw := hw.2
  by_cases c1_ : x1 = 1
  · have hw := hw.1 c1_
    refine z_tabIn 45 S dX6_total_1 (by rw [c1_]; decide) (by rw [c1_]; decide) (by rw [c1_]; rfl) (by decide) ?_
    refine z_aload_n (x := some h0) S 0 dX6_total_45 rfl rfl ?_
    refine zb_g_X6_35 (x := z_gR 31 h0 u) S hE hkh0 rfl dX6_total_46 ?_
    obtain ⟨a1, ea1, hka1, hw⟩ := hw
    have hka1 : z_kd a1 u = 1 ∧ 1 ≠ 0 := ⟨hka1, by decide⟩
    refine z_st (st' := [va_rf (some a1)]) (congrArg (fun r : Option Nat => ([va_rf r] : List Value)) ea1) ?_
    refine z_callVi (As := []) (st := []) S (z_ECok D cy A t0 mi) hE (me_Jx4a65c_size_8abf5 l D cy A t0 mi _ u a1 hka1 hw) gV_X6_222 hdV_Jx4a65c_size_8abf5 ⟨Nat.le_of_ble_eq_true rfl, Nat.le_of_ble_eq_true rfl⟩ rfl rfl (z_recvC (u := u) hE hka1 (by decide) rfl) (fun _ h => h.re) (fun _ _ _ h h' => h.ba h') rfl (Nat.le_trans z_s0 (by decide)) dX6_total_49 ⟨(Nat.le_of_ble_eq_true rfl), (Nat.le_of_ble_eq_true rfl)⟩ rfl (fun r2 u2 hw => ?_)
    obtain ⟨hw, hm2⟩ := hw
    have hkh0 := hm2.k hkh0
    have hka1 := hm2.k hka1
    exact z_ciret S hr hlk dX6_total_52 (Nat.le_of_ble_eq_true rfl) (Nat.le_of_ble_eq_true rfl) hw
  have hw := hw.2
  by_cases c2_ : x1 = 2
  · have hw := hw.1 c2_
    refine z_tabIn 53 S dX6_total_1 (by rw [c2_]; decide) (by rw [c2_]; decide) (by rw [c2_]; rfl) (by decide) ?_
    refine z_aload_n (x := some h0) S 0 dX6_total_53 rfl rfl ?_
    refine zb_g_X6_46 (x := z_gI 34 h0 u) S hE hkh0 rfl dX6_total_54 ?_
    exact z_ciret S hr hlk dX6_total_57 (Nat.le_of_ble_eq_true rfl) (Nat.le_of_ble_eq_true rfl) hw
  have hw := hw.2
  by_cases c3_ : x1 = 3
  · have hw := hw.1 c3_
    refine z_tabIn 58 S dX6_total_1 (by rw [c3_]; decide) (by rw [c3_]; decide) (by rw [c3_]; rfl) (by decide) ?_
    refine z_aload_n (x := some h0) S 0 dX6_total_58 rfl rfl ?_
    refine zb_g_X6_16 (x := z_gR 28 h0 u) S hE hkh0 rfl dX6_total_59 ?_
    obtain ⟨a3, ea3, hka3, hw⟩ := hw
    have hka3 : z_kd a3 u = 7 ∧ 7 ≠ 0 := ⟨hka3, by decide⟩
    refine z_st (st' := [va_rf (some a3)]) (congrArg (fun r : Option Nat => ([va_rf r] : List Value)) ea3) ?_
    refine z_callVi (As := []) (st := []) S (z_ECok D cy A t0 mi) hE (me_X5_countFree l D cy A t0 mi _ u a3 hka3 hw) gV_X6_226 hdV_X5_countFree ⟨Nat.le_of_ble_eq_true rfl, Nat.le_of_ble_eq_true rfl⟩ rfl rfl (z_recvC (u := u) hE hka3 (by decide) rfl) (fun _ h => h.re) (fun _ _ _ h h' => h.ba h') rfl (Nat.le_trans z_s0 (by decide)) dX6_total_62 ⟨(Nat.le_of_ble_eq_true rfl), (Nat.le_of_ble_eq_true rfl)⟩ rfl (fun r4 u4 hw => ?_)
    obtain ⟨hw, hm4⟩ := hw
    have hkh0 := hm4.k hkh0
    have hka3 := hm4.k hka3
    exact z_ciret S hr hlk dX6_total_65 (Nat.le_of_ble_eq_true rfl) (Nat.le_of_ble_eq_true rfl) hw
  have hw := hw.2
  by_cases c4_ : x1 = 4
  · have hw := hw.1 c4_
    refine z_tabIn 66 S dX6_total_1 (by rw [c4_]; decide) (by rw [c4_]; decide) (by rw [c4_]; rfl) (by decide) ?_
    refine z_aload_n (x := some h0) S 0 dX6_total_66 rfl rfl ?_
    refine zb_g_X6_16 (x := z_gR 28 h0 u) S hE hkh0 rfl dX6_total_67 ?_
    obtain ⟨a5, ea5, hka5, hw⟩ := hw
    have hka5 : z_kd a5 u = 7 ∧ 7 ≠ 0 := ⟨hka5, by decide⟩
    refine z_st (st' := [va_rf (some a5)]) (congrArg (fun r : Option Nat => ([va_rf r] : List Value)) ea5) ?_
    refine z_callVi (As := []) (st := []) S (z_ECok D cy A t0 mi) hE (me_X5_greatestUsed l D cy A t0 mi _ u a5 hka5 hw) gV_X6_229 hdV_X5_greatestUsed ⟨Nat.le_of_ble_eq_true rfl, Nat.le_of_ble_eq_true rfl⟩ rfl rfl (z_recvC (u := u) hE hka5 (by decide) rfl) (fun _ h => h.re) (fun _ _ _ h h' => h.ba h') rfl (Nat.le_trans z_s0 (by decide)) dX6_total_70 ⟨(Nat.le_of_ble_eq_true rfl), (Nat.le_of_ble_eq_true rfl)⟩ rfl (fun r6 u6 hw => ?_)
    obtain ⟨hw, hm6⟩ := hw
    have hkh0 := hm6.k hkh0
    have hka5 := hm6.k hka5
    exact z_ciret S hr hlk dX6_total_73 (Nat.le_of_ble_eq_true rfl) (Nat.le_of_ble_eq_true rfl) hw
  have hw := hw.2
  by_cases c5_ : x1 = 5
  · have hw := hw.1 c5_
    refine z_tabIn 74 S dX6_total_1 (by rw [c5_]; decide) (by rw [c5_]; decide) (by rw [c5_]; rfl) (by decide) ?_
    refine z_aload_n (x := some h0) S 0 dX6_total_74 rfl rfl ?_
    refine z_callVi (As := []) (st := []) S (z_ECok D cy A t0 mi) hE (me_X6_busyBits l D cy A t0 mi _ u h0 hkh0 hw) gV_X6_232 hdV_X6_busyBits ⟨Nat.le_of_ble_eq_true rfl, Nat.le_of_ble_eq_true rfl⟩ rfl rfl (z_recvC (u := u) hE hkh0 (by decide) rfl) (fun _ h => h.re) (fun _ _ _ h h' => h.ba h') rfl (Nat.le_trans z_s0 (by decide)) dX6_total_75 ⟨(Nat.le_of_ble_eq_true rfl), (Nat.le_of_ble_eq_true rfl)⟩ rfl (fun r7 u7 hw => ?_)
    obtain ⟨hw, hm7⟩ := hw
    have hkh0 := hm7.k hkh0
    exact z_ciret S hr hlk dX6_total_78 (Nat.le_of_ble_eq_true rfl) (Nat.le_of_ble_eq_true rfl) hw
  have hw := hw.2
  have hw := hw c0_ c1_ c2_ c3_ c4_ c5_
  refine z_tabOut 79 S dX6_total_1 (z_out6 c0_ c1_ c2_ c3_ c4_ c5_) (by decide) ?_
  refine z_iconst (v := (-1)) S dX6_total_79 (by decide) ?_
  exact z_ciret S hr hlk dX6_total_80 (Nat.le_of_ble_eq_true rfl) (Nat.le_of_ble_eq_true rfl) hw
theorem me_X6_total (l : Launch) (D : va_G) (cy : Nat → ClassId) (A : Nat → Prop) (t0 mi : Nat) (post : Int32 → z_St → Prop) (u : z_St) (h0 : Nat) (x1 : Int32) (hkh0 : z_kd h0 u = 8 ∧ 8 ≠ 0) (hw : w_X6_total post t0 mi h0 u x1) : z_Mi l yX6_total (Cond.code yX6_total cX6_total 2 (some .int) :: z_T) rm_X6_total [va_rf (some h0), .int x1] (z_EC D cy A t0 mi) (z_hC D cy A t0 u) u (fun r u' => post r u' ∧ z_mono u u') 0 0 A :=
  z_met (by decide) (Nat.le_of_ble_eq_true rfl) (fun p e s m args below meth c S hlk hr hnm hE => mb_X6_total S hlk hr hE u x1 hkh0 hw)
abbrev rm_X6_used : Room := { frames := 7, cells := 1, slots := 6, locals := 111 }
def w_X6_used (post : Int32 → z_St → Prop) (px : String → z_St → Prop) (t0 mi h0 : Nat) (u : z_St) (x1 : Int32) : Prop := (w_X6_requireBox (fun u1 => (w_X6_usedBy (fun r2 u2 => (post r2 u2)) t0 mi h0 u1 x1)) px t0 mi h0 u x1)
set_option maxRecDepth 20000 in
theorem mb_X6_used {p : Program} {l : Launch} {e : Env} {s : State} {m : MethodId} {args : Array Value} {below : List Frame} {meth : Method} {c : Code} {D : va_G} {cy : Nat → ClassId} {A : Nat → Prop} {t0 mi : Nat} {u0 : z_St} {h0 : Nat} (S : CallFix p m c cX6_used 2 s args z_T RX6) (hlk : meth.locks = false) (hr : meth.sig.returnType = (some .int)) (hE : z_EC D cy A t0 mi s) (hl : l.stackTraces = false) (htb : ∀ x ∈ c.exceptionTable.toList, False) {post : Int32 → z_St → Prop} {px : String → z_St → Prop}  (u : z_St) (x1 : Int32) (hkh0 : z_kd h0 u = 8 ∧ 8 ≠ 0) (hw : w_X6_used post px t0 mi h0 u x1) : z_V A (z_hC D cy A t0 u0) p l e rm_X6_used s m args below meth c 2 (vx_MQ below (va_Qi (fun r (u' : z_St) => post r u' ∧ z_mono u0 u') (fun (u' : z_St) t => z_hC D cy A t0 u0 u' t.heap) A) (zx_X px (z_hC D cy A t0 u0) A) args s 1 6 A) 0 0 u 0 [(0, va_rf (some h0)), (1, .int x1)] [] := by
  refine z_aload_n (x := some h0) S 0 dX6_used_0 rfl rfl ?_
  refine z_iload_n S 1 dX6_used_1 rfl rfl ?_
  refine zx_callVv (As := [.int x1]) (st := []) S (z_ECok D cy A t0 mi) hE htb hlk (me_X6_requireBox l D cy A t0 mi _ px u h0 x1 hkh0 hl hw) gV_X6_66 hdV_X6_requireBox ⟨Nat.le_of_ble_eq_true rfl, Nat.le_of_ble_eq_true rfl⟩ rfl rfl (z_recvC (u := u) hE hkh0 (by decide) rfl) (fun _ h => h.re) (fun _ _ _ h h' => h.ba h') (fun _ _ h => h) rfl (Nat.le_trans z_s0 (by decide)) dX6_used_2 ⟨(Nat.le_of_ble_eq_true rfl), (Nat.le_of_ble_eq_true rfl)⟩ ⟨(Nat.le_of_ble_eq_true rfl), (Nat.le_of_ble_eq_true rfl)⟩ rfl (fun u1 hw => ?_)
  obtain ⟨hw, hm1⟩ := hw
  have hkh0 := hm1.k hkh0
  refine z_aload_n (x := some h0) S 0 dX6_used_5 rfl rfl ?_
  refine z_iload_n S 1 dX6_used_6 rfl rfl ?_
  refine z_callVi (As := [.int x1]) (st := []) S (z_ECok D cy A t0 mi) hE (me_X6_usedBy l D cy A t0 mi _ u1 h0 x1 hkh0 hw) gV_X6_201 hdV_X6_usedBy ⟨Nat.le_of_ble_eq_true rfl, Nat.le_of_ble_eq_true rfl⟩ rfl rfl (z_recvC (u := u1) hE hkh0 (by decide) rfl) (fun _ h => h.re) (fun _ _ _ h h' => h.ba h') rfl (Nat.le_trans z_s0 (by decide)) dX6_used_7 ⟨(Nat.le_of_ble_eq_true rfl), (Nat.le_of_ble_eq_true rfl)⟩ rfl (fun r2 u2 hw => ?_)
  obtain ⟨hw, hm2⟩ := hw
  have hkh0 := hm2.k hkh0
  exact z_cxiret S hr hlk dX6_used_10 (Nat.le_of_ble_eq_true rfl) (Nat.le_of_ble_eq_true rfl) hw
theorem me_X6_used (l : Launch) (D : va_G) (cy : Nat → ClassId) (A : Nat → Prop) (t0 mi : Nat) (post : Int32 → z_St → Prop) (px : String → z_St → Prop) (u : z_St) (h0 : Nat) (x1 : Int32) (hkh0 : z_kd h0 u = 8 ∧ 8 ≠ 0) (hl : l.stackTraces = false) (hw : w_X6_used post px t0 mi h0 u x1) : zx_Mi l yX6_used (Cond.code yX6_used cX6_used 2 (some .int) :: z_T) rm_X6_used [va_rf (some h0), .int x1] (z_EC D cy A t0 mi) (z_hC D cy A t0 u) u (fun r u' => post r u' ∧ z_mono u u') px 1 6 A :=
  zx_met (by decide) (Nat.le_of_ble_eq_true rfl) (fun p e s m args below meth c S hlk hr hnm htb hE => mb_X6_used S hlk hr hE hl htb u x1 hkh0 hw)
