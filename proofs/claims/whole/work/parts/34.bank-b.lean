abbrev rm_X6_init : Room := { frames := 4, cells := 151, slots := 1857, locals := 100 }
def w_X6_init_143 (post : z_St → Prop) (t0 mi h0 : Nat) : Nat → z_St → Int32 → Prop
  | 0 => fun _ _ => False
  | n + 1 => fun u x1 => ((3 ≤ x1 → (post u)) ∧ (¬ 3 ≤ x1 → (∀ a1 : Nat, z_kd a1 u = 0 → (w_X2_init (fun u2 => (∃ a3 : Nat, z_gR 30 h0 u = some a3 ∧ z_kd a3 u2 = 13 ∧ (vp_in x1 (z_ln a3 u2) ∧ (w_X6_init_143 post t0 mi h0 n (z_sR a3 x1.toNatClampNeg (some a1) u2) (x1 + 1))))) t0 mi a1 (z_nO 4 a1 u) ))))
def w_X6_init_117 (post : z_St → Prop) (t0 mi h0 : Nat) : Nat → z_St → Int32 → Prop
  | 0 => fun _ _ => False
  | n + 1 => fun u x1 => ((4 ≤ x1 → (∃ n0 : Nat, n0 ≤ 4 ∧ w_X6_init_143 post t0 mi h0 n0 u 0)) ∧ (¬ 4 ≤ x1 → (∀ a1 : Nat, z_kd a1 u = 0 → (w_X1_init (fun u2 => (∃ a3 : Nat, z_gR 29 h0 u = some a3 ∧ z_kd a3 u2 = 12 ∧ (vp_in x1 (z_ln a3 u2) ∧ (w_X6_init_117 post t0 mi h0 n (z_sR a3 x1.toNatClampNeg (some a1) u2) (x1 + 1))))) t0 mi a1 (z_nO 3 a1 u) ))))
def w_X6_init_75 (post : z_St → Prop) (t0 mi h0 : Nat) : Nat → z_St → Int32 → Prop
  | 0 => fun _ _ => False
  | n + 1 => fun u x1 => ((49 ≤ x1 → (∃ n0 : Nat, n0 ≤ 5 ∧ w_X6_init_117 post t0 mi h0 n0 u 0)) ∧ (¬ 49 ≤ x1 → (∃ a1 : Nat, z_gR 27 h0 u = some a1 ∧ z_kd a1 u = 10 ∧ (vp_in (x1 - 1) (z_ln a1 u) ∧ (vp_in (x1 - 1) (z_ln a1 u) ∧ (vp_in x1 (z_ln a1 u) ∧ (w_X6_init_75 post t0 mi h0 n (z_sI a1 x1.toNatClampNeg (((z_aI a1 ((x1 - 1).toNatClampNeg) u) + ((z_aI a1 ((x1 - 1).toNatClampNeg) u) / 10)) + 1) u) (x1 + 1))))))))
def w_X6_init (post : z_St → Prop) (t0 mi h0 : Nat) (u : z_St)  : Prop := (∀ a1 : Nat, z_kd a1 u = 0 → (∀ a2 : Nat, z_kd a2 (z_pR 27 h0 (some a1) (z_nA 10 a1 49 u)) = 0 → (w_X5_init (fun u3 => (∀ a4 : Nat, z_kd a4 (z_pR 28 h0 (some a2) u3) = 0 → (∀ a5 : Nat, z_kd a5 (z_pR 29 h0 (some a4) (z_nA 12 a4 4 (z_pR 28 h0 (some a2) u3))) = 0 → (∀ a6 : Nat, z_kd a6 (z_pR 30 h0 (some a5) (z_nA 13 a5 3 (z_pR 29 h0 (some a4) (z_nA 12 a4 4 (z_pR 28 h0 (some a2) u3))))) = 0 → (w_Jx4a65c_init_da8c8 (fun u7 => (∃ a8 : Nat, z_gR 27 h0 u7 = some a8 ∧ z_kd a8 (z_pI 34 h0 0 (z_pI 33 h0 0 (z_pI 32 h0 0 (z_pR 31 h0 (some a6) u7)))) = 10 ∧ (vp_in 0 (z_ln a8 u7) ∧ (∃ n0 : Nat, w_X6_init_75 post t0 mi h0 n0 (z_sI a8 (0 : Int32).toNatClampNeg 16 (z_pI 34 h0 0 (z_pI 33 h0 0 (z_pI 32 h0 0 (z_pR 31 h0 (some a6) u7))))) 1)))) t0 mi a6 (z_nO 1 a6 (z_pR 30 h0 (some a5) (z_nA 13 a5 3 (z_pR 29 h0 (some a4) (z_nA 12 a4 4 (z_pR 28 h0 (some a2) u3)))))) ))))) t0 mi a2 (z_nO 7 a2 (z_pR 27 h0 (some a1) (z_nA 10 a1 49 u))) )))
set_option maxRecDepth 20000 in
theorem mb_X6_init_143 {p : Program} {l : Launch} {e : Env} {s : State} {m : MethodId} {args : Array Value} {below : List Frame} {meth : Method} {c : Code} {D : va_G} {cy : Nat → ClassId} {A : Nat → Prop} {t0 mi : Nat} {u0 : z_St} {h0 : Nat} (S : CallFix p m c cX6_init 2 s args z_T RX6) (hlk : meth.locks = false) (hr : meth.sig.returnType = none) (hE : z_EC D cy A t0 mi s) (hnm : meth.name = "<init>") {post : z_St → Prop} : ∀ (n : Nat) (kc ks : Nat) (u : z_St) (x1 : Int32) (hkc : kc + 3 * n ≤ 151) (hks : ks + 23 * n ≤ 1857) (hkh0 : z_kd h0 u = 8 ∧ 8 ≠ 0), w_X6_init_143 post t0 mi h0 n u x1 → z_V A (z_hC D cy A t0 u0) p l e rm_X6_init s m args below meth c 2 (MQ below (va_Qv (fun (u' : z_St) => post u' ∧ z_mono u0 u') (fun (u' : z_St) t => z_hC D cy A t0 u0 u' t.heap) A) args s 151 1857 A) kc ks u 143 [(0, va_rf (some h0)), (1, .int x1)] [] := by
  intro n
  induction n with
  | zero => intro kc ks u x1 hkc hks hkh0 hw; exact hw.elim
  | succ n ih =>
    intro kc ks u x1 hkc hks hkh0 hw
    refine z_iload_n S 1 dX6_init_143 rfl rfl ?_
    refine z_iconst (v := 3) S dX6_init_144 (by decide) ?_
    refine z_icmp_ge S 167 dX6_init_145 (by decide) (fun c1 => ?_) (fun c1 => ?_)
    · have hw := hw.1 c1
      exact z_cvret S hr hlk dX6_init_167 (by show kc ≤ 151; omega) (by show ks ≤ 1857; omega) hw
    · have hw := hw.2 c1
      refine z_aload_n (x := some h0) S 0 dX6_init_148 rfl rfl ?_
      refine zb_g_X6_28 (x := z_gR 30 h0 u) S hE hkh0 rfl dX6_init_149 ?_
      refine z_iload_n S 1 dX6_init_152 rfl rfl ?_
      refine zb_n_X6_26 S hE (by show kc + 1 ≤ 151; omega) (by show ks + 10 ≤ 1857; omega) dX6_init_153 (fun a1 hza1 => ?_)
      have hw := hw a1 hza1
      have hkh0 := z_kO (κ' := 4) hza1 hkh0
      have hka1 : z_kd a1 (z_nO 4 a1 u) = 4 ∧ 4 ≠ 0 := z_kOs (by decide)
      refine z_dup S dX6_init_156 (z_rfc (some a1)) ?_
      refine z_callINv (As := []) (st := [va_rf (some a1), .int x1, va_rf (z_gR 30 h0 u)]) S (z_ECok D cy A t0 mi) hE (me_X2_init l D cy A t0 mi _ (z_nO 4 a1 u) a1 hka1 hw) (z_goI wd_171) wd_57 (nw_X6_50 (z_ECnw hE)) wd_170 rfl hdS_X2_init ⟨Nat.le_of_ble_eq_true rfl, Nat.le_of_ble_eq_true rfl⟩ rfl rfl (fun _ h => h.re) (fun _ _ _ h h' => h.ba h') rfl (Nat.le_trans (z_sq (z_s1 (z_sq z_s0))) (by decide)) dX6_init_157 ⟨(by show kc + 1 + 2 ≤ 151; omega), (by show ks + 10 + 13 ≤ 1857; omega)⟩ rfl (fun u2 hw => ?_)
      obtain ⟨hw, hm2⟩ := hw
      have hkh0 := hm2.k hkh0
      have hka1 := hm2.k hka1
      obtain ⟨a3, ea3, hka3, hw⟩ := hw
      have hka3 : z_kd a3 u2 = 13 ∧ 13 ≠ 0 := ⟨hka3, by decide⟩
      obtain ⟨hi2, hw⟩ := hw
      refine z_st (st' := [va_rf (some a1), .int x1, va_rf (some a3)]) (congrArg (fun r : Option Nat => ([va_rf (some a1), .int x1, va_rf r] : List Value)) ea3) ?_
      refine z_caast (κ := 13) (κv := 4) (v := a1) S hE hka3 (by decide) rfl hka1 (by decide) rfl (fun comp c0 g1 g2 => (vb_asgS comp c0 g1 g2.1)) hi2 dX6_init_160 ?_
      refine z_iinc (v := x1 + 1) (pl := 1) S [(1, .int (x1 + 1)), (0, va_rf (some h0))] dX6_init_161 rfl rfl (by decide) rfl ?_
      refine z_lv (lv' := [(0, va_rf (some h0)), (1, .int (x1 + 1))]) [1, 0] rfl ?_
      refine z_goto S 143 dX6_init_164 (by decide) ?_
      exact ih _ _ (z_sR a3 x1.toNatClampNeg (some a1) u2) (x1 + 1) (by omega) (by omega) hkh0 hw
set_option maxRecDepth 20000 in
theorem mb_X6_init_117 {p : Program} {l : Launch} {e : Env} {s : State} {m : MethodId} {args : Array Value} {below : List Frame} {meth : Method} {c : Code} {D : va_G} {cy : Nat → ClassId} {A : Nat → Prop} {t0 mi : Nat} {u0 : z_St} {h0 : Nat} (S : CallFix p m c cX6_init 2 s args z_T RX6) (hlk : meth.locks = false) (hr : meth.sig.returnType = none) (hE : z_EC D cy A t0 mi s) (hnm : meth.name = "<init>") {post : z_St → Prop} : ∀ (n : Nat) (kc ks : Nat) (u : z_St) (x1 : Int32) (hkc : kc + 2 * n ≤ 139) (hks : ks + 5 * n ≤ 1765) (hkh0 : z_kd h0 u = 8 ∧ 8 ≠ 0), w_X6_init_117 post t0 mi h0 n u x1 → z_V A (z_hC D cy A t0 u0) p l e rm_X6_init s m args below meth c 2 (MQ below (va_Qv (fun (u' : z_St) => post u' ∧ z_mono u0 u') (fun (u' : z_St) t => z_hC D cy A t0 u0 u' t.heap) A) args s 151 1857 A) kc ks u 117 [(0, va_rf (some h0)), (1, .int x1)] [] := by
  intro n
  induction n with
  | zero => intro kc ks u x1 hkc hks hkh0 hw; exact hw.elim
  | succ n ih =>
    intro kc ks u x1 hkc hks hkh0 hw
    refine z_iload_n S 1 dX6_init_117 rfl rfl ?_
    refine z_iconst (v := 4) S dX6_init_118 (by decide) ?_
    refine z_icmp_ge S 141 dX6_init_119 (by decide) (fun c1 => ?_) (fun c1 => ?_)
    · have hw := hw.1 c1
      refine z_iconst (v := 0) S dX6_init_141 (by decide) ?_
      refine z_istore_n S [(1, .int 0), (0, va_rf (some h0))] dX6_init_142 rfl (by decide) rfl ?_
      refine z_lv (lv' := [(0, va_rf (some h0)), (1, .int 0)]) [1, 0] rfl ?_
      obtain ⟨n0, hn0, hw⟩ := hw
      refine z_widen (k' := 139) (n' := 1765) (by show kc ≤ 139; omega) (by show ks ≤ 1765; omega) ?_
      exact mb_X6_init_143 S hlk hr hE hnm n0 139 1765 u 0 (by omega) (by omega) hkh0 hw
    · have hw := hw.2 c1
      refine z_aload_n (x := some h0) S 0 dX6_init_122 rfl rfl ?_
      refine zb_g_X6_22 (x := z_gR 29 h0 u) S hE hkh0 rfl dX6_init_123 ?_
      refine z_iload_n S 1 dX6_init_126 rfl rfl ?_
      refine zb_n_X6_20 S hE (by show kc + 1 ≤ 151; omega) (by show ks + 2 ≤ 1857; omega) dX6_init_127 (fun a1 hza1 => ?_)
      have hw := hw a1 hza1
      have hkh0 := z_kO (κ' := 3) hza1 hkh0
      have hka1 : z_kd a1 (z_nO 3 a1 u) = 3 ∧ 3 ≠ 0 := z_kOs (by decide)
      refine z_dup S dX6_init_130 (z_rfc (some a1)) ?_
      refine z_callINv (As := []) (st := [va_rf (some a1), .int x1, va_rf (z_gR 29 h0 u)]) S (z_ECok D cy A t0 mi) hE (me_X1_init l D cy A t0 mi _ (z_nO 3 a1 u) a1 hka1 hw) (z_goI wd_155) wd_56 (nw_X6_49 (z_ECnw hE)) wd_154 rfl hdS_X1_init ⟨Nat.le_of_ble_eq_true rfl, Nat.le_of_ble_eq_true rfl⟩ rfl rfl (fun _ h => h.re) (fun _ _ _ h h' => h.ba h') rfl (Nat.le_trans (z_sq (z_s1 (z_sq z_s0))) (by decide)) dX6_init_131 ⟨(by show kc + 1 + 1 ≤ 151; omega), (by show ks + 2 + 3 ≤ 1857; omega)⟩ rfl (fun u2 hw => ?_)
      obtain ⟨hw, hm2⟩ := hw
      have hkh0 := hm2.k hkh0
      have hka1 := hm2.k hka1
      obtain ⟨a3, ea3, hka3, hw⟩ := hw
      have hka3 : z_kd a3 u2 = 12 ∧ 12 ≠ 0 := ⟨hka3, by decide⟩
      obtain ⟨hi2, hw⟩ := hw
      refine z_st (st' := [va_rf (some a1), .int x1, va_rf (some a3)]) (congrArg (fun r : Option Nat => ([va_rf (some a1), .int x1, va_rf r] : List Value)) ea3) ?_
      refine z_caast (κ := 12) (κv := 3) (v := a1) S hE hka3 (by decide) rfl hka1 (by decide) rfl (fun comp c0 g1 g2 => (vb_asgS comp c0 g1 g2.1)) hi2 dX6_init_134 ?_
      refine z_iinc (v := x1 + 1) (pl := 1) S [(1, .int (x1 + 1)), (0, va_rf (some h0))] dX6_init_135 rfl rfl (by decide) rfl ?_
      refine z_lv (lv' := [(0, va_rf (some h0)), (1, .int (x1 + 1))]) [1, 0] rfl ?_
      refine z_goto S 117 dX6_init_138 (by decide) ?_
      exact ih _ _ (z_sR a3 x1.toNatClampNeg (some a1) u2) (x1 + 1) (by omega) (by omega) hkh0 hw
set_option maxRecDepth 20000 in
theorem mb_X6_init_75 {p : Program} {l : Launch} {e : Env} {s : State} {m : MethodId} {args : Array Value} {below : List Frame} {meth : Method} {c : Code} {D : va_G} {cy : Nat → ClassId} {A : Nat → Prop} {t0 mi : Nat} {u0 : z_St} {h0 : Nat} (S : CallFix p m c cX6_init 2 s args z_T RX6) (hlk : meth.locks = false) (hr : meth.sig.returnType = none) (hE : z_EC D cy A t0 mi s) (hnm : meth.name = "<init>") {post : z_St → Prop}  : ∀ (n : Nat) (u : z_St) (x1 : Int32) (hkh0 : z_kd h0 u = 8 ∧ 8 ≠ 0), w_X6_init_75 post t0 mi h0 n u x1 → z_V A (z_hC D cy A t0 u0) p l e rm_X6_init s m args below meth c 2 (MQ below (va_Qv (fun (u' : z_St) => post u' ∧ z_mono u0 u') (fun (u' : z_St) t => z_hC D cy A t0 u0 u' t.heap) A) args s 151 1857 A) 129 1740 u 75 [(0, va_rf (some h0)), (1, .int x1)] [] := by
  intro n
  induction n with
  | zero => intro u x1 hkh0 hw; exact hw.elim
  | succ n ih =>
    intro u x1 hkh0 hw
    refine z_iload_n S 1 dX6_init_75 rfl rfl ?_
    refine z_bipush (v := 49) S dX6_init_76 (by decide) ?_
    refine z_icmp_ge S 115 dX6_init_78 (by decide) (fun c1 => ?_) (fun c1 => ?_)
    · have hw := hw.1 c1
      refine z_iconst (v := 0) S dX6_init_115 (by decide) ?_
      refine z_istore_n S [(1, .int 0), (0, va_rf (some h0))] dX6_init_116 rfl (by decide) rfl ?_
      refine z_lv (lv' := [(0, va_rf (some h0)), (1, .int 0)]) [1, 0] rfl ?_
      obtain ⟨n0, hn0, hw⟩ := hw
      refine z_widen (k' := 129) (n' := 1740) (Nat.le_of_ble_eq_true rfl) (Nat.le_of_ble_eq_true rfl) ?_
      exact mb_X6_init_117 S hlk hr hE hnm n0 129 1740 u 0 (by omega) (by omega) hkh0 hw
    · have hw := hw.2 c1
      refine z_aload_n (x := some h0) S 0 dX6_init_81 rfl rfl ?_
      refine zb_g_X6_9 (x := z_gR 27 h0 u) S hE hkh0 rfl dX6_init_82 ?_
      refine z_iload_n S 1 dX6_init_85 rfl rfl ?_
      refine z_aload_n (x := some h0) S 0 dX6_init_86 rfl rfl ?_
      refine zb_g_X6_9 (x := z_gR 27 h0 u) S hE hkh0 rfl dX6_init_87 ?_
      refine z_iload_n S 1 dX6_init_90 rfl rfl ?_
      refine z_iconst (v := 1) S dX6_init_91 (by decide) ?_
      refine z_isub S dX6_init_92 ?_
      obtain ⟨a1, ea1, hka1, hw⟩ := hw
      have hka1 : z_kd a1 u = 10 ∧ 10 ≠ 0 := ⟨hka1, by decide⟩
      obtain ⟨hi2, hw⟩ := hw
      refine z_st (st' := [.int (x1 - 1), va_rf (some a1), .int x1, va_rf (z_gR 27 h0 u)]) (congrArg (fun r : Option Nat => ([.int (x1 - 1), va_rf r, .int x1, va_rf (z_gR 27 h0 u)] : List Value)) ea1) ?_
      refine z_cald S hE hka1 hi2 dX6_init_93 ?_
      refine z_aload_n (x := some h0) S 0 dX6_init_94 rfl rfl ?_
      refine zb_g_X6_9 (x := z_gR 27 h0 u) S hE hkh0 rfl dX6_init_95 ?_
      refine z_iload_n S 1 dX6_init_98 rfl rfl ?_
      refine z_iconst (v := 1) S dX6_init_99 (by decide) ?_
      refine z_isub S dX6_init_100 ?_
      obtain ⟨hi3, hw⟩ := hw
      refine z_st (st' := [.int (x1 - 1), va_rf (some a1), .int (z_aI a1 ((x1 - 1).toNatClampNeg) u), .int x1, va_rf (z_gR 27 h0 u)]) (congrArg (fun r : Option Nat => ([.int (x1 - 1), va_rf r, .int (z_aI a1 ((x1 - 1).toNatClampNeg) u), .int x1, va_rf (z_gR 27 h0 u)] : List Value)) ea1) ?_
      refine z_cald S hE hka1 hi3 dX6_init_101 ?_
      refine z_bipush (v := 10) S dX6_init_102 (by decide) ?_
      refine z_idiv S dX6_init_104 (by decide) ?_
      refine z_iadd S dX6_init_105 ?_
      refine z_iconst (v := 1) S dX6_init_106 (by decide) ?_
      refine z_iadd S dX6_init_107 ?_
      obtain ⟨hi4, hw⟩ := hw
      refine z_st (st' := [.int (((z_aI a1 ((x1 - 1).toNatClampNeg) u) + ((z_aI a1 ((x1 - 1).toNatClampNeg) u) / 10)) + 1), .int x1, va_rf (some a1)]) (congrArg (fun r : Option Nat => ([.int (((z_aI a1 ((x1 - 1).toNatClampNeg) u) + ((z_aI a1 ((x1 - 1).toNatClampNeg) u) / 10)) + 1), .int x1, va_rf r] : List Value)) ea1) ?_
      refine z_cast S hE hka1 hi4 dX6_init_108 ?_
      refine z_iinc (v := x1 + 1) (pl := 1) S [(1, .int (x1 + 1)), (0, va_rf (some h0))] dX6_init_109 rfl rfl (by decide) rfl ?_
      refine z_lv (lv' := [(0, va_rf (some h0)), (1, .int (x1 + 1))]) [1, 0] rfl ?_
      refine z_goto S 75 dX6_init_112 (by decide) ?_
      exact ih (z_sI a1 x1.toNatClampNeg (((z_aI a1 ((x1 - 1).toNatClampNeg) u) + ((z_aI a1 ((x1 - 1).toNatClampNeg) u) / 10)) + 1) u) (x1 + 1) hkh0 hw
set_option maxRecDepth 20000 in
theorem mb_X6_init {p : Program} {l : Launch} {e : Env} {s : State} {m : MethodId} {args : Array Value} {below : List Frame} {meth : Method} {c : Code} {D : va_G} {cy : Nat → ClassId} {A : Nat → Prop} {t0 mi : Nat} {u0 : z_St} {h0 : Nat} (S : CallFix p m c cX6_init 2 s args z_T RX6) (hlk : meth.locks = false) (hr : meth.sig.returnType = none) (hE : z_EC D cy A t0 mi s) (hnm : meth.name = "<init>") {post : z_St → Prop}  (u : z_St)  (hkh0 : z_kd h0 u = 8 ∧ 8 ≠ 0) (hw : w_X6_init post t0 mi h0 u ) : z_V A (z_hC D cy A t0 u0) p l e rm_X6_init s m args below meth c 2 (MQ below (va_Qv (fun (u' : z_St) => post u' ∧ z_mono u0 u') (fun (u' : z_St) t => z_hC D cy A t0 u0 u' t.heap) A) args s 151 1857 A) 0 0 u 0 [(0, va_rf (some h0))] [] := by
  refine z_aload_n (x := some h0) S 0 dX6_init_0 rfl rfl ?_
  refine z_obj (a := h0) S wd_79 wd_80 wd_81 (Nat.le_of_ble_eq_true rfl) (Nat.le_trans (Nat.add_le_add_right z_s0 12) (Nat.le_of_ble_eq_true rfl)) dX6_init_1 ?_
  refine z_aload_n (x := some h0) S 0 dX6_init_4 rfl rfl ?_
  refine z_bipush (v := 49) S dX6_init_5 (by decide) ?_
  refine z_cnewI (N' := 49) S hE wd_arrI (by decide) rfl (by decide) (Nat.le_of_ble_eq_true rfl) (Nat.le_of_ble_eq_true rfl) dX6_init_7 (fun a1 hza1 => ?_)
  have hw := hw a1 hza1
  have hkh0 := z_kA (κ' := 10) (N := 49) hza1 hkh0
  have hka1 : z_kd a1 (z_nA 10 a1 49 u) = 10 ∧ 10 ≠ 0 := z_kAs (by decide)
  refine zb_p_X6_9 (some a1) S hE hkh0 hnm dX6_init_9 ?_
  refine z_aload_n (x := some h0) S 0 dX6_init_12 rfl rfl ?_
  refine zb_n_X6_13 S hE (Nat.le_of_ble_eq_true rfl) (Nat.le_of_ble_eq_true rfl) dX6_init_13 (fun a2 hza2 => ?_)
  have hw := hw a2 hza2
  have hkh0 := z_kO (κ' := 7) hza2 hkh0
  have hka1 := z_kO (κ' := 7) hza2 hka1
  have hka2 : z_kd a2 (z_nO 7 a2 (z_pR 27 h0 (some a1) (z_nA 10 a1 49 u))) = 7 ∧ 7 ≠ 0 := z_kOs (by decide)
  refine z_dup S dX6_init_16 (z_rfc (some a2)) ?_
  refine z_callIv (As := []) (st := [va_rf (some a2), va_rf (some h0)]) S (z_ECok D cy A t0 mi) hE (me_X5_init l D cy A t0 mi _ (z_nO 7 a2 (z_pR 27 h0 (some a1) (z_nA 10 a1 49 u))) a2 hka2 hw) (z_goI wd_86) wd_51 wd_84 wd_85 rfl hdS_X5_init ⟨Nat.le_of_ble_eq_true rfl, Nat.le_of_ble_eq_true rfl⟩ rfl rfl (fun _ h => h.re) (fun _ _ _ h h' => h.ba h') rfl (Nat.le_trans (z_sq (z_sq z_s0)) (by decide)) dX6_init_17 ⟨(Nat.le_of_ble_eq_true rfl), (Nat.le_of_ble_eq_true rfl)⟩ rfl (fun u3 hw => ?_)
  obtain ⟨hw, hm3⟩ := hw
  have hkh0 := hm3.k hkh0
  have hka1 := hm3.k hka1
  have hka2 := hm3.k hka2
  refine zb_p_X6_16 (some a2) S hE hkh0 hnm dX6_init_20 ?_
  refine z_aload_n (x := some h0) S 0 dX6_init_23 rfl rfl ?_
  refine z_iconst (v := 4) S dX6_init_24 (by decide) ?_
  refine z_cnewR (κ := 12) (N' := 4) S hE (by decide) rfl wd_122 (nw_ao_12 (z_ECnw hE)) (by decide) rfl (by decide) (Nat.le_of_ble_eq_true rfl) (Nat.le_of_ble_eq_true rfl) dX6_init_25 (fun a4 hza4 => ?_)
  have hw := hw a4 hza4
  have hkh0 := z_kA (κ' := 12) (N := 4) hza4 hkh0
  have hka1 := z_kA (κ' := 12) (N := 4) hza4 hka1
  have hka2 := z_kA (κ' := 12) (N := 4) hza4 hka2
  have hka4 : z_kd a4 (z_nA 12 a4 4 (z_pR 28 h0 (some a2) u3)) = 12 ∧ 12 ≠ 0 := z_kAs (by decide)
  refine zb_p_X6_22 (some a4) S hE hkh0 hnm dX6_init_28 ?_
  refine z_aload_n (x := some h0) S 0 dX6_init_31 rfl rfl ?_
  refine z_iconst (v := 3) S dX6_init_32 (by decide) ?_
  refine z_cnewR (κ := 13) (N' := 3) S hE (by decide) rfl wd_124 (nw_ao_13 (z_ECnw hE)) (by decide) rfl (by decide) (Nat.le_of_ble_eq_true rfl) (Nat.le_of_ble_eq_true rfl) dX6_init_33 (fun a5 hza5 => ?_)
  have hw := hw a5 hza5
  have hkh0 := z_kA (κ' := 13) (N := 3) hza5 hkh0
  have hka1 := z_kA (κ' := 13) (N := 3) hza5 hka1
  have hka2 := z_kA (κ' := 13) (N := 3) hza5 hka2
  have hka4 := z_kA (κ' := 13) (N := 3) hza5 hka4
  have hka5 : z_kd a5 (z_nA 13 a5 3 (z_pR 29 h0 (some a4) (z_nA 12 a4 4 (z_pR 28 h0 (some a2) u3)))) = 13 ∧ 13 ≠ 0 := z_kAs (by decide)
  refine zb_p_X6_28 (some a5) S hE hkh0 hnm dX6_init_36 ?_
  refine z_aload_n (x := some h0) S 0 dX6_init_39 rfl rfl ?_
  refine zb_n_X6_32 S hE (Nat.le_of_ble_eq_true rfl) (Nat.le_of_ble_eq_true rfl) dX6_init_40 (fun a6 hza6 => ?_)
  have hw := hw a6 hza6
  have hkh0 := z_kO (κ' := 1) hza6 hkh0
  have hka1 := z_kO (κ' := 1) hza6 hka1
  have hka2 := z_kO (κ' := 1) hza6 hka2
  have hka4 := z_kO (κ' := 1) hza6 hka4
  have hka5 := z_kO (κ' := 1) hza6 hka5
  have hka6 : z_kd a6 (z_nO 1 a6 (z_pR 30 h0 (some a5) (z_nA 13 a5 3 (z_pR 29 h0 (some a4) (z_nA 12 a4 4 (z_pR 28 h0 (some a2) u3)))))) = 1 ∧ 1 ≠ 0 := z_kOs (by decide)
  refine z_dup S dX6_init_43 (z_rfc (some a6)) ?_
  refine z_callIv (As := []) (st := [va_rf (some a6), va_rf (some h0)]) S (z_ECok D cy A t0 mi) hE (me_Jx4a65c_init_da8c8 l D cy A t0 mi _ (z_nO 1 a6 (z_pR 30 h0 (some a5) (z_nA 13 a5 3 (z_pR 29 h0 (some a4) (z_nA 12 a4 4 (z_pR 28 h0 (some a2) u3)))))) a6 hka6 hw) (z_goI wd_130) wd_55 wd_128 wd_129 rfl hdS_Jx4a65c_init_da8c8 ⟨Nat.le_of_ble_eq_true rfl, Nat.le_of_ble_eq_true rfl⟩ rfl rfl (fun _ h => h.re) (fun _ _ _ h h' => h.ba h') rfl (Nat.le_trans (z_sq (z_sq z_s0)) (by decide)) dX6_init_44 ⟨(Nat.le_of_ble_eq_true rfl), (Nat.le_of_ble_eq_true rfl)⟩ rfl (fun u7 hw => ?_)
  obtain ⟨hw, hm7⟩ := hw
  have hkh0 := hm7.k hkh0
  have hka1 := hm7.k hka1
  have hka2 := hm7.k hka2
  have hka4 := hm7.k hka4
  have hka5 := hm7.k hka5
  have hka6 := hm7.k hka6
  refine zb_p_X6_35 (some a6) S hE hkh0 hnm dX6_init_47 ?_
  refine z_aload_n (x := some h0) S 0 dX6_init_50 rfl rfl ?_
  refine z_iconst (v := 0) S dX6_init_51 (by decide) ?_
  refine zb_p_X6_39 S hE hkh0 dX6_init_52 ?_
  refine z_aload_n (x := some h0) S 0 dX6_init_55 rfl rfl ?_
  refine z_iconst (v := 0) S dX6_init_56 (by decide) ?_
  refine zb_p_X6_43 S hE hkh0 dX6_init_57 ?_
  refine z_aload_n (x := some h0) S 0 dX6_init_60 rfl rfl ?_
  refine z_iconst (v := 0) S dX6_init_61 (by decide) ?_
  refine zb_p_X6_46 S hE hkh0 dX6_init_62 ?_
  refine z_aload_n (x := some h0) S 0 dX6_init_65 rfl rfl ?_
  refine zb_g_X6_9 (x := z_gR 27 h0 u7) S hE hkh0 rfl dX6_init_66 ?_
  refine z_iconst (v := 0) S dX6_init_69 (by decide) ?_
  refine z_bipush (v := 16) S dX6_init_70 (by decide) ?_
  obtain ⟨a8, ea8, hka8, hw⟩ := hw
  have hka8 : z_kd a8 (z_pI 34 h0 0 (z_pI 33 h0 0 (z_pI 32 h0 0 (z_pR 31 h0 (some a6) u7)))) = 10 ∧ 10 ≠ 0 := ⟨hka8, by decide⟩
  obtain ⟨hi1, hw⟩ := hw
  refine z_st (st' := [.int 16, .int 0, va_rf (some a8)]) (congrArg (fun r : Option Nat => ([.int 16, .int 0, va_rf r] : List Value)) ea8) ?_
  refine z_cast S hE hka8 hi1 dX6_init_72 ?_
  refine z_iconst (v := 1) S dX6_init_73 (by decide) ?_
  refine z_istore_n S [(1, .int 1), (0, va_rf (some h0))] dX6_init_74 rfl (by decide) rfl ?_
  refine z_lv (lv' := [(0, va_rf (some h0)), (1, .int 1)]) [1, 0] rfl ?_
  obtain ⟨n0, hw⟩ := hw
  exact mb_X6_init_75 S hlk hr hE hnm n0 (z_sI a8 (0 : Int32).toNatClampNeg 16 (z_pI 34 h0 0 (z_pI 33 h0 0 (z_pI 32 h0 0 (z_pR 31 h0 (some a6) u7))))) 1 hkh0 hw
theorem me_X6_init (l : Launch) (D : va_G) (cy : Nat → ClassId) (A : Nat → Prop) (t0 mi : Nat) (post : z_St → Prop) (u : z_St) (h0 : Nat) (hkh0 : z_kd h0 u = 8 ∧ 8 ≠ 0) (hw : w_X6_init post t0 mi h0 u ) : z_Mv l yX6_init (Cond.code yX6_init cX6_init 2 none :: z_T) rm_X6_init [va_rf (some h0)] (z_EC D cy A t0 mi) (z_hC D cy A t0 u) u (fun u' => post u' ∧ z_mono u u') 151 1857 A :=
  z_met (by decide) (Nat.le_of_ble_eq_true rfl) (fun p e s m args below meth c S hlk hr hnm hE => mb_X6_init S hlk hr hE hnm u  hkh0 hw)
abbrev rm_X6_hold : Room := { frames := 0, cells := 0, slots := 0, locals := 0 }
def w_X6_hold_22 (post : z_St → Prop) (t0 mi h0 : Nat) (u : z_St) (x1 : Option Nat) : Prop := (∃ a1 : Nat, x1 = some a1 ∧ z_kd a1 u = 6 ∧ (post (z_pI 25 a1 ((z_gI 25 a1 u) + 1) u)))
def w_X6_hold (post : z_St → Prop) (t0 mi h0 : Nat) (u : z_St) (x1 : Option Nat) : Prop := ((¬ x1 = none → (∃ a1 : Nat, x1 = some a1 ∧ z_kd a1 u = 6 ∧ ((¬ (z_gI 25 a1 u) = 0 → (w_X6_hold_22 post t0 mi h0 u x1)) ∧ ((z_gI 25 a1 u) = 0 → (w_X6_hold_22 post t0 mi h0 (z_pI 34 h0 ((z_gI 34 h0 u) + 1) u) x1))))) ∧ (x1 = none → (post u)))
set_option maxRecDepth 20000 in
theorem mb_X6_hold_22 {p : Program} {l : Launch} {e : Env} {s : State} {m : MethodId} {args : Array Value} {below : List Frame} {meth : Method} {c : Code} {D : va_G} {cy : Nat → ClassId} {A : Nat → Prop} {t0 mi : Nat} {u0 : z_St} {h0 : Nat} (S : CallFix p m c cX6_hold 2 s args z_T RX6) (hlk : meth.locks = false) (hr : meth.sig.returnType = none) (hE : z_EC D cy A t0 mi s) {post : z_St → Prop}  (u : z_St) (x1 : Option Nat) (hkh0 : z_kd h0 u = 8 ∧ 8 ≠ 0) (hw : w_X6_hold_22 post t0 mi h0 u x1) : z_V A (z_hC D cy A t0 u0) p l e rm_X6_hold s m args below meth c 2 (MQ below (va_Qv (fun (u' : z_St) => post u' ∧ z_mono u0 u') (fun (u' : z_St) t => z_hC D cy A t0 u0 u' t.heap) A) args s 0 0 A) 0 0 u 22 [(1, va_rf x1)] [] := by
  refine z_aload_n (x := x1) S 0 dX6_hold_22 rfl rfl ?_
  refine z_dup S dX6_hold_23 (z_rfc x1) ?_
  obtain ⟨a1, ea1, hka1, hw⟩ := hw
  have hka1 : z_kd a1 u = 6 ∧ 6 ≠ 0 := ⟨hka1, by decide⟩
  refine z_st (st' := [va_rf (some a1), va_rf x1]) (congrArg (fun r : Option Nat => ([va_rf r, va_rf x1] : List Value)) ea1) ?_
  refine zb_g_X6_267 (x := z_gI 25 a1 u) S hE hka1 rfl dX6_hold_24 ?_
  refine z_iconst (v := 1) S dX6_hold_27 (by decide) ?_
  refine z_iadd S dX6_hold_28 ?_
  refine z_st (st' := [.int ((z_gI 25 a1 u) + 1), va_rf (some a1)]) (congrArg (fun r : Option Nat => ([.int ((z_gI 25 a1 u) + 1), va_rf r] : List Value)) ea1) ?_
  refine zb_p_X6_267 S hE hka1 dX6_hold_29 ?_
  exact z_cvret S hr hlk dX6_hold_32 (Nat.le_of_ble_eq_true rfl) (Nat.le_of_ble_eq_true rfl) hw
set_option maxRecDepth 20000 in
theorem mb_X6_hold {p : Program} {l : Launch} {e : Env} {s : State} {m : MethodId} {args : Array Value} {below : List Frame} {meth : Method} {c : Code} {D : va_G} {cy : Nat → ClassId} {A : Nat → Prop} {t0 mi : Nat} {u0 : z_St} {h0 : Nat} (S : CallFix p m c cX6_hold 2 s args z_T RX6) (hlk : meth.locks = false) (hr : meth.sig.returnType = none) (hE : z_EC D cy A t0 mi s) {post : z_St → Prop}  (u : z_St) (x1 : Option Nat) (hkh0 : z_kd h0 u = 8 ∧ 8 ≠ 0) (hw : w_X6_hold post t0 mi h0 u x1) : z_V A (z_hC D cy A t0 u0) p l e rm_X6_hold s m args below meth c 2 (MQ below (va_Qv (fun (u' : z_St) => post u' ∧ z_mono u0 u') (fun (u' : z_St) t => z_hC D cy A t0 u0 u' t.heap) A) args s 0 0 A) 0 0 u 0 [(0, va_rf (some h0)), (1, va_rf x1)] [] := by
  refine z_aload_n (x := x1) S 1 dX6_hold_0 rfl rfl ?_
  refine z_ifnonnull (r := x1) S 5 dX6_hold_1 (by decide) (fun c1 => ?_) (fun c1 => ?_)
  · have hw := hw.1 c1
    refine z_aload_n (x := x1) S 1 dX6_hold_5 rfl rfl ?_
    obtain ⟨a1, ea1, hka1, hw⟩ := hw
    have hka1 : z_kd a1 u = 6 ∧ 6 ≠ 0 := ⟨hka1, by decide⟩
    refine z_st (st' := [va_rf (some a1)]) (congrArg (fun r : Option Nat => ([va_rf r] : List Value)) ea1) ?_
    refine zb_g_X6_267 (x := z_gI 25 a1 u) S hE hka1 rfl dX6_hold_6 ?_
    refine z_if_ne S 22 dX6_hold_9 (by decide) (fun c2 => ?_) (fun c2 => ?_)
    · have hw := hw.1 c2
      refine z_lv (lv' := [(1, va_rf x1)]) [1] rfl ?_
      exact mb_X6_hold_22 S hlk hr hE u x1 hkh0 hw
    · have hw := hw.2 c2
      refine z_aload_n (x := some h0) S 0 dX6_hold_12 rfl rfl ?_
      refine z_dup S dX6_hold_13 (z_rfc (some h0)) ?_
      refine zb_g_X6_46 (x := z_gI 34 h0 u) S hE hkh0 rfl dX6_hold_14 ?_
      refine z_iconst (v := 1) S dX6_hold_17 (by decide) ?_
      refine z_iadd S dX6_hold_18 ?_
      refine zb_p_X6_46 S hE hkh0 dX6_hold_19 ?_
      refine z_lv (lv' := [(1, va_rf x1)]) [1] rfl ?_
      exact mb_X6_hold_22 S hlk hr hE (z_pI 34 h0 ((z_gI 34 h0 u) + 1) u) x1 hkh0 hw
  · have hw := hw.2 c1
    exact z_cvret S hr hlk dX6_hold_4 (Nat.le_of_ble_eq_true rfl) (Nat.le_of_ble_eq_true rfl) hw
theorem me_X6_hold (l : Launch) (D : va_G) (cy : Nat → ClassId) (A : Nat → Prop) (t0 mi : Nat) (post : z_St → Prop) (u : z_St) (h0 : Nat) (x1 : Option Nat) (hkh0 : z_kd h0 u = 8 ∧ 8 ≠ 0) (hw : w_X6_hold post t0 mi h0 u x1) : z_Mv l yX6_hold (Cond.code yX6_hold cX6_hold 2 none :: z_T) rm_X6_hold [va_rf (some h0), va_rf x1] (z_EC D cy A t0 mi) (z_hC D cy A t0 u) u (fun u' => post u' ∧ z_mono u u') 0 0 A :=
  z_met (by decide) (by simp [lg_sl, z_rfc, z_ic]) (fun p e s m args below meth c S hlk hr hnm hE => (by simp [lv_args, z_rfc, z_ic] : lv_args 0 [va_rf (some h0), va_rf x1] = [(0, va_rf (some h0)), (1, va_rf x1)]) ▸ mb_X6_hold S hlk hr hE u x1 hkh0 hw)
abbrev rm_X6_addMessage : Room := { frames := 7, cells := 2, slots := 29, locals := 171 }
def w_X6_addMessage (post : Int32 → z_St → Prop) (t0 mi h0 : Nat) (u : z_St) (x1 : Int32) (x2 : Option Nat) (x3 : Option Nat) : Prop := (∀ a1 : Nat, z_kd a1 u = 0 → (w_X3_init (fun u2 => (∃ a3 : Nat, z_gR 31 h0 u2 = some a3 ∧ z_kd a3 (z_pI 33 h0 ((z_gI 33 h0 u2) + 1) u2) = 1 ∧ (w_Jx4a65c_add_9ea2d (fun r4 u4 => (w_X6_hold (fun u5 => (w_X6_hold (fun u6 => (post (z_gI 16 a1 u6) u6)) t0 mi h0 u5 x3)) t0 mi h0 u4 x2)) t0 mi a3 (z_pI 33 h0 ((z_gI 33 h0 u2) + 1) u2) (some a1)))) t0 mi a1 (z_nO 5 a1 u) (z_gI 33 h0 (z_nO 5 a1 u)) x1 x2 x3))
set_option maxRecDepth 20000 in
theorem mb_X6_addMessage {p : Program} {l : Launch} {e : Env} {s : State} {m : MethodId} {args : Array Value} {below : List Frame} {meth : Method} {c : Code} {D : va_G} {cy : Nat → ClassId} {A : Nat → Prop} {t0 mi : Nat} {u0 : z_St} {h0 : Nat} (S : CallFix p m c cX6_addMessage 5 s args z_T RX6) (hlk : meth.locks = false) (hr : meth.sig.returnType = (some .int)) (hE : z_EC D cy A t0 mi s) {post : Int32 → z_St → Prop}  (u : z_St) (x1 : Int32) (x2 : Option Nat) (x3 : Option Nat) (hkh0 : z_kd h0 u = 8 ∧ 8 ≠ 0) (hw : w_X6_addMessage post t0 mi h0 u x1 x2 x3) : z_V A (z_hC D cy A t0 u0) p l e rm_X6_addMessage s m args below meth c 5 (MQ below (va_Qi (fun r (u' : z_St) => post r u' ∧ z_mono u0 u') (fun (u' : z_St) t => z_hC D cy A t0 u0 u' t.heap) A) args s 2 29 A) 0 0 u 0 [(0, va_rf (some h0)), (1, .int x1), (2, va_rf x2), (3, va_rf x3)] [] := by
  refine zb_n_X6_157 S hE (Nat.le_of_ble_eq_true rfl) (Nat.le_of_ble_eq_true rfl) dX6_addMessage_0 (fun a1 hza1 => ?_)
  have hw := hw a1 hza1
  have hkh0 := z_kO (κ' := 5) hza1 hkh0
  have hka1 : z_kd a1 (z_nO 5 a1 u) = 5 ∧ 5 ≠ 0 := z_kOs (by decide)
  refine z_dup S dX6_addMessage_3 (z_rfc (some a1)) ?_
  refine z_aload_n (x := some h0) S 0 dX6_addMessage_4 rfl rfl ?_
  refine zb_g_X6_43 (x := z_gI 33 h0 (z_nO 5 a1 u)) S hE hkh0 rfl dX6_addMessage_5 ?_
  refine z_iload_n S 1 dX6_addMessage_8 rfl rfl ?_
  refine z_aload_n (x := x2) S 2 dX6_addMessage_9 rfl rfl ?_
  refine z_aload_n (x := x3) S 3 dX6_addMessage_10 rfl rfl ?_
  refine z_callIv (As := [.int (z_gI 33 h0 (z_nO 5 a1 u)), .int x1, va_rf x2, va_rf x3]) (st := [va_rf (some a1)]) S (z_ECok D cy A t0 mi) hE (me_X3_init l D cy A t0 mi _ (z_nO 5 a1 u) a1 (z_gI 33 h0 (z_nO 5 a1 u)) x1 x2 x3 hka1 hw) (z_goI wd_564) wd_69 wd_562 wd_563 rfl hdS_X3_init ⟨Nat.le_of_ble_eq_true rfl, Nat.le_of_ble_eq_true rfl⟩ rfl rfl (fun _ h => h.re) (fun _ _ _ h h' => h.ba h') rfl (Nat.le_trans (z_sq z_s0) (by decide)) dX6_addMessage_11 ⟨(Nat.le_of_ble_eq_true rfl), (Nat.le_of_ble_eq_true rfl)⟩ rfl (fun u2 hw => ?_)
  obtain ⟨hw, hm2⟩ := hw
  have hkh0 := hm2.k hkh0
  have hka1 := hm2.k hka1
  refine z_astore (x := some a1) S [(4, va_rf (some a1)), (0, va_rf (some h0)), (1, .int x1), (2, va_rf x2), (3, va_rf x3)] dX6_addMessage_14 (by decide) (by simp only [List.filter, z_rfc]; rfl) ?_
  refine z_lv (lv' := [(0, va_rf (some h0)), (1, .int x1), (2, va_rf x2), (3, va_rf x3), (4, va_rf (some a1))]) [1, 2, 3, 4, 0] rfl ?_
  refine z_aload_n (x := some h0) S 0 dX6_addMessage_16 rfl rfl ?_
  refine z_dup S dX6_addMessage_17 (z_rfc (some h0)) ?_
  refine zb_g_X6_43 (x := z_gI 33 h0 u2) S hE hkh0 rfl dX6_addMessage_18 ?_
  refine z_iconst (v := 1) S dX6_addMessage_21 (by decide) ?_
  refine z_iadd S dX6_addMessage_22 ?_
  refine zb_p_X6_43 S hE hkh0 dX6_addMessage_23 ?_
  refine z_aload_n (x := some h0) S 0 dX6_addMessage_26 rfl rfl ?_
  refine zb_g_X6_35 (x := z_gR 31 h0 u2) S hE hkh0 rfl dX6_addMessage_27 ?_
  refine z_aload (x := some a1) S 4 dX6_addMessage_30 rfl ?_
  obtain ⟨a3, ea3, hka3, hw⟩ := hw
  have hka3 : z_kd a3 (z_pI 33 h0 ((z_gI 33 h0 u2) + 1) u2) = 1 ∧ 1 ≠ 0 := ⟨hka3, by decide⟩
  refine z_st (st' := [va_rf (some a1), va_rf (some a3)]) (congrArg (fun r : Option Nat => ([va_rf (some a1), va_rf r] : List Value)) ea3) ?_
  refine z_callVi (As := [va_rf (some a1)]) (st := []) S (z_ECok D cy A t0 mi) hE (me_Jx4a65c_add_9ea2d l D cy A t0 mi _ (z_pI 33 h0 ((z_gI 33 h0 u2) + 1) u2) a3 (some a1) hka3 hw) gV_X6_259 hdV_Jx4a65c_add_9ea2d ⟨Nat.le_of_ble_eq_true rfl, Nat.le_of_ble_eq_true rfl⟩ rfl rfl (z_recvC (u := z_pI 33 h0 ((z_gI 33 h0 u2) + 1) u2) hE hka3 (by decide) rfl) (fun _ h => h.re) (fun _ _ _ h h' => h.ba h') rfl (Nat.le_trans z_s0 (by decide)) dX6_addMessage_32 ⟨(Nat.le_of_ble_eq_true rfl), (Nat.le_of_ble_eq_true rfl)⟩ rfl (fun r4 u4 hw => ?_)
  obtain ⟨hw, hm4⟩ := hw
  have hkh0 := hm4.k hkh0
  have hka1 := hm4.k hka1
  have hka3 := hm4.k hka3
  refine z_pop S dX6_addMessage_35 rfl ?_
  refine z_aload_n (x := some h0) S 0 dX6_addMessage_36 rfl rfl ?_
  refine z_aload_n (x := x2) S 2 dX6_addMessage_37 rfl rfl ?_
  refine z_callVv (As := [va_rf x2]) (st := []) S (z_ECok D cy A t0 mi) hE (me_X6_hold l D cy A t0 mi _ u4 h0 x2 hkh0 hw) gV_X6_263 hdV_X6_hold ⟨Nat.le_of_ble_eq_true rfl, Nat.le_of_ble_eq_true rfl⟩ rfl rfl (z_recvC (u := u4) hE hkh0 (by decide) rfl) (fun _ h => h.re) (fun _ _ _ h h' => h.ba h') rfl (Nat.le_trans z_s0 (by decide)) dX6_addMessage_38 ⟨(Nat.le_of_ble_eq_true rfl), (Nat.le_of_ble_eq_true rfl)⟩ rfl (fun u5 hw => ?_)
  obtain ⟨hw, hm5⟩ := hw
  have hkh0 := hm5.k hkh0
  have hka1 := hm5.k hka1
  have hka3 := hm5.k hka3
  refine z_aload_n (x := some h0) S 0 dX6_addMessage_41 rfl rfl ?_
  refine z_aload_n (x := x3) S 3 dX6_addMessage_42 rfl rfl ?_
  refine z_callVv (As := [va_rf x3]) (st := []) S (z_ECok D cy A t0 mi) hE (me_X6_hold l D cy A t0 mi _ u5 h0 x3 hkh0 hw) gV_X6_263 hdV_X6_hold ⟨Nat.le_of_ble_eq_true rfl, Nat.le_of_ble_eq_true rfl⟩ rfl rfl (z_recvC (u := u5) hE hkh0 (by decide) rfl) (fun _ h => h.re) (fun _ _ _ h h' => h.ba h') rfl (Nat.le_trans z_s0 (by decide)) dX6_addMessage_43 ⟨(Nat.le_of_ble_eq_true rfl), (Nat.le_of_ble_eq_true rfl)⟩ rfl (fun u6 hw => ?_)
  obtain ⟨hw, hm6⟩ := hw
  have hkh0 := hm6.k hkh0
  have hka1 := hm6.k hka1
  have hka3 := hm6.k hka3
  refine z_aload (x := some a1) S 4 dX6_addMessage_46 rfl ?_
  refine zb_g_X6_248 (x := z_gI 16 a1 u6) S hE hka1 rfl dX6_addMessage_48 ?_
  exact z_ciret S hr hlk dX6_addMessage_51 (Nat.le_of_ble_eq_true rfl) (Nat.le_of_ble_eq_true rfl) hw
theorem me_X6_addMessage (l : Launch) (D : va_G) (cy : Nat → ClassId) (A : Nat → Prop) (t0 mi : Nat) (post : Int32 → z_St → Prop) (u : z_St) (h0 : Nat) (x1 : Int32) (x2 : Option Nat) (x3 : Option Nat) (hkh0 : z_kd h0 u = 8 ∧ 8 ≠ 0) (hw : w_X6_addMessage post t0 mi h0 u x1 x2 x3) : z_Mi l yX6_addMessage (Cond.code yX6_addMessage cX6_addMessage 5 (some .int) :: z_T) rm_X6_addMessage [va_rf (some h0), .int x1, va_rf x2, va_rf x3] (z_EC D cy A t0 mi) (z_hC D cy A t0 u) u (fun r u' => post r u' ∧ z_mono u u') 2 29 A :=
  z_met (by decide) (by simp [lg_sl, z_rfc, z_ic]) (fun p e s m args below meth c S hlk hr hnm hE => (by simp [lv_args, z_rfc, z_ic] : lv_args 0 [va_rf (some h0), .int x1, va_rf x2, va_rf x3] = [(0, va_rf (some h0)), (1, .int x1), (2, va_rf x2), (3, va_rf x3)]) ▸ mb_X6_addMessage S hlk hr hE u x1 x2 x3 hkh0 hw)
abbrev rm_X6_block : Room := { frames := 6, cells := 1, slots := 6, locals := 90 }
def w_X6_block (post : Int32 → z_St → Prop) (px : String → z_St → Prop) (t0 mi h0 : Nat) (u : z_St) (x1 : Int32) : Prop := ((x1 < 0 → (px "java/lang/IndexOutOfBoundsException" u)) ∧ (¬ x1 < 0 → ((x1 < 40 → (∃ a1 : Nat, z_gR 28 h0 u = some a1 ∧ z_kd a1 u = 7 ∧ (∃ a2 : Nat, z_gR 26 a1 u = some a2 ∧ z_kd a2 u = 11 ∧ (vp_in x1 (z_ln a2 u) ∧ (∃ a3 : Nat, z_aR a2 x1.toNatClampNeg u = some a3 ∧ z_kd a3 u = 2 ∧ (post (z_gI 2 a3 u) u)))))) ∧ (¬ x1 < 40 → (px "java/lang/IndexOutOfBoundsException" u)))))
set_option maxRecDepth 20000 in
theorem mb_X6_block {p : Program} {l : Launch} {e : Env} {s : State} {m : MethodId} {args : Array Value} {below : List Frame} {meth : Method} {c : Code} {D : va_G} {cy : Nat → ClassId} {A : Nat → Prop} {t0 mi : Nat} {u0 : z_St} {h0 : Nat} (S : CallFix p m c cX6_block 2 s args z_T RX6) (hlk : meth.locks = false) (hr : meth.sig.returnType = (some .int)) (hE : z_EC D cy A t0 mi s) (hl : l.stackTraces = false) (htb : ∀ x ∈ c.exceptionTable.toList, False) {post : Int32 → z_St → Prop} {px : String → z_St → Prop}  (u : z_St) (x1 : Int32) (hkh0 : z_kd h0 u = 8 ∧ 8 ≠ 0) (hw : w_X6_block post px t0 mi h0 u x1) : z_V A (z_hC D cy A t0 u0) p l e rm_X6_block s m args below meth c 2 (vx_MQ below (va_Qi (fun r (u' : z_St) => post r u' ∧ z_mono u0 u') (fun (u' : z_St) t => z_hC D cy A t0 u0 u' t.heap) A) (zx_X px (z_hC D cy A t0 u0) A) args s 1 6 A) 0 0 u 0 [(0, va_rf (some h0)), (1, .int x1)] [] := by
  refine z_iload_n S 1 dX6_block_0 rfl rfl ?_
  refine z_if_lt S 10 dX6_block_1 (by decide) (fun c1 => ?_) (fun c1 => ?_)
  · have hw := hw.1 c1
    exact zx_thr_144 (is := 209) (text := "there is no such block") S hE hl htb hlk (by decide) dX6_block_10 dX6_block_13 dX6_block_14 dX6_block_16 dX6_block_19 (Nat.le_of_ble_eq_true rfl) (Nat.le_of_ble_eq_true rfl) (Nat.le_of_ble_eq_true rfl) (Nat.le_of_ble_eq_true rfl) (Nat.le_of_ble_eq_true rfl) (Nat.le_of_ble_eq_true rfl) hw
  · have hw := hw.2 c1
    refine z_iload_n S 1 dX6_block_4 rfl rfl ?_
    refine z_bipush (v := 40) S dX6_block_5 (by decide) ?_
    refine z_icmp_lt S 20 dX6_block_7 (by decide) (fun c2 => ?_) (fun c2 => ?_)
    · have hw := hw.1 c2
      refine z_aload_n (x := some h0) S 0 dX6_block_20 rfl rfl ?_
      refine zb_g_X6_16 (x := z_gR 28 h0 u) S hE hkh0 rfl dX6_block_21 ?_
      obtain ⟨a1, ea1, hka1, hw⟩ := hw
      have hka1 : z_kd a1 u = 7 ∧ 7 ≠ 0 := ⟨hka1, by decide⟩
      refine z_st (st' := [va_rf (some a1)]) (congrArg (fun r : Option Nat => ([va_rf r] : List Value)) ea1) ?_
      refine zb_g_X6_211 (x := z_gR 26 a1 u) S hE hka1 rfl dX6_block_24 ?_
      refine z_iload_n S 1 dX6_block_27 rfl rfl ?_
      obtain ⟨a2, ea2, hka2, hw⟩ := hw
      have hka2 : z_kd a2 u = 11 ∧ 11 ≠ 0 := ⟨hka2, by decide⟩
      obtain ⟨hi3, hw⟩ := hw
      refine z_st (st' := [.int x1, va_rf (some a2)]) (congrArg (fun r : Option Nat => ([.int x1, va_rf r] : List Value)) ea2) ?_
      refine z_caald (κ := 11) S hE hka2 (by decide) rfl hi3 dX6_block_28 ?_
      obtain ⟨a3, ea3, hka3, hw⟩ := hw
      have hka3 : z_kd a3 u = 2 ∧ 2 ≠ 0 := ⟨hka3, by decide⟩
      refine z_st (st' := [va_rf (some a3)]) (congrArg (fun r : Option Nat => ([va_rf r] : List Value)) ea3) ?_
      refine zb_g_X6_215 (x := z_gI 2 a3 u) S hE hka3 rfl dX6_block_29 ?_
      exact z_cxiret S hr hlk dX6_block_32 (Nat.le_of_ble_eq_true rfl) (Nat.le_of_ble_eq_true rfl) hw
    · have hw := hw.2 c2
      exact zx_thr_144 (is := 209) (text := "there is no such block") S hE hl htb hlk (by decide) dX6_block_10 dX6_block_13 dX6_block_14 dX6_block_16 dX6_block_19 (Nat.le_of_ble_eq_true rfl) (Nat.le_of_ble_eq_true rfl) (Nat.le_of_ble_eq_true rfl) (Nat.le_of_ble_eq_true rfl) (Nat.le_of_ble_eq_true rfl) (Nat.le_of_ble_eq_true rfl) hw
theorem me_X6_block (l : Launch) (D : va_G) (cy : Nat → ClassId) (A : Nat → Prop) (t0 mi : Nat) (post : Int32 → z_St → Prop) (px : String → z_St → Prop) (u : z_St) (h0 : Nat) (x1 : Int32) (hkh0 : z_kd h0 u = 8 ∧ 8 ≠ 0) (hl : l.stackTraces = false) (hw : w_X6_block post px t0 mi h0 u x1) : zx_Mi l yX6_block (Cond.code yX6_block cX6_block 2 (some .int) :: z_T) rm_X6_block [va_rf (some h0), .int x1] (z_EC D cy A t0 mi) (z_hC D cy A t0 u) u (fun r u' => post r u' ∧ z_mono u u') px 1 6 A :=
  zx_met (by decide) (Nat.le_of_ble_eq_true rfl) (fun p e s m args below meth c S hlk hr hnm htb hE => mb_X6_block S hlk hr hE hl htb u x1 hkh0 hw)
abbrev rm_X6_box : Room := { frames := 6, cells := 1, slots := 6, locals := 90 }
def w_X6_box (post : Int32 → z_St → Prop) (px : String → z_St → Prop) (t0 mi h0 : Nat) (u : z_St) (x1 : Int32) : Prop := ((x1 < 0 → (px "java/lang/IllegalArgumentException" u)) ∧ (¬ x1 < 0 → ((x1 ≤ 500 → (((z_gI 32 h0 u) < 4 → (∃ a1 : Nat, z_gR 29 h0 u = some a1 ∧ z_kd a1 u = 12 ∧ (vp_in (z_gI 32 h0 u) (z_ln a1 u) ∧ (∃ a2 : Nat, z_aR a1 ((z_gI 32 h0 u).toNatClampNeg) u = some a2 ∧ z_kd a2 u = 3 ∧ (post ((z_gI 32 h0 (z_pI 32 h0 ((z_gI 32 h0 u) + 1) (z_pI 5 a2 x1 u))) - 1) (z_pI 32 h0 ((z_gI 32 h0 u) + 1) (z_pI 5 a2 x1 u))))))) ∧ (¬ (z_gI 32 h0 u) < 4 → (px "java/lang/IllegalStateException" u)))) ∧ (¬ x1 ≤ 500 → (px "java/lang/IllegalArgumentException" u)))))
set_option maxRecDepth 20000 in
theorem mb_X6_box {p : Program} {l : Launch} {e : Env} {s : State} {m : MethodId} {args : Array Value} {below : List Frame} {meth : Method} {c : Code} {D : va_G} {cy : Nat → ClassId} {A : Nat → Prop} {t0 mi : Nat} {u0 : z_St} {h0 : Nat} (S : CallFix p m c cX6_box 2 s args z_T RX6) (hlk : meth.locks = false) (hr : meth.sig.returnType = (some .int)) (hE : z_EC D cy A t0 mi s) (hl : l.stackTraces = false) (htb : ∀ x ∈ c.exceptionTable.toList, False) {post : Int32 → z_St → Prop} {px : String → z_St → Prop}  (u : z_St) (x1 : Int32) (hkh0 : z_kd h0 u = 8 ∧ 8 ≠ 0) (hw : w_X6_box post px t0 mi h0 u x1) : z_V A (z_hC D cy A t0 u0) p l e rm_X6_box s m args below meth c 2 (vx_MQ below (va_Qi (fun r (u' : z_St) => post r u' ∧ z_mono u0 u') (fun (u' : z_St) t => z_hC D cy A t0 u0 u' t.heap) A) (zx_X px (z_hC D cy A t0 u0) A) args s 1 6 A) 0 0 u 0 [(0, va_rf (some h0)), (1, .int x1)] [] := by
  refine z_iload_n S 1 dX6_box_0 rfl rfl ?_
  refine z_if_lt S 11 dX6_box_1 (by decide) (fun c1 => ?_) (fun c1 => ?_)
  · have hw := hw.1 c1
    exact zx_thr_51 (is := 53) (text := "the quota is not 0 .. 500") S hE hl htb hlk (by decide) dX6_box_11 dX6_box_14 dX6_box_15 dX6_box_17 dX6_box_20 (Nat.le_of_ble_eq_true rfl) (Nat.le_of_ble_eq_true rfl) (Nat.le_of_ble_eq_true rfl) (Nat.le_of_ble_eq_true rfl) (Nat.le_of_ble_eq_true rfl) (Nat.le_of_ble_eq_true rfl) hw
  · have hw := hw.2 c1
    refine z_iload_n S 1 dX6_box_4 rfl rfl ?_
    refine z_sipush (v := 500) S dX6_box_5 (by decide) ?_
    refine z_icmp_le S 21 dX6_box_8 (by decide) (fun c2 => ?_) (fun c2 => ?_)
    · have hw := hw.1 c2
      refine z_aload_n (x := some h0) S 0 dX6_box_21 rfl rfl ?_
      refine zb_g_X6_39 (x := z_gI 32 h0 u) S hE hkh0 rfl dX6_box_22 ?_
      refine z_iconst (v := 4) S dX6_box_25 (by decide) ?_
      refine z_icmp_lt S 39 dX6_box_26 (by decide) (fun c3 => ?_) (fun c3 => ?_)
      · have hw := hw.1 c3
        refine z_aload_n (x := some h0) S 0 dX6_box_39 rfl rfl ?_
        refine zb_g_X6_22 (x := z_gR 29 h0 u) S hE hkh0 rfl dX6_box_40 ?_
        refine z_aload_n (x := some h0) S 0 dX6_box_43 rfl rfl ?_
        refine zb_g_X6_39 (x := z_gI 32 h0 u) S hE hkh0 rfl dX6_box_44 ?_
        obtain ⟨a1, ea1, hka1, hw⟩ := hw
        have hka1 : z_kd a1 u = 12 ∧ 12 ≠ 0 := ⟨hka1, by decide⟩
        obtain ⟨hi4, hw⟩ := hw
        refine z_st (st' := [.int (z_gI 32 h0 u), va_rf (some a1)]) (congrArg (fun r : Option Nat => ([.int (z_gI 32 h0 u), va_rf r] : List Value)) ea1) ?_
        refine z_caald (κ := 12) S hE hka1 (by decide) rfl hi4 dX6_box_47 ?_
        refine z_iload_n S 1 dX6_box_48 rfl rfl ?_
        obtain ⟨a2, ea2, hka2, hw⟩ := hw
        have hka2 : z_kd a2 u = 3 ∧ 3 ≠ 0 := ⟨hka2, by decide⟩
        refine z_st (st' := [.int x1, va_rf (some a2)]) (congrArg (fun r : Option Nat => ([.int x1, va_rf r] : List Value)) ea2) ?_
        refine zb_p_X6_63 S hE hka2 dX6_box_49 ?_
        refine z_aload_n (x := some h0) S 0 dX6_box_52 rfl rfl ?_
        refine z_dup S dX6_box_53 (z_rfc (some h0)) ?_
        refine zb_g_X6_39 (x := z_gI 32 h0 u) S hE hkh0 rfl dX6_box_54 ?_
        refine z_iconst (v := 1) S dX6_box_57 (by decide) ?_
        refine z_iadd S dX6_box_58 ?_
        refine zb_p_X6_39 S hE hkh0 dX6_box_59 ?_
        refine z_aload_n (x := some h0) S 0 dX6_box_62 rfl rfl ?_
        refine zb_g_X6_39 (x := z_gI 32 h0 (z_pI 32 h0 ((z_gI 32 h0 u) + 1) (z_pI 5 a2 x1 u))) S hE hkh0 rfl dX6_box_63 ?_
        refine z_iconst (v := 1) S dX6_box_66 (by decide) ?_
        refine z_isub S dX6_box_67 ?_
        exact z_cxiret S hr hlk dX6_box_68 (Nat.le_of_ble_eq_true rfl) (Nat.le_of_ble_eq_true rfl) hw
      · have hw := hw.2 c3
        exact zx_thr_58 (is := 60) (text := "there are 4 boxes") S hE hl htb hlk (by decide) dX6_box_29 dX6_box_32 dX6_box_33 dX6_box_35 dX6_box_38 (Nat.le_of_ble_eq_true rfl) (Nat.le_of_ble_eq_true rfl) (Nat.le_of_ble_eq_true rfl) (Nat.le_of_ble_eq_true rfl) (Nat.le_of_ble_eq_true rfl) (Nat.le_of_ble_eq_true rfl) hw
    · have hw := hw.2 c2
      exact zx_thr_51 (is := 53) (text := "the quota is not 0 .. 500") S hE hl htb hlk (by decide) dX6_box_11 dX6_box_14 dX6_box_15 dX6_box_17 dX6_box_20 (Nat.le_of_ble_eq_true rfl) (Nat.le_of_ble_eq_true rfl) (Nat.le_of_ble_eq_true rfl) (Nat.le_of_ble_eq_true rfl) (Nat.le_of_ble_eq_true rfl) (Nat.le_of_ble_eq_true rfl) hw
theorem me_X6_box (l : Launch) (D : va_G) (cy : Nat → ClassId) (A : Nat → Prop) (t0 mi : Nat) (post : Int32 → z_St → Prop) (px : String → z_St → Prop) (u : z_St) (h0 : Nat) (x1 : Int32) (hkh0 : z_kd h0 u = 8 ∧ 8 ≠ 0) (hl : l.stackTraces = false) (hw : w_X6_box post px t0 mi h0 u x1) : zx_Mi l yX6_box (Cond.code yX6_box cX6_box 2 (some .int) :: z_T) rm_X6_box [va_rf (some h0), .int x1] (z_EC D cy A t0 mi) (z_hC D cy A t0 u) u (fun r u' => post r u' ∧ z_mono u u') px 1 6 A :=
  zx_met (by decide) (Nat.le_of_ble_eq_true rfl) (fun p e s m args below meth c S hlk hr hnm htb hE => mb_X6_box S hlk hr hE hl htb u x1 hkh0 hw)
abbrev rm_X6_busyBits : Room := { frames := 0, cells := 0, slots := 0, locals := 0 }
def w_X6_busyBits_4 (post : Int32 → z_St → Prop) (t0 mi h0 : Nat) : Nat → z_St → Int32 → Int32 → Prop
  | 0 => fun _ _ _ => False
  | n + 1 => fun u x1 x2 => ((3 ≤ x2 → (post x1 u)) ∧ (¬ 3 ≤ x2 → (∃ a1 : Nat, z_gR 30 h0 u = some a1 ∧ z_kd a1 u = 13 ∧ (vp_in x2 (z_ln a1 u) ∧ (∃ a2 : Nat, z_aR a1 x2.toNatClampNeg u = some a2 ∧ z_kd a2 u = 4 ∧ (∀ y3 : Int32, y3 = (if (z_gI 8 a2 u) = 0 then x1 else x1 ||| (1 <<< (x2 &&& 31))) → (w_X6_busyBits_4 post t0 mi h0 n u y3 (x2 + 1))))))))
def w_X6_busyBits (post : Int32 → z_St → Prop) (t0 mi h0 : Nat) (u : z_St)  : Prop := (∃ n0 : Nat, w_X6_busyBits_4 post t0 mi h0 n0 u 0 0)
set_option maxRecDepth 20000 in
theorem mb_X6_busyBits_4 {p : Program} {l : Launch} {e : Env} {s : State} {m : MethodId} {args : Array Value} {below : List Frame} {meth : Method} {c : Code} {D : va_G} {cy : Nat → ClassId} {A : Nat → Prop} {t0 mi : Nat} {u0 : z_St} {h0 : Nat} (S : CallFix p m c cX6_busyBits 3 s args z_T RX6) (hlk : meth.locks = false) (hr : meth.sig.returnType = (some .int)) (hE : z_EC D cy A t0 mi s) {post : Int32 → z_St → Prop}  : ∀ (n : Nat) (u : z_St) (x1 : Int32) (x2 : Int32) (hkh0 : z_kd h0 u = 8 ∧ 8 ≠ 0), w_X6_busyBits_4 post t0 mi h0 n u x1 x2 → z_V A (z_hC D cy A t0 u0) p l e rm_X6_busyBits s m args below meth c 3 (MQ below (va_Qi (fun r (u' : z_St) => post r u' ∧ z_mono u0 u') (fun (u' : z_St) t => z_hC D cy A t0 u0 u' t.heap) A) args s 0 0 A) 0 0 u 4 [(0, va_rf (some h0)), (1, .int x1), (2, .int x2)] [] := by
  intro n
  induction n with
  | zero => intro u x1 x2 hkh0 hw; exact hw.elim
  | succ n ih =>
    intro u x1 x2 hkh0 hw
    refine z_iload_n S 2 dX6_busyBits_4 rfl rfl ?_
    refine z_iconst (v := 3) S dX6_busyBits_5 (by decide) ?_
    refine z_icmp_ge S 33 dX6_busyBits_6 (by decide) (fun c1 => ?_) (fun c1 => ?_)
    · have hw := hw.1 c1
      refine z_iload_n S 1 dX6_busyBits_33 rfl rfl ?_
      exact z_ciret S hr hlk dX6_busyBits_34 (Nat.le_of_ble_eq_true rfl) (Nat.le_of_ble_eq_true rfl) hw
    · have hw := hw.2 c1
      refine z_aload_n (x := some h0) S 0 dX6_busyBits_9 rfl rfl ?_
      refine zb_g_X6_28 (x := z_gR 30 h0 u) S hE hkh0 rfl dX6_busyBits_10 ?_
      refine z_iload_n S 2 dX6_busyBits_13 rfl rfl ?_
      obtain ⟨a1, ea1, hka1, hw⟩ := hw
      have hka1 : z_kd a1 u = 13 ∧ 13 ≠ 0 := ⟨hka1, by decide⟩
      obtain ⟨hi2, hw⟩ := hw
      refine z_st (st' := [.int x2, va_rf (some a1)]) (congrArg (fun r : Option Nat => ([.int x2, va_rf r] : List Value)) ea1) ?_
      refine z_caald (κ := 13) S hE hka1 (by decide) rfl hi2 dX6_busyBits_14 ?_
      obtain ⟨a2, ea2, hka2, hw⟩ := hw
      have hka2 : z_kd a2 u = 4 ∧ 4 ≠ 0 := ⟨hka2, by decide⟩
      refine z_st (st' := [va_rf (some a2)]) (congrArg (fun r : Option Nat => ([va_rf r] : List Value)) ea2) ?_
      refine zb_g_X6_75 (x := z_gI 8 a2 u) S hE hka2 rfl dX6_busyBits_15 ?_
      suffices hJ : ∀ y3 : Int32, y3 = (if (z_gI 8 a2 u) = 0 then x1 else x1 ||| (1 <<< (x2 &&& 31))) → z_V A (z_hC D cy A t0 u0) p l e rm_X6_busyBits s m args below meth c 3 (MQ below (va_Qi (fun r (u' : z_St) => post r u' ∧ z_mono u0 u') (fun (u' : z_St) t => z_hC D cy A t0 u0 u' t.heap) A) args s 0 0 A) 0 0 u 27 [(0, va_rf (some h0)), (1, .int y3), (2, .int x2)] [] from by
        refine z_if_eq S 27 dX6_busyBits_18 (by decide) (fun c4 => ?_) (fun c4 => ?_)
        · exact hJ _ (by rw [if_pos c4])
        · refine z_iload_n S 1 dX6_busyBits_21 rfl rfl ?_
          refine z_iconst (v := 1) S dX6_busyBits_22 (by decide) ?_
          refine z_iload_n S 2 dX6_busyBits_23 rfl rfl ?_
          refine z_ishl S dX6_busyBits_24 ?_
          refine z_ior S dX6_busyBits_25 ?_
          refine z_istore_n S [(1, .int (x1 ||| (1 <<< (x2 &&& 31)))), (0, va_rf (some h0)), (2, .int x2)] dX6_busyBits_26 rfl (by decide) rfl ?_
          refine z_lv (lv' := [(0, va_rf (some h0)), (1, .int (x1 ||| (1 <<< (x2 &&& 31)))), (2, .int x2)]) [1, 0, 2] rfl ?_
          exact hJ _ (by rw [if_neg c4])
      intro y3 ey3
      have hw := hw y3 ey3
      refine z_iinc (v := x2 + 1) (pl := 2) S [(2, .int (x2 + 1)), (0, va_rf (some h0)), (1, .int y3)] dX6_busyBits_27 rfl rfl (by decide) rfl ?_
      refine z_lv (lv' := [(0, va_rf (some h0)), (1, .int y3), (2, .int (x2 + 1))]) [1, 2, 0] rfl ?_
      refine z_goto S 4 dX6_busyBits_30 (by decide) ?_
      exact ih u y3 (x2 + 1) hkh0 hw
set_option maxRecDepth 20000 in
theorem mb_X6_busyBits {p : Program} {l : Launch} {e : Env} {s : State} {m : MethodId} {args : Array Value} {below : List Frame} {meth : Method} {c : Code} {D : va_G} {cy : Nat → ClassId} {A : Nat → Prop} {t0 mi : Nat} {u0 : z_St} {h0 : Nat} (S : CallFix p m c cX6_busyBits 3 s args z_T RX6) (hlk : meth.locks = false) (hr : meth.sig.returnType = (some .int)) (hE : z_EC D cy A t0 mi s) {post : Int32 → z_St → Prop}  (u : z_St)  (hkh0 : z_kd h0 u = 8 ∧ 8 ≠ 0) (hw : w_X6_busyBits post t0 mi h0 u ) : z_V A (z_hC D cy A t0 u0) p l e rm_X6_busyBits s m args below meth c 3 (MQ below (va_Qi (fun r (u' : z_St) => post r u' ∧ z_mono u0 u') (fun (u' : z_St) t => z_hC D cy A t0 u0 u' t.heap) A) args s 0 0 A) 0 0 u 0 [(0, va_rf (some h0))] [] := by
  refine z_iconst (v := 0) S dX6_busyBits_0 (by decide) ?_
  refine z_istore_n S [(1, .int 0), (0, va_rf (some h0))] dX6_busyBits_1 rfl (by decide) rfl ?_
  refine z_lv (lv' := [(0, va_rf (some h0)), (1, .int 0)]) [1, 0] rfl ?_
  refine z_iconst (v := 0) S dX6_busyBits_2 (by decide) ?_
  refine z_istore_n S [(2, .int 0), (0, va_rf (some h0)), (1, .int 0)] dX6_busyBits_3 rfl (by decide) rfl ?_
  refine z_lv (lv' := [(0, va_rf (some h0)), (1, .int 0), (2, .int 0)]) [1, 2, 0] rfl ?_
  obtain ⟨n0, hw⟩ := hw
  exact mb_X6_busyBits_4 S hlk hr hE n0 u 0 0 hkh0 hw
theorem me_X6_busyBits (l : Launch) (D : va_G) (cy : Nat → ClassId) (A : Nat → Prop) (t0 mi : Nat) (post : Int32 → z_St → Prop) (u : z_St) (h0 : Nat) (hkh0 : z_kd h0 u = 8 ∧ 8 ≠ 0) (hw : w_X6_busyBits post t0 mi h0 u ) : z_Mi l yX6_busyBits (Cond.code yX6_busyBits cX6_busyBits 3 (some .int) :: z_T) rm_X6_busyBits [va_rf (some h0)] (z_EC D cy A t0 mi) (z_hC D cy A t0 u) u (fun r u' => post r u' ∧ z_mono u u') 0 0 A :=
  z_met (by decide) (Nat.le_of_ble_eq_true rfl) (fun p e s m args below meth c S hlk hr hnm hE => mb_X6_busyBits S hlk hr hE u  hkh0 hw)
abbrev rm_X6_requireLine : Room := { frames := 6, cells := 1, slots := 6, locals := 90 }
def w_X6_requireLine (post : z_St → Prop) (px : String → z_St → Prop) (t0 mi h0 : Nat) (u : z_St) (x1 : Int32) : Prop := ((x1 < 0 → (px "java/lang/IllegalArgumentException" u)) ∧ (¬ x1 < 0 → ((x1 < 3 → (post u)) ∧ (¬ x1 < 3 → (px "java/lang/IllegalArgumentException" u)))))
set_option maxRecDepth 20000 in
theorem mb_X6_requireLine {p : Program} {l : Launch} {e : Env} {s : State} {m : MethodId} {args : Array Value} {below : List Frame} {meth : Method} {c : Code} {D : va_G} {cy : Nat → ClassId} {A : Nat → Prop} {t0 mi : Nat} {u0 : z_St} {h0 : Nat} (S : CallFix p m c cX6_requireLine 2 s args z_T RX6) (hlk : meth.locks = false) (hr : meth.sig.returnType = none) (hE : z_EC D cy A t0 mi s) (hl : l.stackTraces = false) (htb : ∀ x ∈ c.exceptionTable.toList, False) {post : z_St → Prop} {px : String → z_St → Prop}  (u : z_St) (x1 : Int32) (hkh0 : z_kd h0 u = 8 ∧ 8 ≠ 0) (hw : w_X6_requireLine post px t0 mi h0 u x1) : z_V A (z_hC D cy A t0 u0) p l e rm_X6_requireLine s m args below meth c 2 (vx_MQ below (va_Qv (fun (u' : z_St) => post u' ∧ z_mono u0 u') (fun (u' : z_St) t => z_hC D cy A t0 u0 u' t.heap) A) (zx_X px (z_hC D cy A t0 u0) A) args s 1 6 A) 0 0 u 0 [(0, va_rf (some h0)), (1, .int x1)] [] := by
  refine z_iload_n S 1 dX6_requireLine_0 rfl rfl ?_
  refine z_if_lt S 9 dX6_requireLine_1 (by decide) (fun c1 => ?_) (fun c1 => ?_)
  · have hw := hw.1 c1
    exact zx_thr_51 (is := 240) (text := "there is no such line") S hE hl htb hlk (by decide) dX6_requireLine_9 dX6_requireLine_12 dX6_requireLine_13 dX6_requireLine_15 dX6_requireLine_18 (Nat.le_of_ble_eq_true rfl) (Nat.le_of_ble_eq_true rfl) (Nat.le_of_ble_eq_true rfl) (Nat.le_of_ble_eq_true rfl) (Nat.le_of_ble_eq_true rfl) (Nat.le_of_ble_eq_true rfl) hw
  · have hw := hw.2 c1
    refine z_iload_n S 1 dX6_requireLine_4 rfl rfl ?_
    refine z_iconst (v := 3) S dX6_requireLine_5 (by decide) ?_
    refine z_icmp_lt S 19 dX6_requireLine_6 (by decide) (fun c2 => ?_) (fun c2 => ?_)
    · have hw := hw.1 c2
      exact z_cxvret S hr hlk dX6_requireLine_19 (Nat.le_of_ble_eq_true rfl) (Nat.le_of_ble_eq_true rfl) hw
    · have hw := hw.2 c2
      exact zx_thr_51 (is := 240) (text := "there is no such line") S hE hl htb hlk (by decide) dX6_requireLine_9 dX6_requireLine_12 dX6_requireLine_13 dX6_requireLine_15 dX6_requireLine_18 (Nat.le_of_ble_eq_true rfl) (Nat.le_of_ble_eq_true rfl) (Nat.le_of_ble_eq_true rfl) (Nat.le_of_ble_eq_true rfl) (Nat.le_of_ble_eq_true rfl) (Nat.le_of_ble_eq_true rfl) hw
theorem me_X6_requireLine (l : Launch) (D : va_G) (cy : Nat → ClassId) (A : Nat → Prop) (t0 mi : Nat) (post : z_St → Prop) (px : String → z_St → Prop) (u : z_St) (h0 : Nat) (x1 : Int32) (hkh0 : z_kd h0 u = 8 ∧ 8 ≠ 0) (hl : l.stackTraces = false) (hw : w_X6_requireLine post px t0 mi h0 u x1) : zx_Mv l yX6_requireLine (Cond.code yX6_requireLine cX6_requireLine 2 none :: z_T) rm_X6_requireLine [va_rf (some h0), .int x1] (z_EC D cy A t0 mi) (z_hC D cy A t0 u) u (fun u' => post u' ∧ z_mono u u') px 1 6 A :=
  zx_met (by decide) (Nat.le_of_ble_eq_true rfl) (fun p e s m args below meth c S hlk hr hnm htb hE => mb_X6_requireLine S hlk hr hE hl htb u x1 hkh0 hw)
abbrev rm_X6_busyLine : Room := { frames := 7, cells := 2, slots := 12, locals := 111 }
def w_X6_busyLine (post : Option Nat → z_St → Prop) (px : String → z_St → Prop) (t0 mi h0 : Nat) (u : z_St) (x1 : Int32) : Prop := (w_X6_requireLine (fun u1 => (∃ a2 : Nat, z_gR 30 h0 u1 = some a2 ∧ z_kd a2 u1 = 13 ∧ (vp_in x1 (z_ln a2 u1) ∧ (∃ a3 : Nat, z_aR a2 x1.toNatClampNeg u1 = some a3 ∧ z_kd a3 u1 = 4 ∧ ((¬ (z_gI 8 a3 u1) = 0 → (vp_in x1 (z_ln a2 u1) ∧ (post (z_aR a2 x1.toNatClampNeg u1) u1))) ∧ ((z_gI 8 a3 u1) = 0 → (px "java/lang/IllegalStateException" u1))))))) px t0 mi h0 u x1)
set_option maxRecDepth 20000 in
theorem mb_X6_busyLine {p : Program} {l : Launch} {e : Env} {s : State} {m : MethodId} {args : Array Value} {below : List Frame} {meth : Method} {c : Code} {D : va_G} {cy : Nat → ClassId} {A : Nat → Prop} {t0 mi : Nat} {u0 : z_St} {h0 : Nat} (S : CallFix p m c cX6_busyLine 2 s args z_T RX6) (hlk : meth.locks = false) (hr : meth.sig.returnType = (some (.object "MessageBank$Line"))) (hE : z_EC D cy A t0 mi s) (hl : l.stackTraces = false) (htb : ∀ x ∈ c.exceptionTable.toList, False) {post : Option Nat → z_St → Prop} {px : String → z_St → Prop}  (u : z_St) (x1 : Int32) (hkh0 : z_kd h0 u = 8 ∧ 8 ≠ 0) (hw : w_X6_busyLine post px t0 mi h0 u x1) : z_V A (z_hC D cy A t0 u0) p l e rm_X6_busyLine s m args below meth c 2 (vx_MQ below (va_Qq (fun r (u' : z_St) => post r u' ∧ z_mono u0 u') (fun (u' : z_St) t => z_hC D cy A t0 u0 u' t.heap) A) (zx_X px (z_hC D cy A t0 u0) A) args s 2 12 A) 0 0 u 0 [(0, va_rf (some h0)), (1, .int x1)] [] := by
  refine z_aload_n (x := some h0) S 0 dX6_busyLine_0 rfl rfl ?_
  refine z_iload_n S 1 dX6_busyLine_1 rfl rfl ?_
  refine zx_callVv (As := [.int x1]) (st := []) S (z_ECok D cy A t0 mi) hE htb hlk (me_X6_requireLine l D cy A t0 mi _ px u h0 x1 hkh0 hl hw) gV_X6_70 hdV_X6_requireLine ⟨Nat.le_of_ble_eq_true rfl, Nat.le_of_ble_eq_true rfl⟩ rfl rfl (z_recvC (u := u) hE hkh0 (by decide) rfl) (fun _ h => h.re) (fun _ _ _ h h' => h.ba h') (fun _ _ h => h) rfl (Nat.le_trans z_s0 (by decide)) dX6_busyLine_2 ⟨(Nat.le_of_ble_eq_true rfl), (Nat.le_of_ble_eq_true rfl)⟩ ⟨(Nat.le_of_ble_eq_true rfl), (Nat.le_of_ble_eq_true rfl)⟩ rfl (fun u1 hw => ?_)
  obtain ⟨hw, hm1⟩ := hw
  have hkh0 := hm1.k hkh0
  refine z_aload_n (x := some h0) S 0 dX6_busyLine_5 rfl rfl ?_
  refine zb_g_X6_28 (x := z_gR 30 h0 u1) S hE hkh0 rfl dX6_busyLine_6 ?_
  refine z_iload_n S 1 dX6_busyLine_9 rfl rfl ?_
  obtain ⟨a2, ea2, hka2, hw⟩ := hw
  have hka2 : z_kd a2 u1 = 13 ∧ 13 ≠ 0 := ⟨hka2, by decide⟩
  obtain ⟨hi1, hw⟩ := hw
  refine z_st (st' := [.int x1, va_rf (some a2)]) (congrArg (fun r : Option Nat => ([.int x1, va_rf r] : List Value)) ea2) ?_
  refine z_caald (κ := 13) S hE hka2 (by decide) rfl hi1 dX6_busyLine_10 ?_
  obtain ⟨a3, ea3, hka3, hw⟩ := hw
  have hka3 : z_kd a3 u1 = 4 ∧ 4 ≠ 0 := ⟨hka3, by decide⟩
  refine z_st (st' := [va_rf (some a3)]) (congrArg (fun r : Option Nat => ([va_rf r] : List Value)) ea3) ?_
  refine zb_g_X6_75 (x := z_gI 8 a3 u1) S hE hka3 rfl dX6_busyLine_11 ?_
  refine z_if_ne S 27 dX6_busyLine_14 (by decide) (fun c2 => ?_) (fun c2 => ?_)
  · have hw := hw.1 c2
    refine z_aload_n (x := some h0) S 0 dX6_busyLine_27 rfl rfl ?_
    refine zb_g_X6_28 (x := z_gR 30 h0 u1) S hE hkh0 rfl dX6_busyLine_28 ?_
    refine z_iload_n S 1 dX6_busyLine_31 rfl rfl ?_
    obtain ⟨hi3, hw⟩ := hw
    refine z_st (st' := [.int x1, va_rf (some a2)]) (congrArg (fun r : Option Nat => ([.int x1, va_rf r] : List Value)) ea2) ?_
    refine z_caald (κ := 13) S hE hka2 (by decide) rfl hi3 dX6_busyLine_32 ?_
    exact z_cxaret (z_aR a2 x1.toNatClampNeg u1) S hr (Or.inl ⟨_, rfl⟩) hlk dX6_busyLine_33 (Nat.le_of_ble_eq_true rfl) (Nat.le_of_ble_eq_true rfl) hw
  · have hw := hw.2 c2
    exact zx_thr_58 (is := 246) (text := "the line is not busy") S hE hl htb hlk (by decide) dX6_busyLine_17 dX6_busyLine_20 dX6_busyLine_21 dX6_busyLine_23 dX6_busyLine_26 (Nat.le_of_ble_eq_true rfl) (Nat.le_of_ble_eq_true rfl) (Nat.le_of_ble_eq_true rfl) (Nat.le_of_ble_eq_true rfl) (Nat.le_of_ble_eq_true rfl) (Nat.le_of_ble_eq_true rfl) hw
theorem me_X6_busyLine (l : Launch) (D : va_G) (cy : Nat → ClassId) (A : Nat → Prop) (t0 mi : Nat) (post : Option Nat → z_St → Prop) (px : String → z_St → Prop) (u : z_St) (h0 : Nat) (x1 : Int32) (hkh0 : z_kd h0 u = 8 ∧ 8 ≠ 0) (hl : l.stackTraces = false) (hw : w_X6_busyLine post px t0 mi h0 u x1) : zx_Mq l yX6_busyLine (Cond.code yX6_busyLine cX6_busyLine 2 (some (.object "MessageBank$Line")) :: z_T) rm_X6_busyLine [va_rf (some h0), .int x1] (z_EC D cy A t0 mi) (z_hC D cy A t0 u) u (fun r u' => post r u' ∧ z_mono u u') px 2 12 A :=
  zx_met (by decide) (Nat.le_of_ble_eq_true rfl) (fun p e s m args below meth c S hlk hr hnm htb hE => mb_X6_busyLine S hlk hr hE hl htb u x1 hkh0 hw)
abbrev rm_X6_requireBox : Room := { frames := 6, cells := 1, slots := 6, locals := 90 }
def w_X6_requireBox (post : z_St → Prop) (px : String → z_St → Prop) (t0 mi h0 : Nat) (u : z_St) (x1 : Int32) : Prop := ((x1 < 0 → (px "java/util/NoSuchElementException" u)) ∧ (¬ x1 < 0 → ((x1 < (z_gI 32 h0 u) → (post u)) ∧ (¬ x1 < (z_gI 32 h0 u) → (px "java/util/NoSuchElementException" u)))))
set_option maxRecDepth 20000 in
theorem mb_X6_requireBox {p : Program} {l : Launch} {e : Env} {s : State} {m : MethodId} {args : Array Value} {below : List Frame} {meth : Method} {c : Code} {D : va_G} {cy : Nat → ClassId} {A : Nat → Prop} {t0 mi : Nat} {u0 : z_St} {h0 : Nat} (S : CallFix p m c cX6_requireBox 2 s args z_T RX6) (hlk : meth.locks = false) (hr : meth.sig.returnType = none) (hE : z_EC D cy A t0 mi s) (hl : l.stackTraces = false) (htb : ∀ x ∈ c.exceptionTable.toList, False) {post : z_St → Prop} {px : String → z_St → Prop}  (u : z_St) (x1 : Int32) (hkh0 : z_kd h0 u = 8 ∧ 8 ≠ 0) (hw : w_X6_requireBox post px t0 mi h0 u x1) : z_V A (z_hC D cy A t0 u0) p l e rm_X6_requireBox s m args below meth c 2 (vx_MQ below (va_Qv (fun (u' : z_St) => post u' ∧ z_mono u0 u') (fun (u' : z_St) t => z_hC D cy A t0 u0 u' t.heap) A) (zx_X px (z_hC D cy A t0 u0) A) args s 1 6 A) 0 0 u 0 [(0, va_rf (some h0)), (1, .int x1)] [] := by
  refine z_iload_n S 1 dX6_requireBox_0 rfl rfl ?_
  refine z_if_lt S 12 dX6_requireBox_1 (by decide) (fun c1 => ?_) (fun c1 => ?_)
  · have hw := hw.1 c1
    exact zx_thr_235 (is := 237) (text := "there is no such box") S hE hl htb hlk (by decide) dX6_requireBox_12 dX6_requireBox_15 dX6_requireBox_16 dX6_requireBox_18 dX6_requireBox_21 (Nat.le_of_ble_eq_true rfl) (Nat.le_of_ble_eq_true rfl) (Nat.le_of_ble_eq_true rfl) (Nat.le_of_ble_eq_true rfl) (Nat.le_of_ble_eq_true rfl) (Nat.le_of_ble_eq_true rfl) hw
  · have hw := hw.2 c1
    refine z_iload_n S 1 dX6_requireBox_4 rfl rfl ?_
    refine z_aload_n (x := some h0) S 0 dX6_requireBox_5 rfl rfl ?_
    refine zb_g_X6_39 (x := z_gI 32 h0 u) S hE hkh0 rfl dX6_requireBox_6 ?_
    refine z_icmp_lt S 22 dX6_requireBox_9 (by decide) (fun c2 => ?_) (fun c2 => ?_)
    · have hw := hw.1 c2
      exact z_cxvret S hr hlk dX6_requireBox_22 (Nat.le_of_ble_eq_true rfl) (Nat.le_of_ble_eq_true rfl) hw
    · have hw := hw.2 c2
      exact zx_thr_235 (is := 237) (text := "there is no such box") S hE hl htb hlk (by decide) dX6_requireBox_12 dX6_requireBox_15 dX6_requireBox_16 dX6_requireBox_18 dX6_requireBox_21 (Nat.le_of_ble_eq_true rfl) (Nat.le_of_ble_eq_true rfl) (Nat.le_of_ble_eq_true rfl) (Nat.le_of_ble_eq_true rfl) (Nat.le_of_ble_eq_true rfl) (Nat.le_of_ble_eq_true rfl) hw
theorem me_X6_requireBox (l : Launch) (D : va_G) (cy : Nat → ClassId) (A : Nat → Prop) (t0 mi : Nat) (post : z_St → Prop) (px : String → z_St → Prop) (u : z_St) (h0 : Nat) (x1 : Int32) (hkh0 : z_kd h0 u = 8 ∧ 8 ≠ 0) (hl : l.stackTraces = false) (hw : w_X6_requireBox post px t0 mi h0 u x1) : zx_Mv l yX6_requireBox (Cond.code yX6_requireBox cX6_requireBox 2 none :: z_T) rm_X6_requireBox [va_rf (some h0), .int x1] (z_EC D cy A t0 mi) (z_hC D cy A t0 u) u (fun u' => post u' ∧ z_mono u u') px 1 6 A :=
  zx_met (by decide) (Nat.le_of_ble_eq_true rfl) (fun p e s m args below meth c S hlk hr hnm htb hE => mb_X6_requireBox S hlk hr hE hl htb u x1 hkh0 hw)
abbrev rm_X6_hasRoomForMessage : Room := { frames := 1, cells := 0, slots := 0, locals := 20 }
def w_X6_hasRoomForMessage_10 (post : Int32 → z_St → Prop) (t0 mi h0 : Nat) : Nat → z_St → Int32 → Int32 → Prop
  | 0 => fun _ _ _ => False
  | n + 1 => fun u x1 x2 => ((3 ≤ x2 → (∀ y2 : Int32, y2 = (if 16 ≤ x1 then 0 else 1) → (narrow .boolean (.int y2) = .int y2 ∧ post y2 u))) ∧ (¬ 3 ≤ x2 → (∃ a1 : Nat, z_gR 30 h0 u = some a1 ∧ z_kd a1 u = 13 ∧ (vp_in x2 (z_ln a1 u) ∧ (∃ a2 : Nat, z_aR a1 x2.toNatClampNeg u = some a2 ∧ z_kd a2 u = 4 ∧ (w_X2_speaksMessage (fun r3 u3 => (∀ y5 : Int32, y5 = (if r3 = 0 then x1 else x1 + 1) → (w_X6_hasRoomForMessage_10 post t0 mi h0 n u3 y5 (x2 + 1)))) t0 mi a2 u ))))))
def w_X6_hasRoomForMessage (post : Int32 → z_St → Prop) (t0 mi h0 : Nat) (u : z_St)  : Prop := (∃ a1 : Nat, z_gR 31 h0 u = some a1 ∧ z_kd a1 u = 1 ∧ (w_Jx4a65c_size_8abf5 (fun r2 u2 => (∃ n0 : Nat, w_X6_hasRoomForMessage_10 post t0 mi h0 n0 u2 r2 0)) t0 mi a1 u ))
set_option maxRecDepth 20000 in
theorem mb_X6_hasRoomForMessage_10 {p : Program} {l : Launch} {e : Env} {s : State} {m : MethodId} {args : Array Value} {below : List Frame} {meth : Method} {c : Code} {D : va_G} {cy : Nat → ClassId} {A : Nat → Prop} {t0 mi : Nat} {u0 : z_St} {h0 : Nat} (S : CallFix p m c cX6_hasRoomForMessage 3 s args z_T RX6) (hlk : meth.locks = false) (hr : meth.sig.returnType = (some .boolean)) (hE : z_EC D cy A t0 mi s) {post : Int32 → z_St → Prop}  : ∀ (n : Nat) (u : z_St) (x1 : Int32) (x2 : Int32) (hkh0 : z_kd h0 u = 8 ∧ 8 ≠ 0), w_X6_hasRoomForMessage_10 post t0 mi h0 n u x1 x2 → z_V A (z_hC D cy A t0 u0) p l e rm_X6_hasRoomForMessage s m args below meth c 3 (MQ below (va_Qi (fun r (u' : z_St) => post r u' ∧ z_mono u0 u') (fun (u' : z_St) t => z_hC D cy A t0 u0 u' t.heap) A) args s 0 0 A) 0 0 u 10 [(0, va_rf (some h0)), (1, .int x1), (2, .int x2)] [] := by
  intro n
  induction n with
  | zero => intro u x1 x2 hkh0 hw; exact hw.elim
  | succ n ih =>
    intro u x1 x2 hkh0 hw
    refine z_iload_n S 2 dX6_hasRoomForMessage_10 rfl rfl ?_
    refine z_iconst (v := 3) S dX6_hasRoomForMessage_11 (by decide) ?_
    refine z_icmp_ge S 36 dX6_hasRoomForMessage_12 (by decide) (fun c1 => ?_) (fun c1 => ?_)
    · have hw := hw.1 c1
      refine z_iload_n S 1 dX6_hasRoomForMessage_36 rfl rfl ?_
      refine z_bipush (v := 16) S dX6_hasRoomForMessage_37 (by decide) ?_
      suffices hJ : ∀ y2 : Int32, y2 = (if 16 ≤ x1 then 0 else 1) → z_V A (z_hC D cy A t0 u0) p l e rm_X6_hasRoomForMessage s m args below meth c 3 (MQ below (va_Qi (fun r (u' : z_St) => post r u' ∧ z_mono u0 u') (fun (u' : z_St) t => z_hC D cy A t0 u0 u' t.heap) A) args s 0 0 A) 0 0 u 47 [] [.int y2] from by
        refine z_icmp_ge S 46 dX6_hasRoomForMessage_39 (by decide) (fun c3 => ?_) (fun c3 => ?_)
        · refine z_iconst (v := 0) S dX6_hasRoomForMessage_46 (by decide) ?_
          refine z_lv (lv' := []) [] rfl ?_
          exact hJ _ (by rw [if_pos c3])
        · refine z_iconst (v := 1) S dX6_hasRoomForMessage_42 (by decide) ?_
          refine z_goto S 47 dX6_hasRoomForMessage_43 (by decide) ?_
          refine z_lv (lv' := []) [] rfl ?_
          exact hJ _ (by rw [if_neg c3])
      intro y2 ey2
      have hw := hw y2 ey2
      exact z_czret S hr hlk dX6_hasRoomForMessage_47 (Nat.le_of_ble_eq_true rfl) (Nat.le_of_ble_eq_true rfl) hw.1 hw.2
    · have hw := hw.2 c1
      refine z_aload_n (x := some h0) S 0 dX6_hasRoomForMessage_15 rfl rfl ?_
      refine zb_g_X6_28 (x := z_gR 30 h0 u) S hE hkh0 rfl dX6_hasRoomForMessage_16 ?_
      refine z_iload_n S 2 dX6_hasRoomForMessage_19 rfl rfl ?_
      obtain ⟨a1, ea1, hka1, hw⟩ := hw
      have hka1 : z_kd a1 u = 13 ∧ 13 ≠ 0 := ⟨hka1, by decide⟩
      obtain ⟨hi4, hw⟩ := hw
      refine z_st (st' := [.int x2, va_rf (some a1)]) (congrArg (fun r : Option Nat => ([.int x2, va_rf r] : List Value)) ea1) ?_
      refine z_caald (κ := 13) S hE hka1 (by decide) rfl hi4 dX6_hasRoomForMessage_20 ?_
      obtain ⟨a2, ea2, hka2, hw⟩ := hw
      have hka2 : z_kd a2 u = 4 ∧ 4 ≠ 0 := ⟨hka2, by decide⟩
      refine z_st (st' := [va_rf (some a2)]) (congrArg (fun r : Option Nat => ([va_rf r] : List Value)) ea2) ?_
      refine z_callVi (As := []) (st := []) S (z_ECok D cy A t0 mi) hE (me_X2_speaksMessage l D cy A t0 mi _ u a2 hka2 hw) gV_X6_253 hdV_X2_speaksMessage ⟨Nat.le_of_ble_eq_true rfl, Nat.le_of_ble_eq_true rfl⟩ rfl rfl (z_recvC (u := u) hE hka2 (by decide) rfl) (fun _ h => h.re) (fun _ _ _ h h' => h.ba h') rfl (Nat.le_trans z_s0 (by decide)) dX6_hasRoomForMessage_21 ⟨(Nat.le_of_ble_eq_true rfl), (Nat.le_of_ble_eq_true rfl)⟩ rfl (fun r3 u3 hw => ?_)
      obtain ⟨hw, hm3⟩ := hw
      have hkh0 := hm3.k hkh0
      have hka1 := hm3.k hka1
      have hka2 := hm3.k hka2
      suffices hJ : ∀ y5 : Int32, y5 = (if r3 = 0 then x1 else x1 + 1) → z_V A (z_hC D cy A t0 u0) p l e rm_X6_hasRoomForMessage s m args below meth c 3 (MQ below (va_Qi (fun r (u' : z_St) => post r u' ∧ z_mono u0 u') (fun (u' : z_St) t => z_hC D cy A t0 u0 u' t.heap) A) args s 0 0 A) 0 0 u3 30 [(0, va_rf (some h0)), (1, .int y5), (2, .int x2)] [] from by
        refine z_if_eq S 30 dX6_hasRoomForMessage_24 (by decide) (fun c6 => ?_) (fun c6 => ?_)
        · exact hJ _ (by rw [if_pos c6])
        · refine z_iinc (v := x1 + 1) (pl := 1) S [(1, .int (x1 + 1)), (0, va_rf (some h0)), (2, .int x2)] dX6_hasRoomForMessage_27 rfl rfl (by decide) rfl ?_
          refine z_lv (lv' := [(0, va_rf (some h0)), (1, .int (x1 + 1)), (2, .int x2)]) [1, 0, 2] rfl ?_
          exact hJ _ (by rw [if_neg c6])
      intro y5 ey5
      have hw := hw y5 ey5
      refine z_iinc (v := x2 + 1) (pl := 2) S [(2, .int (x2 + 1)), (0, va_rf (some h0)), (1, .int y5)] dX6_hasRoomForMessage_30 rfl rfl (by decide) rfl ?_
      refine z_lv (lv' := [(0, va_rf (some h0)), (1, .int y5), (2, .int (x2 + 1))]) [1, 2, 0] rfl ?_
      refine z_goto S 10 dX6_hasRoomForMessage_33 (by decide) ?_
      exact ih u3 y5 (x2 + 1) hkh0 hw
set_option maxRecDepth 20000 in
theorem mb_X6_hasRoomForMessage {p : Program} {l : Launch} {e : Env} {s : State} {m : MethodId} {args : Array Value} {below : List Frame} {meth : Method} {c : Code} {D : va_G} {cy : Nat → ClassId} {A : Nat → Prop} {t0 mi : Nat} {u0 : z_St} {h0 : Nat} (S : CallFix p m c cX6_hasRoomForMessage 3 s args z_T RX6) (hlk : meth.locks = false) (hr : meth.sig.returnType = (some .boolean)) (hE : z_EC D cy A t0 mi s) {post : Int32 → z_St → Prop}  (u : z_St)  (hkh0 : z_kd h0 u = 8 ∧ 8 ≠ 0) (hw : w_X6_hasRoomForMessage post t0 mi h0 u ) : z_V A (z_hC D cy A t0 u0) p l e rm_X6_hasRoomForMessage s m args below meth c 3 (MQ below (va_Qi (fun r (u' : z_St) => post r u' ∧ z_mono u0 u') (fun (u' : z_St) t => z_hC D cy A t0 u0 u' t.heap) A) args s 0 0 A) 0 0 u 0 [(0, va_rf (some h0))] [] := by
  refine z_aload_n (x := some h0) S 0 dX6_hasRoomForMessage_0 rfl rfl ?_
  refine zb_g_X6_35 (x := z_gR 31 h0 u) S hE hkh0 rfl dX6_hasRoomForMessage_1 ?_
  obtain ⟨a1, ea1, hka1, hw⟩ := hw
  have hka1 : z_kd a1 u = 1 ∧ 1 ≠ 0 := ⟨hka1, by decide⟩
  refine z_st (st' := [va_rf (some a1)]) (congrArg (fun r : Option Nat => ([va_rf r] : List Value)) ea1) ?_
  refine z_callVi (As := []) (st := []) S (z_ECok D cy A t0 mi) hE (me_Jx4a65c_size_8abf5 l D cy A t0 mi _ u a1 hka1 hw) gV_X6_222 hdV_Jx4a65c_size_8abf5 ⟨Nat.le_of_ble_eq_true rfl, Nat.le_of_ble_eq_true rfl⟩ rfl rfl (z_recvC (u := u) hE hka1 (by decide) rfl) (fun _ h => h.re) (fun _ _ _ h h' => h.ba h') rfl (Nat.le_trans z_s0 (by decide)) dX6_hasRoomForMessage_4 ⟨(Nat.le_of_ble_eq_true rfl), (Nat.le_of_ble_eq_true rfl)⟩ rfl (fun r2 u2 hw => ?_)
  obtain ⟨hw, hm2⟩ := hw
  have hkh0 := hm2.k hkh0
  have hka1 := hm2.k hka1
  refine z_istore_n S [(1, .int r2), (0, va_rf (some h0))] dX6_hasRoomForMessage_7 rfl (by decide) rfl ?_
  refine z_lv (lv' := [(0, va_rf (some h0)), (1, .int r2)]) [1, 0] rfl ?_
  refine z_iconst (v := 0) S dX6_hasRoomForMessage_8 (by decide) ?_
  refine z_istore_n S [(2, .int 0), (0, va_rf (some h0)), (1, .int r2)] dX6_hasRoomForMessage_9 rfl (by decide) rfl ?_
  refine z_lv (lv' := [(0, va_rf (some h0)), (1, .int r2), (2, .int 0)]) [1, 2, 0] rfl ?_
  obtain ⟨n0, hw⟩ := hw
  exact mb_X6_hasRoomForMessage_10 S hlk hr hE n0 u2 r2 0 hkh0 hw
theorem me_X6_hasRoomForMessage (l : Launch) (D : va_G) (cy : Nat → ClassId) (A : Nat → Prop) (t0 mi : Nat) (post : Int32 → z_St → Prop) (u : z_St) (h0 : Nat) (hkh0 : z_kd h0 u = 8 ∧ 8 ≠ 0) (hw : w_X6_hasRoomForMessage post t0 mi h0 u ) : z_Mi l yX6_hasRoomForMessage (Cond.code yX6_hasRoomForMessage cX6_hasRoomForMessage 3 (some .boolean) :: z_T) rm_X6_hasRoomForMessage [va_rf (some h0)] (z_EC D cy A t0 mi) (z_hC D cy A t0 u) u (fun r u' => post r u' ∧ z_mono u u') 0 0 A :=
  z_met (by decide) (Nat.le_of_ble_eq_true rfl) (fun p e s m args below meth c S hlk hr hnm hE => mb_X6_hasRoomForMessage S hlk hr hE u  hkh0 hw)
abbrev rm_X6_call : Room := { frames := 7, cells := 3, slots := 18, locals := 111 }
def w_X6_call_72 (post : z_St → Prop) (px : String → z_St → Prop) (t0 mi h0 : Nat) (u : z_St) (x1 : Int32) (x2 : Int32) (x3 : Int32) : Prop := (∃ a1 : Nat, z_gR 30 h0 u = some a1 ∧ z_kd a1 u = 13 ∧ (vp_in x1 (z_ln a1 u) ∧ (∃ a2 : Nat, z_aR a1 x1.toNatClampNeg u = some a2 ∧ z_kd a2 u = 4 ∧ (w_X2_begin (fun u3 => (post u3)) t0 mi a2 u x2 x3))))
def w_X6_call (post : z_St → Prop) (px : String → z_St → Prop) (t0 mi h0 : Nat) (u : z_St) (x1 : Int32) (x2 : Int32) (x3 : Int32) : Prop := (w_X6_requireBox (fun u1 => (w_X6_requireLine (fun u2 => ((x3 < 0 → (px "java/lang/IllegalArgumentException" u2)) ∧ (¬ x3 < 0 → ((x3 < 4 → (∃ a3 : Nat, z_gR 30 h0 u2 = some a3 ∧ z_kd a3 u2 = 13 ∧ (vp_in x1 (z_ln a3 u2) ∧ (∃ a4 : Nat, z_aR a3 x1.toNatClampNeg u2 = some a4 ∧ z_kd a4 u2 = 4 ∧ (((z_gI 8 a4 u2) = 0 → ((¬ x3 = 0 → (w_X6_call_72 post px t0 mi h0 u2 x1 x2 x3)) ∧ (x3 = 0 → (w_X6_hasRoomForMessage (fun r5 u5 => ((¬ r5 = 0 → (w_X6_call_72 post px t0 mi h0 u5 x1 x2 x3)) ∧ (r5 = 0 → (px "java/lang/IllegalStateException" u5)))) t0 mi h0 u2 )))) ∧ (¬ (z_gI 8 a4 u2) = 0 → (px "java/lang/IllegalStateException" u2))))))) ∧ (¬ x3 < 4 → (px "java/lang/IllegalArgumentException" u2)))))) px t0 mi h0 u1 x1)) px t0 mi h0 u x2)
set_option maxRecDepth 20000 in
theorem mb_X6_call_72 {p : Program} {l : Launch} {e : Env} {s : State} {m : MethodId} {args : Array Value} {below : List Frame} {meth : Method} {c : Code} {D : va_G} {cy : Nat → ClassId} {A : Nat → Prop} {t0 mi : Nat} {u0 : z_St} {h0 : Nat} (S : CallFix p m c cX6_call 4 s args z_T RX6) (hlk : meth.locks = false) (hr : meth.sig.returnType = none) (hE : z_EC D cy A t0 mi s) (hl : l.stackTraces = false) (htb : ∀ x ∈ c.exceptionTable.toList, False) {post : z_St → Prop} {px : String → z_St → Prop}  (u : z_St) (x1 : Int32) (x2 : Int32) (x3 : Int32) (hkh0 : z_kd h0 u = 8 ∧ 8 ≠ 0) (hw : w_X6_call_72 post px t0 mi h0 u x1 x2 x3) : z_V A (z_hC D cy A t0 u0) p l e rm_X6_call s m args below meth c 4 (vx_MQ below (va_Qv (fun (u' : z_St) => post u' ∧ z_mono u0 u') (fun (u' : z_St) t => z_hC D cy A t0 u0 u' t.heap) A) (zx_X px (z_hC D cy A t0 u0) A) args s 3 18 A) 2 12 u 72 [(0, va_rf (some h0)), (1, .int x1), (2, .int x2), (3, .int x3)] [] := by
  refine z_aload_n (x := some h0) S 0 dX6_call_72 rfl rfl ?_
  refine zb_g_X6_28 (x := z_gR 30 h0 u) S hE hkh0 rfl dX6_call_73 ?_
  refine z_iload_n S 1 dX6_call_76 rfl rfl ?_
  obtain ⟨a1, ea1, hka1, hw⟩ := hw
  have hka1 : z_kd a1 u = 13 ∧ 13 ≠ 0 := ⟨hka1, by decide⟩
  obtain ⟨hi1, hw⟩ := hw
  refine z_st (st' := [.int x1, va_rf (some a1)]) (congrArg (fun r : Option Nat => ([.int x1, va_rf r] : List Value)) ea1) ?_
  refine z_caald (κ := 13) S hE hka1 (by decide) rfl hi1 dX6_call_77 ?_
  refine z_iload_n S 2 dX6_call_78 rfl rfl ?_
  refine z_iload_n S 3 dX6_call_79 rfl rfl ?_
  obtain ⟨a2, ea2, hka2, hw⟩ := hw
  have hka2 : z_kd a2 u = 4 ∧ 4 ≠ 0 := ⟨hka2, by decide⟩
  refine z_st (st' := [.int x3, .int x2, va_rf (some a2)]) (congrArg (fun r : Option Nat => ([.int x3, .int x2, va_rf r] : List Value)) ea2) ?_
  refine z_callVv (As := [.int x2, .int x3]) (st := []) S (z_ECok D cy A t0 mi) hE (me_X2_begin l D cy A t0 mi _ u a2 x2 x3 hka2 hw) gV_X6_87 hdV_X2_begin ⟨Nat.le_of_ble_eq_true rfl, Nat.le_of_ble_eq_true rfl⟩ rfl rfl (z_recvC (u := u) hE hka2 (by decide) rfl) (fun _ h => h.re) (fun _ _ _ h h' => h.ba h') rfl (Nat.le_trans z_s0 (by decide)) dX6_call_80 ⟨(Nat.le_of_ble_eq_true rfl), (Nat.le_of_ble_eq_true rfl)⟩ rfl (fun u3 hw => ?_)
  obtain ⟨hw, hm3⟩ := hw
  have hkh0 := hm3.k hkh0
  have hka1 := hm3.k hka1
  have hka2 := hm3.k hka2
  exact z_cxvret S hr hlk dX6_call_83 (Nat.le_of_ble_eq_true rfl) (Nat.le_of_ble_eq_true rfl) hw
set_option maxRecDepth 20000 in
theorem mb_X6_call {p : Program} {l : Launch} {e : Env} {s : State} {m : MethodId} {args : Array Value} {below : List Frame} {meth : Method} {c : Code} {D : va_G} {cy : Nat → ClassId} {A : Nat → Prop} {t0 mi : Nat} {u0 : z_St} {h0 : Nat} (S : CallFix p m c cX6_call 4 s args z_T RX6) (hlk : meth.locks = false) (hr : meth.sig.returnType = none) (hE : z_EC D cy A t0 mi s) (hl : l.stackTraces = false) (htb : ∀ x ∈ c.exceptionTable.toList, False) {post : z_St → Prop} {px : String → z_St → Prop}  (u : z_St) (x1 : Int32) (x2 : Int32) (x3 : Int32) (hkh0 : z_kd h0 u = 8 ∧ 8 ≠ 0) (hw : w_X6_call post px t0 mi h0 u x1 x2 x3) : z_V A (z_hC D cy A t0 u0) p l e rm_X6_call s m args below meth c 4 (vx_MQ below (va_Qv (fun (u' : z_St) => post u' ∧ z_mono u0 u') (fun (u' : z_St) t => z_hC D cy A t0 u0 u' t.heap) A) (zx_X px (z_hC D cy A t0 u0) A) args s 3 18 A) 0 0 u 0 [(0, va_rf (some h0)), (1, .int x1), (2, .int x2), (3, .int x3)] [] := by
  refine z_aload_n (x := some h0) S 0 dX6_call_0 rfl rfl ?_
  refine z_iload_n S 2 dX6_call_1 rfl rfl ?_
  refine zx_callVv (As := [.int x2]) (st := []) S (z_ECok D cy A t0 mi) hE htb hlk (me_X6_requireBox l D cy A t0 mi _ px u h0 x2 hkh0 hl hw) gV_X6_66 hdV_X6_requireBox ⟨Nat.le_of_ble_eq_true rfl, Nat.le_of_ble_eq_true rfl⟩ rfl rfl (z_recvC (u := u) hE hkh0 (by decide) rfl) (fun _ h => h.re) (fun _ _ _ h h' => h.ba h') (fun _ _ h => h) rfl (Nat.le_trans z_s0 (by decide)) dX6_call_2 ⟨(Nat.le_of_ble_eq_true rfl), (Nat.le_of_ble_eq_true rfl)⟩ ⟨(Nat.le_of_ble_eq_true rfl), (Nat.le_of_ble_eq_true rfl)⟩ rfl (fun u1 hw => ?_)
  obtain ⟨hw, hm1⟩ := hw
  have hkh0 := hm1.k hkh0
  refine z_aload_n (x := some h0) S 0 dX6_call_5 rfl rfl ?_
  refine z_iload_n S 1 dX6_call_6 rfl rfl ?_
  refine zx_callVv (As := [.int x1]) (st := []) S (z_ECok D cy A t0 mi) hE htb hlk (me_X6_requireLine l D cy A t0 mi _ px u1 h0 x1 hkh0 hl hw) gV_X6_70 hdV_X6_requireLine ⟨Nat.le_of_ble_eq_true rfl, Nat.le_of_ble_eq_true rfl⟩ rfl rfl (z_recvC (u := u1) hE hkh0 (by decide) rfl) (fun _ h => h.re) (fun _ _ _ h h' => h.ba h') (fun _ _ h => h) rfl (Nat.le_trans z_s0 (by decide)) dX6_call_7 ⟨(Nat.le_of_ble_eq_true rfl), (Nat.le_of_ble_eq_true rfl)⟩ ⟨(Nat.le_of_ble_eq_true rfl), (Nat.le_of_ble_eq_true rfl)⟩ rfl (fun u2 hw => ?_)
  obtain ⟨hw, hm2⟩ := hw
  have hkh0 := hm2.k hkh0
  refine z_iload_n S 3 dX6_call_10 rfl rfl ?_
  refine z_if_lt S 19 dX6_call_11 (by decide) (fun c1 => ?_) (fun c1 => ?_)
  · have hw := hw.1 c1
    exact zx_thr_51 (is := 73) (text := "there is no such kind") S hE hl htb hlk (by decide) dX6_call_19 dX6_call_22 dX6_call_23 dX6_call_25 dX6_call_28 (Nat.le_of_ble_eq_true rfl) (Nat.le_of_ble_eq_true rfl) (Nat.le_of_ble_eq_true rfl) (Nat.le_of_ble_eq_true rfl) (Nat.le_of_ble_eq_true rfl) (Nat.le_of_ble_eq_true rfl) hw
  · have hw := hw.2 c1
    refine z_iload_n S 3 dX6_call_14 rfl rfl ?_
    refine z_iconst (v := 4) S dX6_call_15 (by decide) ?_
    refine z_icmp_lt S 29 dX6_call_16 (by decide) (fun c2 => ?_) (fun c2 => ?_)
    · have hw := hw.1 c2
      refine z_aload_n (x := some h0) S 0 dX6_call_29 rfl rfl ?_
      refine zb_g_X6_28 (x := z_gR 30 h0 u2) S hE hkh0 rfl dX6_call_30 ?_
      refine z_iload_n S 1 dX6_call_33 rfl rfl ?_
      obtain ⟨a3, ea3, hka3, hw⟩ := hw
      have hka3 : z_kd a3 u2 = 13 ∧ 13 ≠ 0 := ⟨hka3, by decide⟩
      obtain ⟨hi3, hw⟩ := hw
      refine z_st (st' := [.int x1, va_rf (some a3)]) (congrArg (fun r : Option Nat => ([.int x1, va_rf r] : List Value)) ea3) ?_
      refine z_caald (κ := 13) S hE hka3 (by decide) rfl hi3 dX6_call_34 ?_
      obtain ⟨a4, ea4, hka4, hw⟩ := hw
      have hka4 : z_kd a4 u2 = 4 ∧ 4 ≠ 0 := ⟨hka4, by decide⟩
      refine z_st (st' := [va_rf (some a4)]) (congrArg (fun r : Option Nat => ([va_rf r] : List Value)) ea4) ?_
      refine zb_g_X6_75 (x := z_gI 8 a4 u2) S hE hka4 rfl dX6_call_35 ?_
      refine z_if_eq S 51 dX6_call_38 (by decide) (fun c4 => ?_) (fun c4 => ?_)
      · have hw := hw.1 c4
        refine z_iload_n S 3 dX6_call_51 rfl rfl ?_
        refine z_if_ne S 72 dX6_call_52 (by decide) (fun c5 => ?_) (fun c5 => ?_)
        · have hw := hw.1 c5
          exact mb_X6_call_72 S hlk hr hE hl htb u2 x1 x2 x3 hkh0 hw
        · have hw := hw.2 c5
          refine z_aload_n (x := some h0) S 0 dX6_call_55 rfl rfl ?_
          refine z_callVi (As := []) (st := []) S (z_ECok D cy A t0 mi) hE (me_X6_hasRoomForMessage l D cy A t0 mi _ u2 h0 hkh0 hw) gV_X6_81 hdV_X6_hasRoomForMessage ⟨Nat.le_of_ble_eq_true rfl, Nat.le_of_ble_eq_true rfl⟩ rfl rfl (z_recvC (u := u2) hE hkh0 (by decide) rfl) (fun _ h => h.re) (fun _ _ _ h h' => h.ba h') rfl (Nat.le_trans z_s0 (by decide)) dX6_call_56 ⟨(Nat.le_of_ble_eq_true rfl), (Nat.le_of_ble_eq_true rfl)⟩ rfl (fun r5 u5 hw => ?_)
          obtain ⟨hw, hm5⟩ := hw
          have hkh0 := hm5.k hkh0
          have hka3 := hm5.k hka3
          have hka4 := hm5.k hka4
          refine z_if_ne S 72 dX6_call_59 (by decide) (fun c6 => ?_) (fun c6 => ?_)
          · have hw := hw.1 c6
            exact mb_X6_call_72 S hlk hr hE hl htb u5 x1 x2 x3 hkh0 hw
          · have hw := hw.2 c6
            exact zx_thr_58 (is := 85) (text := "there are 16 messages") S hE hl htb hlk (by decide) dX6_call_62 dX6_call_65 dX6_call_66 dX6_call_68 dX6_call_71 (Nat.le_of_ble_eq_true rfl) (Nat.le_of_ble_eq_true rfl) (Nat.le_of_ble_eq_true rfl) (Nat.le_of_ble_eq_true rfl) (Nat.le_of_ble_eq_true rfl) (Nat.le_of_ble_eq_true rfl) hw
      · have hw := hw.2 c4
        exact zx_thr_58 (is := 79) (text := "the line is busy") S hE hl htb hlk (by decide) dX6_call_41 dX6_call_44 dX6_call_45 dX6_call_47 dX6_call_50 (Nat.le_of_ble_eq_true rfl) (Nat.le_of_ble_eq_true rfl) (Nat.le_of_ble_eq_true rfl) (Nat.le_of_ble_eq_true rfl) (Nat.le_of_ble_eq_true rfl) (Nat.le_of_ble_eq_true rfl) hw
    · have hw := hw.2 c2
      exact zx_thr_51 (is := 73) (text := "there is no such kind") S hE hl htb hlk (by decide) dX6_call_19 dX6_call_22 dX6_call_23 dX6_call_25 dX6_call_28 (Nat.le_of_ble_eq_true rfl) (Nat.le_of_ble_eq_true rfl) (Nat.le_of_ble_eq_true rfl) (Nat.le_of_ble_eq_true rfl) (Nat.le_of_ble_eq_true rfl) (Nat.le_of_ble_eq_true rfl) hw
theorem me_X6_call (l : Launch) (D : va_G) (cy : Nat → ClassId) (A : Nat → Prop) (t0 mi : Nat) (post : z_St → Prop) (px : String → z_St → Prop) (u : z_St) (h0 : Nat) (x1 : Int32) (x2 : Int32) (x3 : Int32) (hkh0 : z_kd h0 u = 8 ∧ 8 ≠ 0) (hl : l.stackTraces = false) (hw : w_X6_call post px t0 mi h0 u x1 x2 x3) : zx_Mv l yX6_call (Cond.code yX6_call cX6_call 4 none :: z_T) rm_X6_call [va_rf (some h0), .int x1, .int x2, .int x3] (z_EC D cy A t0 mi) (z_hC D cy A t0 u) u (fun u' => post u' ∧ z_mono u u') px 3 18 A :=
  zx_met (by decide) (Nat.le_of_ble_eq_true rfl) (fun p e s m args below meth c S hlk hr hnm htb hE => mb_X6_call S hlk hr hE hl htb u x1 x2 x3 hkh0 hw)
abbrev rm_X6_codeFrame : Room := { frames := 4, cells := 0, slots := 0, locals := 114 }
def w_X6_codeFrame_39 (post : z_St → Prop) (t0 mi h0 : Nat) (u : z_St) (x1 : Option Nat) (x2 : Option Nat) : Prop := (∃ a1 : Nat, x2 = some a1 ∧ z_kd a1 u = 6 ∧ (∃ a2 : Nat, x1 = some a2 ∧ z_kd a2 u = 4 ∧ (w_X2_codeInto (fun u3 => (post u3)) t0 mi a2 u (z_gR 22 a1 u) (z_gR 27 h0 u))))
def w_X6_codeFrame (post : z_St → Prop) (t0 mi h0 : Nat) (u : z_St) (x1 : Option Nat) : Prop := (∃ a1 : Nat, x1 = some a1 ∧ z_kd a1 u = 4 ∧ (∃ a2 : Nat, z_gR 12 a1 u = some a2 ∧ z_kd a2 u = 6 ∧ (w_X4_needsBlock (fun r3 u3 => ((r3 = 0 → (w_X6_codeFrame_39 post t0 mi h0 u3 x1 (z_gR 12 a1 u))) ∧ (¬ r3 = 0 → (∃ a4 : Nat, z_gR 28 h0 u3 = some a4 ∧ z_kd a4 u3 = 7 ∧ (w_X5_leastFree (fun r5 u5 => ((¬ r5 = (-1) → (∃ a6 : Nat, z_gR 28 h0 u5 = some a6 ∧ z_kd a6 u5 = 7 ∧ (∃ a7 : Nat, z_gR 26 a6 u5 = some a7 ∧ z_kd a7 u5 = 11 ∧ (vp_in r5 (z_ln a7 u5) ∧ (w_X4_addBlock (fun u8 => (w_X6_codeFrame_39 post t0 mi h0 u8 x1 (z_gR 12 a1 u))) t0 mi a2 u5 (z_aR a7 r5.toNatClampNeg u5)))))) ∧ (r5 = (-1) → (post u5)))) t0 mi a4 u3 ))))) t0 mi a2 u )))
set_option maxRecDepth 20000 in
theorem mb_X6_codeFrame_39 {p : Program} {l : Launch} {e : Env} {s : State} {m : MethodId} {args : Array Value} {below : List Frame} {meth : Method} {c : Code} {D : va_G} {cy : Nat → ClassId} {A : Nat → Prop} {t0 mi : Nat} {u0 : z_St} {h0 : Nat} (S : CallFix p m c cX6_codeFrame 4 s args z_T RX6) (hlk : meth.locks = false) (hr : meth.sig.returnType = none) (hE : z_EC D cy A t0 mi s) {post : z_St → Prop}  (u : z_St) (x1 : Option Nat) (x2 : Option Nat) (hkh0 : z_kd h0 u = 8 ∧ 8 ≠ 0) (hw : w_X6_codeFrame_39 post t0 mi h0 u x1 x2) : z_V A (z_hC D cy A t0 u0) p l e rm_X6_codeFrame s m args below meth c 4 (MQ below (va_Qv (fun (u' : z_St) => post u' ∧ z_mono u0 u') (fun (u' : z_St) t => z_hC D cy A t0 u0 u' t.heap) A) args s 0 0 A) 0 0 u 39 [(0, va_rf (some h0)), (1, va_rf x1), (2, va_rf x2)] [] := by
  refine z_aload_n (x := x1) S 1 dX6_codeFrame_39 rfl rfl ?_
  refine z_aload_n (x := x2) S 2 dX6_codeFrame_40 rfl rfl ?_
  obtain ⟨a1, ea1, hka1, hw⟩ := hw
  have hka1 : z_kd a1 u = 6 ∧ 6 ≠ 0 := ⟨hka1, by decide⟩
  refine z_st (st' := [va_rf (some a1), va_rf x1]) (congrArg (fun r : Option Nat => ([va_rf r, va_rf x1] : List Value)) ea1) ?_
  refine zb_g_X6_308 (x := z_gR 22 a1 u) S hE hka1 rfl dX6_codeFrame_41 ?_
  refine z_aload_n (x := some h0) S 0 dX6_codeFrame_44 rfl rfl ?_
  refine zb_g_X6_9 (x := z_gR 27 h0 u) S hE hkh0 rfl dX6_codeFrame_45 ?_
  obtain ⟨a2, ea2, hka2, hw⟩ := hw
  have hka2 : z_kd a2 u = 4 ∧ 4 ≠ 0 := ⟨hka2, by decide⟩
  refine z_st (st' := [va_rf (z_gR 27 h0 u), va_rf (z_gR 22 a1 u), va_rf (some a2)]) (congrArg (fun r : Option Nat => ([va_rf (z_gR 27 h0 u), va_rf (z_gR 22 a1 u), va_rf r] : List Value)) ea2) ?_
  refine z_callVv (As := [va_rf (z_gR 22 a1 u), va_rf (z_gR 27 h0 u)]) (st := []) S (z_ECok D cy A t0 mi) hE (me_X2_codeInto l D cy A t0 mi _ u a2 (z_gR 22 a1 u) (z_gR 27 h0 u) hka2 hw) gV_X6_312 hdV_X2_codeInto ⟨Nat.le_of_ble_eq_true rfl, Nat.le_of_ble_eq_true rfl⟩ rfl rfl (z_recvC (u := u) hE hka2 (by decide) rfl) (fun _ h => h.re) (fun _ _ _ h h' => h.ba h') rfl (Nat.le_trans z_s0 (by decide)) dX6_codeFrame_48 ⟨(Nat.le_of_ble_eq_true rfl), (Nat.le_of_ble_eq_true rfl)⟩ rfl (fun u3 hw => ?_)
  obtain ⟨hw, hm3⟩ := hw
  have hkh0 := hm3.k hkh0
  have hka1 := hm3.k hka1
  have hka2 := hm3.k hka2
  exact z_cvret S hr hlk dX6_codeFrame_51 (Nat.le_of_ble_eq_true rfl) (Nat.le_of_ble_eq_true rfl) hw
set_option maxRecDepth 20000 in
theorem mb_X6_codeFrame {p : Program} {l : Launch} {e : Env} {s : State} {m : MethodId} {args : Array Value} {below : List Frame} {meth : Method} {c : Code} {D : va_G} {cy : Nat → ClassId} {A : Nat → Prop} {t0 mi : Nat} {u0 : z_St} {h0 : Nat} (S : CallFix p m c cX6_codeFrame 4 s args z_T RX6) (hlk : meth.locks = false) (hr : meth.sig.returnType = none) (hE : z_EC D cy A t0 mi s) {post : z_St → Prop}  (u : z_St) (x1 : Option Nat) (hkh0 : z_kd h0 u = 8 ∧ 8 ≠ 0) (hw : w_X6_codeFrame post t0 mi h0 u x1) : z_V A (z_hC D cy A t0 u0) p l e rm_X6_codeFrame s m args below meth c 4 (MQ below (va_Qv (fun (u' : z_St) => post u' ∧ z_mono u0 u') (fun (u' : z_St) t => z_hC D cy A t0 u0 u' t.heap) A) args s 0 0 A) 0 0 u 0 [(0, va_rf (some h0)), (1, va_rf x1)] [] := by
  refine z_aload_n (x := x1) S 1 dX6_codeFrame_0 rfl rfl ?_
  obtain ⟨a1, ea1, hka1, hw⟩ := hw
  have hka1 : z_kd a1 u = 4 ∧ 4 ≠ 0 := ⟨hka1, by decide⟩
  refine z_st (st' := [va_rf (some a1)]) (congrArg (fun r : Option Nat => ([va_rf r] : List Value)) ea1) ?_
  refine zb_g_X6_115 (x := z_gR 12 a1 u) S hE hka1 rfl dX6_codeFrame_1 ?_
  refine z_astore_n (x := z_gR 12 a1 u) S [(2, va_rf (z_gR 12 a1 u)), (0, va_rf (some h0)), (1, va_rf x1)] dX6_codeFrame_4 rfl (by decide) (by simp only [List.filter, z_rfc]; rfl) ?_
  refine z_lv (lv' := [(0, va_rf (some h0)), (1, va_rf x1), (2, va_rf (z_gR 12 a1 u))]) [1, 2, 0] rfl ?_
  refine z_aload_n (x := z_gR 12 a1 u) S 2 dX6_codeFrame_5 rfl rfl ?_
  obtain ⟨a2, ea2, hka2, hw⟩ := hw
  have hka2 : z_kd a2 u = 6 ∧ 6 ≠ 0 := ⟨hka2, by decide⟩
  refine z_st (st' := [va_rf (some a2)]) (congrArg (fun r : Option Nat => ([va_rf r] : List Value)) ea2) ?_
  refine z_callVi (As := []) (st := []) S (z_ECok D cy A t0 mi) hE (me_X4_needsBlock l D cy A t0 mi _ u a2 hka2 hw) gV_X6_298 hdV_X4_needsBlock ⟨Nat.le_of_ble_eq_true rfl, Nat.le_of_ble_eq_true rfl⟩ rfl rfl (z_recvC (u := u) hE hka2 (by decide) rfl) (fun _ h => h.re) (fun _ _ _ h h' => h.ba h') rfl (Nat.le_trans z_s0 (by decide)) dX6_codeFrame_6 ⟨(Nat.le_of_ble_eq_true rfl), (Nat.le_of_ble_eq_true rfl)⟩ rfl (fun r3 u3 hw => ?_)
  obtain ⟨hw, hm3⟩ := hw
  have hkh0 := hm3.k hkh0
  have hka1 := hm3.k hka1
  have hka2 := hm3.k hka2
  refine z_if_eq S 39 dX6_codeFrame_9 (by decide) (fun c1 => ?_) (fun c1 => ?_)
  · have hw := hw.1 c1
    exact mb_X6_codeFrame_39 S hlk hr hE u3 x1 (z_gR 12 a1 u) hkh0 hw
  · have hw := hw.2 c1
    refine z_aload_n (x := some h0) S 0 dX6_codeFrame_12 rfl rfl ?_
    refine zb_g_X6_16 (x := z_gR 28 h0 u3) S hE hkh0 rfl dX6_codeFrame_13 ?_
    obtain ⟨a4, ea4, hka4, hw⟩ := hw
    have hka4 : z_kd a4 u3 = 7 ∧ 7 ≠ 0 := ⟨hka4, by decide⟩
    refine z_st (st' := [va_rf (some a4)]) (congrArg (fun r : Option Nat => ([va_rf r] : List Value)) ea4) ?_
    refine z_callVi (As := []) (st := []) S (z_ECok D cy A t0 mi) hE (me_X5_leastFree l D cy A t0 mi _ u3 a4 hka4 hw) gV_X6_301 hdV_X5_leastFree ⟨Nat.le_of_ble_eq_true rfl, Nat.le_of_ble_eq_true rfl⟩ rfl rfl (z_recvC (u := u3) hE hka4 (by decide) rfl) (fun _ h => h.re) (fun _ _ _ h h' => h.ba h') rfl (Nat.le_trans z_s0 (by decide)) dX6_codeFrame_16 ⟨(Nat.le_of_ble_eq_true rfl), (Nat.le_of_ble_eq_true rfl)⟩ rfl (fun r5 u5 hw => ?_)
    obtain ⟨hw, hm5⟩ := hw
    have hkh0 := hm5.k hkh0
    have hka1 := hm5.k hka1
    have hka2 := hm5.k hka2
    have hka4 := hm5.k hka4
    refine z_istore_n S [(3, .int r5), (0, va_rf (some h0)), (1, va_rf x1), (2, va_rf (z_gR 12 a1 u))] dX6_codeFrame_19 rfl (by decide) (by simp only [List.filter, z_rfc]; rfl) ?_
    refine z_lv (lv' := [(0, va_rf (some h0)), (1, va_rf x1), (2, va_rf (z_gR 12 a1 u)), (3, .int r5)]) [1, 2, 3, 0] rfl ?_
    refine z_iload_n S 3 dX6_codeFrame_20 rfl rfl ?_
    refine z_iconst (v := (-1)) S dX6_codeFrame_21 (by decide) ?_
    refine z_icmp_ne S 26 dX6_codeFrame_22 (by decide) (fun c2 => ?_) (fun c2 => ?_)
    · have hw := hw.1 c2
      refine z_aload_n (x := z_gR 12 a1 u) S 2 dX6_codeFrame_26 rfl rfl ?_
      refine z_aload_n (x := some h0) S 0 dX6_codeFrame_27 rfl rfl ?_
      refine zb_g_X6_16 (x := z_gR 28 h0 u5) S hE hkh0 rfl dX6_codeFrame_28 ?_
      obtain ⟨a6, ea6, hka6, hw⟩ := hw
      have hka6 : z_kd a6 u5 = 7 ∧ 7 ≠ 0 := ⟨hka6, by decide⟩
      refine z_st (st' := [va_rf (some a6), va_rf (z_gR 12 a1 u)]) (congrArg (fun r : Option Nat => ([va_rf r, va_rf (z_gR 12 a1 u)] : List Value)) ea6) ?_
      refine zb_g_X6_211 (x := z_gR 26 a6 u5) S hE hka6 rfl dX6_codeFrame_31 ?_
      refine z_iload_n S 3 dX6_codeFrame_34 rfl rfl ?_
      obtain ⟨a7, ea7, hka7, hw⟩ := hw
      have hka7 : z_kd a7 u5 = 11 ∧ 11 ≠ 0 := ⟨hka7, by decide⟩
      obtain ⟨hi3, hw⟩ := hw
      refine z_st (st' := [.int r5, va_rf (some a7), va_rf (z_gR 12 a1 u)]) (congrArg (fun r : Option Nat => ([.int r5, va_rf r, va_rf (z_gR 12 a1 u)] : List Value)) ea7) ?_
      refine z_caald (κ := 11) S hE hka7 (by decide) rfl hi3 dX6_codeFrame_35 ?_
      refine z_st (st' := [va_rf (z_aR a7 r5.toNatClampNeg u5), va_rf (some a2)]) (congrArg (fun r : Option Nat => ([va_rf (z_aR a7 r5.toNatClampNeg u5), va_rf r] : List Value)) ea2) ?_
      refine z_callVv (As := [va_rf (z_aR a7 r5.toNatClampNeg u5)]) (st := []) S (z_ECok D cy A t0 mi) hE (me_X4_addBlock l D cy A t0 mi _ u5 a2 (z_aR a7 r5.toNatClampNeg u5) hka2 hw) gV_X6_304 hdV_X4_addBlock ⟨Nat.le_of_ble_eq_true rfl, Nat.le_of_ble_eq_true rfl⟩ rfl rfl (z_recvC (u := u5) hE hka2 (by decide) rfl) (fun _ h => h.re) (fun _ _ _ h h' => h.ba h') rfl (Nat.le_trans z_s0 (by decide)) dX6_codeFrame_36 ⟨(Nat.le_of_ble_eq_true rfl), (Nat.le_of_ble_eq_true rfl)⟩ rfl (fun u8 hw => ?_)
      obtain ⟨hw, hm8⟩ := hw
      have hkh0 := hm8.k hkh0
      have hka1 := hm8.k hka1
      have hka2 := hm8.k hka2
      have hka4 := hm8.k hka4
      have hka6 := hm8.k hka6
      have hka7 := hm8.k hka7
      refine z_lv (lv' := [(0, va_rf (some h0)), (1, va_rf x1), (2, va_rf (z_gR 12 a1 u))]) [0, 1, 2] rfl ?_
      exact mb_X6_codeFrame_39 S hlk hr hE u8 x1 (z_gR 12 a1 u) hkh0 hw
    · have hw := hw.2 c2
      exact z_cvret S hr hlk dX6_codeFrame_25 (Nat.le_of_ble_eq_true rfl) (Nat.le_of_ble_eq_true rfl) hw
theorem me_X6_codeFrame (l : Launch) (D : va_G) (cy : Nat → ClassId) (A : Nat → Prop) (t0 mi : Nat) (post : z_St → Prop) (u : z_St) (h0 : Nat) (x1 : Option Nat) (hkh0 : z_kd h0 u = 8 ∧ 8 ≠ 0) (hw : w_X6_codeFrame post t0 mi h0 u x1) : z_Mv l yX6_codeFrame (Cond.code yX6_codeFrame cX6_codeFrame 4 none :: z_T) rm_X6_codeFrame [va_rf (some h0), va_rf x1] (z_EC D cy A t0 mi) (z_hC D cy A t0 u) u (fun u' => post u' ∧ z_mono u u') 0 0 A :=
  z_met (by decide) (by simp [lg_sl, z_rfc, z_ic]) (fun p e s m args below meth c S hlk hr hnm hE => (by simp [lv_args, z_rfc, z_ic] : lv_args 0 [va_rf (some h0), va_rf x1] = [(0, va_rf (some h0)), (1, va_rf x1)]) ▸ mb_X6_codeFrame S hlk hr hE u x1 hkh0 hw)
abbrev rm_X6_costOf : Room := { frames := 0, cells := 0, slots := 0, locals := 0 }
def w_X6_costOf (post : Int32 → z_St → Prop) (t0 mi : Nat) (u : z_St) (x0 : Option Nat) : Prop := ((¬ x0 = none → (∃ a1 : Nat, x0 = some a1 ∧ z_kd a1 u = 6 ∧ (post (z_gI 24 a1 u) u))) ∧ (x0 = none → (post 0 u)))
set_option maxRecDepth 20000 in
theorem mb_X6_costOf {p : Program} {l : Launch} {e : Env} {s : State} {m : MethodId} {args : Array Value} {below : List Frame} {meth : Method} {c : Code} {D : va_G} {cy : Nat → ClassId} {A : Nat → Prop} {t0 mi : Nat} {u0 : z_St} (S : CallFix p m c cX6_costOf 1 s args z_T RX6) (hlk : meth.locks = false) (hr : meth.sig.returnType = (some .int)) (hE : z_EC D cy A t0 mi s) {post : Int32 → z_St → Prop}  (u : z_St) (x0 : Option Nat) (hw : w_X6_costOf post t0 mi u x0) : z_V A (z_hC D cy A t0 u0) p l e rm_X6_costOf s m args below meth c 1 (MQ below (va_Qi (fun r (u' : z_St) => post r u' ∧ z_mono u0 u') (fun (u' : z_St) t => z_hC D cy A t0 u0 u' t.heap) A) args s 0 0 A) 0 0 u 0 [(0, va_rf x0)] [] := by
  refine z_aload_n (x := x0) S 0 dX6_costOf_0 rfl rfl ?_
  refine z_ifnonnull (r := x0) S 8 dX6_costOf_1 (by decide) (fun c1 => ?_) (fun c1 => ?_)
  · have hw := hw.1 c1
    refine z_aload_n (x := x0) S 0 dX6_costOf_8 rfl rfl ?_
    obtain ⟨a1, ea1, hka1, hw⟩ := hw
    have hka1 : z_kd a1 u = 6 ∧ 6 ≠ 0 := ⟨hka1, by decide⟩
    refine z_st (st' := [va_rf (some a1)]) (congrArg (fun r : Option Nat => ([va_rf r] : List Value)) ea1) ?_
    refine zb_g_X6_292 (x := z_gI 24 a1 u) S hE hka1 rfl dX6_costOf_9 ?_
    exact z_ciret S hr hlk dX6_costOf_12 (Nat.le_of_ble_eq_true rfl) (Nat.le_of_ble_eq_true rfl) hw
  · have hw := hw.2 c1
    refine z_iconst (v := 0) S dX6_costOf_4 (by decide) ?_
    refine z_goto S 12 dX6_costOf_5 (by decide) ?_
    exact z_ciret S hr hlk dX6_costOf_12 (Nat.le_of_ble_eq_true rfl) (Nat.le_of_ble_eq_true rfl) hw
theorem me_X6_costOf (l : Launch) (D : va_G) (cy : Nat → ClassId) (A : Nat → Prop) (t0 mi : Nat) (post : Int32 → z_St → Prop) (u : z_St) (x0 : Option Nat) (hw : w_X6_costOf post t0 mi u x0) : z_Mi l yX6_costOf (Cond.code yX6_costOf cX6_costOf 1 (some .int) :: z_T) rm_X6_costOf [va_rf x0] (z_EC D cy A t0 mi) (z_hC D cy A t0 u) u (fun r u' => post r u' ∧ z_mono u u') 0 0 A :=
  z_met (by decide) (by simp [lg_sl, z_rfc, z_ic]) (fun p e s m args below meth c S hlk hr hnm hE => (by simp [lv_args, z_rfc, z_ic] : lv_args 0 [va_rf x0] = [(0, va_rf x0)]) ▸ mb_X6_costOf S hlk hr hE u x0 hw)
abbrev rm_X6_placeOf : Room := { frames := 6, cells := 1, slots := 6, locals := 90 }
def w_X6_placeOf_2 (post : Int32 → z_St → Prop) (px : String → z_St → Prop) (t0 mi h0 : Nat) : Nat → z_St → Int32 → Int32 → Prop
  | 0 => fun _ _ _ => False
  | n + 1 => fun u x1 x2 => (∃ a1 : Nat, z_gR 31 h0 u = some a1 ∧ z_kd a1 u = 1 ∧ (w_Jx4a65c_size_8abf5 (fun r2 u2 => ((r2 ≤ x2 → (px "java/util/NoSuchElementException" u2)) ∧ (¬ r2 ≤ x2 → (∃ a3 : Nat, z_gR 31 h0 u2 = some a3 ∧ z_kd a3 u2 = 1 ∧ (w_Jx4a65c_get_915e3 (fun r4 u4 => (∃ a5 : Nat, r4 = some a5 ∧ z_kd a5 u4 = 5 ∧ ((¬ (z_gI 16 a5 u4) = x1 → (w_X6_placeOf_2 post px t0 mi h0 n u4 x1 (x2 + 1))) ∧ ((z_gI 16 a5 u4) = x1 → (post x2 u4))))) t0 mi a3 u2 x2))))) t0 mi a1 u ))
def w_X6_placeOf (post : Int32 → z_St → Prop) (px : String → z_St → Prop) (t0 mi h0 : Nat) (u : z_St) (x1 : Int32) : Prop := (∃ n0 : Nat, w_X6_placeOf_2 post px t0 mi h0 n0 u x1 0)
set_option maxRecDepth 20000 in
theorem mb_X6_placeOf_2 {p : Program} {l : Launch} {e : Env} {s : State} {m : MethodId} {args : Array Value} {below : List Frame} {meth : Method} {c : Code} {D : va_G} {cy : Nat → ClassId} {A : Nat → Prop} {t0 mi : Nat} {u0 : z_St} {h0 : Nat} (S : CallFix p m c cX6_placeOf 3 s args z_T RX6) (hlk : meth.locks = false) (hr : meth.sig.returnType = (some .int)) (hE : z_EC D cy A t0 mi s) (hl : l.stackTraces = false) (htb : ∀ x ∈ c.exceptionTable.toList, False) {post : Int32 → z_St → Prop} {px : String → z_St → Prop}  : ∀ (n : Nat) (u : z_St) (x1 : Int32) (x2 : Int32) (hkh0 : z_kd h0 u = 8 ∧ 8 ≠ 0), w_X6_placeOf_2 post px t0 mi h0 n u x1 x2 → z_V A (z_hC D cy A t0 u0) p l e rm_X6_placeOf s m args below meth c 3 (vx_MQ below (va_Qi (fun r (u' : z_St) => post r u' ∧ z_mono u0 u') (fun (u' : z_St) t => z_hC D cy A t0 u0 u' t.heap) A) (zx_X px (z_hC D cy A t0 u0) A) args s 1 6 A) 0 0 u 2 [(0, va_rf (some h0)), (1, .int x1), (2, .int x2)] [] := by
  intro n
  induction n with
  | zero => intro u x1 x2 hkh0 hw; exact hw.elim
  | succ n ih =>
    intro u x1 x2 hkh0 hw
    refine z_iload_n S 2 dX6_placeOf_2 rfl rfl ?_
    refine z_aload_n (x := some h0) S 0 dX6_placeOf_3 rfl rfl ?_
    refine zb_g_X6_35 (x := z_gR 31 h0 u) S hE hkh0 rfl dX6_placeOf_4 ?_
    obtain ⟨a1, ea1, hka1, hw⟩ := hw
    have hka1 : z_kd a1 u = 1 ∧ 1 ≠ 0 := ⟨hka1, by decide⟩
    refine z_st (st' := [va_rf (some a1), .int x2]) (congrArg (fun r : Option Nat => ([va_rf r, .int x2] : List Value)) ea1) ?_
    refine z_callVi (As := []) (st := [.int x2]) S (z_ECok D cy A t0 mi) hE (me_Jx4a65c_size_8abf5 l D cy A t0 mi _ u a1 hka1 hw) gV_X6_222 hdV_Jx4a65c_size_8abf5 ⟨Nat.le_of_ble_eq_true rfl, Nat.le_of_ble_eq_true rfl⟩ rfl rfl (z_recvC (u := u) hE hka1 (by decide) rfl) (fun _ h => h.re) (fun _ _ _ h h' => h.ba h') rfl (Nat.le_trans (z_s1 z_s0) (by decide)) dX6_placeOf_7 ⟨(Nat.le_of_ble_eq_true rfl), (Nat.le_of_ble_eq_true rfl)⟩ rfl (fun r2 u2 hw => ?_)
    obtain ⟨hw, hm2⟩ := hw
    have hkh0 := hm2.k hkh0
    have hka1 := hm2.k hka1
    refine z_icmp_ge S 39 dX6_placeOf_10 (by decide) (fun c1 => ?_) (fun c1 => ?_)
    · have hw := hw.1 c1
      exact zx_thr_235 (is := 251) (text := "there is no such message") S hE hl htb hlk (by decide) dX6_placeOf_39 dX6_placeOf_42 dX6_placeOf_43 dX6_placeOf_45 dX6_placeOf_48 (Nat.le_of_ble_eq_true rfl) (Nat.le_of_ble_eq_true rfl) (Nat.le_of_ble_eq_true rfl) (Nat.le_of_ble_eq_true rfl) (Nat.le_of_ble_eq_true rfl) (Nat.le_of_ble_eq_true rfl) hw
    · have hw := hw.2 c1
      refine z_aload_n (x := some h0) S 0 dX6_placeOf_13 rfl rfl ?_
      refine zb_g_X6_35 (x := z_gR 31 h0 u2) S hE hkh0 rfl dX6_placeOf_14 ?_
      refine z_iload_n S 2 dX6_placeOf_17 rfl rfl ?_
      obtain ⟨a3, ea3, hka3, hw⟩ := hw
      have hka3 : z_kd a3 u2 = 1 ∧ 1 ≠ 0 := ⟨hka3, by decide⟩
      refine z_st (st' := [.int x2, va_rf (some a3)]) (congrArg (fun r : Option Nat => ([.int x2, va_rf r] : List Value)) ea3) ?_
      refine z_callVq (As := [.int x2]) (st := []) S (z_ECok D cy A t0 mi) hE (me_Jx4a65c_get_915e3 l D cy A t0 mi _ u2 a3 x2 hka3 hw) gV_X6_153 hdV_Jx4a65c_get_915e3 ⟨Nat.le_of_ble_eq_true rfl, Nat.le_of_ble_eq_true rfl⟩ rfl rfl (z_recvC (u := u2) hE hka3 (by decide) rfl) (fun _ h => h.re) (fun _ _ _ h h' => h.ba h') rfl (Nat.le_trans z_s0 (by decide)) dX6_placeOf_18 ⟨(Nat.le_of_ble_eq_true rfl), (Nat.le_of_ble_eq_true rfl)⟩ rfl (fun r4 u4 hw => ?_)
      obtain ⟨hw, hm4⟩ := hw
      have hkh0 := hm4.k hkh0
      have hka1 := hm4.k hka1
      have hka3 := hm4.k hka3
      obtain ⟨a5, ea5, hka5, hw⟩ := hw
      have hka5 : z_kd a5 u4 = 5 ∧ 5 ≠ 0 := ⟨hka5, by decide⟩
      refine z_st (st' := [va_rf (some a5)]) (congrArg (fun r : Option Nat => ([va_rf r] : List Value)) ea5) ?_
      refine z_cst (κ := 5) S hE hka5 (by decide) rfl wd_499 dX6_placeOf_21 ?_
      refine zb_g_X6_248 (x := z_gI 16 a5 u4) S hE hka5 rfl dX6_placeOf_24 ?_
      refine z_iload_n S 1 dX6_placeOf_27 rfl rfl ?_
      refine z_icmp_ne S 33 dX6_placeOf_28 (by decide) (fun c2 => ?_) (fun c2 => ?_)
      · have hw := hw.1 c2
        refine z_iinc (v := x2 + 1) (pl := 2) S [(2, .int (x2 + 1)), (0, va_rf (some h0)), (1, .int x1)] dX6_placeOf_33 rfl rfl (by decide) rfl ?_
        refine z_lv (lv' := [(0, va_rf (some h0)), (1, .int x1), (2, .int (x2 + 1))]) [1, 2, 0] rfl ?_
        refine z_goto S 2 dX6_placeOf_36 (by decide) ?_
        exact ih u4 x1 (x2 + 1) hkh0 hw
      · have hw := hw.2 c2
        refine z_iload_n S 2 dX6_placeOf_31 rfl rfl ?_
        exact z_cxiret S hr hlk dX6_placeOf_32 (Nat.le_of_ble_eq_true rfl) (Nat.le_of_ble_eq_true rfl) hw
set_option maxRecDepth 20000 in
theorem mb_X6_placeOf {p : Program} {l : Launch} {e : Env} {s : State} {m : MethodId} {args : Array Value} {below : List Frame} {meth : Method} {c : Code} {D : va_G} {cy : Nat → ClassId} {A : Nat → Prop} {t0 mi : Nat} {u0 : z_St} {h0 : Nat} (S : CallFix p m c cX6_placeOf 3 s args z_T RX6) (hlk : meth.locks = false) (hr : meth.sig.returnType = (some .int)) (hE : z_EC D cy A t0 mi s) (hl : l.stackTraces = false) (htb : ∀ x ∈ c.exceptionTable.toList, False) {post : Int32 → z_St → Prop} {px : String → z_St → Prop}  (u : z_St) (x1 : Int32) (hkh0 : z_kd h0 u = 8 ∧ 8 ≠ 0) (hw : w_X6_placeOf post px t0 mi h0 u x1) : z_V A (z_hC D cy A t0 u0) p l e rm_X6_placeOf s m args below meth c 3 (vx_MQ below (va_Qi (fun r (u' : z_St) => post r u' ∧ z_mono u0 u') (fun (u' : z_St) t => z_hC D cy A t0 u0 u' t.heap) A) (zx_X px (z_hC D cy A t0 u0) A) args s 1 6 A) 0 0 u 0 [(0, va_rf (some h0)), (1, .int x1)] [] := by
  refine z_iconst (v := 0) S dX6_placeOf_0 (by decide) ?_
  refine z_istore_n S [(2, .int 0), (0, va_rf (some h0)), (1, .int x1)] dX6_placeOf_1 rfl (by decide) rfl ?_
  refine z_lv (lv' := [(0, va_rf (some h0)), (1, .int x1), (2, .int 0)]) [1, 2, 0] rfl ?_
  obtain ⟨n0, hw⟩ := hw
  exact mb_X6_placeOf_2 S hlk hr hE hl htb n0 u x1 0 hkh0 hw
theorem me_X6_placeOf (l : Launch) (D : va_G) (cy : Nat → ClassId) (A : Nat → Prop) (t0 mi : Nat) (post : Int32 → z_St → Prop) (px : String → z_St → Prop) (u : z_St) (h0 : Nat) (x1 : Int32) (hkh0 : z_kd h0 u = 8 ∧ 8 ≠ 0) (hl : l.stackTraces = false) (hw : w_X6_placeOf post px t0 mi h0 u x1) : zx_Mi l yX6_placeOf (Cond.code yX6_placeOf cX6_placeOf 3 (some .int) :: z_T) rm_X6_placeOf [va_rf (some h0), .int x1] (z_EC D cy A t0 mi) (z_hC D cy A t0 u) u (fun r u' => post r u' ∧ z_mono u u') px 1 6 A :=
  zx_met (by decide) (Nat.le_of_ble_eq_true rfl) (fun p e s m args below meth c S hlk hr hnm htb hE => mb_X6_placeOf S hlk hr hE hl htb u x1 hkh0 hw)
abbrev rm_X6_samplesOf : Room := { frames := 0, cells := 0, slots := 0, locals := 0 }
def w_X6_samplesOf (post : Int32 → z_St → Prop) (t0 mi : Nat) (u : z_St) (x0 : Option Nat) : Prop := ((¬ x0 = none → (∃ a1 : Nat, x0 = some a1 ∧ z_kd a1 u = 6 ∧ (post (z_gI 23 a1 u) u))) ∧ (x0 = none → (post 0 u)))
set_option maxRecDepth 20000 in
theorem mb_X6_samplesOf {p : Program} {l : Launch} {e : Env} {s : State} {m : MethodId} {args : Array Value} {below : List Frame} {meth : Method} {c : Code} {D : va_G} {cy : Nat → ClassId} {A : Nat → Prop} {t0 mi : Nat} {u0 : z_St} (S : CallFix p m c cX6_samplesOf 1 s args z_T RX6) (hlk : meth.locks = false) (hr : meth.sig.returnType = (some .int)) (hE : z_EC D cy A t0 mi s) {post : Int32 → z_St → Prop}  (u : z_St) (x0 : Option Nat) (hw : w_X6_samplesOf post t0 mi u x0) : z_V A (z_hC D cy A t0 u0) p l e rm_X6_samplesOf s m args below meth c 1 (MQ below (va_Qi (fun r (u' : z_St) => post r u' ∧ z_mono u0 u') (fun (u' : z_St) t => z_hC D cy A t0 u0 u' t.heap) A) args s 0 0 A) 0 0 u 0 [(0, va_rf x0)] [] := by
  refine z_aload_n (x := x0) S 0 dX6_samplesOf_0 rfl rfl ?_
  refine z_ifnonnull (r := x0) S 8 dX6_samplesOf_1 (by decide) (fun c1 => ?_) (fun c1 => ?_)
  · have hw := hw.1 c1
    refine z_aload_n (x := x0) S 0 dX6_samplesOf_8 rfl rfl ?_
    obtain ⟨a1, ea1, hka1, hw⟩ := hw
    have hka1 : z_kd a1 u = 6 ∧ 6 ≠ 0 := ⟨hka1, by decide⟩
    refine z_st (st' := [va_rf (some a1)]) (congrArg (fun r : Option Nat => ([va_rf r] : List Value)) ea1) ?_
    refine zb_g_X6_295 (x := z_gI 23 a1 u) S hE hka1 rfl dX6_samplesOf_9 ?_
    exact z_ciret S hr hlk dX6_samplesOf_12 (Nat.le_of_ble_eq_true rfl) (Nat.le_of_ble_eq_true rfl) hw
  · have hw := hw.2 c1
    refine z_iconst (v := 0) S dX6_samplesOf_4 (by decide) ?_
    refine z_goto S 12 dX6_samplesOf_5 (by decide) ?_
    exact z_ciret S hr hlk dX6_samplesOf_12 (Nat.le_of_ble_eq_true rfl) (Nat.le_of_ble_eq_true rfl) hw
theorem me_X6_samplesOf (l : Launch) (D : va_G) (cy : Nat → ClassId) (A : Nat → Prop) (t0 mi : Nat) (post : Int32 → z_St → Prop) (u : z_St) (x0 : Option Nat) (hw : w_X6_samplesOf post t0 mi u x0) : z_Mi l yX6_samplesOf (Cond.code yX6_samplesOf cX6_samplesOf 1 (some .int) :: z_T) rm_X6_samplesOf [va_rf x0] (z_EC D cy A t0 mi) (z_hC D cy A t0 u) u (fun r u' => post r u' ∧ z_mono u u') 0 0 A :=
  z_met (by decide) (by simp [lg_sl, z_rfc, z_ic]) (fun p e s m args below meth c S hlk hr hnm hE => (by simp [lv_args, z_rfc, z_ic] : lv_args 0 [va_rf x0] = [(0, va_rf x0)]) ▸ mb_X6_samplesOf S hlk hr hE u x0 hw)
abbrev rm_X6_duration : Room := { frames := 7, cells := 1, slots := 6, locals := 112 }
def w_X6_duration (post : Int32 → z_St → Prop) (px : String → z_St → Prop) (t0 mi h0 : Nat) (u : z_St) (x1 : Int32) : Prop := (w_X6_placeOf (fun r1 u1 => (∃ a2 : Nat, z_gR 31 h0 u = some a2 ∧ z_kd a2 u1 = 1 ∧ (w_Jx4a65c_get_915e3 (fun r3 u3 => (∃ a4 : Nat, r3 = some a4 ∧ z_kd a4 u3 = 5 ∧ (w_X6_samplesOf (fun r5 u5 => (w_X6_samplesOf (fun r6 u6 => (post (r5 + r6) u6)) t0 mi u5 (z_gR 18 a4 u5))) t0 mi u3 (z_gR 19 a4 u3)))) t0 mi a2 u1 r1))) px t0 mi h0 u x1)
set_option maxRecDepth 20000 in
theorem mb_X6_duration {p : Program} {l : Launch} {e : Env} {s : State} {m : MethodId} {args : Array Value} {below : List Frame} {meth : Method} {c : Code} {D : va_G} {cy : Nat → ClassId} {A : Nat → Prop} {t0 mi : Nat} {u0 : z_St} {h0 : Nat} (S : CallFix p m c cX6_duration 3 s args z_T RX6) (hlk : meth.locks = false) (hr : meth.sig.returnType = (some .int)) (hE : z_EC D cy A t0 mi s) (hl : l.stackTraces = false) (htb : ∀ x ∈ c.exceptionTable.toList, False) {post : Int32 → z_St → Prop} {px : String → z_St → Prop}  (u : z_St) (x1 : Int32) (hkh0 : z_kd h0 u = 8 ∧ 8 ≠ 0) (hw : w_X6_duration post px t0 mi h0 u x1) : z_V A (z_hC D cy A t0 u0) p l e rm_X6_duration s m args below meth c 3 (vx_MQ below (va_Qi (fun r (u' : z_St) => post r u' ∧ z_mono u0 u') (fun (u' : z_St) t => z_hC D cy A t0 u0 u' t.heap) A) (zx_X px (z_hC D cy A t0 u0) A) args s 1 6 A) 0 0 u 0 [(0, va_rf (some h0)), (1, .int x1)] [] := by
  refine z_aload_n (x := some h0) S 0 dX6_duration_0 rfl rfl ?_
  refine zb_g_X6_35 (x := z_gR 31 h0 u) S hE hkh0 rfl dX6_duration_1 ?_
  refine z_aload_n (x := some h0) S 0 dX6_duration_4 rfl rfl ?_
  refine z_iload_n S 1 dX6_duration_5 rfl rfl ?_
  refine zx_callVi (As := [.int x1]) (st := [va_rf (z_gR 31 h0 u)]) S (z_ECok D cy A t0 mi) hE htb hlk (me_X6_placeOf l D cy A t0 mi _ px u h0 x1 hkh0 hl hw) gV_X6_149 hdV_X6_placeOf ⟨Nat.le_of_ble_eq_true rfl, Nat.le_of_ble_eq_true rfl⟩ rfl rfl (z_recvC (u := u) hE hkh0 (by decide) rfl) (fun _ h => h.re) (fun _ _ _ h h' => h.ba h') (fun _ _ h => h) rfl (Nat.le_trans (z_sq z_s0) (by decide)) dX6_duration_6 ⟨(Nat.le_of_ble_eq_true rfl), (Nat.le_of_ble_eq_true rfl)⟩ ⟨(Nat.le_of_ble_eq_true rfl), (Nat.le_of_ble_eq_true rfl)⟩ rfl (fun r1 u1 hw => ?_)
  obtain ⟨hw, hm1⟩ := hw
  have hkh0 := hm1.k hkh0
  obtain ⟨a2, ea2, hka2, hw⟩ := hw
  have hka2 : z_kd a2 u1 = 1 ∧ 1 ≠ 0 := ⟨hka2, by decide⟩
  refine z_st (st' := [.int r1, va_rf (some a2)]) (congrArg (fun r : Option Nat => ([.int r1, va_rf r] : List Value)) ea2) ?_
  refine z_callVq (As := [.int r1]) (st := []) S (z_ECok D cy A t0 mi) hE (me_Jx4a65c_get_915e3 l D cy A t0 mi _ u1 a2 r1 hka2 hw) gV_X6_153 hdV_Jx4a65c_get_915e3 ⟨Nat.le_of_ble_eq_true rfl, Nat.le_of_ble_eq_true rfl⟩ rfl rfl (z_recvC (u := u1) hE hka2 (by decide) rfl) (fun _ h => h.re) (fun _ _ _ h h' => h.ba h') rfl (Nat.le_trans z_s0 (by decide)) dX6_duration_9 ⟨(Nat.le_of_ble_eq_true rfl), (Nat.le_of_ble_eq_true rfl)⟩ rfl (fun r3 u3 hw => ?_)
  obtain ⟨hw, hm3⟩ := hw
  have hkh0 := hm3.k hkh0
  have hka2 := hm3.k hka2
  obtain ⟨a4, ea4, hka4, hw⟩ := hw
  have hka4 : z_kd a4 u3 = 5 ∧ 5 ≠ 0 := ⟨hka4, by decide⟩
  refine z_st (st' := [va_rf (some a4)]) (congrArg (fun r : Option Nat => ([va_rf r] : List Value)) ea4) ?_
  refine z_cst (κ := 5) S hE hka4 (by decide) rfl wd_499 dX6_duration_12 ?_
  refine z_astore_n (x := some a4) S [(2, va_rf (some a4)), (0, va_rf (some h0)), (1, .int x1)] dX6_duration_15 rfl (by decide) rfl ?_
  refine z_lv (lv' := [(0, va_rf (some h0)), (1, .int x1), (2, va_rf (some a4))]) [1, 2, 0] rfl ?_
  refine z_aload_n (x := some a4) S 2 dX6_duration_16 rfl rfl ?_
  refine zb_g_X6_170 (x := z_gR 19 a4 u3) S hE hka4 rfl dX6_duration_17 ?_
  refine z_callSi (As := [va_rf (z_gR 19 a4 u3)]) (st := []) S (z_ECok D cy A t0 mi) hE (me_X6_samplesOf l D cy A t0 mi _ u3 (z_gR 19 a4 u3) hw) gS_X6_187 hdS_X6_samplesOf ⟨Nat.le_of_ble_eq_true rfl, Nat.le_of_ble_eq_true rfl⟩ rfl rfl (fun _ h => h.re) (fun _ _ _ h h' => h.ba h') rfl (Nat.le_trans z_s0 (by decide)) dX6_duration_20 ⟨(Nat.le_of_ble_eq_true rfl), (Nat.le_of_ble_eq_true rfl)⟩ rfl (fun r5 u5 hw => ?_)
  obtain ⟨hw, hm5⟩ := hw
  have hkh0 := hm5.k hkh0
  have hka2 := hm5.k hka2
  have hka4 := hm5.k hka4
  refine z_aload_n (x := some a4) S 2 dX6_duration_23 rfl rfl ?_
  refine zb_g_X6_165 (x := z_gR 18 a4 u5) S hE hka4 rfl dX6_duration_24 ?_
  refine z_callSi (As := [va_rf (z_gR 18 a4 u5)]) (st := [.int r5]) S (z_ECok D cy A t0 mi) hE (me_X6_samplesOf l D cy A t0 mi _ u5 (z_gR 18 a4 u5) hw) gS_X6_187 hdS_X6_samplesOf ⟨Nat.le_of_ble_eq_true rfl, Nat.le_of_ble_eq_true rfl⟩ rfl rfl (fun _ h => h.re) (fun _ _ _ h h' => h.ba h') rfl (Nat.le_trans (z_s1 z_s0) (by decide)) dX6_duration_27 ⟨(Nat.le_of_ble_eq_true rfl), (Nat.le_of_ble_eq_true rfl)⟩ rfl (fun r6 u6 hw => ?_)
  obtain ⟨hw, hm6⟩ := hw
  have hkh0 := hm6.k hkh0
  have hka2 := hm6.k hka2
  have hka4 := hm6.k hka4
  refine z_iadd S dX6_duration_30 ?_
  exact z_cxiret S hr hlk dX6_duration_31 (Nat.le_of_ble_eq_true rfl) (Nat.le_of_ble_eq_true rfl) hw
theorem me_X6_duration (l : Launch) (D : va_G) (cy : Nat → ClassId) (A : Nat → Prop) (t0 mi : Nat) (post : Int32 → z_St → Prop) (px : String → z_St → Prop) (u : z_St) (h0 : Nat) (x1 : Int32) (hkh0 : z_kd h0 u = 8 ∧ 8 ≠ 0) (hl : l.stackTraces = false) (hw : w_X6_duration post px t0 mi h0 u x1) : zx_Mi l yX6_duration (Cond.code yX6_duration cX6_duration 3 (some .int) :: z_T) rm_X6_duration [va_rf (some h0), .int x1] (z_EC D cy A t0 mi) (z_hC D cy A t0 u) u (fun r u' => post r u' ∧ z_mono u u') px 1 6 A :=
  zx_met (by decide) (Nat.le_of_ble_eq_true rfl) (fun p e s m args below meth c S hlk hr hnm htb hE => mb_X6_duration S hlk hr hE hl htb u x1 hkh0 hw)
