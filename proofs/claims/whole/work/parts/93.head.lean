/-! the law from its entry to its loop -/
theorem wh_74 : Cond.classLink "MessageBankLaw" 8 "MessageBank" ∈ z_T := z_Tin (i := 74) (by decide +kernel) (by decide +kernel)
theorem wh_75 : Cond.instantiable "MessageBank" 8 ∈ z_T := z_Tin (i := 75) (by decide +kernel) (by decide +kernel)
theorem wh_76 : Cond.methodLink "MessageBankLaw" 73 yX6_init ∈ z_T := z_Tin (i := 76) (by decide +kernel) (by decide +kernel)
theorem wh_77 : Cond.instanceMethod yX6_init ∈ z_T := z_Tin (i := 77) (by decide +kernel) (by decide +kernel)
theorem wh_78 : Cond.code yX6_init cX6_init 2 none ∈ z_T := z_Tin (i := 78) (by decide +kernel) (by decide +kernel)
theorem wh_825 : Cond.classLink "MessageBankLaw" 74 "MessageBankModel" ∈ z_T := z_Tin (i := 825) (by decide +kernel) (by decide +kernel)
theorem wh_826 : Cond.instantiable "MessageBankModel" 32 ∈ z_T := z_Tin (i := 826) (by decide +kernel) (by decide +kernel)
theorem wh_827 : Cond.methodLink "MessageBankLaw" 76 yX7_init ∈ z_T := z_Tin (i := 827) (by decide +kernel) (by decide +kernel)
theorem wh_828 : Cond.instanceMethod yX7_init ∈ z_T := z_Tin (i := 828) (by decide +kernel) (by decide +kernel)
theorem wh_829 : Cond.code yX7_init cX7_init 2 none ∈ z_T := z_Tin (i := 829) (by decide +kernel) (by decide +kernel)
theorem wh_arrJ : Cond.arrayClass .long ∈ z_T := by unfold z_T; exact List.mem_filter.mpr ⟨by decide +kernel, by decide +kernel⟩
theorem hdh_X6_init : yX6_init.cls ≠ "java/lang/invoke/MethodHandle" ∧ yX6_init.cls ≠ "java/lang/invoke/VarHandle" ∧ (parseMethodDescriptor yX6_init.desc).map (fun d => d.parameters.length) = some 0 := by decide +kernel
theorem hdh_X7_init : yX7_init.cls ≠ "java/lang/invoke/MethodHandle" ∧ yX7_init.cls ≠ "java/lang/invoke/VarHandle" ∧ (parseMethodDescriptor yX7_init.desc).map (fun d => d.parameters.length) = some 0 := by decide +kernel
def z_A1 (sz o : Nat) : Nat → Prop := fun q => sz ≤ q ∧ q < o
def z_h2 (D : va_G) (cy : Nat → ClassId) (t0 sz o : Nat) (ad : Nat → Nat) (σ : z_St × z_Md) (H : Heap) : Prop := z_hC D cy (z_A1 sz o) t0 σ.1 σ.1 H ∧ z_hM D cy (fun q => o ≤ q) o ad σ.2 H ∧ sz ≤ o
def z_u0 (t0 : Nat) : z_St := (fun a => if a = t0 then 16 else 0, fun _ => 0, fun _ _ => 0, fun _ _ => none, fun _ _ => 0, fun _ _ => none)
section ZH
variable {p : Program} {l : Launch} {e : Env} {R : Room} {s : State} {m : MethodId} {args : Array Value} {below : List Frame} {meth : Method} {c : Code} {Q : State → Prop} {k n : Nat} {lv : List (Nat × Value)} {st : List Value} {D : va_G} {cy : Nat → ClassId} {t0 mi o w h0 : Nat} {ad : Nat → Nat} {u : z_St} {v : Int64} {M : z_Md} {b L j N : Nat} {xs : Nat → Int32}
theorem zs_model {u0 : z_St} (S : CallFix p m c cL_law 7 s args z_T "MessageBankLaw") (hE : z_EC D cy (fun q => s.heap.size ≤ q) t0 mi s) (hRm : 12 ≤ R.frames ∧ 456 ≤ R.locals) (hf : k + 27 ≤ R.cells ∧ n + 820 ≤ R.slots) (KK : ∀ (o : Nat) (ad : Nat → Nat) (M : z_Md), (∀ j, j < 49 → M 1 j = z_stp j) → (∀ s, s < 12 → M 12 s = -1) → (∀ f j, f ≠ 1 → f ≠ 12 → M f j = 0) → z_V (fun q => s.heap.size ≤ q) (z_h2 D cy t0 s.heap.size o ad) p l e R s m args below meth c 7 Q (k + 27) (n + 820) (u, M) 15 lv [.ref o]) : z_V (fun q => s.heap.size ≤ q) (z_hC D cy (fun q => s.heap.size ≤ q) t0 u0) p l e R s m args below meth c 7 Q k n u 8 lv [] := fun H locs ls h1 h2 h3 => by
  have hK : va_K D vwCl (z_tys cy) s := hE.1
  have hKn := hK.1 8 _ rfl
  refine W.newcK S.1 S.2.1 S.2.2.2.1 (S.2.2.2.2 _ wh_825) (S.2.2.2.2 _ wh_826) (S.2.2.2.2 _ wd_59) rfl dL_law_8 (by omega) (by omega) hKn.2.1 rfl fun H1 kC hkC e1 z1 o1 => ?_
  have hsz : s.heap.size ≤ H.size := h2.1
  have hob : va_at D vwCl (H.size, .inr (8, z_nF 1 (fun _ => 0) (fun _ _ => 0))) H1 := ⟨_, rfl, (u_born tyX7 S.2.2.2.2 z_wsM hKn hkC e1 tyX7_ok).to (by decide)⟩
  have hP1 : z_hP D cy (fun q => H.size ≤ q) H.size (1, (fun _ => 0), fun _ _ => 0) H1 := ⟨hob, fun k hk hk1 => absurd hk (by rw [Nat.lt_one_iff.mp hk1]; decide), Nat.le_refl _, fun j k hj hk hj1 hk1 _ => (Nat.lt_one_iff.mp hj1).trans (Nat.lt_one_iff.mp hk1).symm⟩
  have hC1 : z_hC D cy (z_A1 s.heap.size H.size) t0 u u H1 := ⟨fun a h0 h16 => ⟨(h1.1 a h0 h16).1.kept (o1 a (h1.1 a h0 h16).1.lt), (h1.1 a h0 h16).2, (h1.1 a h0 h16).1.lt⟩, h1.2.1, z_mono.rf u⟩
  have h2' : va_S (fun q => s.heap.size ≤ q) s.heap H1 locs := ⟨Nat.le_trans h2.1 (by omega), fun x g1 g2 => (o1 x (Nat.lt_of_lt_of_le g1 h2.1)).trans (h2.2.1 x g1 g2), h2.2.2⟩
  refine lv_dup S.1 S.2.1 dL_law_11 rfl ?_
  refine va_callv (va_runI (As := []) (rest := [.ref H.size]) S (me_X7_init l D cy (fun q => H.size ≤ q) H.size (fun _ => 0) (fun w => w.1 = 30 ∧ (∀ j, j < 49 → w.2.2 1 j = z_stp j) ∧ (∀ s, s < 12 → w.2.2 12 s = -1) ∧ ∀ f j, f ≠ 1 → f ≠ 12 → w.2.2 f j = 0) (fun ad M h1 h2 h3 => ⟨rfl, h1, h2, h3⟩)) (cwI 0 S.2.2.2.2 (z_goI wh_829) rfl rfl rfl (S.2.2.2.2 _ wd_59) (S.2.2.2.2 _ wh_827) (S.2.2.2.2 _ wh_828) rfl hdh_X7_init ⟨Nat.le_trans (Nat.le_of_ble_eq_true rfl) hRm.1, Nat.le_trans (Nat.le_of_ble_eq_true rfl) hRm.2⟩) ⟨z_blind (z_EIok D cy (fun q => H.size ≤ q)), fun U hU hW => ⟨rfl, ⟨va_K.moved hW.alike hK, fun q hq => by
    rw [hU, z1] at hq
    show H.size ≤ q
    omega⟩, by rw [hU]; exact hP1⟩⟩ rfl rfl h3.1 rfl (z_room (Nat.le_trans (z_sr z_s0) (by decide))) dL_law_12 ⟨by omega, by omega⟩) h2' (fun q _ h => Nat.le_trans hsz h) (fun q h => Nat.le_trans hsz h) (fun w t H2 locs1 ht hvm hw hB hz1 hk1 hS => ?_)
  obtain ⟨j, ad, M⟩ := w
  obtain ⟨hj, c1, c2, c3⟩ := hw
  have hj' : j = 30 := hj
  subst hj'
  rw [ht] at hB
  have hM := z_hP_30.mp hB
  refine KK H.size ad M c1 c2 c3 H2 locs1 ls ⟨?_, hM, hsz⟩ hS h3
  exact hC1.kept (fun q hq hA => hk1 q hq (Nat.not_le.mpr hA.2))
theorem zs_out (S : CallFix p m c cL_law 7 s args z_T "MessageBankLaw") (hE : z_EC D cy (fun q => s.heap.size ≤ q) t0 mi s) (hf : k + 1 ≤ R.cells ∧ n + 1 ≤ R.slots) (KK : ∀ w : Nat, z_V (fun q => s.heap.size ≤ q) (z_hL D cy t0 s.heap.size o w ad) p l e R s m args below meth c 7 Q (k + 1) (n + 1) (u, 0, M) 19 lv (.ref w :: st)) : z_V (fun q => s.heap.size ≤ q) (z_h2 D cy t0 s.heap.size o ad) p l e R s m args below meth c 7 Q k n (u, M) 17 lv (.int 1 :: st) := fun H locs ls h1 h2 h3 => by
  refine va_newaK (atype := .long) S.1 S.2.1 (S.2.2.2.2 _ wh_arrJ) rfl dL_law_17 rfl (by decide) rfl (by decide) hf.1 hf.2 rfl fun H1 cA e1 z1 o1 hAr hNm => ?_
  obtain ⟨hC, hM, ho⟩ := h1
  have hmo : o < H.size := hM.1.lt
  have had : ∀ k, z_mAr k = true → ad k < H.size := fun k hk => (hM.2.1 k hk).lt
  have hao : ∀ k, z_mAr k = true → o ≤ ad k := hM.2.2.2.1
  have hnw : ¬ z_AM o ad H.size := fun z => by
    rcases z with z | ⟨k, hk, z⟩
    · omega
    · have := had k hk
      omega
  have h2' : va_S (fun q => s.heap.size ≤ q) s.heap H1 locs := ⟨Nat.le_trans h2.1 (by omega), fun x g1 g2 => (o1 x (Nat.lt_of_lt_of_le g1 h2.1)).trans (h2.2.1 x g1 g2), h2.2.2⟩
  have hcA : cA = cy 7 := Option.some.inj (hNm.symm.trans (hE.1.2 7 _ rfl).2)
  refine KK H.size H1 locs ls ⟨⟨⟨fun a h0 h16 => ?_, hC.2.1, hC.2.2⟩, ?_, fun z => z.2.2 rfl⟩, ⟨hM.1.kept (o1 o hmo), fun k hk => (hM.2.1 k hk).kept (o1 _ (had k hk)), Or.inl rfl, fun k hk => Or.inr ⟨k, hk, rfl⟩, hM.2.2.2.2.1, hM.2.2.2.2.2⟩, ho, fun k hk => Nat.le_trans ho (hao k hk), Nat.le_trans ho (Nat.le_of_lt hmo), hnw⟩ h2' h3
  · obtain ⟨g1, g2, g3⟩ := hC.1 a h0 h16
    refine ⟨g1.kept (o1 a g1.lt), g2, fun z => ?_, Nat.ne_of_lt g1.lt⟩
    rcases z with z | ⟨k, hk, z⟩
    · omega
    · have := hao k hk
      omega
  · show H1[H.size]? = some (vp_cell _ _)
    rw [vp_cell_l, ← hcA, e1]
    congr 2
    funext j
    show Value.long 0 = Value.long (z_ol 0 j)
    congr 1
    unfold z_ol
    split <;> rfl
theorem zs_start (S : CallFix p m c cL_law 7 s args z_T "MessageBankLaw") (hE : z_EL D cy t0 mi s) (hl : l.stackTraces = false) (hX : va_X b L xs s s.heap) (hbl : b < s.heap.size) (hL : L ≤ 256) (hRm : 12 ≤ R.frames ∧ 456 ≤ R.locals) (hf : 600128 ≤ R.cells ∧ 7301098 ≤ R.slots) (FIN : ∀ (h0 o w : Nat) (ad : Nat → Nat) (u : z_St) (v : Int64) (M : z_Md) (j : Nat), z_V (fun q => s.heap.size ≤ q) (z_hL D cy t0 s.heap.size o w ad) p l e R s m args below meth c 7 Q 600128 7301098 (u, v, M) 1227 (z_l5 b h0 o w j) [.int 1]) : z_V (fun q => s.heap.size ≤ q) (z_hC D cy (fun q => s.heap.size ≤ q) t0 (z_u0 t0)) p l e R s m args below meth c 7 Q 0 0 (z_u0 t0) 0 [(0, va_rf (some b))] [] := by
  refine z_cnew (κ := 8) (N := 8) (T := TX6) (ty0 := tyX6) S hE.1 (by decide) rfl z_inX6 tyX6_ok wh_74 wh_75 wd_50 (by decide) (by omega) (by omega) dL_law_0 (fun h0 hz => ?_)
  refine z_dup S dL_law_3 rfl ?_
  have hkh : z_kd h0 (z_nO 8 h0 (z_u0 t0)) = 8 ∧ 8 ≠ 0 := ⟨va_up_self _ _ _, by decide⟩
  have hne : t0 ≠ h0 := fun e => by
    subst e
    simp [z_u0, z_kd] at hz
  have hk14 : z_kd t0 (z_nO 8 h0 (z_u0 t0)) = 16 ∧ z_ln t0 (z_nO 8 h0 (z_u0 t0)) = 0 := ⟨(va_up_ne _ _ hne).trans (if_pos rfl), rfl⟩
  refine z_callIv (As := []) (st := [.ref h0]) S (z_ECok D cy (fun q => s.heap.size ≤ q) t0 mi) hE.1 (me_X6_init l D cy (fun q => s.heap.size ≤ q) t0 mi _ (z_nO 8 h0 (z_u0 t0)) h0 hkh (q_initM hkh.1 hk14 (fun v hv => hv))) (z_goI wh_78) wd_50 wh_76 wh_77 rfl hdh_X6_init ⟨Nat.le_trans (Nat.le_of_ble_eq_true rfl) hRm.1, Nat.le_trans (Nat.le_of_ble_eq_true rfl) hRm.2⟩ rfl rfl (fun _ h => h.re) (fun _ _ _ h h' => h.ba h') rfl (Nat.le_trans (z_sr z_s0) (by decide)) dL_law_4 ⟨by omega, by omega⟩ rfl (fun v hv => ?_)
  refine z_astore_n (x := some h0) S [(1, va_rf (some h0)), (0, va_rf (some b))] dL_law_7 rfl (by decide) rfl ?_
  refine zs_model S hE.1 hRm ⟨by omega, by omega⟩ (fun o ad M c1 c2 c3 => ?_)
  refine z_astore_n (x := some o) S [(2, va_rf (some o)), (1, va_rf (some h0)), (0, va_rf (some b))] dL_law_15 rfl (by decide) rfl ?_
  refine z_iconst (v := 1) S dL_law_16 (by decide) ?_
  refine zs_out S hE.1 ⟨by omega, by omega⟩ (fun w => ?_)
  refine z_astore_n (x := some w) S [(3, va_rf (some w)), (2, va_rf (some o)), (1, va_rf (some h0)), (0, va_rf (some b))] dL_law_19 rfl (by decide) rfl ?_
  refine z_iconst (v := nI (4 * 0)) S dL_law_20 (by decide) ?_
  refine z_istore S (z_l5 b h0 o w 0) dL_law_21 (by decide) rfl ?_
  refine z_widen (k' := 180 + 4 * 0) (n' := 2686 + 41 * 0) (by decide) (by decide) ?_
  exact lw_loop (K0 := 180) (S0 := 2686) S hE hl hX hbl hL hRm ⟨by omega, by omega⟩ (fun u v M j => z_widen (by decide) (by decide) (FIN h0 o w ad u v M j)) 64 0 0 v 0 M rfl (Nat.le_refl 0) (hv.1 M c1 c2 c3)
end ZH
