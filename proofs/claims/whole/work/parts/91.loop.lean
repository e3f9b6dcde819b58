section ZR
variable {p : Program} {l : Launch} {e : Env} {R : Room} {s : State} {m : MethodId} {args : Array Value} {below : List Frame} {meth : Method} {c : Code} {Q : State → Prop} {k n : Nat} {D : va_G} {cy : Nat → ClassId} {t0 mi o w h0 : Nat} {ad : Nat → Nat} {u : z_St} {v : Int64} {M : z_Md} {b L j N : Nat} {xs : Nat → Int32}
set_option maxRecDepth 20000 in
theorem lc_switch (S : CallFix p m c cL_law 7 s args z_T "MessageBankLaw") (hE : z_EL D cy t0 mi s) (hl : l.stackTraces = false) (hX : va_X b L xs s s.heap) (hbl : b < s.heap.size) (hL : L ≤ 256) (hi : 4 * j + 3 < L) (hRm : 12 ≤ R.frames ∧ 456 ≤ R.locals) (hf : k + 4 ≤ R.cells ∧ n + 41 ≤ R.slots) (hN : N + 1 ≤ 64) (hq : q_WW t0 N h0 M u) (KK : ∀ u' v' M' N', N' ≤ N + 1 → q_WW t0 N' h0 M' u' → z_V (fun q => s.heap.size ≤ q) (z_hL D cy t0 s.heap.size o w ad) p l e R s m args below meth c 7 Q (k + 4) (n + 41) (u', v', M') 1220 (z_l5 b h0 o w j) []) (x : Nat) (hx : x < 32) : z_V (fun q => s.heap.size ≤ q) (z_hL D cy t0 s.heap.size o w ad) p l e R s m args below meth c 7 Q k n (u, v, M) 39 (z_l5 b h0 o w j) [.int (nI x)] := by
  have K1 := fun u' v' M' h => KK u' v' M' (N + 1) (Nat.le_refl _) h
  match x, hx with
  | 0, _ => exact zl_tabIn 124 S dL_law_39 (by decide) (by decide) rfl (by decide) (lc_box S hE hl hX hbl hL hi hRm hf hN hq K1)
  | 1, _ => exact zl_tabIn 180 S dL_law_39 (by decide) (by decide) rfl (by decide) (lc_call S hE hl hX hbl hL hi hRm hf hN hq K1)
  | 2, _ => exact zl_tabIn 240 S dL_law_39 (by decide) (by decide) rfl (by decide) (lc_sample S hE hl hX hbl hL hi hRm hf hN hq K1)
  | 3, _ => exact zl_tabIn 315 S dL_law_39 (by decide) (by decide) rfl (by decide) (lc_hang S hE hl hX hbl hL hi hRm hf hN hq K1)
  | 4, _ => exact zl_tabIn 371 S dL_law_39 (by decide) (by decide) rfl (by decide) (lc_next S hE hl hX hbl hL hi hRm hf hN hq K1)
  | 5, _ => exact zl_tabIn 451 S dL_law_39 (by decide) (by decide) rfl (by decide) (lc_mark S hE hl hX hbl hL hi hRm hf hN hq K1)
  | 6, _ => exact zl_tabIn 519 S dL_law_39 (by decide) (by decide) rfl (by decide) (lc_erase S hE hl hX hbl hL hi hRm hf hN hq K1)
  | 7, _ => exact zl_tabIn 575 S dL_law_39 (by decide) (by decide) rfl (by decide) (lc_forward S hE hl hX hbl hL hi hRm hf hN hq K1)
  | 8, _ => exact zl_tabIn 643 S dL_law_39 (by decide) (by decide) rfl (by decide) (lc_duration S hE hl hX hbl hL hi hRm hf hN hq K1)
  | 9, _ => exact zl_tabIn 699 S dL_law_39 (by decide) (by decide) rfl (by decide) (lc_play S hE hl hX hbl hL hi hRm hf hN hq K1)
  | 10, _ => exact zl_tabIn 767 S dL_law_39 (by decide) (by decide) rfl (by decide) (lc_length S hE hl hX hbl hL hi hRm hf hN hq K1)
  | 11, _ => exact zl_tabIn 835 S dL_law_39 (by decide) (by decide) rfl (by decide) (lc_greeting S hE hl hX hbl hL hi hRm hf hN hq K1)
  | 12, _ => exact zl_tabIn 915 S dL_law_39 (by decide) (by decide) rfl (by decide) (lc_used S hE hl hX hbl hL hi hRm hf hN hq K1)
  | 13, _ => exact zl_tabIn 971 S dL_law_39 (by decide) (by decide) rfl (by decide) (lc_quota S hE hl hX hbl hL hi hRm hf hN hq K1)
  | 14, _ => exact zl_tabIn 1027 S dL_law_39 (by decide) (by decide) rfl (by decide) (lc_pack S hE hl hX hbl hL hi hRm hf hN hq K1)
  | 15, _ => exact zl_tabIn 1083 S dL_law_39 (by decide) (by decide) rfl (by decide) (lc_block S hE hl hX hbl hL hi hRm hf hN hq K1)
  | 16, _ => exact zl_tabIn 1139 S dL_law_39 (by decide) (by decide) rfl (by decide) (lc_step S hE hl hX hbl hL hi hRm hf hN hq K1)
  | 17, _ => exact zl_tabIn 1195 S dL_law_39 (by decide) (by decide) rfl (by decide) (lc_total S hE hl hX hbl hL hi hRm hf hN hq K1)
  | (x + 18), hx =>
    refine zl_tabOut 1220 S dL_law_39 (Or.inr ?_) (by decide) (z_widen (Nat.le_add_right k 4) (Nat.le_add_right n 41) (KK u v M N (Nat.le_succ N) hq))
    rw [nI_toInt (by omega)]
    omega
theorem lw_loop {K0 S0 : Nat} (S : CallFix p m c cL_law 7 s args z_T "MessageBankLaw") (hE : z_EL D cy t0 mi s) (hl : l.stackTraces = false) (hX : va_X b L xs s s.heap) (hbl : b < s.heap.size) (hL : L ≤ 256) (hRm : 12 ≤ R.frames ∧ 456 ≤ R.locals) (hf : K0 + 256 ≤ R.cells ∧ S0 + 2624 ≤ R.slots) (FIN : ∀ u v M j, z_V (fun q => s.heap.size ≤ q) (z_hL D cy t0 s.heap.size o w ad) p l e R s m args below meth c 7 Q (K0 + 256) (S0 + 2624) (u, v, M) 1227 (z_l5 b h0 o w j) [.int 1]) (d : Nat) : ∀ j N u v M, j + d = 64 → N ≤ j → q_WW t0 N h0 M u → z_V (fun q => s.heap.size ≤ q) (z_hL D cy t0 s.heap.size o w ad) p l e R s m args below meth c 7 Q (K0 + 4 * j) (S0 + 41 * j) (u, v, M) 23 (z_l5 b h0 o w j) [] := by
  induction d with
  | zero =>
    intro j N u v M hj hN hq
    refine z_iload S 0 dL_law_23 rfl ?_
    refine z_aload_n (x := some b) S 4 dL_law_25 rfl rfl ?_
    refine zl_slen S hX hbl dL_law_26 ?_
    refine z_iconst (v := nI 4) S dL_law_27 (by decide) ?_
    refine z_isub S dL_law_28 ?_
    refine z_icmp_gt (tgt := 1226) S dL_law_29 (by decide) (fun _ => ?_) (fun z => ?_)
    · refine z_iconst (v := 1) S dL_law_1226 (by decide) ?_
      exact z_widen (by omega) (by omega) (FIN u v M j)
    · exfalso
      refine z ?_
      rw [Int32.lt_iff_toInt_lt, pk_sub_toInt (by omega) (by decide), nI_toInt (by omega)]
      omega
  | succ d ih =>
    intro j N u v M hj hN hq
    refine z_iload S 0 dL_law_23 rfl ?_
    refine z_aload_n (x := some b) S 4 dL_law_25 rfl rfl ?_
    refine zl_slen S hX hbl dL_law_26 ?_
    refine z_iconst (v := nI 4) S dL_law_27 (by decide) ?_
    refine z_isub S dL_law_28 ?_
    refine z_icmp_gt (tgt := 1226) S dL_law_29 (by decide) (fun _ => ?_) (fun z => ?_)
    · refine z_iconst (v := 1) S dL_law_1226 (by decide) ?_
      exact z_widen (by omega) (by omega) (FIN u v M j)
    · rw [Int32.lt_iff_toInt_lt, pk_sub_toInt (by omega) (by decide), nI_toInt (by omega)] at z
      have hi : 4 * j + 3 < L := by omega
      refine z_aload_n (x := some b) S 4 dL_law_32 rfl rfl ?_
      refine z_iload S 0 dL_law_33 rfl ?_
      refine zl_sld S hX hbl (vp_in_nI (by omega) (by omega)) dL_law_35 ?_
      rw [nI_clamp (by omega)]
      refine z_bipush (v := 31) S dL_law_36 (by decide) ?_
      refine z_iand S dL_law_38 ?_
      obtain ⟨x, hx, ex⟩ := pk_andE (xs (4 * j)) (m := 31) 5 (by decide)
      rw [ex]
      refine lc_switch S hE hl hX hbl hL hi hRm ⟨by omega, by omega⟩ (by omega) hq (fun u' v' M' N' h1 h2 => ?_) x hx
      refine z_iinc (pl := 0) (v := nI (4 * (j + 1))) S (z_l5 b h0 o w (j + 1)) dL_law_1220 rfl ?_ (by decide) rfl ?_
      · show nI (4 * j) + nI 4 = _
        rw [nI_add]
        rfl
      · refine z_goto (tgt := 23) S dL_law_1223 (by decide) ?_
        exact z_widen (by omega) (by omega) (ih (j + 1) N' u' v' M' (by omega) (by omega) h2)
end ZR
