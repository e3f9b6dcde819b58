/-! THE LAW's world: the bank, one long, the reference; its own rows -/
def z_AM (o : Nat) (ad : Nat → Nat) : Nat → Prop := fun q => q = o ∨ ∃ k, z_mAr k = true ∧ q = ad k
def z_AC (sz o w : Nat) (ad : Nat → Nat) : Nat → Prop := fun q => sz ≤ q ∧ ¬ z_AM o ad q ∧ q ≠ w
abbrev z_LS : Type := z_St × Int64 × z_Md
def z_hL (D : va_G) (cy : Nat → ClassId) (t0 sz o w : Nat) (ad : Nat → Nat) (σ : z_LS) (H : Heap) : Prop := z_hW D cy (z_AC sz o w ad) t0 w (σ.1, σ.2.1) H ∧ z_hM D cy (z_AM o ad) o ad σ.2.2 H ∧ sz ≤ o ∧ (∀ k, z_mAr k = true → sz ≤ ad k) ∧ sz ≤ w ∧ ¬ z_AM o ad w
def z_EL (D : va_G) (cy : Nat → ClassId) (t0 mi : Nat) (s : State) : Prop := z_EC D cy (fun q => s.heap.size ≤ q) t0 mi s ∧ z_NC s
section ZL
variable {p : Program} {l : Launch} {e : Env} {R : Room} {s : State} {m : MethodId} {args : Array Value} {below : List Frame} {meth : Method} {c : Code} {Q : State → Prop} {cc : ByteArray} {nL : Nat} {k n : Nat} {pc : Nat} {lv : List (Nat × Value)} {st : List Value} {D : va_G} {cy : Nat → ClassId} {t0 mi o w h0 : Nat} {ad : Nat → Nat} {u : z_St} {v : Int64} {M : z_Md}
theorem z_hL.out {σ : z_LS} {H : Heap} (h : z_hL D cy t0 s.heap.size o w ad σ H) {q : Nat} (h1 : s.heap.size ≤ H.size) (hq : H.size ≤ q) : z_AC s.heap.size o w ad q := by
  obtain ⟨⟨b1, b2, b3⟩, ⟨c1, c2, -⟩, -⟩ := h
  have hw : w < H.size := b2.lt
  have ho : o < H.size := c1.lt
  refine ⟨by omega, fun z => ?_, by omega⟩
  rcases z with z | ⟨k, hk, z⟩
  · omega
  · have := (c2 k hk).lt
    have e : ad k < H.size := this
    omega
theorem z_EL.ew {H : Heap} {locs : List Loc} {U : State} {σ : z_LS} (hE : z_EL D cy t0 mi s) (h1 : z_hL D cy t0 s.heap.size o w ad σ H) (h2 : va_S (fun q => s.heap.size ≤ q) s.heap H locs) (hU : U.heap = H) (hW : s.WarmedH U.vm) : z_EW D cy (z_AC s.heap.size o w ad) t0 mi w U := by
  have EU := (z_ECok D cy (fun q => s.heap.size ≤ q) t0 mi).2 s U H locs hE.1 h2 hU hW
  have hs : ∀ q : Nat, U.heap.size ≤ q → z_AC s.heap.size o w ad q := fun q hq => h1.out h2.1 (by rw [← hU]; exact hq)
  refine ⟨EU.wk (fun q hq => ?_) (fun q hq => Or.inl (hs q hq)), hs, hE.2.moved hW.alike⟩
  rcases hq with hq | hq
  · exact hq.1
  · show s.heap.size ≤ q
    rw [hq]; exact h1.2.2.2.2.1
theorem zl_callW {post : Int32 → z_WS → Prop} {y : MethodName} {bytes : ByteArray} {maxL N mc ms index : Nat} {hh : List (Nat × Nat × Nat × Nat)} {rm : Room} {As st0 : List Value} (S : CallFix p m c cc nL s args z_T "MessageBankLaw") (hE : z_EL D cy t0 mi s) (hM : zx_Mi l y (Cond.codeWith y bytes maxL (some .int) hh :: z_T) rm As (z_EW D cy (z_AC s.heap.size o w ad) t0 mi w) (z_hW D cy (z_AC s.heap.size o w ad) t0 w) (u, v) post (fun _ _ => False) mc ms (z_wA (z_AC s.heap.size o w ad) w)) (g : GoodIn z_T (va_wsS "MessageBankLaw" index y (Cond.codeWith y bytes maxL (some .int) hh :: z_T))) (hd : y.cls ≠ "java/lang/invoke/MethodHandle" ∧ y.cls ≠ "java/lang/invoke/VarHandle" ∧ (parseMethodDescriptor y.desc).map (fun d => d.parameters.length) = some N) (hR : rm.frames + 1 ≤ R.frames ∧ 8 + (maxL + 11) + rm.locals ≤ R.locals) (hrc : rm.cells = mc) (hrs : rm.slots = ms) (hn : As.length = N) (hsm : z_sm st ≤ 8) (hdg : decode cc pc = .ok (.invokestatic index, 3)) (hf : k + mc ≤ R.cells ∧ n + ms ≤ R.slots) (hst : st0 = As.reverse ++ st)
    (kk : ∀ r u' v', post r (u', v') → z_V (fun q => s.heap.size ≤ q) (z_hL D cy t0 s.heap.size o w ad) p l e R s m args below meth c nL Q (k + mc) (n + ms) (u', v', M) (pc + 3) lv (.int r :: st)) : z_V (fun q => s.heap.size ≤ q) (z_hL D cy t0 s.heap.size o w ad) p l e R s m args below meth c nL Q k n (u, v, M) pc lv st0 := fun H locs ls h1 h2 h3 => by
  subst hst
  have hA : ∀ q, z_wA (z_AC s.heap.size o w ad) w q → s.heap.size ≤ q := fun q hq => by
    rcases hq with hq | hq
    · exact hq.1
    · rw [hq]; exact h1.2.2.2.2.1
  exact vx_calli (vx_runSX (As := As) (rest := st) S hM (vx_cwSW N S.2.2.2.2 g rfl hrc hrs hd hR) ⟨z_blind (z_EWok D cy _ t0 mi w), fun U hU hW => ⟨rfl, z_EL.ew hE h1 h2 hU hW, by rw [hU]; exact h1.1⟩⟩ rfl hn h3.1 rfl (z_room hsm) hdg hf) h2 (fun q _ h => hA q h) (fun q h => hA q h) (fun q _ h => hA q h)
    (fun E ce q9 u' t H1 locs1 ht hvm _ hB hz1 hk1 hS hce hcv hcl => hB.1.elim)
    (fun r u' t H1 locs1 ht hvm hw hB hz1 hk1 hS => kk r u'.1 u'.2 hw H1 locs1 ls ⟨by rw [← ht]; exact hB, by
      obtain ⟨c1, c2, c3, c4, c5, c6⟩ := h1.2.1
      have na : ∀ q, z_AM o ad q → ¬ z_wA (z_AC s.heap.size o w ad) w q := fun q hq z => by
        rcases z with z | z
        · exact z.2.1 hq
        · rw [z] at hq; exact h1.2.2.2.2.2 hq
      exact ⟨c1.kept (hk1 o c1.lt (na o c3)), fun k hk => (c2 k hk).kept (hk1 _ (c2 k hk).lt (na _ (c4 k hk))), c3, c4, c5, c6⟩, h1.2.2⟩ hS h3)
theorem zl_hM {σ : z_LS} {M' : z_Md} {H H1 : Heap} (h1 : z_hL D cy t0 s.heap.size o w ad σ H) (hk1 : ∀ q : Nat, q < H.size → ¬ z_AM o ad q → H1[q]? = H[q]?) (hB : z_hM D cy (z_AM o ad) o ad M' H1) : z_hL D cy t0 s.heap.size o w ad (σ.1, σ.2.1, M') H1 := by
  obtain ⟨⟨b1, b2, b3⟩, -, r1, r2, r3, r4⟩ := h1
  exact ⟨⟨b1.kept (fun q h1 hq => hk1 q h1 hq.2.1), b2.kept (hk1 w b2.lt r4), b3⟩, hB, r1, r2, r3, r4⟩
theorem zl_callMi {post : Int32 → z_Md → Prop} {y : MethodName} {bytes : ByteArray} {maxL N index : Nat} {ret : Option FieldType} {rm : Room} {C : String} {As st0 : List Value} (S : CallFix p m c cc nL s args z_T "MessageBankLaw") (hE : z_EL D cy t0 mi s) (hM : z_Mi l y (Cond.code y bytes maxL ret :: z_T) rm (.ref o :: As) (z_EM D cy) (z_hM D cy (z_AM o ad) o ad) M post 0 0 (z_AM o ad)) (hC : C = RX7) (g : GoodIn z_T (wsV "MessageBankLaw" index C y (Cond.code y bytes maxL ret :: z_T))) (hd : y.cls = C ∧ y.cls ≠ "java/lang/invoke/MethodHandle" ∧ y.cls ≠ "java/lang/invoke/VarHandle" ∧ (parseMethodDescriptor y.desc).map (fun d => d.parameters.length) = some N) (hR : rm.frames + 1 ≤ R.frames ∧ 8 + (maxL + 11) + rm.locals ≤ R.locals) (hrc : rm.cells = 0) (hrs : rm.slots = 0) (hn : As.length = N) (hsm : z_sm st ≤ 8) (hdg : decode cc pc = .ok (.invokevirtual index, 3)) (hf : k ≤ R.cells ∧ n ≤ R.slots) (hst : st0 = As.reverse ++ .ref o :: st)
    (kk : ∀ r M', post r M' → z_V (fun q => s.heap.size ≤ q) (z_hL D cy t0 s.heap.size o w ad) p l e R s m args below meth c nL Q k n (u, v, M') (pc + 3) lv (.int r :: st)) : z_V (fun q => s.heap.size ≤ q) (z_hL D cy t0 s.heap.size o w ad) p l e R s m args below meth c nL Q k n (u, v, M) pc lv st0 := fun H locs ls h1 h2 h3 => by
  subst hst
  subst hC
  have hA : ∀ q, z_AM o ad q → s.heap.size ≤ q := fun q hq => by
    rcases hq with hq | ⟨k, hk, hq⟩
    · rw [hq]; exact h1.2.2.1
    · rw [hq]; exact h1.2.2.2.1 k hk
  exact va_calli (va_runV (As := As) (rest := st) S hM (cwV N S.2.2.2.2 g rfl hrc hrs hd hR) ⟨z_blind (z_EMok D cy (z_AM o ad)), z_recvM hE.1.1 H h1.2.1, fun U hU hW => ⟨rfl, va_K.moved hW.alike hE.1.1, by rw [hU]; exact h1.2.1⟩⟩ rfl hn h3.1 rfl (z_room hsm) hdg hf) h2 (fun q _ h => hA q h) (fun q h => hA q h) (fun r u' t H1 locs1 ht hvm hw hB hz1 hk1 hS => kk r u' hw H1 locs1 ls (zl_hM h1 hk1 (by rw [← ht]; exact hB)) hS h3)
theorem zl_callMv {post : z_Md → Prop} {y : MethodName} {bytes : ByteArray} {maxL N index : Nat} {ret : Option FieldType} {rm : Room} {C : String} {As st0 : List Value} (S : CallFix p m c cc nL s args z_T "MessageBankLaw") (hE : z_EL D cy t0 mi s) (hM : z_Mv l y (Cond.code y bytes maxL ret :: z_T) rm (.ref o :: As) (z_EM D cy) (z_hM D cy (z_AM o ad) o ad) M post 0 0 (z_AM o ad)) (hC : C = RX7) (g : GoodIn z_T (wsV "MessageBankLaw" index C y (Cond.code y bytes maxL ret :: z_T))) (hd : y.cls = C ∧ y.cls ≠ "java/lang/invoke/MethodHandle" ∧ y.cls ≠ "java/lang/invoke/VarHandle" ∧ (parseMethodDescriptor y.desc).map (fun d => d.parameters.length) = some N) (hR : rm.frames + 1 ≤ R.frames ∧ 8 + (maxL + 11) + rm.locals ≤ R.locals) (hrc : rm.cells = 0) (hrs : rm.slots = 0) (hn : As.length = N) (hsm : z_sm st ≤ 8) (hdg : decode cc pc = .ok (.invokevirtual index, 3)) (hf : k ≤ R.cells ∧ n ≤ R.slots) (hst : st0 = As.reverse ++ .ref o :: st)
    (kk : ∀ M', post M' → z_V (fun q => s.heap.size ≤ q) (z_hL D cy t0 s.heap.size o w ad) p l e R s m args below meth c nL Q k n (u, v, M') (pc + 3) lv st) : z_V (fun q => s.heap.size ≤ q) (z_hL D cy t0 s.heap.size o w ad) p l e R s m args below meth c nL Q k n (u, v, M) pc lv st0 := fun H locs ls h1 h2 h3 => by
  subst hst
  subst hC
  have hA : ∀ q, z_AM o ad q → s.heap.size ≤ q := fun q hq => by
    rcases hq with hq | ⟨k, hk, hq⟩
    · rw [hq]; exact h1.2.2.1
    · rw [hq]; exact h1.2.2.2.1 k hk
  exact va_callv (va_runV (As := As) (rest := st) S hM (cwV N S.2.2.2.2 g rfl hrc hrs hd hR) ⟨z_blind (z_EMok D cy (z_AM o ad)), z_recvM hE.1.1 H h1.2.1, fun U hU hW => ⟨rfl, va_K.moved hW.alike hE.1.1, by rw [hU]; exact h1.2.1⟩⟩ rfl hn h3.1 rfl (z_room hsm) hdg hf) h2 (fun q _ h => hA q h) (fun q h => hA q h) (fun u' t H1 locs1 ht hvm hw hB hz1 hk1 hS => kk u' hw H1 locs1 ls (zl_hM h1 hk1 (by rw [← ht]; exact hB)) hS h3)
theorem zl_callCi {post : Int32 → z_St → Prop} {y : MethodName} {bytes : ByteArray} {maxL N index : Nat} {ret : Option FieldType} {rm : Room} {C : String} {As st0 : List Value} {q0 : vw_C} (S : CallFix p m c cc nL s args z_T "MessageBankLaw") (hE : z_EL D cy t0 mi s) (hk : z_kd h0 u = 8 ∧ 8 ≠ 0) (hC : vwCl[8 - 1]? = some q0) (hC2 : C = q0.1) (hM : z_Mi l y (Cond.code y bytes maxL ret :: z_T) rm (va_rf (some h0) :: As) (z_EC D cy (z_AC s.heap.size o w ad) t0 mi) (z_hC D cy (z_AC s.heap.size o w ad) t0 u) u (fun r u' => post r u' ∧ z_mono u u') 0 0 (z_AC s.heap.size o w ad)) (g : GoodIn z_T (wsV "MessageBankLaw" index C y (Cond.code y bytes maxL ret :: z_T))) (hd : y.cls = C ∧ y.cls ≠ "java/lang/invoke/MethodHandle" ∧ y.cls ≠ "java/lang/invoke/VarHandle" ∧ (parseMethodDescriptor y.desc).map (fun d => d.parameters.length) = some N) (hR : rm.frames + 1 ≤ R.frames ∧ 8 + (maxL + 11) + rm.locals ≤ R.locals) (hrc : rm.cells = 0) (hrs : rm.slots = 0) (hn : As.length = N) (hsm : z_sm st ≤ 8) (hdg : decode cc pc = .ok (.invokevirtual index, 3)) (hf : k ≤ R.cells ∧ n ≤ R.slots) (hst : st0 = As.reverse ++ .ref h0 :: st)
    (kk : ∀ r u', post r u' → z_V (fun q => s.heap.size ≤ q) (z_hL D cy t0 s.heap.size o w ad) p l e R s m args below meth c nL Q k n (u', v, M) (pc + 3) lv (.int r :: st)) : z_V (fun q => s.heap.size ≤ q) (z_hL D cy t0 s.heap.size o w ad) p l e R s m args below meth c nL Q k n (u, v, M) pc lv st0 := fun H locs ls h1 h2 h3 => by
  subst hst
  subst hC2
  have hA : ∀ q, z_AC s.heap.size o w ad q → s.heap.size ≤ q := fun q hq => hq.1
  have hrv : ∃ cell : Cell, H[h0]? = some cell ∧ cell.vm.isStatics = false ∧ s.vm.findClass q0.1 = some cell.cls := by
    have hat := (h1.1.1.1 h0 (by show z_kd h0 u ≠ 0; rw [hk.1]; exact hk.2) (by show z_kd h0 u ≠ 16; rw [hk.1]; decide)).1
    have hk1 : z_kd h0 (u, v, M).1 = 8 := hk.1
    rw [z_cell_o hk1 (by decide)] at hat
    exact va_recv (q0 := 0) hE.1.1 (z_one hat) hC rfl
  exact va_calli (va_runV (As := As) (rest := st) S hM (cwV N S.2.2.2.2 g rfl hrc hrs hd hR) ⟨z_blind (z_ECok D cy _ t0 mi), hrv, fun U hU hW => ⟨rfl, (z_EL.ew hE h1 h2 hU hW).c, by rw [hU]; exact h1.1.1⟩⟩ rfl hn h3.1 rfl (z_room hsm) hdg hf) h2 (fun q _ h => hA q h) (fun q h => hA q h) (fun r u' t H1 locs1 ht hvm hw hB hz1 hk1 hS => kk r u' hw.1 H1 locs1 ls ⟨⟨by
      have hB2 : z_hC D cy (z_AC s.heap.size o w ad) t0 u u' H1 := by rw [← ht]; exact hB
      exact hB2.re, h1.1.2.1.kept (hk1 w h1.1.2.1.lt h1.1.2.2), h1.1.2.2⟩, by
      obtain ⟨c1, c2, c3, c4, c5, c6⟩ := h1.2.1
      exact ⟨c1.kept (hk1 o c1.lt (fun z => z.2.1 c3)), fun k hk => (c2 k hk).kept (hk1 _ (c2 k hk).lt (fun z => z.2.1 (c4 k hk))), c3, c4, c5, c6⟩, h1.2.2⟩ hS h3)
theorem zl_lald {own : String} (S : CallFix p m c cc nL s args z_T own) (hE : z_EL D cy t0 mi s) (hdg : decode cc pc = .ok (.laload, 1)) (kk : z_V (fun q => s.heap.size ≤ q) (z_hL D cy t0 s.heap.size o w ad) p l e R s m args below meth c nL Q k n (u, v, M) (pc + 1) lv (.long v :: st)) : z_V (fun q => s.heap.size ≤ q) (z_hL D cy t0 s.heap.size o w ad) p l e R s m args below meth c nL Q k n (u, v, M) pc lv (.int 0 :: .ref w :: st) := fun H locs ls h1 h2 h3 =>
  va_lald (D := D) (cl := vwCl) (tys := z_tys cy) (ws := [(w, .inl (cy 7, 1, .inr (.inl (z_ol v))))]) S.1 S.2.1 hE.1.1 (z_one h1.1.2.1) 0 7 rfl rfl (vp_in_nI (n := 0) (N := 1) (by omega) (by omega)) hdg (kk H locs ls h1 h2 h3)
theorem zl_sld {own : String} {σ : Type} {hp : σ → Heap → Prop} {z : σ} {b L : Nat} {xs : Nat → Int32} {i : Int32} (S : CallFix p m c cc nL s args z_T own) (hX : va_X b L xs s s.heap) (hbl : b < s.heap.size) (hin : vp_in i L) (hdg : decode cc pc = .ok (.iaload, 1)) (kk : z_V (fun q => s.heap.size ≤ q) hp p l e R s m args below meth c nL Q k n z (pc + 1) lv (.int (xs i.toNatClampNeg) :: st)) : z_V (fun q => s.heap.size ≤ q) hp p l e R s m args below meth c nL Q k n z pc lv (.int i :: .ref b :: st) := fun H locs ls h1 h2 h3 =>
  va_sld S.1 S.2.1 hX hbl (Nat.not_le.mpr hbl) h2 hin hdg (kk H locs ls h1 h2 h3)
theorem zl_slen {own : String} {σ : Type} {hp : σ → Heap → Prop} {z : σ} {b L : Nat} {xs : Nat → Int32} (S : CallFix p m c cc nL s args z_T own) (hX : va_X b L xs s s.heap) (hbl : b < s.heap.size) (hdg : decode cc pc = .ok (.arraylength, 1)) (kk : z_V (fun q => s.heap.size ≤ q) hp p l e R s m args below meth c nL Q k n z (pc + 1) lv (.int (nI L) :: st)) : z_V (fun q => s.heap.size ≤ q) hp p l e R s m args below meth c nL Q k n z pc lv (.ref b :: st) := fun H locs ls h1 h2 h3 =>
  va_slen S.1 S.2.1 hX hbl (Nat.not_le.mpr hbl) h2 hdg (kk H locs ls h1 h2 h3)
theorem zl_lcmp {A : Nat → Prop} {own : String} {σ : Type} {hp : σ → Heap → Prop} {z : σ} {x : Int64} (S : CallFix p m c cc nL s args z_T own) (hdg : decode cc pc = .ok (.lcmp, 1)) (kk : z_V A hp p l e R s m args below meth c nL Q k n z (pc + 1) lv (.int 0 :: st)) : z_V A hp p l e R s m args below meth c nL Q k n z pc lv (.long x :: .long x :: st) := fun H locs ls h1 h2 h3 => by
  have e1 : lg_cmp x x = 0 := by simp [lg_cmp]
  refine W.lcmp S.1 S.2.1 hdg ?_
  rw [e1]
  exact kk H locs ls h1 h2 h3
theorem zl_tabOut {A : Nat → Prop} {own : String} {σ : Type} {hp : σ → Heap → Prop} {z : σ} {dflt lo hi : Int} {offs : Array Int} {len : Nat} {x : Int32} (tgt : Nat) (S : CallFix p m c cc nL s args z_T own) (hdg : decode cc pc = .ok (.tableswitch dflt lo hi offs, len)) (h : x.toInt < lo ∨ hi < x.toInt) (ht : (pc : Int) + dflt = (tgt : Int)) (kk : z_V A hp p l e R s m args below meth c nL Q k n z tgt lv st) : z_V A hp p l e R s m args below meth c nL Q k n z pc lv (.int x :: st) := fun H locs ls h1 h2 h3 => lv_tableOut S.1 S.2.1 hdg h ht (kk H locs ls h1 h2 h3)
theorem zl_tabIn {A : Nat → Prop} {own : String} {σ : Type} {hp : σ → Heap → Prop} {z : σ} {dflt lo hi : Int} {offs : Array Int} {len : Nat} {x : Int32} {off : Int} (tgt : Nat) (S : CallFix p m c cc nL s args z_T own) (hdg : decode cc pc = .ok (.tableswitch dflt lo hi offs, len)) (h1 : ¬ x.toInt < lo) (h2 : ¬ hi < x.toInt) (ho : offs[(x.toInt - lo).toNat]? = some off) (ht : (pc : Int) + off = (tgt : Int)) (kk : z_V A hp p l e R s m args below meth c nL Q k n z tgt lv st) : z_V A hp p l e R s m args below meth c nL Q k n z pc lv (.int x :: st) := fun H locs ls g1 g2 g3 => lv_tableIn S.1 S.2.1 hdg h1 h2 ho ht (kk H locs ls g1 g2 g3)
end ZL
/-! what a call of the law's says -/
def zl_post (t0 N h0 : Nat) (W : (Int32 → z_Md → Prop) → Prop) (f : Int32 → Int64) : Int32 → z_WS → Prop := fun k u' => (k = 0 ∧ ∃ r, u'.2 = f r ∧ q_ok1 t0 N h0 W r u'.1) ∨ (k ≠ 0 ∧ W (fun _ M' => M' 0 0 = k ∧ q_WW t0 N h0 M' u'.1))
def zl_post0 (t0 N h0 : Nat) (W : (z_Md → Prop) → Prop) : Int32 → z_WS → Prop := fun k u' => W (fun M' => M' 0 0 = k ∧ q_WW t0 N h0 M' u'.1)
theorem q_WW.k {t0 N h0 : Nat} {M : z_Md} {u : z_St} (h : q_WW t0 N h0 M u) : z_kd h0 u = 8 ∧ 8 ≠ 0 := by
  obtain ⟨S, C, E, nb, nm, md, K, rfl, hW⟩ := h
  exact ⟨hW.2.2.2.2.1.k 0 0 (by omega) (by decide), by decide⟩
theorem zl_hx {t0 N h0 : Nat} {W : (Int32 → z_Md → Prop) → Prop} {f : Int32 → Int64} {l : List (String × Int32)} {v : Int64} (hl : ∀ p ∈ l, p.2 ≠ 0) : ∀ E u', q_okx t0 N h0 W l E u' → ∃ c0, (E, c0) ∈ l ∧ zl_post t0 N h0 W f c0 (u', v) := fun E u' h => by
  obtain ⟨c0, hc, hW⟩ := h
  exact ⟨c0, hc, Or.inr ⟨hl _ hc, hW⟩⟩
theorem zl_hx0 {t0 N h0 : Nat} {W : (z_Md → Prop) → Prop} {l : List (String × Int32)} {v : Int64} : ∀ E u', q_okx0 t0 N h0 W l E u' → ∃ c0, (E, c0) ∈ l ∧ zl_post0 t0 N h0 W c0 (u', v) := fun E u' h => by
  obtain ⟨c0, hc, hW⟩ := h
  exact ⟨c0, hc, hW⟩
