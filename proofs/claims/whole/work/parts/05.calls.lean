theorem z_inX7 : ∀ w ∈ wsX70, w ∈ lw_tbl := by decide +kernel
theorem z_goodX7 : ∀ w ∈ wsX70, goodWord w = true := by decide +kernel
/-! Contracts over a world: E is what holds of the state aside from the world's cells, hp the world. -/
def z_Eok (E : State → Prop) (A : Nat → Prop) : Prop := (∀ (U : State) (g : JFrame) (mk : MethodId) (a : Array Value), E U → E (U.calling g mk a)) ∧ ∀ (s U : State) (H : Heap) (locs : List Loc), E s → va_S A s.heap H locs → U.heap = H → s.WarmedH U.vm → E U
def z_Mi {σ : Type} (l : Launch) (y : MethodName) (ws : List Cond) (rm : Room) (avs : List Value) (E : State → Prop) (hp : σ → Heap → Prop) (u : σ) (post : Int32 → σ → Prop) (mc ms : Nat) (A : Nat → Prop) : Prop := Met l y ws rm (va_Pc avs (fun U => E U ∧ hp u U.heap)) (va_Qi post (fun (u' : σ) t => hp u' t.heap) A) mc ms A
def z_Mv {σ : Type} (l : Launch) (y : MethodName) (ws : List Cond) (rm : Room) (avs : List Value) (E : State → Prop) (hp : σ → Heap → Prop) (u : σ) (post : σ → Prop) (mc ms : Nat) (A : Nat → Prop) : Prop := Met l y ws rm (va_Pc avs (fun U => E U ∧ hp u U.heap)) (va_Qv post (fun (u' : σ) t => hp u' t.heap) A) mc ms A
def z_Mq {σ : Type} (l : Launch) (y : MethodName) (ws : List Cond) (rm : Room) (avs : List Value) (E : State → Prop) (hp : σ → Heap → Prop) (u : σ) (post : Option Nat → σ → Prop) (mc ms : Nat) (A : Nat → Prop) : Prop := Met l y ws rm (va_Pc avs (fun U => E U ∧ hp u U.heap)) (va_Qq post (fun (u' : σ) t => hp u' t.heap) A) mc ms A
theorem z_met {σ : Type} {l : Launch} {y : MethodName} {cc : ByteArray} {nL : Nat} {ret : Option FieldType} {rm : Room} {avs : List Value} {E : State → Prop} {hp : σ → Heap → Prop} {u : σ} {Qc : Array Value → State → Outcome → State → Prop} {mc ms : Nat} {A : Nat → Prop} (hy : plainName y.cls = true) (hsz : (lg_sl avs).length ≤ nL)
    (body : ∀ p e s m args below meth c, CallFix p m c cc nL s args z_T y.cls → meth.locks = false → meth.sig.returnType = ret → meth.name = y.name → E s → z_V A hp p l e rm s m args below meth c nL (MQ below Qc args s mc ms A) 0 0 u 0 (lv_args 0 avs) []) : Met l y (Cond.code y cc nL ret :: z_T) rm (va_Pc avs (fun U => E U ∧ hp u U.heap)) Qc mc ms A := by
  refine Met.ofW (cc := cc) (maxL := nL) (ret := ret) hy rfl ?_
  intro p e s m args below meth c s₁ B hml hv
  obtain ⟨rfl, hE, hh⟩ := hv
  have hts := atoms_spec (ws := Cond.code y cc nL ret :: z_T) B.pre
  have hV := body p e s m avs.toArray below meth c ⟨B.exec, B.bytes, hml, findClass_of_methodNamed B.named, fun w hw => hts w (List.mem_cons_of_mem _ hw)⟩ B.notSynchronized B.returns (name_of_methodNamed B.named B.method).1 hE
  have hl := lv_entry avs (n := nL) hsz
  rw [lg_entry_eq]
  exact hV s.heap [] _ hh va_S.rf hl
section ZC
variable {p : Program} {l : Launch} {e : Env} {R : Room} {s : State} {m : MethodId} {args : Array Value} {below : List Frame} {meth : Method} {c : Code} {Q : State → Prop} {cc : ByteArray} {nL : Nat} {own : String} {A : Nat → Prop} {σ : Type} {hp : σ → Heap → Prop} {k n : Nat} {u : σ} {pc : Nat} {lv : List (Nat × Value)} {st : List Value}
theorem z_iret {post : Int32 → σ → Prop} {mc ms : Nat} {v : Int32} (S : CallFix p m c cc nL s args z_T own) (hr : meth.sig.returnType = some .int) (hlk : meth.locks = false) (hdg : decode cc pc = .ok (.ireturn, 1)) (hk : k ≤ mc) (hn : n ≤ ms) (h0 : post v u) : z_V A hp p l e R s m args below meth c nL (MQ below (va_Qi post (fun (u' : σ) t => hp u' t.heap) A) args s mc ms A) k n u pc lv [.int v] := fun H locs ls h1 h2 h3 =>
  W.widen hk hn (W.iret S.1 S.2.1 hr (fun t ht hW => ⟨⟨v, u, rfl, h0, by show hp u t.heap; rw [ht]; exact h1⟩, h2.F ht⟩) h2.2.2 hdg hlk)
theorem z_zret {post : Int32 → σ → Prop} {mc ms : Nat} {v : Int32} (S : CallFix p m c cc nL s args z_T own) (hr : meth.sig.returnType = some .boolean) (hlk : meth.locks = false) (hdg : decode cc pc = .ok (.ireturn, 1)) (hk : k ≤ mc) (hn : n ≤ ms) (hb : narrow .boolean (.int v) = .int v) (h0 : post v u) : z_V A hp p l e R s m args below meth c nL (MQ below (va_Qi post (fun (u' : σ) t => hp u' t.heap) A) args s mc ms A) k n u pc lv [.int v] := fun H locs ls h1 h2 h3 =>
  W.widen hk hn (W.zret S.1 S.2.1 hr hb (fun t ht hW => ⟨⟨v, u, rfl, h0, by show hp u t.heap; rw [ht]; exact h1⟩, h2.F ht⟩) h2.2.2 hdg hlk)
theorem z_vret {post : σ → Prop} {mc ms : Nat} (S : CallFix p m c cc nL s args z_T own) (hr : meth.sig.returnType = none) (hlk : meth.locks = false) (hdg : decode cc pc = .ok (.return_, 1)) (hk : k ≤ mc) (hn : n ≤ ms) (h0 : post u) : z_V A hp p l e R s m args below meth c nL (MQ below (va_Qv post (fun (u' : σ) t => hp u' t.heap) A) args s mc ms A) k n u pc lv [] := fun H locs ls h1 h2 h3 =>
  W.widen hk hn (W.vret S.1 S.2.1 hr (fun t ht hW => ⟨⟨u, rfl, h0, by show hp u t.heap; rw [ht]; exact h1⟩, h2.F ht⟩) h2.2.2 hdg hlk)
theorem z_aret {post : Option Nat → σ → Prop} {mc ms : Nat} {v : Option Nat} {rt : FieldType} (S : CallFix p m c cc nL s args z_T own) (hr : meth.sig.returnType = some rt) (hrt : (∃ n, rt = .object n) ∨ ∃ t, rt = .array t) (hlk : meth.locks = false) (hdg : decode cc pc = .ok (.areturn, 1)) (hk : k ≤ mc) (hn : n ≤ ms) (h0 : post v u) : z_V A hp p l e R s m args below meth c nL (MQ below (va_Qq post (fun (u' : σ) t => hp u' t.heap) A) args s mc ms A) k n u pc lv [va_rf v] := fun H locs ls h1 h2 h3 =>
  W.widen hk hn (W.aret S.1 S.2.1 hr hrt (va_rf_or v) (fun t ht hW => ⟨⟨v, u, rfl, h0, by show hp u t.heap; rw [ht]; exact h1⟩, h2.F ht⟩) h2.2.2 hdg hlk)
theorem z_top {x : Int32} (kk : ∀ y : Int32, y = x → z_V A hp p l e R s m args below meth c nL Q k n u pc lv (.int y :: st)) : z_V A hp p l e R s m args below meth c nL Q k n u pc lv (.int x :: st) := kk x rfl
theorem z_blind {E : State → Prop} {hp' : σ → Heap → Prop} {avs : List Value} (hEo : z_Eok E A) : FrameBlind (va_Pc avs (fun U => E U ∧ hp' u U.heap)) := fun a U g mk q => ⟨q.1, hEo.1 U g mk a q.2.1, q.2.2⟩
theorem z_room {st st0 : List Value} {ls : Array Slot} (h : z_sm st ≤ 8) : 2 * (F0 m pc ls st0).monitorRoom + (st.map fun v => v.category).sum ≤ 8 := by
  show 2 * 0 + z_sm st ≤ 8
  omega

theorem z_callVi {E : State → Prop} {hp' : σ → Heap → Prop} {post : Int32 → σ → Prop} {y : MethodName} {b : Nat} {bytes : ByteArray} {maxL N mc ms index : Nat} {ret : Option FieldType} {rm : Room} {C : String} {As st0 : List Value} (S : CallFix p m c cc nL s args z_T own) (hEo : z_Eok E A) (hEs : E s) (hM : z_Mi l y (Cond.code y bytes maxL ret :: z_T) rm (.ref b :: As) E hp' u post mc ms A) (g : GoodIn z_T (wsV own index C y (Cond.code y bytes maxL ret :: z_T))) (hd : y.cls = C ∧ y.cls ≠ "java/lang/invoke/MethodHandle" ∧ y.cls ≠ "java/lang/invoke/VarHandle" ∧ (parseMethodDescriptor y.desc).map (fun d => d.parameters.length) = some N) (hR : rm.frames + 1 ≤ R.frames ∧ 8 + (maxL + 11) + rm.locals ≤ R.locals) (hrc : rm.cells = mc) (hrs : rm.slots = ms) (hrv : ∀ H : Heap, hp u H → ∃ cell : Cell, H[b]? = some cell ∧ cell.vm.isStatics = false ∧ s.vm.findClass C = some cell.cls) (hin : ∀ H : Heap, hp u H → hp' u H) (hout : ∀ (H H1 : Heap) (u' : σ), hp u H → hp' u' H1 → hp u' H1) (hn : As.length = N) (hsm : z_sm st ≤ 8) (hdg : decode cc pc = .ok (.invokevirtual index, 3)) (hf : k + mc ≤ R.cells ∧ n + ms ≤ R.slots) (hst : st0 = As.reverse ++ .ref b :: st)
    (kk : ∀ r u', post r u' → z_V A hp p l e R s m args below meth c nL Q (k + mc) (n + ms) u' (pc + 3) lv (.int r :: st)) : z_V A hp p l e R s m args below meth c nL Q k n u pc lv st0 := fun H locs ls h1 h2 h3 => by
  subst hst
  exact va_calli (va_runV (As := As) (rest := st) S hM (cwV N S.2.2.2.2 g rfl hrc hrs hd hR) ⟨z_blind hEo, hrv H h1, fun U hU hW => ⟨rfl, hEo.2 s U H locs hEs h2 hU hW, by rw [hU]; exact hin H h1⟩⟩ rfl hn h3.1 rfl (z_room hsm) hdg hf) h2 (fun q _ h => h) (fun q h => h) (fun r u' t H1 locs1 ht hvm hw hB hz1 hk1 hS => kk r u' hw H1 locs1 ls (hout H H1 u' h1 (by rw [← ht]; exact hB)) hS h3)
theorem z_callVv {E : State → Prop} {hp' : σ → Heap → Prop} {post : σ → Prop} {y : MethodName} {b : Nat} {bytes : ByteArray} {maxL N mc ms index : Nat} {ret : Option FieldType} {rm : Room} {C : String} {As st0 : List Value} (S : CallFix p m c cc nL s args z_T own) (hEo : z_Eok E A) (hEs : E s) (hM : z_Mv l y (Cond.code y bytes maxL ret :: z_T) rm (.ref b :: As) E hp' u post mc ms A) (g : GoodIn z_T (wsV own index C y (Cond.code y bytes maxL ret :: z_T))) (hd : y.cls = C ∧ y.cls ≠ "java/lang/invoke/MethodHandle" ∧ y.cls ≠ "java/lang/invoke/VarHandle" ∧ (parseMethodDescriptor y.desc).map (fun d => d.parameters.length) = some N) (hR : rm.frames + 1 ≤ R.frames ∧ 8 + (maxL + 11) + rm.locals ≤ R.locals) (hrc : rm.cells = mc) (hrs : rm.slots = ms) (hrv : ∀ H : Heap, hp u H → ∃ cell : Cell, H[b]? = some cell ∧ cell.vm.isStatics = false ∧ s.vm.findClass C = some cell.cls) (hin : ∀ H : Heap, hp u H → hp' u H) (hout : ∀ (H H1 : Heap) (u' : σ), hp u H → hp' u' H1 → hp u' H1) (hn : As.length = N) (hsm : z_sm st ≤ 8) (hdg : decode cc pc = .ok (.invokevirtual index, 3)) (hf : k + mc ≤ R.cells ∧ n + ms ≤ R.slots) (hst : st0 = As.reverse ++ .ref b :: st)
    (kk : ∀ u', post u' → z_V A hp p l e R s m args below meth c nL Q (k + mc) (n + ms) u' (pc + 3) lv st) : z_V A hp p l e R s m args below meth c nL Q k n u pc lv st0 := fun H locs ls h1 h2 h3 => by
  subst hst
  exact va_callv (va_runV (As := As) (rest := st) S hM (cwV N S.2.2.2.2 g rfl hrc hrs hd hR) ⟨z_blind hEo, hrv H h1, fun U hU hW => ⟨rfl, hEo.2 s U H locs hEs h2 hU hW, by rw [hU]; exact hin H h1⟩⟩ rfl hn h3.1 rfl (z_room hsm) hdg hf) h2 (fun q _ h => h) (fun q h => h) (fun u' t H1 locs1 ht hvm hw hB hz1 hk1 hS => kk u' hw H1 locs1 ls (hout H H1 u' h1 (by rw [← ht]; exact hB)) hS h3)
theorem z_callVq {E : State → Prop} {hp' : σ → Heap → Prop} {post : Option Nat → σ → Prop} {y : MethodName} {b : Nat} {bytes : ByteArray} {maxL N mc ms index : Nat} {ret : Option FieldType} {rm : Room} {C : String} {As st0 : List Value} (S : CallFix p m c cc nL s args z_T own) (hEo : z_Eok E A) (hEs : E s) (hM : z_Mq l y (Cond.code y bytes maxL ret :: z_T) rm (.ref b :: As) E hp' u post mc ms A) (g : GoodIn z_T (wsV own index C y (Cond.code y bytes maxL ret :: z_T))) (hd : y.cls = C ∧ y.cls ≠ "java/lang/invoke/MethodHandle" ∧ y.cls ≠ "java/lang/invoke/VarHandle" ∧ (parseMethodDescriptor y.desc).map (fun d => d.parameters.length) = some N) (hR : rm.frames + 1 ≤ R.frames ∧ 8 + (maxL + 11) + rm.locals ≤ R.locals) (hrc : rm.cells = mc) (hrs : rm.slots = ms) (hrv : ∀ H : Heap, hp u H → ∃ cell : Cell, H[b]? = some cell ∧ cell.vm.isStatics = false ∧ s.vm.findClass C = some cell.cls) (hin : ∀ H : Heap, hp u H → hp' u H) (hout : ∀ (H H1 : Heap) (u' : σ), hp u H → hp' u' H1 → hp u' H1) (hn : As.length = N) (hsm : z_sm st ≤ 8) (hdg : decode cc pc = .ok (.invokevirtual index, 3)) (hf : k + mc ≤ R.cells ∧ n + ms ≤ R.slots) (hst : st0 = As.reverse ++ .ref b :: st)
    (kk : ∀ r u', post r u' → z_V A hp p l e R s m args below meth c nL Q (k + mc) (n + ms) u' (pc + 3) lv (va_rf r :: st)) : z_V A hp p l e R s m args below meth c nL Q k n u pc lv st0 := fun H locs ls h1 h2 h3 => by
  subst hst
  exact va_callq (va_runV (As := As) (rest := st) S hM (cwV N S.2.2.2.2 g rfl hrc hrs hd hR) ⟨z_blind hEo, hrv H h1, fun U hU hW => ⟨rfl, hEo.2 s U H locs hEs h2 hU hW, by rw [hU]; exact hin H h1⟩⟩ rfl hn h3.1 rfl (z_room hsm) hdg hf) h2 (fun q _ h => h) (fun q h => h) (fun r u' t H1 locs1 ht hvm hw hB hz1 hk1 hS => kk r u' hw H1 locs1 ls (hout H H1 u' h1 (by rw [← ht]; exact hB)) hS h3)
theorem z_callSi {E : State → Prop} {hp' : σ → Heap → Prop} {post : Int32 → σ → Prop} {y : MethodName} {bytes : ByteArray} {maxL N mc ms index : Nat} {ret : Option FieldType} {rm : Room} {As st0 : List Value} (S : CallFix p m c cc nL s args z_T own) (hEo : z_Eok E A) (hEs : E s) (hM : z_Mi l y (Cond.code y bytes maxL ret :: z_T) rm As E hp' u post mc ms A) (g : GoodIn z_T (va_wsS own index y (Cond.code y bytes maxL ret :: z_T))) (hd : y.cls ≠ "java/lang/invoke/MethodHandle" ∧ y.cls ≠ "java/lang/invoke/VarHandle" ∧ (parseMethodDescriptor y.desc).map (fun d => d.parameters.length) = some N) (hR : rm.frames + 1 ≤ R.frames ∧ 8 + (maxL + 11) + rm.locals ≤ R.locals) (hrc : rm.cells = mc) (hrs : rm.slots = ms) (hin : ∀ H : Heap, hp u H → hp' u H) (hout : ∀ (H H1 : Heap) (u' : σ), hp u H → hp' u' H1 → hp u' H1) (hn : As.length = N) (hsm : z_sm st ≤ 8) (hdg : decode cc pc = .ok (.invokestatic index, 3)) (hf : k + mc ≤ R.cells ∧ n + ms ≤ R.slots) (hst : st0 = As.reverse ++ st)
    (kk : ∀ r u', post r u' → z_V A hp p l e R s m args below meth c nL Q (k + mc) (n + ms) u' (pc + 3) lv (.int r :: st)) : z_V A hp p l e R s m args below meth c nL Q k n u pc lv st0 := fun H locs ls h1 h2 h3 => by
  subst hst
  exact va_calli (va_runS (As := As) (rest := st) S hM (va_cwS N S.2.2.2.2 g rfl hrc hrs hd hR) ⟨z_blind hEo, fun U hU hW => ⟨rfl, hEo.2 s U H locs hEs h2 hU hW, by rw [hU]; exact hin H h1⟩⟩ rfl hn h3.1 rfl (z_room hsm) hdg hf) h2 (fun q _ h => h) (fun q h => h) (fun r u' t H1 locs1 ht hvm hw hB hz1 hk1 hS => kk r u' hw H1 locs1 ls (hout H H1 u' h1 (by rw [← ht]; exact hB)) hS h3)
theorem z_callSv {E : State → Prop} {hp' : σ → Heap → Prop} {post : σ → Prop} {y : MethodName} {bytes : ByteArray} {maxL N mc ms index : Nat} {ret : Option FieldType} {rm : Room} {As st0 : List Value} (S : CallFix p m c cc nL s args z_T own) (hEo : z_Eok E A) (hEs : E s) (hM : z_Mv l y (Cond.code y bytes maxL ret :: z_T) rm As E hp' u post mc ms A) (g : GoodIn z_T (va_wsS own index y (Cond.code y bytes maxL ret :: z_T))) (hd : y.cls ≠ "java/lang/invoke/MethodHandle" ∧ y.cls ≠ "java/lang/invoke/VarHandle" ∧ (parseMethodDescriptor y.desc).map (fun d => d.parameters.length) = some N) (hR : rm.frames + 1 ≤ R.frames ∧ 8 + (maxL + 11) + rm.locals ≤ R.locals) (hrc : rm.cells = mc) (hrs : rm.slots = ms) (hin : ∀ H : Heap, hp u H → hp' u H) (hout : ∀ (H H1 : Heap) (u' : σ), hp u H → hp' u' H1 → hp u' H1) (hn : As.length = N) (hsm : z_sm st ≤ 8) (hdg : decode cc pc = .ok (.invokestatic index, 3)) (hf : k + mc ≤ R.cells ∧ n + ms ≤ R.slots) (hst : st0 = As.reverse ++ st)
    (kk : ∀ u', post u' → z_V A hp p l e R s m args below meth c nL Q (k + mc) (n + ms) u' (pc + 3) lv st) : z_V A hp p l e R s m args below meth c nL Q k n u pc lv st0 := fun H locs ls h1 h2 h3 => by
  subst hst
  exact va_callv (va_runS (As := As) (rest := st) S hM (va_cwS N S.2.2.2.2 g rfl hrc hrs hd hR) ⟨z_blind hEo, fun U hU hW => ⟨rfl, hEo.2 s U H locs hEs h2 hU hW, by rw [hU]; exact hin H h1⟩⟩ rfl hn h3.1 rfl (z_room hsm) hdg hf) h2 (fun q _ h => h) (fun q h => h) (fun u' t H1 locs1 ht hvm hw hB hz1 hk1 hS => kk u' hw H1 locs1 ls (hout H H1 u' h1 (by rw [← ht]; exact hB)) hS h3)
theorem z_callSq {E : State → Prop} {hp' : σ → Heap → Prop} {post : Option Nat → σ → Prop} {y : MethodName} {bytes : ByteArray} {maxL N mc ms index : Nat} {ret : Option FieldType} {rm : Room} {As st0 : List Value} (S : CallFix p m c cc nL s args z_T own) (hEo : z_Eok E A) (hEs : E s) (hM : z_Mq l y (Cond.code y bytes maxL ret :: z_T) rm As E hp' u post mc ms A) (g : GoodIn z_T (va_wsS own index y (Cond.code y bytes maxL ret :: z_T))) (hd : y.cls ≠ "java/lang/invoke/MethodHandle" ∧ y.cls ≠ "java/lang/invoke/VarHandle" ∧ (parseMethodDescriptor y.desc).map (fun d => d.parameters.length) = some N) (hR : rm.frames + 1 ≤ R.frames ∧ 8 + (maxL + 11) + rm.locals ≤ R.locals) (hrc : rm.cells = mc) (hrs : rm.slots = ms) (hin : ∀ H : Heap, hp u H → hp' u H) (hout : ∀ (H H1 : Heap) (u' : σ), hp u H → hp' u' H1 → hp u' H1) (hn : As.length = N) (hsm : z_sm st ≤ 8) (hdg : decode cc pc = .ok (.invokestatic index, 3)) (hf : k + mc ≤ R.cells ∧ n + ms ≤ R.slots) (hst : st0 = As.reverse ++ st)
    (kk : ∀ r u', post r u' → z_V A hp p l e R s m args below meth c nL Q (k + mc) (n + ms) u' (pc + 3) lv (va_rf r :: st)) : z_V A hp p l e R s m args below meth c nL Q k n u pc lv st0 := fun H locs ls h1 h2 h3 => by
  subst hst
  exact va_callq (va_runS (As := As) (rest := st) S hM (va_cwS N S.2.2.2.2 g rfl hrc hrs hd hR) ⟨z_blind hEo, fun U hU hW => ⟨rfl, hEo.2 s U H locs hEs h2 hU hW, by rw [hU]; exact hin H h1⟩⟩ rfl hn h3.1 rfl (z_room hsm) hdg hf) h2 (fun q _ h => h) (fun q h => h) (fun r u' t H1 locs1 ht hvm hw hB hz1 hk1 hS => kk r u' hw H1 locs1 ls (hout H H1 u' h1 (by rw [← ht]; exact hB)) hS h3)
theorem z_callIv {E : State → Prop} {hp' : σ → Heap → Prop} {post : σ → Prop} {y : MethodName} {b : Nat} {bytes : ByteArray} {maxL N mc ms index : Nat}  {rm : Room} {As st0 : List Value} (S : CallFix p m c cc nL s args z_T own) (hEo : z_Eok E A) (hEs : E s) (hM : z_Mv l y (Cond.code y bytes maxL none :: z_T) rm (.ref b :: As) E hp' u post mc ms A) (g : GoodIn z_T (Cond.code y bytes maxL none :: z_T)) (hini : Cond.initialized y.cls ∈ z_T) (hlk : Cond.methodLink own index y ∈ z_T) (hins : Cond.instanceMethod y ∈ z_T) (hy1 : y.name = "<init>") (hd : y.cls ≠ "java/lang/invoke/MethodHandle" ∧ y.cls ≠ "java/lang/invoke/VarHandle" ∧ (parseMethodDescriptor y.desc).map (fun d => d.parameters.length) = some N) (hR : rm.frames + 1 ≤ R.frames ∧ 8 + (maxL + 11) + rm.locals ≤ R.locals) (hrc : rm.cells = mc) (hrs : rm.slots = ms) (hin : ∀ H : Heap, hp u H → hp' u H) (hout : ∀ (H H1 : Heap) (u' : σ), hp u H → hp' u' H1 → hp u' H1) (hn : As.length = N) (hsm : z_sm st ≤ 8) (hdg : decode cc pc = .ok (.invokespecial index, 3)) (hf : k + mc ≤ R.cells ∧ n + ms ≤ R.slots) (hst : st0 = As.reverse ++ .ref b :: st)
    (kk : ∀ u', post u' → z_V A hp p l e R s m args below meth c nL Q (k + mc) (n + ms) u' (pc + 3) lv st) : z_V A hp p l e R s m args below meth c nL Q k n u pc lv st0 := fun H locs ls h1 h2 h3 => by
  subst hst
  exact va_callv (va_runI (As := As) (rest := st) S hM (cwI N S.2.2.2.2 g rfl hrc hrs (S.2.2.2.2 _ hini) (S.2.2.2.2 _ hlk) (S.2.2.2.2 _ hins) hy1 hd hR) ⟨z_blind hEo, fun U hU hW => ⟨rfl, hEo.2 s U H locs hEs h2 hU hW, by rw [hU]; exact hin H h1⟩⟩ rfl hn h3.1 rfl (z_room hsm) hdg hf) h2 (fun q _ h => h) (fun q h => h) (fun u' t H1 locs1 ht hvm hw hB hz1 hk1 hS => kk u' hw H1 locs1 ls (hout H H1 u' h1 (by rw [← ht]; exact hB)) hS h3)
end ZC
/-! THE REFERENCE's world: one object o, its arrays at the cells ad k; M k j: entry j of the array of field k, a plain field's value is M k 0 -/
abbrev z_Md : Type := Nat → Nat → Int32
def z_mAr (k : Nat) : Bool := decide (k < 30) && decide (k ≠ 0) && decide (k ≠ 10) && decide (k ≠ 13) && decide (k ≠ 14)
def z_mLen : Nat → Nat
  | 1 => 49
  | 2 => 40
  | 3 => 40
  | 4 => 160
  | 5 => 160
  | 6 => 48
  | 7 => 48
  | 8 => 48
  | 9 => 48
  | 11 => 4
  | 12 => 12
  | 15 => 16
  | 16 => 16
  | 17 => 16
  | 18 => 16
  | 19 => 16
  | 20 => 3
  | 21 => 3
  | 22 => 3
  | 23 => 3
  | 24 => 3
  | 25 => 3
  | 26 => 24
  | 27 => 3
  | 28 => 3
  | 29 => 3
  | _ => 0
def z_mZ (k : Nat) : Nat := if k = 7 ∨ k = 20 ∨ k = 24 then 1 else 0
def z_tys (cy : Nat → ClassId) : List (ClassId × FieldType) := [(cy 0, .int), (cy 1, .boolean), (cy 2, .object "MessageBank$Block"), (cy 3, .object "MessageBank$Box"), (cy 4, .object "MessageBank$Line"), (cy 5, .object "MessageBank$Recording"), (cy 6, .object "java/lang/Object"), (cy 7, .long)]
def z_mF (ad : Nat → Nat) (M : z_Md) : List Value := [.int (M 0 0), .ref (ad 1), .ref (ad 2), .ref (ad 3), .ref (ad 4), .ref (ad 5), .ref (ad 6), .ref (ad 7), .ref (ad 8), .ref (ad 9), .int (M 10 0), .ref (ad 11), .ref (ad 12), .int (M 13 0), .int (M 14 0), .ref (ad 15), .ref (ad 16), .ref (ad 17), .ref (ad 18), .ref (ad 19), .ref (ad 20), .ref (ad 21), .ref (ad 22), .ref (ad 23), .ref (ad 24), .ref (ad 25), .ref (ad 26), .ref (ad 27), .ref (ad 28), .ref (ad 29), .int (M 30 0), .int (M 31 0)]
def z_up {α : Type} (F : Nat → Nat → α) (f a : Nat) (v : α) : Nat → Nat → α := fun f' a' => if f' = f ∧ a' = a then v else F f' a'
theorem z_up_s {α : Type} (F : Nat → Nat → α) (f a : Nat) (v : α) : z_up F f a v f a = v := by simp [z_up]
theorem z_up_f {α : Type} (F : Nat → Nat → α) {f f' : Nat} (a : Nat) (v : α) (h : f' ≠ f) : z_up F f a v f' = F f' := by funext a'; simp [z_up, h]
theorem z_up_a {α : Type} (F : Nat → Nat → α) (f : Nat) {a a' : Nat} (v : α) (f' : Nat) (h : a' ≠ a) : z_up F f a v f' a' = F f' a' := by simp [z_up, h]
theorem z_up_e {α : Type} (F : Nat → Nat → α) (f a : Nat) (v : α) (f' a' : Nat) : z_up F f a v f' a' = if f' = f ∧ a' = a then v else F f' a' := rfl
def z_hM (D : va_G) (cy : Nat → ClassId) (A : Nat → Prop) (o : Nat) (ad : Nat → Nat) (M : z_Md) (H : Heap) : Prop :=
  va_at D vwCl (o, .inr (8, z_mF ad M)) H ∧ (∀ k, z_mAr k = true → va_at D vwCl (ad k, .inl (cy (z_mZ k), z_mLen k, .inl (M k))) H) ∧ A o ∧ (∀ k, z_mAr k = true → A (ad k)) ∧ (∀ k, z_mAr k = true → ad k ≠ o) ∧ ∀ j k, z_mAr j = true → z_mAr k = true → ad j = ad k → j = k
def z_EM (D : va_G) (cy : Nat → ClassId) (U : State) : Prop := va_K D vwCl (z_tys cy) U
theorem z_EMok (D : va_G) (cy : Nat → ClassId) (A : Nat → Prop) : z_Eok (z_EM D cy) A := ⟨fun U g mk a h => va_K.moved (u := U) (U := U.calling g mk a) (Vm.Alike.refl U.vm) h, fun s U H locs h _ _ hW => va_K.moved hW.alike h⟩
theorem z_hM_put {D : va_G} {cy : Nat → ClassId} {A : Nat → Prop} {o : Nat} {ad : Nat → Nat} {M : z_Md} {H H1 : Heap} (h : z_hM D cy A o ad M H) {j i : Nat} {x : Int32} (hj : z_mAr j = true) (e : H1[ad j]? = some (vp_cell (cy (z_mZ j)) (z_mLen j, .inl (upd (M j) i x)))) (oq : ∀ q : Nat, q ≠ ad j → H1[q]? = H[q]?) : z_hM D cy A o ad (z_up M j i x) H1 := by
  obtain ⟨h1, h2, h3, h4, h5, h6⟩ := h
  have hf : z_mF ad (z_up M j i x) = z_mF ad M := by
    have g : ∀ q, z_mAr q = false → z_up M j i x q = M q := fun q hq => z_up_f M i x (fun z => by rw [z, hj] at hq; cases hq)
    simp only [z_mF, g 0 rfl, g 10 rfl, g 13 rfl, g 14 rfl, g 30 rfl, g 31 rfl]
  refine ⟨?_, fun k hk => ?_, h3, h4, h5, h6⟩
  · rw [hf]; exact h1.kept (oq o (Ne.symm (h5 j hj)))
  · by_cases hkj : k = j
    · subst hkj
      have hu : z_up M k i x k = upd (M k) i x := by
        funext a
        simp only [z_up, upd, true_and]
      show H1[ad k]? = some (vp_cell _ _)
      rw [hu]; exact e
    · rw [z_up_f M i x hkj]
      exact (h2 k hk).kept (oq (ad k) (fun z => hkj (h6 k j hk hj z)))
section ZM
variable {p : Program} {l : Launch} {e : Env} {R : Room} {s : State} {m : MethodId} {args : Array Value} {below : List Frame} {meth : Method} {c : Code} {Q : State → Prop} {cc : ByteArray} {nL : Nat} {own : String} {A : Nat → Prop} {k n : Nat} {pc : Nat} {lv : List (Nat × Value)} {st : List Value} {D : va_G} {cy : Nat → ClassId} {o : Nat} {ad : Nat → Nat} {M : z_Md}
theorem z_recvM {s : State} (hE : z_EM D cy s) : ∀ H : Heap, z_hM D cy A o ad M H → ∃ cell : Cell, H[o]? = some cell ∧ cell.vm.isStatics = false ∧ s.vm.findClass RX7 = some cell.cls := fun H h => va_recv (ws := [(o, .inr (8, z_mF ad M))]) (q0 := 0) (ci := 8) (q := (RX7, TX7, 32)) hE (fun k q hk => by
  match k, hk with
  | 0, hk => cases hk; exact h.1
  | k + 1, hk => simp at hk) rfl rfl
theorem z_wsM : ∀ w ∈ wsX70, w ∈ z_T := by
  intro w hw
  exact List.mem_filter.mpr ⟨z_inX7 w hw, z_goodX7 w hw⟩
theorem z_mget {index k0 : Nat} {v : Value} (S : CallFix p m c cc nL s args z_T RX7) (hE : z_EM D cy s) (hk : k0 < 32) (hlink : Cond.fieldLink RX7 index RX7 (TX7 k0).2.1 (TX7 k0).2.2.1 ∈ z_T) (hh : (TX7 k0).1 = RX7) (hv : (z_mF ad M)[k0]? = some v) (hdg : decode cc pc = .ok (.getfield index, 3)) (kk : z_V A (z_hM D cy A o ad) p l e R s m args below meth c nL Q k n M (pc + 3) lv (v :: st)) : z_V A (z_hM D cy A o ad) p l e R s m args below meth c nL Q k n M pc lv (.ref o :: st) := fun H locs ls h1 h2 h3 =>
  va_get (D := D) (cl := vwCl) (ws := [(o, .inr (8, z_mF ad M))]) (ci := 8) (v := v) (C := RX7) (T := TX7) (N := 32) (ref := RX7) S.1 S.2.1 S.2.2.2.2 z_wsM S.2.2.2.1 hE (fun k q hk => by
  match k, hk with
  | 0, hk => cases hk; exact h1.1
  | k + 1, hk => simp at hk) 0 rfl rfl k0 hk (S.2.2.2.2 _ hlink) (by rw [hh]; exact fun _ h => h) hv hdg (kk H locs ls h1 h2 h3)
theorem z_mput {index k0 : Nat} {x : Int32} (S : CallFix p m c cc nL s args z_T RX7) (hE : z_EM D cy s) (hk : k0 < 32) (hlink : Cond.fieldLink RX7 index RX7 (TX7 k0).2.1 (TX7 k0).2.2.1 ∈ z_T) (hh : (TX7 k0).1 = RX7) (hfin : (TX7 k0).2.2.2 = false) (hd : parseFieldDescriptor (TX7 k0).2.2.1 = some .int) (hF : (z_mF ad M).set k0 (.int x) = z_mF ad (z_up M k0 0 x)) (hA : z_mAr k0 = false) (hdg : decode cc pc = .ok (.putfield index, 3)) (kk : z_V A (z_hM D cy A o ad) p l e R s m args below meth c nL Q k n (z_up M k0 0 x) (pc + 3) lv st) : z_V A (z_hM D cy A o ad) p l e R s m args below meth c nL Q k n M pc lv (.int x :: .ref o :: st) := fun H locs ls h1 h2 h3 => by
  have hap := va_apart (own := RX7) S.2.2.2.2 z_wsM tyX7 tyX7_ok nmX7 hE (ci := 8) (C := RX7) (T := TX7) (N := 32) rfl
  obtain ⟨a1, a2, a3, a4, a5, a6⟩ := h1
  obtain ⟨r, q0, cell, q1, q2, q3, q4⟩ := a1
  have hr : r = (RX7, TX7, 32) := Option.some.inj (q0.symm.trans rfl)
  subst hr
  obtain ⟨hS, hfc, kC, hkC, hkind⟩ := hE.1 8 _ rfl
  obtain ⟨cf, kf, fi, f, hi, hsl⟩ := hS k0 hk
  have hlay := S.2.2.2.2 _ (z_wsM _ (u_in_lay hk))
  unfold u_lay at hlay
  rw [if_neg (by rw [hfin]; decide)] at hlay
  have hst := (u_facts hfc hkC (u_lays S.2.2.2.2 z_wsM hk) hi).1
  have h6 := u_store hfc hkC hkind hlay hi hd (v := .int x) rfl rfl
  refine W.putK S.1 S.2.1 (f := f) ⟨S.2.2.2.1, S.2.2.2.2 _ hlink, ⟨_, _, _, by rw [hh] at hi; exact hi⟩, hst⟩ (by rw [q2]; exact h6) q1 q3 (by rw [hsl]; exact k2_hasslot (q4 k0 hk)) rfl rfl hdg fun H' e1 e2 e3 => ?_
  rw [hsl] at e1 ⊢
  have hl : k0 < (z_mF ad M).length := hk
  refine kk H' _ ls ⟨?_, fun j hj => ?_, a3, a4, a5, a6⟩ (h2.put e2 e3 a3) h3
  · rw [← hF]
    exact ⟨_, rfl, t_OB.to (V := updV (vp_V (z_mF ad M)) k0 (.int x)) ⟨_, e1, q2, q3, t_set q4 hap hk (.int x)⟩ (fun j _ => vp_updV_set hl (.int x) j)⟩
  · rw [z_up_f M 0 x (fun z => by rw [z, hA] at hj; cases hj)]
    exact (a2 j hj).kept (e3 (ad j) (a5 j hj))
theorem z_mald {j : Nat} {i : Int32} (S : CallFix p m c cc nL s args z_T own) (hE : z_EM D cy s) (hj : z_mAr j = true) (hz : z_mZ j = 0) (hin : vp_in i (z_mLen j)) (hdg : decode cc pc = .ok (.iaload, 1)) (kk : z_V A (z_hM D cy A o ad) p l e R s m args below meth c nL Q k n M (pc + 1) lv (.int (M j i.toNatClampNeg) :: st)) : z_V A (z_hM D cy A o ad) p l e R s m args below meth c nL Q k n M pc lv (.int i :: .ref (ad j) :: st) := fun H locs ls h1 h2 h3 =>
  va_iald (D := D) (cl := vwCl) (ws := [(ad j, .inl (cy (z_mZ j), z_mLen j, .inl (M j)))]) S.1 S.2.1 hE (fun k q hk => by
  match k, hk with
  | 0, hk => cases hk; exact h1.2.1 j hj
  | k + 1, hk => simp at hk) 0 0 rfl (by rw [hz]; rfl) hin hdg (kk H locs ls h1 h2 h3)
theorem z_mzld {j : Nat} {i : Int32} (S : CallFix p m c cc nL s args z_T own) (hE : z_EM D cy s) (hj : z_mAr j = true) (hz : z_mZ j = 1) (hin : vp_in i (z_mLen j)) (hdg : decode cc pc = .ok (.baload, 1)) (kk : z_V A (z_hM D cy A o ad) p l e R s m args below meth c nL Q k n M (pc + 1) lv (.int (M j i.toNatClampNeg) :: st)) : z_V A (z_hM D cy A o ad) p l e R s m args below meth c nL Q k n M pc lv (.int i :: .ref (ad j) :: st) := fun H locs ls h1 h2 h3 =>
  va_zald (D := D) (cl := vwCl) (ws := [(ad j, .inl (cy (z_mZ j), z_mLen j, .inl (M j)))]) S.1 S.2.1 hE (fun k q hk => by
  match k, hk with
  | 0, hk => cases hk; exact h1.2.1 j hj
  | k + 1, hk => simp at hk) 0 1 rfl (by rw [hz]; rfl) hin hdg (kk H locs ls h1 h2 h3)
theorem z_mast {j : Nat} {i x : Int32} (S : CallFix p m c cc nL s args z_T own) (hE : z_EM D cy s) (hj : z_mAr j = true) (hz : z_mZ j = 0) (hin : vp_in i (z_mLen j)) (hdg : decode cc pc = .ok (.iastore, 1)) (kk : z_V A (z_hM D cy A o ad) p l e R s m args below meth c nL Q k n (z_up M j i.toNatClampNeg x) (pc + 1) lv st) : z_V A (z_hM D cy A o ad) p l e R s m args below meth c nL Q k n M pc lv (.int x :: .int i :: .ref (ad j) :: st) := fun H locs ls h1 h2 h3 => by
  have ha : va_at D vwCl (ad j, .inl (cy (z_mZ j), z_mLen j, .inl (M j))) H := h1.2.1 j hj
  have hty : (z_tys cy)[0]? = some (cy (z_mZ j), .int) := by rw [hz]; rfl
  refine W.iast S.1 S.2.1 ha ((hE.2 0 _ hty).1 (z_mLen j) (fun q => .int (M j q))) (fun q => by cases q) (by show ¬ (i < 0 ∨ (arrV _ _ _).slots.size ≤ _); rw [arrV_size]; exact hin) rfl rfl hdg fun H1 e z oq => ?_
  refine kk H1 _ ls (z_hM_put h1 hj ?_ oq) (h2.put z oq (h1.2.2.2.1 j hj)) h3
  rw [e, vp_cell_i, vp_cell_i, arrV_store]
  congr 2
  funext q
  by_cases hq : q = i.toNatClampNeg
  · subst hq
    simp [updV, upd]
  · simp [updV, upd, hq]
theorem z_mzst {j : Nat} {i x : Int32} (S : CallFix p m c cc nL s args z_T own) (hE : z_EM D cy s) (hj : z_mAr j = true) (hz : z_mZ j = 1) (hin : vp_in i (z_mLen j)) (hx : vp_nar .boolean x = x) (hdg : decode cc pc = .ok (.bastore, 1)) (kk : z_V A (z_hM D cy A o ad) p l e R s m args below meth c nL Q k n (z_up M j i.toNatClampNeg x) (pc + 1) lv st) : z_V A (z_hM D cy A o ad) p l e R s m args below meth c nL Q k n M pc lv (.int x :: .int i :: .ref (ad j) :: st) := fun H locs ls h1 h2 h3 => by
  have ha : va_at D vwCl (ad j, .inl (cy (z_mZ j), z_mLen j, .inl (M j))) H := h1.2.1 j hj
  have hty : (z_tys cy)[1]? = some (cy (z_mZ j), .boolean) := by rw [hz]; rfl
  refine W.zast S.1 S.2.1 ha ((hE.2 1 _ hty).1 (z_mLen j) (fun q => .int (M j q))) (fun q => by cases q) (by show ¬ (i < 0 ∨ (arrV _ _ _).slots.size ≤ _); rw [arrV_size]; exact hin) rfl rfl hdg fun H1 e z oq => ?_
  refine kk H1 _ ls (z_hM_put h1 hj ?_ oq) (h2.put z oq (h1.2.2.2.1 j hj)) h3
  have hx2 : narrow .boolean (.int x) = .int x := by
    rw [← hx]
    show narrow .boolean (.int (vp_nar .boolean x)) = .int (vp_nar .boolean x)
    rw [hx]
    have : vp_nar .boolean x = x := hx
    unfold vp_nar at this
    cases hq : narrow FieldType.boolean (.int x) <;> simp_all [narrow]
  rw [e, hx2, vp_cell_i, vp_cell_i, arrV_store]
  congr 2
  funext q
  by_cases hq : q = i.toNatClampNeg
  · subst hq
    simp [updV, upd]
  · simp [updV, upd, hq]
end ZM
