/-! THE LAW's calls of the bank: the bank's world and one long -/
def z_NC (U : State) : Prop := va_Nc "java/lang/IllegalStateException" "java/lang/IllegalArgumentException" U ∧ va_Nc "java/lang/IllegalArgumentException" "java/util/NoSuchElementException" U ∧ va_Nc "java/lang/IllegalStateException" "java/util/NoSuchElementException" U ∧ va_Nc "java/lang/IndexOutOfBoundsException" "java/util/NoSuchElementException" U ∧ va_Nc "java/lang/IndexOutOfBoundsException" "java/lang/IllegalArgumentException" U
theorem z_NC.moved {u U : State} (hvm : u.vm.Alike U.vm) (h : z_NC u) : z_NC U := ⟨va_Nc.moved hvm h.1, va_Nc.moved hvm h.2.1, va_Nc.moved hvm h.2.2.1, va_Nc.moved hvm h.2.2.2.1, va_Nc.moved hvm h.2.2.2.2⟩
theorem z_EC.wk {D : va_G} {cy : Nat → ClassId} {A A' : Nat → Prop} {t0 mi : Nat} {U : State} (h : z_EC D cy A' t0 mi U) (hA : ∀ q, A q → A' q) (hs : ∀ q : Nat, U.heap.size ≤ q → A q) : z_EC D cy A t0 mi U := by
  obtain ⟨h1, h2, h3, h4, h5, ⟨t, h6, h7⟩, h8, h9, h10, h11, h12⟩ := h
  have nT : ∀ {ty : FieldType} {a N : Nat} {f : Nat → Value}, va_T ty a N f A' U U.heap → va_T ty a N f A U U.heap := fun q => by
    obtain ⟨cell, g1, g2, g3, g4, g5, g6, g7⟩ := q
    exact ⟨cell, g1, g2, g3, g4, g5, g6, fun z => g7 (hA _ z)⟩
  exact ⟨h1, hs, ⟨h3.1.narrow hA, h3.2.narrow hA⟩, ⟨h4.1.narrow hA, h4.2.narrow hA⟩, h5, ⟨t, h6.narrow hA, nT h7⟩, h8.narrow hA, nT h9, h10, h11, h12⟩
abbrev z_WS : Type := z_St × Int64
def z_ol (v : Int64) : Nat → Int64 := fun j => if j = 0 then v else 0
def z_wA (A : Nat → Prop) (w : Nat) : Nat → Prop := fun q => A q ∨ q = w
def z_hW (D : va_G) (cy : Nat → ClassId) (A : Nat → Prop) (t0 w : Nat) (u : z_WS) (H : Heap) : Prop := z_hC D cy A t0 u.1 u.1 H ∧ va_at D vwCl (w, .inl (cy 7, 1, .inr (.inl (z_ol u.2)))) H ∧ ¬ A w
def z_EW (D : va_G) (cy : Nat → ClassId) (A : Nat → Prop) (t0 mi w : Nat) (U : State) : Prop := z_EC D cy (z_wA A w) t0 mi U ∧ (∀ q : Nat, U.heap.size ≤ q → A q) ∧ z_NC U
theorem z_EWok (D : va_G) (cy : Nat → ClassId) (A : Nat → Prop) (t0 mi w : Nat) : z_Eok (z_EW D cy A t0 mi w) (z_wA A w) := ⟨fun U g mk a h => ⟨(z_ECok D cy _ t0 mi).1 U g mk a h.1, h.2.1, z_NC.moved (u := U) (U := U.calling g mk a) (Vm.Alike.refl U.vm) h.2.2⟩, fun s U H locs h h2 hU hW => ⟨(z_ECok D cy _ t0 mi).2 s U H locs h.1 h2 hU hW, fun q hq => by subst hU; exact h.2.1 q (Nat.le_trans h2.1 hq), h.2.2.moved hW.alike⟩⟩
theorem z_EW.c {D : va_G} {cy : Nat → ClassId} {A : Nat → Prop} {t0 mi w : Nat} {U : State} (h : z_EW D cy A t0 mi w U) : z_EC D cy A t0 mi U := h.1.wk (fun _ q => Or.inl q) h.2.1
theorem zw_met {σ : Type} {l : Launch} {y : MethodName} {cc : ByteArray} {nL : Nat} {ret : Option FieldType} {hh : List (Nat × Nat × Nat × Nat)} {rm : Room} {avs : List Value} {E : State → Prop} {hp : σ → Heap → Prop} {u : σ} {Qc : Array Value → State → Outcome → State → Prop} {XC : String → State → State → Prop} {mc ms : Nat} {A : Nat → Prop} (hy : plainName y.cls = true) (hsz : (lg_sl avs).length ≤ nL)
    (body : ∀ p e s m args below meth c, CallFix p m c cc nL s args z_T y.cls → meth.locks = false → meth.sig.returnType = ret → c.exceptionTable.toList = tableOf hh → E s → z_V A hp p l e rm s m args below meth c nL (vx_MQ below Qc XC args s mc ms A) 0 0 u 0 (lv_args 0 avs) []) : vx_Met l y (Cond.codeWith y cc nL ret hh :: z_T) rm (va_Pc avs (fun U => E U ∧ hp u U.heap)) Qc XC mc ms A := by
  refine vx_ofWH (cc := cc) (maxL := nL) (ret := ret) (hh := hh) hy rfl ?_
  intro p e s m args below meth c s₁ B hml hv
  obtain ⟨rfl, hE, hh'⟩ := hv
  have hts := atoms_spec (ws := Cond.codeWith y cc nL ret hh :: z_T) B.pre
  have htb := vx_table (x := y) B (hts _ List.mem_cons_self)
  have hV := body p e s m avs.toArray below meth c ⟨B.exec, B.bytes, hml, findClass_of_methodNamed B.named, fun w hw => hts w (List.mem_cons_of_mem _ hw)⟩ B.notSynchronized B.returns htb hE
  have hl := lv_entry avs (n := nL) hsz
  rw [lg_entry_eq]
  exact hV s.heap [] _ hh' va_S.rf hl
section ZW
variable {p : Program} {l : Launch} {e : Env} {R : Room} {s : State} {m : MethodId} {args : Array Value} {below : List Frame} {meth : Method} {c : Code} {Q : State → Prop} {cc : ByteArray} {nL : Nat} {A : Nat → Prop} {k n : Nat} {pc : Nat} {lv : List (Nat × Value)} {st : List Value} {D : va_G} {cy : Nat → ClassId} {t0 mi w h0 : Nat} {u : z_St} {v : Int64}
def zw_K (c : Code) (s : State) (args : Array Value) (pc : Nat) (E : String) (kk : Nat → Prop) : Prop := ∃ (pre : List ExceptionTableEntry) (x : ExceptionTableEntry) (suf : List ExceptionTableEntry) (name : String), c.exceptionTable.toList = pre ++ x :: suf ∧ (∀ z ∈ pre, z.catchType ≠ 0 ∧ ∃ nm : String, (Cond.classLink "MessageBankLaw" z.catchType nm).before args s = true ∧ va_Nc E nm s) ∧ covers x pc = true ∧ x.catchType ≠ 0 ∧ (Cond.classLink "MessageBankLaw" x.catchType name).before args s = true ∧ (Cond.castable E name).before args s = true ∧ kk x.handlerPc
theorem zw_callVi {post : Int32 → z_St → Prop} {px : String → z_St → Prop} {y : MethodName} {bytes : ByteArray} {maxL N mc ms index : Nat} {ret : Option FieldType} {rm : Room} {C : String} {As st0 : List Value} {q0 : vw_C} (S : CallFix p m c cc nL s args z_T "MessageBankLaw") (hE : z_EW D cy A t0 mi w s) (hk : z_kd h0 u = 8 ∧ 8 ≠ 0) (hC : vwCl[8 - 1]? = some q0) (hC2 : C = q0.1) (hM : zx_Mi l y (Cond.code y bytes maxL ret :: z_T) rm (va_rf (some h0) :: As) (z_EC D cy A t0 mi) (z_hC D cy A t0 u) u (fun r u' => post r u' ∧ z_mono u u') px mc ms A) (g : GoodIn z_T (wsV "MessageBankLaw" index C y (Cond.code y bytes maxL ret :: z_T))) (hd : y.cls = C ∧ y.cls ≠ "java/lang/invoke/MethodHandle" ∧ y.cls ≠ "java/lang/invoke/VarHandle" ∧ (parseMethodDescriptor y.desc).map (fun d => d.parameters.length) = some N) (hR : rm.frames + 1 ≤ R.frames ∧ 8 + (maxL + 11) + rm.locals ≤ R.locals) (hrc : rm.cells = mc) (hrs : rm.slots = ms) (hn : As.length = N) (hsm : z_sm st ≤ 8) (hdg : decode cc pc = .ok (.invokevirtual index, 3)) (hf : k + mc ≤ R.cells ∧ n + ms ≤ R.slots) (hst : st0 = As.reverse ++ .ref h0 :: st)
    (kk : ∀ r u', post r u' → z_mono u u' → z_V (z_wA A w) (z_hW D cy A t0 w) p l e R s m args below meth c nL Q (k + mc) (n + ms) (u', v) (pc + 3) lv (.int r :: st))
    (kx : ∀ E u', px E u' → z_mono u u' → zw_K c s args pc E (fun hpc => ∀ q, z_V (z_wA A w) (z_hW D cy A t0 w) p l e R s m args below meth c nL Q (k + mc) (n + ms) (u', v) hpc lv [va_rf (some q)])) : z_V (z_wA A w) (z_hW D cy A t0 w) p l e R s m args below meth c nL Q k n (u, v) pc lv st0 := fun H locs ls h1 h2 h3 => by
  subst hst
  subst hC2
  obtain ⟨b1, b2, b3⟩ := h1
  have wld : ∀ (H1 : Heap) (u' : z_St), z_hC D cy A t0 u u' H1 → (∀ q : Nat, q < H.size → ¬ A q → H1[q]? = H[q]?) → z_hW D cy A t0 w (u', v) H1 := fun H1 u' g1 g2 => ⟨g1.re, b2.kept (g2 w b2.lt b3), b3⟩
  exact vx_calli (vx_runV (As := As) (rest := st) S hM (cwV N S.2.2.2.2 g rfl hrc hrs hd hR) ⟨z_blind (z_ECok D cy A t0 mi), z_recvC (z_EW.c hE) hk (by decide) hC H b1, fun U hU hW => ⟨rfl, z_EW.c ((z_EWok D cy A t0 mi w).2 s U H locs hE h2 hU hW), by rw [hU]; exact b1⟩⟩ rfl hn h3.1 rfl (z_room hsm) hdg hf) h2 (fun q _ h => Or.inl h) (fun q h => Or.inl h) (fun q _ h => Or.inl h)
    (fun E ce q9 u' t H1 locs1 ht hvm _ hB hz1 hk1 hS hce hcv hcl => by
      have hB2 : z_hC D cy A t0 u u' H1 := by rw [← ht]; exact hB.2
      obtain ⟨pre, x, suf, name, g1, g2, g3, g4, g5, g6, g7⟩ := kx E u' hB.1 hB2.2.2
      exact vx_catch S.2.2.2.1 pre x suf g1 (fun z hz => Or.inr (g2 z hz)) g3 g4 g5 g6 hce hcv hcl (g7 q9 H1 locs1 ls (wld H1 u' hB2 hk1) hS h3))
    (fun r u' t H1 locs1 ht hvm hw hB hz1 hk1 hS => kk r u' hw.1 hw.2 H1 locs1 ls (wld H1 u' (by rw [← ht]; exact hB) hk1) hS h3)
theorem zw_callVv {post : z_St → Prop} {px : String → z_St → Prop} {y : MethodName} {bytes : ByteArray} {maxL N mc ms index : Nat} {ret : Option FieldType} {rm : Room} {C : String} {As st0 : List Value} {q0 : vw_C} (S : CallFix p m c cc nL s args z_T "MessageBankLaw") (hE : z_EW D cy A t0 mi w s) (hk : z_kd h0 u = 8 ∧ 8 ≠ 0) (hC : vwCl[8 - 1]? = some q0) (hC2 : C = q0.1) (hM : zx_Mv l y (Cond.code y bytes maxL ret :: z_T) rm (va_rf (some h0) :: As) (z_EC D cy A t0 mi) (z_hC D cy A t0 u) u (fun u' => post u' ∧ z_mono u u') px mc ms A) (g : GoodIn z_T (wsV "MessageBankLaw" index C y (Cond.code y bytes maxL ret :: z_T))) (hd : y.cls = C ∧ y.cls ≠ "java/lang/invoke/MethodHandle" ∧ y.cls ≠ "java/lang/invoke/VarHandle" ∧ (parseMethodDescriptor y.desc).map (fun d => d.parameters.length) = some N) (hR : rm.frames + 1 ≤ R.frames ∧ 8 + (maxL + 11) + rm.locals ≤ R.locals) (hrc : rm.cells = mc) (hrs : rm.slots = ms) (hn : As.length = N) (hsm : z_sm st ≤ 8) (hdg : decode cc pc = .ok (.invokevirtual index, 3)) (hf : k + mc ≤ R.cells ∧ n + ms ≤ R.slots) (hst : st0 = As.reverse ++ .ref h0 :: st)
    (kk : ∀ u', post u' → z_mono u u' → z_V (z_wA A w) (z_hW D cy A t0 w) p l e R s m args below meth c nL Q (k + mc) (n + ms) (u', v) (pc + 3) lv st)
    (kx : ∀ E u', px E u' → z_mono u u' → zw_K c s args pc E (fun hpc => ∀ q, z_V (z_wA A w) (z_hW D cy A t0 w) p l e R s m args below meth c nL Q (k + mc) (n + ms) (u', v) hpc lv [va_rf (some q)])) : z_V (z_wA A w) (z_hW D cy A t0 w) p l e R s m args below meth c nL Q k n (u, v) pc lv st0 := fun H locs ls h1 h2 h3 => by
  subst hst
  subst hC2
  obtain ⟨b1, b2, b3⟩ := h1
  have wld : ∀ (H1 : Heap) (u' : z_St), z_hC D cy A t0 u u' H1 → (∀ q : Nat, q < H.size → ¬ A q → H1[q]? = H[q]?) → z_hW D cy A t0 w (u', v) H1 := fun H1 u' g1 g2 => ⟨g1.re, b2.kept (g2 w b2.lt b3), b3⟩
  exact vx_callv (vx_runV (As := As) (rest := st) S hM (cwV N S.2.2.2.2 g rfl hrc hrs hd hR) ⟨z_blind (z_ECok D cy A t0 mi), z_recvC (z_EW.c hE) hk (by decide) hC H b1, fun U hU hW => ⟨rfl, z_EW.c ((z_EWok D cy A t0 mi w).2 s U H locs hE h2 hU hW), by rw [hU]; exact b1⟩⟩ rfl hn h3.1 rfl (z_room hsm) hdg hf) h2 (fun q _ h => Or.inl h) (fun q h => Or.inl h) (fun q _ h => Or.inl h)
    (fun E ce q9 u' t H1 locs1 ht hvm _ hB hz1 hk1 hS hce hcv hcl => by
      have hB2 : z_hC D cy A t0 u u' H1 := by rw [← ht]; exact hB.2
      obtain ⟨pre, x, suf, name, g1, g2, g3, g4, g5, g6, g7⟩ := kx E u' hB.1 hB2.2.2
      exact vx_catch S.2.2.2.1 pre x suf g1 (fun z hz => Or.inr (g2 z hz)) g3 g4 g5 g6 hce hcv hcl (g7 q9 H1 locs1 ls (wld H1 u' hB2 hk1) hS h3))
    (fun u' t H1 locs1 ht hvm hw hB hz1 hk1 hS => kk u' hw.1 hw.2 H1 locs1 ls (wld H1 u' (by rw [← ht]; exact hB) hk1) hS h3)
theorem zw_last {x : Int64} {own : String} (S : CallFix p m c cc nL s args z_T own) (hE : z_EW D cy A t0 mi w s) (hdg : decode cc pc = .ok (.lastore, 1)) (kk : z_V (z_wA A w) (z_hW D cy A t0 w) p l e R s m args below meth c nL Q k n (u, x) (pc + 1) lv st) : z_V (z_wA A w) (z_hW D cy A t0 w) p l e R s m args below meth c nL Q k n (u, v) pc lv (.long x :: .int 0 :: .ref w :: st) := fun H locs ls h1 h2 h3 => by
  obtain ⟨b1, b2, b3⟩ := h1
  have hK : va_K D vwCl (z_tys cy) s := hE.1.1
  refine W.last S.1 S.2.1 b2 ((hK.2 7 _ rfl).1 1 (fun j => .long (z_ol v j))) (fun q => by cases q) (by show ¬ ((0 : Int32) < 0 ∨ (arrV _ _ _).slots.size ≤ _); rw [arrV_size]; show ¬ ((0 : Int32) < 0 ∨ 1 ≤ (0 : Int32).toNatClampNeg); decide) rfl rfl hdg fun H1 e z oq => ?_
  refine kk H1 _ ls ⟨b1.kept (fun q _ hq => oq q (fun z => b3 (by have z' : q = w := z; rw [← z']; exact hq))), ?_, b3⟩ (h2.put z oq (Or.inr rfl)) h3
  show H1[w]? = some (vp_cell _ _)
  rw [e, vp_cell_l, vp_cell_l, arrV_store]
  congr 2
  funext q
  by_cases hq : q = 0
  · subst hq; rfl
  · have c0 : (0 : Int32).toNatClampNeg = 0 := rfl
    simp [updV, z_ol, hq, c0]
end ZW
