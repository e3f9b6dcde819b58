theorem z_ic (x : Int32) : (Value.int x).category = 1 := rfl
theorem z_kO {κ κ' a b : Nat} {u : z_St} (h0 : z_kd a u = 0) (hk : z_kd b u = κ ∧ κ ≠ 0) : z_kd b (z_nO κ' a u) = κ ∧ κ ≠ 0 := by
  have hb : b ≠ a := fun e => by subst e; rw [h0] at hk; exact hk.2 hk.1.symm
  exact ⟨(va_up_ne _ _ hb).trans hk.1, hk.2⟩
theorem z_kA {κ κ' a b N : Nat} {u : z_St} (h0 : z_kd a u = 0) (hk : z_kd b u = κ ∧ κ ≠ 0) : z_kd b (z_nA κ' a N u) = κ ∧ κ ≠ 0 := by
  have hb : b ≠ a := fun e => by subst e; rw [h0] at hk; exact hk.2 hk.1.symm
  exact ⟨(va_up_ne _ _ hb).trans hk.1, hk.2⟩
theorem z_kOs {κ a : Nat} {u : z_St} (h : κ ≠ 0) : z_kd a (z_nO κ a u) = κ ∧ κ ≠ 0 := ⟨va_up_self _ _ _, h⟩
theorem z_kAs {κ a N : Nat} {u : z_St} (h : κ ≠ 0) : z_kd a (z_nA κ a N u) = κ ∧ κ ≠ 0 := ⟨va_up_self _ _ _, h⟩
/-- entries of one array of references into another -/
def z_cR (a0 a sp dp n : Nat) (u : z_St) : z_St := (u.1, u.2.1, u.2.2.1, u.2.2.2.1, u.2.2.2.2.1, fun b j => if b = a then va_cpy (fun i => z_aR a0 i u) (fun i => z_aR a i u) sp dp n j else u.2.2.2.2.2 b j)
theorem z_cell_cR {cy : Nat → ClassId} {a0 a sp dp n : Nat} {u : z_St} {b : Nat} (h : b ≠ a) : z_cell cy (z_cR a0 a sp dp n u) b = z_cell cy u b := by
  have e : (fun j' => z_aR b j' (z_cR a0 a sp dp n u)) = fun j' => z_aR b j' u := funext fun j' => if_neg h
  unfold z_cell
  rw [e]; rfl
section ZC
variable {p : Program} {l : Launch} {e : Env} {R : Room} {s : State} {m : MethodId} {args : Array Value} {below : List Frame} {meth : Method} {c : Code} {Q : State → Prop} {cc : ByteArray} {nL : Nat} {own : String} {A : Nat → Prop} {k n : Nat} {pc : Nat} {lv : List (Nat × Value)} {st : List Value} {D : va_G} {cy : Nat → ClassId} {t0 mi : Nat} {u0 u : z_St}
theorem z_ciret {post : Int32 → z_St → Prop} {mc ms : Nat} {v : Int32} (S : CallFix p m c cc nL s args z_T own) (hr : meth.sig.returnType = some .int) (hlk : meth.locks = false) (hdg : decode cc pc = .ok (.ireturn, 1)) (hk : k ≤ mc) (hn : n ≤ ms) (h0 : post v u) : z_V A (z_hC D cy A t0 u0) p l e R s m args below meth c nL (MQ below (va_Qi (fun r (u' : z_St) => post r u' ∧ z_mono u0 u') (fun (u' : z_St) t => z_hC D cy A t0 u0 u' t.heap) A) args s mc ms A) k n u pc lv [.int v] := fun H locs ls h1 h2 h3 => z_iret S hr hlk hdg hk hn ⟨h0, h1.2.2⟩ H locs ls h1 h2 h3
theorem z_czret {post : Int32 → z_St → Prop} {mc ms : Nat} {v : Int32} (S : CallFix p m c cc nL s args z_T own) (hr : meth.sig.returnType = some .boolean) (hlk : meth.locks = false) (hdg : decode cc pc = .ok (.ireturn, 1)) (hk : k ≤ mc) (hn : n ≤ ms) (hb : narrow .boolean (.int v) = .int v) (h0 : post v u) : z_V A (z_hC D cy A t0 u0) p l e R s m args below meth c nL (MQ below (va_Qi (fun r (u' : z_St) => post r u' ∧ z_mono u0 u') (fun (u' : z_St) t => z_hC D cy A t0 u0 u' t.heap) A) args s mc ms A) k n u pc lv [.int v] := fun H locs ls h1 h2 h3 => z_zret S hr hlk hdg hk hn hb ⟨h0, h1.2.2⟩ H locs ls h1 h2 h3
theorem z_cvret {post : z_St → Prop} {mc ms : Nat} (S : CallFix p m c cc nL s args z_T own) (hr : meth.sig.returnType = none) (hlk : meth.locks = false) (hdg : decode cc pc = .ok (.return_, 1)) (hk : k ≤ mc) (hn : n ≤ ms) (h0 : post u) : z_V A (z_hC D cy A t0 u0) p l e R s m args below meth c nL (MQ below (va_Qv (fun (u' : z_St) => post u' ∧ z_mono u0 u') (fun (u' : z_St) t => z_hC D cy A t0 u0 u' t.heap) A) args s mc ms A) k n u pc lv [] := fun H locs ls h1 h2 h3 => z_vret S hr hlk hdg hk hn ⟨h0, h1.2.2⟩ H locs ls h1 h2 h3
theorem z_caret {post : Option Nat → z_St → Prop} {mc ms : Nat} {rt : FieldType} (v : Option Nat) (S : CallFix p m c cc nL s args z_T own) (hr : meth.sig.returnType = some rt) (hrt : (∃ n, rt = .object n) ∨ ∃ t, rt = .array t) (hlk : meth.locks = false) (hdg : decode cc pc = .ok (.areturn, 1)) (hk : k ≤ mc) (hn : n ≤ ms) (h0 : post v u) : z_V A (z_hC D cy A t0 u0) p l e R s m args below meth c nL (MQ below (va_Qq (fun r (u' : z_St) => post r u' ∧ z_mono u0 u') (fun (u' : z_St) t => z_hC D cy A t0 u0 u' t.heap) A) args s mc ms A) k n u pc lv [va_rf v] := fun H locs ls h1 h2 h3 => z_aret (v := v) S hr hrt hlk hdg hk hn ⟨h0, h1.2.2⟩ H locs ls h1 h2 h3
theorem z_cxiret {post : Int32 → z_St → Prop} {XC : String → State → State → Prop} {mc ms : Nat} {v : Int32} (S : CallFix p m c cc nL s args z_T own) (hr : meth.sig.returnType = some .int) (hlk : meth.locks = false) (hdg : decode cc pc = .ok (.ireturn, 1)) (hk : k ≤ mc) (hn : n ≤ ms) (h0 : post v u) : z_V A (z_hC D cy A t0 u0) p l e R s m args below meth c nL (vx_MQ below (va_Qi (fun r (u' : z_St) => post r u' ∧ z_mono u0 u') (fun (u' : z_St) t => z_hC D cy A t0 u0 u' t.heap) A) XC args s mc ms A) k n u pc lv [.int v] := fun H locs ls h1 h2 h3 => zx_iret S hr hlk hdg hk hn ⟨h0, h1.2.2⟩ H locs ls h1 h2 h3
theorem z_cxzret {post : Int32 → z_St → Prop} {XC : String → State → State → Prop} {mc ms : Nat} {v : Int32} (S : CallFix p m c cc nL s args z_T own) (hr : meth.sig.returnType = some .boolean) (hlk : meth.locks = false) (hdg : decode cc pc = .ok (.ireturn, 1)) (hk : k ≤ mc) (hn : n ≤ ms) (hb : narrow .boolean (.int v) = .int v) (h0 : post v u) : z_V A (z_hC D cy A t0 u0) p l e R s m args below meth c nL (vx_MQ below (va_Qi (fun r (u' : z_St) => post r u' ∧ z_mono u0 u') (fun (u' : z_St) t => z_hC D cy A t0 u0 u' t.heap) A) XC args s mc ms A) k n u pc lv [.int v] := fun H locs ls h1 h2 h3 => zx_zret S hr hlk hdg hk hn hb ⟨h0, h1.2.2⟩ H locs ls h1 h2 h3
theorem z_cxvret {post : z_St → Prop} {XC : String → State → State → Prop} {mc ms : Nat} (S : CallFix p m c cc nL s args z_T own) (hr : meth.sig.returnType = none) (hlk : meth.locks = false) (hdg : decode cc pc = .ok (.return_, 1)) (hk : k ≤ mc) (hn : n ≤ ms) (h0 : post u) : z_V A (z_hC D cy A t0 u0) p l e R s m args below meth c nL (vx_MQ below (va_Qv (fun (u' : z_St) => post u' ∧ z_mono u0 u') (fun (u' : z_St) t => z_hC D cy A t0 u0 u' t.heap) A) XC args s mc ms A) k n u pc lv [] := fun H locs ls h1 h2 h3 => zx_vret S hr hlk hdg hk hn ⟨h0, h1.2.2⟩ H locs ls h1 h2 h3
theorem z_cxaret {post : Option Nat → z_St → Prop} {XC : String → State → State → Prop} {mc ms : Nat} {rt : FieldType} (v : Option Nat) (S : CallFix p m c cc nL s args z_T own) (hr : meth.sig.returnType = some rt) (hrt : (∃ n, rt = .object n) ∨ ∃ t, rt = .array t) (hlk : meth.locks = false) (hdg : decode cc pc = .ok (.areturn, 1)) (hk : k ≤ mc) (hn : n ≤ ms) (h0 : post v u) : z_V A (z_hC D cy A t0 u0) p l e R s m args below meth c nL (vx_MQ below (va_Qq (fun r (u' : z_St) => post r u' ∧ z_mono u0 u') (fun (u' : z_St) t => z_hC D cy A t0 u0 u' t.heap) A) XC args s mc ms A) k n u pc lv [va_rf v] := fun H locs ls h1 h2 h3 => zx_aret (v := v) S hr hrt hlk hdg hk hn ⟨h0, h1.2.2⟩ H locs ls h1 h2 h3
theorem z_tabOut {σ : Type} {hp : σ → Heap → Prop} {v : σ} {dflt lo hi : Int} {offs : Array Int} {len : Nat} {x : Int32} (tgt : Nat) (S : CallFix p m c cc nL s args z_T own) (hdg : decode cc pc = .ok (.tableswitch dflt lo hi offs, len)) (h : x.toInt < lo ∨ hi < x.toInt) (ht : (pc : Int) + dflt = (tgt : Int)) (kk : z_V A hp p l e R s m args below meth c nL Q k n v tgt lv st) : z_V A hp p l e R s m args below meth c nL Q k n v pc lv (.int x :: st) := fun H locs ls h1 h2 h3 => lv_tableOut S.1 S.2.1 hdg h ht (kk H locs ls h1 h2 h3)
theorem z_tabIn {σ : Type} {hp : σ → Heap → Prop} {v : σ} {dflt lo hi off : Int} {offs : Array Int} {len : Nat} {x : Int32} (tgt : Nat) (S : CallFix p m c cc nL s args z_T own) (hdg : decode cc pc = .ok (.tableswitch dflt lo hi offs, len)) (g1 : ¬ x.toInt < lo) (g2 : ¬ hi < x.toInt) (ho : offs[(x.toInt - lo).toNat]? = some off) (ht : (pc : Int) + off = (tgt : Int)) (kk : z_V A hp p l e R s m args below meth c nL Q k n v tgt lv st) : z_V A hp p l e R s m args below meth c nL Q k n v pc lv (.int x :: st) := fun H locs ls h1 h2 h3 => lv_tableIn S.1 S.2.1 hdg g1 g2 ho ht (kk H locs ls h1 h2 h3)
theorem z_ldc {σ : Type} {hp : σ → Heap → Prop} {v : σ} {index : Nat} {x : Int32} (S : CallFix p m c cc nL s args z_T own) (hc : Cond.constant own index x ∈ z_T) (hdg : decode cc pc = .ok (.ldc index, 2)) (kk : z_V A hp p l e R s m args below meth c nL Q k n v (pc + 2) lv (.int x :: st)) : z_V A hp p l e R s m args below meth c nL Q k n v pc lv st := fun H locs ls h1 h2 h3 => lv_ldc S.1 S.2.1 S.2.2.2.1 (S.2.2.2.2 _ hc) hdg (kk H locs ls h1 h2 h3)
theorem z_calenB {a : Nat} (S : CallFix p m c cc nL s args z_T own) (hE : z_EC D cy A t0 mi s) (hk : z_kd a u = 15 ∨ z_kd a u = 16) (hdg : decode cc pc = .ok (.arraylength, 1)) (kk : z_V A (z_hC D cy A t0 u0) p l e R s m args below meth c nL Q k n u (pc + 1) lv (.int (nI (z_ln a u)) :: st)) : z_V A (z_hC D cy A t0 u0) p l e R s m args below meth c nL Q k n u pc lv (.ref a :: st) := fun H locs ls h1 h2 h3 => by
  rcases hk with hk | hk
  · exact z_calen (κ := 15) S hE ⟨hk, by decide⟩ (by decide) rfl hdg kk H locs ls h1 h2 h3
  · refine z_calenS S hE ⟨hk, by decide⟩ hdg ?_ H locs ls h1 h2 h3
    rw [(h1.2.1 a hk).2] at kk
    exact kk
theorem z_cgetsD (S : CallFix p m c cc nL s args z_T "java/util/ArrayList") (hE : z_EC D cy A t0 mi s) (hlink : Cond.fieldLink "java/util/ArrayList" 39 "java/util/ArrayList" "DEFAULTCAPACITY_EMPTY_ELEMENTDATA" "[Ljava/lang/Object;" ∈ z_T) (hdg : decode cc pc = .ok (.getstatic 39, 3)) (kk : z_V A (z_hC D cy A t0 u0) p l e R s m args below meth c nL Q k n u (pc + 3) lv (.ref t0 :: st)) : z_V A (z_hC D cy A t0 u0) p l e R s m args below meth c nL Q k n u pc lv st := fun H locs ls h1 h2 h3 => by
  obtain ⟨-, -, -, -, -, -, h8, -⟩ := hE
  exact va_gets S.1 S.2.1 h8 h2 S.2.2.2.1 (S.2.2.2.2 _ hlink) (fun _ h => h) hdg (kk H locs ls h1 h2 h3)
theorem z_cgetsI (S : CallFix p m c cc nL s args z_T "MessageBank$Line") (hE : z_EC D cy A t0 mi s) (hdg : decode cc pc = .ok (.getstatic 79, 3)) (kk : ∀ t : Nat, va_T .int t 8 (fun j => .int (z_ichI j)) A s s.heap → z_V A (z_hC D cy A t0 u0) p l e R s m args below meth c nL Q k n u (pc + 3) lv (.ref t :: st)) : z_V A (z_hC D cy A t0 u0) p l e R s m args below meth c nL Q k n u pc lv st := fun H locs ls h1 h2 h3 => by
  obtain ⟨-, -, -, -, -, ⟨t, h6, h7⟩, -, -, ⟨-, -, -, -, -, n5, -⟩, -⟩ := hE
  exact va_getsN S.1 S.2.1 h6 h2 S.2.2.2.1 (va_Nw.use rfl n5) (fun _ h => h) hdg (kk t h7 H locs ls h1 h2 h3)
theorem z_cich {t : Nat} {i : Int32} (S : CallFix p m c cc nL s args z_T own) (hT : va_T .int t 8 (fun j => .int (z_ichI j)) A s s.heap) (hin : vp_in i 8) (hdg : decode cc pc = .ok (.iaload, 1)) (kk : z_V A (z_hC D cy A t0 u0) p l e R s m args below meth c nL Q k n u (pc + 1) lv (.int (z_ichI i.toNatClampNeg) :: st)) : z_V A (z_hC D cy A t0 u0) p l e R s m args below meth c nL Q k n u pc lv (.int i :: .ref t :: st) := fun H locs ls h1 h2 h3 => va_ti S.1 S.2.1 hT h2 hin rfl hdg (kk H locs ls h1 h2 h3)
theorem z_cldcM {index : Nat} (S : CallFix p m c cc nL s args z_T own) (hE : z_EC D cy A t0 mi s) (hlink : Cond.classLink own index "[Ljava/lang/Object;" ∈ z_T) (hdg : decode cc pc = .ok (.ldc index, 2)) (kk : z_V A (z_hC D cy A t0 u0) p l e R s m args below meth c nL Q k n u (pc + 2) lv (.ref mi :: st)) : z_V A (z_hC D cy A t0 u0) p l e R s m args below meth c nL Q k n u pc lv st := fun H locs ls h1 h2 h3 => by
  obtain ⟨-, -, -, -, -, -, -, -, -, h11, -⟩ := hE
  exact va_ldcM S.1 S.2.1 S.2.2.2.1 (S.2.2.2.2 _ hlink) h11 hdg (kk H locs ls h1 h2 h3)
theorem z_cgetC {index a : Nat} (S : CallFix p m c cc nL s args z_T own) (hE : z_EC D cy A t0 mi s) (hk : z_kd a u = 15 ∧ 15 ≠ 0) (hlink : Cond.methodLink own index ⟨"java/lang/Object", "getClass", "()Ljava/lang/Class;"⟩ ∈ z_T) (hsel : Cond.selects "[Ljava/lang/Object;" ⟨"java/lang/Object", "getClass", "()Ljava/lang/Class;"⟩ ⟨"java/lang/Object", "getClass", "()Ljava/lang/Class;"⟩ ∈ z_T) (hinst : Cond.instanceMethod ⟨"java/lang/Object", "getClass", "()Ljava/lang/Class;"⟩ ∈ z_T) (hnat : Cond.native ⟨"java/lang/Object", "getClass", "()Ljava/lang/Class;"⟩ ∈ z_T) (hf : 1 ≤ R.frames) (hlo : z_sm st + 14 ≤ R.locals) (hdg : decode cc pc = .ok (.invokevirtual index, 3)) (kk : z_V A (z_hC D cy A t0 u0) p l e R s m args below meth c nL Q k n u (pc + 3) lv (.ref mi :: st)) : z_V A (z_hC D cy A t0 u0) p l e R s m args below meth c nL Q k n u pc lv (.ref a :: st) := fun H locs ls h1 h2 h3 => by
  obtain ⟨hK, -, -, -, -, -, -, -, -, h11, h12⟩ := hE
  have hat := (h1.1 a (by rw [hk.1]; decide) (by rw [hk.1]; decide)).1
  rw [z_cell_q hk.1 (by decide)] at hat
  have hnm := va_nmO (nm := "[Ljava/lang/Object;") (hK.2 6 _ rfl).2 (by decide)
  exact va_getC S.1 S.2.1 (h3.1.trans S.2.2.1.symm).symm S.2.2.2.1 (S.2.2.2.2 _ hlink) (va_Dc.use h12) (S.2.2.2.2 _ hsel) (S.2.2.2.2 _ hinst) (S.2.2.2.2 _ hnat) h11 ⟨_, hat, rfl, hnm⟩ hf hlo hdg (kk H locs ls h1 h2 h3)
theorem z_cnewRb {i : Int32} {κ index : Nat} {C : String} (B : Nat) (S : CallFix p m c cc nL s args z_T own) (hE : z_EC D cy A t0 mi s) (hκ : 10 < κ ∧ κ < 16) (hty : (z_tys cy)[κ - 9]? = some (cy (κ - 9), .object C)) (hcl : Cond.classLink own index C ∈ z_T) (hover : va_AO C s) (hn : ¬ i < 0) (hN : i.toNatClampNeg ≤ B) (hbytes : B * 4 ≤ 536870912) (hcells : k + 1 ≤ R.cells) (hslots : n + B ≤ R.slots) (hdg : decode cc pc = .ok (.anewarray index, 3)) (kk : ∀ a : Nat, z_kd a u = 0 → z_V A (z_hC D cy A t0 u0) p l e R s m args below meth c nL Q (k + 1) (n + B) (z_nA κ a i.toNatClampNeg u) (pc + 3) lv (.ref a :: st)) : z_V A (z_hC D cy A t0 u0) p l e R s m args below meth c nL Q k n u pc lv (.int i :: st) :=
  z_cnewR S hE hκ hty hcl hover hn rfl (by omega) hcells (by omega) hdg (fun a h0 => z_widen (Nat.le_refl _) (by omega) (kk a h0))
theorem z_ccopy {a0 a index : Nat} {sp dp n' : Int32} (S : CallFix p m c cc nL s args z_T own) (hE : z_EC D cy A t0 mi s) (hk0 : z_kd a0 u = 15 ∧ 15 ≠ 0) (hk : z_kd a u = 15 ∧ 15 ≠ 0) (hlink : Cond.methodLink own index arraycopyName ∈ z_T) (hnat : Cond.native arraycopyName ∈ z_T) (hstat : Cond.static arraycopyName ∈ z_T) (hini : Cond.initialized "java/lang/System" ∈ z_T) (g1 : ¬ sp < 0) (g2 : ¬ dp < 0) (g3 : ¬ n' < 0) (g4 : sp.toNatClampNeg + n'.toNatClampNeg ≤ z_ln a0 u) (g5 : dp.toNatClampNeg + n'.toNatClampNeg ≤ z_ln a u) (hel : ∀ i : Nat, i < n'.toNatClampNeg → ∀ y : Nat, z_aR a0 (sp.toNatClampNeg + i) u = some y → z_kd y u = 5) (hf : 1 ≤ R.frames) (hlo : z_sm st + (nativeFrameWords "java/lang/System" "arraycopy" 5 + 11) ≤ R.locals) (hdg : decode cc pc = .ok (.invokestatic index, 3)) (kk : z_V A (z_hC D cy A t0 u0) p l e R s m args below meth c nL Q k n (z_cR a0 a sp.toNatClampNeg dp.toNatClampNeg n'.toNatClampNeg u) (pc + 3) lv st) : z_V A (z_hC D cy A t0 u0) p l e R s m args below meth c nL Q k n u pc lv (.int n' :: .int dp :: .ref a :: .int sp :: .ref a0 :: st) := fun H locs ls h1 h2 h3 => by
  have nn : ∀ z : Int32, ¬ z < 0 → z.toInt = (z.toNatClampNeg : Int) := fun z hz => by
    have hz0 : (0 : Int) ≤ z.toInt := by
      have := Int32.not_lt.mp hz
      simpa using Int32.le_iff_toInt_le.mp this
    show z.toInt = ((z.toInt.toNat : Nat) : Int)
    omega
  have hA := (h1.1 a (by rw [hk.1]; decide) (by rw [hk.1]; decide)).2
  have hat := (h1.1 a (by rw [hk.1]; decide) (by rw [hk.1]; decide)).1
  have hat0 := (h1.1 a0 (by rw [hk0.1]; decide) (by rw [hk0.1]; decide)).1
  rw [z_cell_q hk.1 (by decide)] at hat
  rw [z_cell_q hk0.1 (by decide)] at hat0
  have hty := hE.1.2 6 _ rfl
  have hNW : z_NW s := by
    obtain ⟨-, -, -, -, -, -, -, -, h10, -⟩ := hE
    exact h10
  have hce : ∀ (i : Nat), i < n'.toNatClampNeg → ∀ y : Nat, z_aR a0 (sp.toNatClampNeg + i) u = some y → va_Any "java/lang/Object" s H y := fun i hi y hy => by
    have hky := hel i hi y hy
    have haty := (h1.1 y (by rw [hky]; decide) (by rw [hky]; decide)).1
    rw [z_cell_o hky (by decide)] at haty
    obtain ⟨-, -, -, -, -, -, n6, -⟩ := id hNW
    exact va_rAny (q0 := 0) hE.1 (z_one haty) rfl rfl (vb_asgC n6)
  obtain ⟨-, k0, hk0', cm0, hkk0⟩ := hty.1 (z_ln a0 u) (fun j => va_rf (z_aR a0 j u))
  obtain ⟨-, k1, hk1, cm1, hkk1⟩ := hty.1 (z_ln a u) (fun j => va_rf (z_aR a j u))
  intro T hT X
  obtain ⟨vm', X', step⟩ := X.arraycopy S.1 S.2.2.2.1 (S.2.2.2.2 _ hlink) (S.2.2.2.2 _ hnat) (S.2.2.2.2 _ hstat) (S.2.2.2.2 _ hini) (src := a0) (dst := a) (cs := vp_cell (cy 6) (z_ln a0 u, .inr (.inr (.inr (.inr (fun j => z_aR a0 j u)))))) (cd := vp_cell (cy 6) (z_ln a u, .inr (.inr (.inr (.inr (fun j => z_aR a j u)))))) (srcPos := sp) (destPos := dp) (n := n') (by rw [hT]; exact hat0) (by rw [hT]; exact hat)
    (fun _ h => by cases h) (fun _ h => by cases h) (fun h => by cases h) (fun h => by cases h) hk0' hk1 hkk0 hkk1 rfl g1 g2 g3
    (by rw [nn sp g1, nn n' g3]; show ¬ _ > ((arrV (cy 6) (z_ln a0 u) (fun j => va_rf (z_aR a0 j u))).slots.size : Int); rw [arrV_size]; omega)
    (by rw [nn dp g2, nn n' g3]; show ¬ _ > ((arrV (cy 6) (z_ln a u) (fun j => va_rf (z_aR a j u))).slots.size : Int); rw [arrV_size]; omega)
    (fun vm₁ hal i hi => by
      have e1 : (vp_cell (cy 6) (z_ln a0 u, .inr (.inr (.inr (.inr (fun j => z_aR a0 j u)))))).slots.getD (sp.toNatClampNeg + i) .null = va_rf (z_aR a0 (sp.toNatClampNeg + i) u) := by
        show (arrV (cy 6) (z_ln a0 u) (fun j => va_rf (z_aR a0 j u))).slots.getD _ _ = _
        rw [Array.getD_eq_getD_getElem?, arrV_read _ _ (by omega)]
        rfl
      rw [e1]
      cases hy : z_aR a0 (sp.toNatClampNeg + i) u with
      | none => exact ⟨rfl, trivial⟩
      | some y =>
        obtain ⟨cellV, f1, f2, ⟨kC, hkC⟩, hasg⟩ := hce i hi y hy
        obtain ⟨kA, comp, r1, r2, r3, -⟩ := hty.2
        cases hk1.symm.trans r1
        cases hkk1.symm.trans r2
        obtain ⟨kE, hkE, -⟩ := Vm.findClass_spec r3
        obtain ⟨kC', hkC', -⟩ := hal.2.2 _ _ hkC
        obtain ⟨kE', hkE', -⟩ := hal.2.2 _ _ hkE
        refine ⟨rfl, cellV, (show T.heap[y]? = some cellV by rw [hT]; exact f1), (fun q h => by rw [h] at f2; cases f2), ⟨kC', hkC'⟩, ⟨kE', hkE'⟩, ?_⟩
        show vm₁.assignable _ _ = true
        rw [hal.assignable]
        exact hasg _ r3)
    (g := F0 m pc ls (.int n' :: .int dp :: .ref a :: .int sp :: .ref a0 :: st)) rfl (by rw [S.2.2.1, h3.1]) (rest := st) rfl (by rw [S.2.1]; exact hdg) hf (by show 2 * 0 + _ + _ ≤ _; have := hlo; unfold z_sm at this; omega)
  have ec : copied (vp_cell (cy 6) (z_ln a0 u, .inr (.inr (.inr (.inr (fun j => z_aR a0 j u)))))) (vp_cell (cy 6) (z_ln a u, .inr (.inr (.inr (.inr (fun j => z_aR a j u)))))) sp dp n' = vp_cell (cy 6) (z_ln a u, .inr (.inr (.inr (.inr (va_cpy (fun j => z_aR a0 j u) (fun j => z_aR a j u) sp.toNatClampNeg dp.toNatClampNeg n'.toNatClampNeg))))) := by
    rw [vp_cell_q, vp_cell_q, vp_cell_q]
    exact va_copied (fun z => va_rf z) (cy 6) (cy 6) (fun j => z_aR a0 j u) (fun j => z_aR a j u) g4
  rw [ec] at X' step
  have hl : a < H.size := hat.lt
  have oq : ∀ q : Nat, q ≠ a → (H.setIfInBounds a (vp_cell (cy 6) (z_ln a u, .inr (.inr (.inr (.inr (va_cpy (fun j => z_aR a0 j u) (fun j => z_aR a j u) sp.toNatClampNeg dp.toNatClampNeg n'.toNatClampNeg)))))))[q]? = H[q]? := fun q hq => by simp [Array.getElem?_setIfInBounds, Ne.symm hq]
  obtain ⟨t, b1, b2⟩ := kk _ _ ls (h1.put a (fun _ => rfl) (fun _ => rfl) (fun b hb => z_cell_cR hb) (by
      rw [z_cell_q (u := z_cR a0 a sp.toNatClampNeg dp.toNatClampNeg n'.toNatClampNeg u) hk.1 (by decide)]
      have ee : (fun j => z_aR a j (z_cR a0 a sp.toNatClampNeg dp.toNatClampNeg n'.toNatClampNeg u)) = va_cpy (fun j => z_aR a0 j u) (fun j => z_aR a j u) sp.toNatClampNeg dp.toNatClampNeg n'.toNatClampNeg := funext fun j => if_pos rfl
      rw [ee]
      show (H.setIfInBounds a _)[a]? = some _
      simp [Array.getElem?_setIfInBounds, hl]
      rfl) oq) ⟨by simp; exact h2.1, fun q f1 f2 => by
      rw [oq q (fun e0 => f2 (by rw [e0]; exact hA))]
      exact h2.2.1 q f1 f2, fun q hq => by
      rcases List.mem_append.mp hq with h | h
      · exact h2.2.2 q h
      · obtain ⟨z, -, hz⟩ := List.mem_map.mp h
        rw [← hz]
        exact hA⟩ h3 _ (show ((T.setVm vm').setCell a _).heap = _ by rw [← hT]; rfl) X'
  exact ⟨t, step t b1, b2⟩
end ZC
