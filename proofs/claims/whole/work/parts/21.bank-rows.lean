theorem z_one {D : va_G} {cl : List vw_C} {q : Nat × va_E} {H : Heap} (h : va_at D cl q H) : va_P D cl [q] H := fun k x hk => by
  match k, hk with
  | 0, hk => cases hk; exact h
  | k + 1, hk => simp at hk
theorem z_cell_pI {cy : Nat → ClassId} {f a : Nat} {x : Int32} {u : z_St} {b : Nat} (h : b ≠ a) : z_cell cy (z_pI f a x u) b = z_cell cy u b := by
  have e : (fun f' => z_gI f' b (z_pI f a x u)) = fun f' => z_gI f' b u := funext fun f' => z_up_a _ _ _ _ h
  unfold z_cell
  rw [e]; rfl
theorem z_cell_pR {cy : Nat → ClassId} {f a : Nat} {x : Option Nat} {u : z_St} {b : Nat} (h : b ≠ a) : z_cell cy (z_pR f a x u) b = z_cell cy u b := by
  have e : (fun f' => z_gR f' b (z_pR f a x u)) = fun f' => z_gR f' b u := funext fun f' => z_up_a _ _ _ _ h
  unfold z_cell
  rw [e]; rfl
theorem z_cell_sI {cy : Nat → ClassId} {a j : Nat} {x : Int32} {u : z_St} {b : Nat} (h : b ≠ a) : z_cell cy (z_sI a j x u) b = z_cell cy u b := by
  have e : (fun j' => z_aI b j' (z_sI a j x u)) = fun j' => z_aI b j' u := funext fun j' => by show z_up _ _ _ _ _ _ = _; rw [z_up_f _ _ _ h]; rfl
  unfold z_cell
  rw [e]; rfl
theorem z_cell_sR {cy : Nat → ClassId} {a j : Nat} {x : Option Nat} {u : z_St} {b : Nat} (h : b ≠ a) : z_cell cy (z_sR a j x u) b = z_cell cy u b := by
  have e : (fun j' => z_aR b j' (z_sR a j x u)) = fun j' => z_aR b j' u := funext fun j' => by show z_up _ _ _ _ _ _ = _; rw [z_up_f _ _ _ h]; rfl
  unfold z_cell
  rw [e]; rfl
theorem z_cell_nO {cy : Nat → ClassId} {κ a : Nat} {u : z_St} {b : Nat} (h : b ≠ a) : z_cell cy (z_nO κ a u) b = z_cell cy u b := by
  have e1 : z_kd b (z_nO κ a u) = z_kd b u := va_up_ne _ _ h
  have e2 : (fun f' => z_gI f' b (z_nO κ a u)) = fun f' => z_gI f' b u := funext fun f' => if_neg h
  have e3 : (fun f' => z_gR f' b (z_nO κ a u)) = fun f' => z_gR f' b u := funext fun f' => if_neg h
  unfold z_cell
  rw [e1, e2, e3]; rfl
theorem z_cell_nA {cy : Nat → ClassId} {κ a n : Nat} {u : z_St} {b : Nat} (h : b ≠ a) : z_cell cy (z_nA κ a n u) b = z_cell cy u b := by
  have e1 : z_kd b (z_nA κ a n u) = z_kd b u := va_up_ne _ _ h
  have e0 : z_ln b (z_nA κ a n u) = z_ln b u := va_up_ne _ _ h
  have e2 : (fun j => z_aI b j (z_nA κ a n u)) = fun j => z_aI b j u := funext fun f' => if_neg h
  have e3 : (fun j => z_aR b j (z_nA κ a n u)) = fun j => z_aR b j u := funext fun f' => if_neg h
  unfold z_cell
  rw [e0, e1, e2, e3]; rfl
theorem z_nrf {ty : FieldType} (h : (∃ n, ty = .object n) ∨ ∃ t, ty = .array t) (r : Option Nat) : narrow ty (va_rf r) = va_rf r ∧ fits ty (va_rf r) = true := by
  rcases h with ⟨n, rfl⟩ | ⟨t, rfl⟩ <;> cases r <;> exact ⟨rfl, rfl⟩
section ZB
variable {p : Program} {l : Launch} {e : Env} {R : Room} {s : State} {m : MethodId} {args : Array Value} {below : List Frame} {meth : Method} {c : Code} {Q : State → Prop} {cc : ByteArray} {nL : Nat} {own : String} {A : Nat → Prop} {k n : Nat} {pc : Nat} {lv : List (Nat × Value)} {st : List Value} {D : va_G} {cy : Nat → ClassId} {t0 mi : Nat} {u0 u : z_St}
theorem z_recvC {s : State} {a κ : Nat} {q : vw_C} (hE : z_EC D cy A t0 mi s) (hk : z_kd a u = κ ∧ κ ≠ 0) (hκ : κ < 10) (hc : vwCl[κ - 1]? = some q) : ∀ H : Heap, z_hC D cy A t0 u0 u H → ∃ cell : Cell, H[a]? = some cell ∧ cell.vm.isStatics = false ∧ s.vm.findClass q.1 = some cell.cls := fun H h => by
  have hat := (h.1 a (by rw [hk.1]; exact hk.2) (by rw [hk.1]; omega)).1
  rw [z_cell_o hk.1 hκ] at hat
  exact va_recv (q0 := 0) hE.1 (z_one hat) hc rfl
theorem z_cget {κ k0 index N a : Nat} {C ref : String} {T : u_T} {v : Value} (S : CallFix p m c cc nL s args z_T own) (hE : z_EC D cy A t0 mi s) (hk : z_kd a u = κ ∧ κ ≠ 0) (hκ : κ < 10) (hc : vwCl[κ - 1]? = some (C, T, N)) (hws : ∀ w ∈ u_ws C T N, w ∈ z_T) (hk0 : k0 < N) (hlink : Cond.fieldLink own index ref (T k0).2.1 (T k0).2.2.1 ∈ z_T) (hsame : ∀ x, s.fieldFound? (T k0).1 (T k0).2.1 (T k0).2.2.1 = some x → s.fieldFound? ref (T k0).2.1 (T k0).2.2.1 = some x) (hv : (z_fF κ (fun f => z_gI f a u) (fun f => z_gR f a u))[k0]? = some v) (hdg : decode cc pc = .ok (.getfield index, 3)) (kk : z_V A (z_hC D cy A t0 u0) p l e R s m args below meth c nL Q k n u (pc + 3) lv (v :: st)) : z_V A (z_hC D cy A t0 u0) p l e R s m args below meth c nL Q k n u pc lv (.ref a :: st) := fun H locs ls h1 h2 h3 => by
  have hat := (h1.1 a (by rw [hk.1]; exact hk.2) (by rw [hk.1]; omega)).1
  rw [z_cell_o hk.1 hκ] at hat
  exact va_get S.1 S.2.1 S.2.2.2.2 hws S.2.2.2.1 hE.1 (z_one hat) 0 rfl hc k0 hk0 (S.2.2.2.2 _ hlink) hsame hv hdg (kk H locs ls h1 h2 h3)
theorem z_cput {κ k0 index N a : Nat} {C ref : String} {T : u_T} {ty0 : Nat → FieldType} {x : Value} {ty : FieldType} {u' : z_St} (S : CallFix p m c cc nL s args z_T own) (hE : z_EC D cy A t0 mi s) (hk : z_kd a u = κ ∧ κ ≠ 0) (hκ : κ < 10) (hc : vwCl[κ - 1]? = some (C, T, N)) (hws : ∀ w ∈ u_ws C T N, w ∈ z_T) (hty : ∀ k, k < N → parseFieldDescriptor (T k).2.2.1 = some (ty0 k)) (hnm : ∀ a, a < N → ∀ b, b < N → a ≠ b → (T a).2.1 ≠ (T b).2.1) (hk0 : k0 < N) (hlink : Cond.fieldLink own index ref (T k0).2.1 (T k0).2.2.1 ∈ z_T) (hsame : ∀ x, s.fieldFound? (T k0).1 (T k0).2.1 (T k0).2.2.1 = some x → s.fieldFound? ref (T k0).2.1 (T k0).2.2.1 = some x) (hfin : (T k0).2.2.2 = false ∨ ((T k0).2.2.2 = true ∧ meth.name = "<init>" ∧ (T k0).1 = own)) (hd : parseFieldDescriptor (T k0).2.2.1 = some ty) (hn : narrow ty x = x) (hfit : fits ty x = true) (hlen : k0 < (z_fF κ (fun f => z_gI f a u) (fun f => z_gR f a u)).length)
    (hset : z_fF κ (fun f => z_gI f a u') (fun f => z_gR f a u') = (z_fF κ (fun f => z_gI f a u) (fun f => z_gR f a u)).set k0 x) (hk' : ∀ b, z_kd b u' = z_kd b u) (hl' : ∀ b, z_ln b u' = z_ln b u) (ho : ∀ b, b ≠ a → z_cell cy u' b = z_cell cy u b) (hdg : decode cc pc = .ok (.putfield index, 3)) (kk : z_V A (z_hC D cy A t0 u0) p l e R s m args below meth c nL Q k n u' (pc + 3) lv st) : z_V A (z_hC D cy A t0 u0) p l e R s m args below meth c nL Q k n u pc lv (x :: .ref a :: st) := fun H locs ls h1 h2 h3 => by
  have hA := (h1.1 a (by rw [hk.1]; exact hk.2) (by rw [hk.1]; omega)).2
  have hat := (h1.1 a (by rw [hk.1]; exact hk.2) (by rw [hk.1]; omega)).1
  rw [z_cell_o hk.1 hκ] at hat
  have hap := va_apart (own := own) S.2.2.2.2 hws ty0 hty hnm hE.1 hc
  obtain ⟨r, q0, cell, q1, q2, q3, q4⟩ := hat
  have hr : r = (C, T, N) := Option.some.inj (q0.symm.trans hc)
  subst hr
  obtain ⟨hS, hfc, kC, hkC, hkind⟩ := hE.1.1 (κ - 1) _ hc
  obtain ⟨cf, kf, fi, f, hi, hsl⟩ := hS k0 hk0
  have hlay := S.2.2.2.2 _ (hws _ (u_in_lay hk0))
  have hst := (u_facts hfc hkC (u_lays S.2.2.2.2 hws hk0) hi).1
  have fin : ∀ (H1 : Heap), H1[a]? = some (cell.setSlot ((D.2 (κ - 1)) k0) x) → (∀ q, q ≠ a → H1[q]? = H[q]?) → z_hC D cy A t0 u0 u' H1 := fun H1 e1 e3 => by
    refine h1.put a hk' hl' ho ?_ e3
    rw [z_cell_o ((hk' a).trans hk.1) hκ, hset]
    exact ⟨_, hc, t_OB.to (V := updV (vp_V (z_fF κ (fun f => z_gI f a u) (fun f => z_gR f a u))) k0 x) ⟨_, e1, q2, q3, t_set q4 hap hk0 x⟩ (fun j _ => vp_updV_set hlen x j)⟩
  rcases hfin with hfin | ⟨hfin, hin2, hdecl⟩
  · unfold u_lay at hlay
    rw [if_neg (by rw [hfin]; decide)] at hlay
    have h6 := u_store hfc hkC hkind hlay hi hd hn hfit
    refine W.putK S.1 S.2.1 (f := f) ⟨S.2.2.2.1, S.2.2.2.2 _ hlink, ⟨_, _, _, hsame _ hi⟩, hst⟩ (by rw [q2]; exact h6) q1 q3 (by rw [hsl]; exact k2_hasslot (q4 k0 hk0)) rfl rfl hdg fun H' e1 e2 e3 => ?_
    rw [hsl] at e1 ⊢
    exact kk H' _ ls (fin H' e1 e3) (h2.put e2 e3 hA) h3
  · unfold u_lay at hlay
    rw [if_pos hfin] at hlay
    have hcf : m.cls = cf := by
      obtain ⟨_, _, c', _, _, _, -, -, hf', -, -, -, hown2, -⟩ := Cond.laysFinal_spec hlay
      have e1 : c' = cf := by have := hi.symm.trans hf'; simp at this; exact this.1.symm
      rw [hdecl] at hown2
      rw [← e1]; exact Option.some.inj (S.2.2.2.1.symm.trans hown2)
    have h6 := u_fits hfc hkC hkind (Or.inr hlay) hi hd hn hfit
    refine W.putFinK S.1 S.2.1 S.2.2.2.1 (S.2.2.2.2 _ hlink) (hsame _ hi) hst hcf hin2 (by rw [q2]; exact h6) q1 q3 (by rw [hsl]; exact k2_hasslot (q4 k0 hk0)) rfl rfl hdg fun H' e1 e2 e3 => ?_
    rw [hsl] at e1 ⊢
    exact kk H' _ ls (fin H' e1 e3) (h2.put e2 e3 hA) h3
theorem z_cald {a : Nat} {i : Int32} (S : CallFix p m c cc nL s args z_T own) (hE : z_EC D cy A t0 mi s) (hk : z_kd a u = 10 ∧ 10 ≠ 0) (hin : vp_in i (z_ln a u)) (hdg : decode cc pc = .ok (.iaload, 1)) (kk : z_V A (z_hC D cy A t0 u0) p l e R s m args below meth c nL Q k n u (pc + 1) lv (.int (z_aI a i.toNatClampNeg u) :: st)) : z_V A (z_hC D cy A t0 u0) p l e R s m args below meth c nL Q k n u pc lv (.int i :: .ref a :: st) := fun H locs ls h1 h2 h3 => by
  have hat := (h1.1 a (by rw [hk.1]; decide) (by rw [hk.1]; decide)).1
  rw [z_cell_i hk.1] at hat
  exact va_iald S.1 S.2.1 hE.1 (z_one hat) 0 0 rfl rfl hin hdg (kk H locs ls h1 h2 h3)
theorem z_cast {a : Nat} {i x : Int32} (S : CallFix p m c cc nL s args z_T own) (hE : z_EC D cy A t0 mi s) (hk : z_kd a u = 10 ∧ 10 ≠ 0) (hin : vp_in i (z_ln a u)) (hdg : decode cc pc = .ok (.iastore, 1)) (kk : z_V A (z_hC D cy A t0 u0) p l e R s m args below meth c nL Q k n (z_sI a i.toNatClampNeg x u) (pc + 1) lv st) : z_V A (z_hC D cy A t0 u0) p l e R s m args below meth c nL Q k n u pc lv (.int x :: .int i :: .ref a :: st) := fun H locs ls h1 h2 h3 => by
  have hA := (h1.1 a (by rw [hk.1]; decide) (by rw [hk.1]; decide)).2
  have hat := (h1.1 a (by rw [hk.1]; decide) (by rw [hk.1]; decide)).1
  rw [z_cell_i hk.1] at hat
  refine W.iast S.1 S.2.1 hat ((hE.1.2 0 _ rfl).1 (z_ln a u) (fun q => .int (z_aI a q u))) (fun q => by cases q) (by show ¬ (i < 0 ∨ (arrV _ _ _).slots.size ≤ _); rw [arrV_size]; exact hin) rfl rfl hdg fun H1 e z oq => ?_
  refine kk H1 _ ls (h1.put a (fun _ => rfl) (fun _ => rfl) (fun b hb => z_cell_sI hb) ?_ oq) (h2.put z oq hA) h3
  rw [z_cell_i (u := z_sI a i.toNatClampNeg x u) hk.1]
  show H1[a]? = some (vp_cell _ _)
  rw [e, vp_cell_i, vp_cell_i, arrV_store]
  show some (arrV _ (z_ln a u) _) = some (arrV _ (z_ln a u) _)
  congr 2
  funext q
  by_cases hq : q = i.toNatClampNeg
  · subst hq
    simp [updV, z_aI, z_sI, z_up]
  · simp [updV, z_aI, z_sI, z_up, hq]
theorem z_caald {a κ : Nat} {C : String} {i : Int32} (S : CallFix p m c cc nL s args z_T own) (hE : z_EC D cy A t0 mi s) (hk : z_kd a u = κ ∧ κ ≠ 0) (hκ : 10 < κ ∧ κ < 16) (hty : (z_tys cy)[κ - 9]? = some (cy (κ - 9), .object C)) (hin : vp_in i (z_ln a u)) (hdg : decode cc pc = .ok (.aaload, 1)) (kk : z_V A (z_hC D cy A t0 u0) p l e R s m args below meth c nL Q k n u (pc + 1) lv (va_rf (z_aR a i.toNatClampNeg u) :: st)) : z_V A (z_hC D cy A t0 u0) p l e R s m args below meth c nL Q k n u pc lv (.int i :: .ref a :: st) := fun H locs ls h1 h2 h3 => by
  have hat := (h1.1 a (by rw [hk.1]; exact hk.2) (by rw [hk.1]; omega)).1
  rw [z_cell_q hk.1 hκ.1] at hat
  exact va_aldq (f := fun j => z_aR a j u) S.1 S.2.1 hE.1 (z_one hat) 0 (κ - 9) rfl hty hin hdg (kk H locs ls h1 h2 h3)
theorem z_caast {a v κ κv : Nat} {C : String} {q : vw_C} {i : Int32} (S : CallFix p m c cc nL s args z_T own) (hE : z_EC D cy A t0 mi s) (hk : z_kd a u = κ ∧ κ ≠ 0) (hκ : 10 < κ ∧ κ < 16) (hty : (z_tys cy)[κ - 9]? = some (cy (κ - 9), .object C)) (hkv : z_kd v u = κv ∧ κv ≠ 0) (hκv : κv < 10) (hcv : vwCl[κv - 1]? = some q) (hasg : ∀ comp c0 : ClassId, s.vm.findClass C = some comp → ClassAt s q.1 c0 → s.vm.assignable c0 comp = true) (hin : vp_in i (z_ln a u)) (hdg : decode cc pc = .ok (.aastore, 1)) (kk : z_V A (z_hC D cy A t0 u0) p l e R s m args below meth c nL Q k n (z_sR a i.toNatClampNeg (some v) u) (pc + 1) lv st) : z_V A (z_hC D cy A t0 u0) p l e R s m args below meth c nL Q k n u pc lv (.ref v :: .int i :: .ref a :: st) := fun H locs ls h1 h2 h3 => by
  have hA := (h1.1 a (by rw [hk.1]; exact hk.2) (by rw [hk.1]; omega)).2
  have hat := (h1.1 a (by rw [hk.1]; exact hk.2) (by rw [hk.1]; omega)).1
  rw [z_cell_q hk.1 hκ.1] at hat
  have hlt : i.toNatClampNeg < z_ln a u := Nat.not_le.mp fun q => hin (Or.inr q)
  have h0 : ¬ i < 0 := fun q => hin (Or.inl q)
  obtain ⟨cellV, g1, g2, g3⟩ := z_recvC hE hkv hκv hcv H h1
  have hcls := (hE.1.1 (κv - 1) q hcv).2
  obtain ⟨kA, comp, k1, k2, k3, -⟩ := (hE.1.2 (κ - 9) _ hty).2
  have hcc : D.1 (κv - 1) = cellV.cls := Option.some.inj (hcls.1.symm.trans g3)
  obtain ⟨kE, hkE, -⟩ := Vm.findClass_spec k3
  obtain ⟨kC, hkC, -⟩ := hcls.2
  refine W.aast S.1 S.2.1 hat (fun q h => by cases h) (fun h => by cases h) k1 k2 rfl hkE ⟨h0, by show _ < (arrV _ _ _).slots.size; rw [arrV_size]; exact hlt⟩ g1 (fun q h => by rw [h] at g2; cases g2) (by rw [← hcc]; exact hkC) (by rw [← hcc]; exact hasg comp _ k3 hcls) rfl rfl hdg fun H1 e z oq => ?_
  refine kk H1 _ ls (h1.put a (fun _ => rfl) (fun _ => rfl) (fun b hb => z_cell_sR hb) ?_ oq) (h2.put z oq hA) h3
  rw [z_cell_q (u := z_sR a i.toNatClampNeg (some v) u) hk.1 hκ.1]
  show H1[a]? = some (vp_cell _ _)
  rw [e, vp_cell_q, vp_cell_q, arrV_store]
  show some (arrV _ (z_ln a u) _) = some (arrV _ (z_ln a u) _)
  congr 2
  funext q
  by_cases hq : q = i.toNatClampNeg
  · subst hq
    simp [updV, z_aR, z_sR, z_up, va_rf]
  · simp [updV, z_aR, z_sR, z_up, hq]
theorem z_caastN {a κ : Nat} {C : String} {i : Int32} (S : CallFix p m c cc nL s args z_T own) (hE : z_EC D cy A t0 mi s) (hk : z_kd a u = κ ∧ κ ≠ 0) (hκ : 10 < κ ∧ κ < 16) (hty : (z_tys cy)[κ - 9]? = some (cy (κ - 9), .object C)) (hin : vp_in i (z_ln a u)) (hdg : decode cc pc = .ok (.aastore, 1)) (kk : z_V A (z_hC D cy A t0 u0) p l e R s m args below meth c nL Q k n (z_sR a i.toNatClampNeg none u) (pc + 1) lv st) : z_V A (z_hC D cy A t0 u0) p l e R s m args below meth c nL Q k n u pc lv (.null :: .int i :: .ref a :: st) := fun H locs ls h1 h2 h3 => by
  have hA := (h1.1 a (by rw [hk.1]; exact hk.2) (by rw [hk.1]; omega)).2
  have hat := (h1.1 a (by rw [hk.1]; exact hk.2) (by rw [hk.1]; omega)).1
  rw [z_cell_q hk.1 hκ.1] at hat
  refine va_WaastN (C := C) S.1 S.2.1 hat ((hE.1.2 (κ - 9) _ hty).1 (z_ln a u) (fun j => va_rf (z_aR a j u))) (fun h => by cases h) (by show ¬ (i < 0 ∨ (arrV _ _ _).slots.size ≤ _); rw [arrV_size]; exact hin) rfl rfl hdg fun H1 e z oq => ?_
  refine kk H1 _ ls (h1.put a (fun _ => rfl) (fun _ => rfl) (fun b hb => z_cell_sR hb) ?_ oq) (h2.put z oq hA) h3
  rw [z_cell_q (u := z_sR a i.toNatClampNeg none u) hk.1 hκ.1]
  show H1[a]? = some (vp_cell _ _)
  rw [e, vp_cell_q, vp_cell_q, arrV_store]
  show some (arrV _ (z_ln a u) _) = some (arrV _ (z_ln a u) _)
  congr 2
  funext q
  by_cases hq : q = i.toNatClampNeg
  · subst hq
    simp [updV, z_aR, z_sR, z_up, va_rf]
  · simp [updV, z_aR, z_sR, z_up, hq]
theorem z_calen {a κ : Nat} {ty : FieldType} (S : CallFix p m c cc nL s args z_T own) (hE : z_EC D cy A t0 mi s) (hk : z_kd a u = κ ∧ κ ≠ 0) (hκ : 10 < κ ∧ κ < 16) (hty : (z_tys cy)[κ - 9]? = some (cy (κ - 9), ty)) (hdg : decode cc pc = .ok (.arraylength, 1)) (kk : z_V A (z_hC D cy A t0 u0) p l e R s m args below meth c nL Q k n u (pc + 1) lv (.int (nI (z_ln a u)) :: st)) : z_V A (z_hC D cy A t0 u0) p l e R s m args below meth c nL Q k n u pc lv (.ref a :: st) := fun H locs ls h1 h2 h3 => by
  have hat := (h1.1 a (by rw [hk.1]; exact hk.2) (by rw [hk.1]; omega)).1
  rw [z_cell_q hk.1 hκ.1] at hat
  exact va_alen S.1 S.2.1 hE.1 (z_one hat) 0 (κ - 9) rfl hty rfl hdg (kk H locs ls h1 h2 h3)
theorem z_calenS {a : Nat} (S : CallFix p m c cc nL s args z_T own) (hE : z_EC D cy A t0 mi s) (hk : z_kd a u = 16 ∧ 16 ≠ 0) (hdg : decode cc pc = .ok (.arraylength, 1)) (kk : z_V A (z_hC D cy A t0 u0) p l e R s m args below meth c nL Q k n u (pc + 1) lv (.int 0 :: st)) : z_V A (z_hC D cy A t0 u0) p l e R s m args below meth c nL Q k n u pc lv (.ref a :: st) := fun H locs ls h1 h2 h3 => by
  obtain ⟨-, -, -, -, -, -, -, h9, -⟩ := hE
  have ha := (h1.2.1 a hk.1).1
  subst ha
  exact va_tlen S.1 S.2.1 h9 h2 (by decide) hdg (kk H locs ls h1 h2 h3)
theorem z_fresh {H : Heap} {locs : List Loc} (hE : z_EC D cy A t0 mi s) (h1 : z_hC D cy A t0 u0 u H) (h2 : va_S A s.heap H locs) : z_kd H.size u = 0 := by
  by_cases h0 : z_kd H.size u = 0
  · exact h0
  · exfalso
    by_cases h16 : z_kd H.size u = 16
    · obtain ⟨-, -, -, -, -, -, -, ⟨cell, g1, -⟩, -⟩ := hE
      have hlt := (Array.getElem?_eq_some_iff.mp g1).1
      have := (h1.2.1 _ h16).1
      have h3 := h2.1
      omega
    · have := (h1.1 _ h0 h16).1.lt
      exact Nat.lt_irrefl _ this
theorem z_cnew {κ index N : Nat} {C : String} {T : u_T} {ty0 : Nat → FieldType} (S : CallFix p m c cc nL s args z_T own) (hE : z_EC D cy A t0 mi s) (hκ : κ < 10 ∧ κ ≠ 0) (hc : vwCl[κ - 1]? = some (C, T, N)) (hws : ∀ w ∈ u_ws C T N, w ∈ z_T) (hty : ∀ k, k < N → parseFieldDescriptor (T k).2.2.1 = some (ty0 k)) (hcl : Cond.classLink own index C ∈ z_T) (hinst : Cond.instantiable C N ∈ z_T) (hini : Cond.initialized C ∈ z_T) (hfs : ∀ j, j < N → defaultValue (ty0 j) = vp_V (z_fF κ (fun _ => 0) (fun _ => none)) j) (hcells : k + 1 ≤ R.cells) (hslots : n + N ≤ R.slots) (hdg : decode cc pc = .ok (.new index, 3)) (kk : ∀ a : Nat, z_kd a u = 0 → z_V A (z_hC D cy A t0 u0) p l e R s m args below meth c nL Q (k + 1) (n + N) (z_nO κ a u) (pc + 3) lv (.ref a :: st)) : z_V A (z_hC D cy A t0 u0) p l e R s m args below meth c nL Q k n u pc lv st := fun H locs ls h1 h2 h3 => by
  have hKn := hE.1.1 (κ - 1) _ hc
  refine W.newcK S.1 S.2.1 S.2.2.2.1 (S.2.2.2.2 _ hcl) (S.2.2.2.2 _ hinst) (S.2.2.2.2 _ hini) rfl hdg hcells hslots hKn.2.1 rfl fun H1 kC hkC e1 z1 o1 => ?_
  have h0 := z_fresh hE h1 h2
  have hAs : A H.size := hE.2.1 _ h2.1
  have hkd : z_kd H.size (z_nO κ H.size u) = κ := va_up_self _ _ _
  refine kk H.size h0 H1 locs ls (h1.new H.size h0 (fun b hb => va_up_ne _ _ hb) (fun b hb => rfl) (fun b hb => z_cell_nO hb) ?_ hAs (by rw [hkd]; omega) o1) ⟨Nat.le_trans h2.1 (by omega), fun x g1 g2 => (o1 x (Nat.lt_of_lt_of_le g1 h2.1)).trans (h2.2.1 x g1 g2), h2.2.2⟩ h3
  rw [z_cell_o hkd hκ.1]
  have e2 : (fun f => z_gI f H.size (z_nO κ H.size u)) = fun _ => 0 := funext fun f => if_pos rfl
  have e3 : (fun f => z_gR f H.size (z_nO κ H.size u)) = fun _ => none := funext fun f => if_pos rfl
  rw [e2, e3]
  exact ⟨_, hc, (u_born ty0 S.2.2.2.2 hws hKn hkC e1 hty).to hfs⟩
theorem z_cnewI {i : Int32} {N' : Nat} (S : CallFix p m c cc nL s args z_T own) (hE : z_EC D cy A t0 mi s) (harr : Cond.arrayClass .int ∈ z_T) (hn : ¬ i < 0) (hN : i.toNatClampNeg = N') (hbytes : N' * componentBytes .int ≤ 536870912) (hcells : k + 1 ≤ R.cells) (hslots : n + N' ≤ R.slots) (hdg : decode cc pc = .ok (.newarray .int, 2)) (kk : ∀ a : Nat, z_kd a u = 0 → z_V A (z_hC D cy A t0 u0) p l e R s m args below meth c nL Q (k + 1) (n + N') (z_nA 10 a N' u) (pc + 2) lv (.ref a :: st)) : z_V A (z_hC D cy A t0 u0) p l e R s m args below meth c nL Q k n u pc lv (.int i :: st) := fun H locs ls h1 h2 h3 => by
  refine va_newaK (atype := .int) S.1 S.2.1 (S.2.2.2.2 _ harr) rfl hdg rfl hn hN hbytes hcells hslots rfl fun H1 cA e1 z1 o1 hAr hNm => ?_
  have h0 := z_fresh hE h1 h2
  have hAs : A H.size := hE.2.1 _ h2.1
  have hkd : z_kd H.size (z_nA 10 H.size N' u) = 10 := va_up_self _ _ _
  have hcA : cA = cy 0 := Option.some.inj (hNm.symm.trans (hE.1.2 0 _ rfl).2)
  refine kk H.size h0 H1 locs ls (h1.new H.size h0 (fun b hb => va_up_ne _ _ hb) (fun b hb => va_up_ne _ _ hb) (fun b hb => z_cell_nA hb) ?_ hAs (by rw [hkd]; decide) o1) ⟨Nat.le_trans h2.1 (by omega), fun x g1 g2 => (o1 x (Nat.lt_of_lt_of_le g1 h2.1)).trans (h2.2.1 x g1 g2), h2.2.2⟩ h3
  rw [z_cell_i hkd]
  have e0 : z_ln H.size (z_nA 10 H.size N' u) = N' := va_up_self _ _ _
  have e2 : (fun j => z_aI H.size j (z_nA 10 H.size N' u)) = fun _ => 0 := funext fun f => if_pos rfl
  rw [e0, e2, ← hcA]
  exact e1
theorem z_cnewR {i : Int32} {κ N' index : Nat} {C : String} (S : CallFix p m c cc nL s args z_T own) (hE : z_EC D cy A t0 mi s) (hκ : 10 < κ ∧ κ < 16) (hty : (z_tys cy)[κ - 9]? = some (cy (κ - 9), .object C)) (hcl : Cond.classLink own index C ∈ z_T) (hover : va_AO C s) (hn : ¬ i < 0) (hN : i.toNatClampNeg = N') (hbytes : N' * 4 ≤ 536870912) (hcells : k + 1 ≤ R.cells) (hslots : n + N' ≤ R.slots) (hdg : decode cc pc = .ok (.anewarray index, 3)) (kk : ∀ a : Nat, z_kd a u = 0 → z_V A (z_hC D cy A t0 u0) p l e R s m args below meth c nL Q (k + 1) (n + N') (z_nA κ a N' u) (pc + 3) lv (.ref a :: st)) : z_V A (z_hC D cy A t0 u0) p l e R s m args below meth c nL Q k n u pc lv (.int i :: st) := fun H locs ls h1 h2 h3 => by
  subst hN
  refine W.anew S.1 S.2.1 S.2.2.2.1 (S.2.2.2.2 _ hcl) (va_AO.use hover) rfl hdg rfl hn hbytes hcells hslots fun cA kA comp f1 f2 f3 f4 => ?_
  generalize hH1 : H.push ({ cls := cA, slots := Array.replicate i.toNatClampNeg .null, vm := .none } : Cell) = H1
  have z1 : H1.size = H.size + 1 := by rw [← hH1, Array.size_push]
  have e1 : H1[H.size]? = some (arrV cA i.toNatClampNeg (fun _ => .null)) := by rw [← hH1, Array.getElem?_push_size, ← arrV_new]
  have o1 : ∀ q : Nat, q < H.size → H1[q]? = H[q]? := fun q hq => by rw [← hH1, Array.getElem?_push, if_neg (Nat.ne_of_lt hq)]
  have h0 := z_fresh hE h1 h2
  have hAs : A H.size := hE.2.1 _ h2.1
  have hkd : z_kd H.size (z_nA κ H.size i.toNatClampNeg u) = κ := va_up_self _ _ _
  have hcA : cA = cy (κ - 9) := by
    obtain ⟨kA2, comp2, -, -, -, g4⟩ := (hE.1.2 (κ - 9) _ hty).2
    exact Option.some.inj (f1.symm.trans g4)
  refine kk H.size h0 H1 locs ls (h1.new H.size h0 (fun b hb => va_up_ne _ _ hb) (fun b hb => va_up_ne _ _ hb) (fun b hb => z_cell_nA hb) ?_ hAs (by rw [hkd]; omega) o1) ⟨Nat.le_trans h2.1 (by omega), fun x g1 g2 => (o1 x (Nat.lt_of_lt_of_le g1 h2.1)).trans (h2.2.1 x g1 g2), h2.2.2⟩ h3
  rw [z_cell_q hkd hκ.1]
  have e0 : z_ln H.size (z_nA κ H.size i.toNatClampNeg u) = i.toNatClampNeg := va_up_self _ _ _
  have e2 : (fun j => z_aR H.size j (z_nA κ H.size i.toNatClampNeg u)) = fun _ => none := funext fun f => if_pos rfl
  rw [e0, e2, ← hcA]
  show H1[H.size]? = some (vp_cell _ _)
  rw [vp_cell_q]
  exact e1
theorem z_mmax {index : Nat} {x y : Int32} (S : CallFix p m c cc nL s args z_T own) (hlink : Cond.methodLink own index Lib.Math.max.name ∈ z_T) (hstat : Cond.static Lib.Math.max.name ∈ z_T) (hini : Cond.initialized "java/lang/Math" ∈ z_T) (hcode : Cond.code Lib.Math.max.name Lib.Math.max.code 2 (some .int) ∈ z_T) (hf : 1 ≤ R.frames) (hlo : z_sm st + 13 ≤ R.locals) (hc : k ≤ R.cells) (hs : n ≤ R.slots) {σ : Type} {hp : σ → Heap → Prop} {u : σ} (hdg : decode cc pc = .ok (.invokestatic index, 3)) (kk : z_V A hp p l e R s m args below meth c nL Q k n u (pc + 3) lv (.int (if x < y then y else x) :: st)) : z_V A hp p l e R s m args below meth c nL Q k n u pc lv (.int y :: .int x :: st) := fun H locs ls h1 h2 h3 =>
  va_mmax S.1 S.2.1 (S.2.2.1.trans h3.1.symm) S.2.2.2.1 (S.2.2.2.2 _ hlink) (S.2.2.2.2 _ hstat) (S.2.2.2.2 _ hini) (S.2.2.2.2 _ hcode) hf hlo hc hs hdg (kk H locs ls h1 h2 h3)
theorem z_mmin {index : Nat} {x y : Int32} (S : CallFix p m c cc nL s args z_T own) (hlink : Cond.methodLink own index Lib.Math.min.name ∈ z_T) (hstat : Cond.static Lib.Math.min.name ∈ z_T) (hini : Cond.initialized "java/lang/Math" ∈ z_T) (hcode : Cond.code Lib.Math.min.name Lib.Math.min.code 2 (some .int) ∈ z_T) (hf : 1 ≤ R.frames) (hlo : z_sm st + 13 ≤ R.locals) (hc : k ≤ R.cells) (hs : n ≤ R.slots) {σ : Type} {hp : σ → Heap → Prop} {u : σ} (hdg : decode cc pc = .ok (.invokestatic index, 3)) (kk : z_V A hp p l e R s m args below meth c nL Q k n u (pc + 3) lv (.int (if y < x then y else x) :: st)) : z_V A hp p l e R s m args below meth c nL Q k n u pc lv (.int y :: .int x :: st) := fun H locs ls h1 h2 h3 =>
  va_mmin S.1 S.2.1 (S.2.2.1.trans h3.1.symm) S.2.2.2.1 (S.2.2.2.2 _ hlink) (S.2.2.2.2 _ hstat) (S.2.2.2.2 _ hini) (S.2.2.2.2 _ hcode) hf hlo hc hs hdg (kk H locs ls h1 h2 h3)
theorem z_obj {index a : Nat} (S : CallFix p m c cc nL s args z_T own) (hlink : Cond.methodLink own index Lib.objectInit ∈ z_T) (hins : Cond.instanceMethod Lib.objectInit ∈ z_T) (hcode : Cond.code Lib.objectInit ⟨#[0xb1]⟩ 1 none ∈ z_T) (hf : 1 ≤ R.frames) (hlo : z_sm st + 12 ≤ R.locals) {σ : Type} {hp : σ → Heap → Prop} {u : σ} (hdg : decode cc pc = .ok (.invokespecial index, 3)) (kk : z_V A hp p l e R s m args below meth c nL Q k n u (pc + 3) lv st) : z_V A hp p l e R s m args below meth c nL Q k n u pc lv (.ref a :: st) := fun H locs ls h1 h2 h3 =>
  W.objInit S.1 S.2.1 S.2.2.2.1 (S.2.2.2.2 _ hlink) (S.2.2.2.2 _ hins) (S.2.2.2.2 _ hcode) rfl (h3.1.trans S.2.2.1.symm) rfl hdg hf (by show 2 * 0 + z_sm st + 12 ≤ _; omega) (kk H locs ls h1 h2 h3)
theorem z_cst {index a κ : Nat} {q : vw_C} (S : CallFix p m c cc nL s args z_T own) (hE : z_EC D cy A t0 mi s) (hk : z_kd a u = κ ∧ κ ≠ 0) (hκ : κ < 10) (hc : vwCl[κ - 1]? = some q) (hlink : Cond.classLink own index q.1 ∈ z_T) (hdg : decode cc pc = .ok (.checkcast index, 3)) (kk : z_V A (z_hC D cy A t0 u0) p l e R s m args below meth c nL Q k n u (pc + 3) lv (.ref a :: st)) : z_V A (z_hC D cy A t0 u0) p l e R s m args below meth c nL Q k n u pc lv (.ref a :: st) := fun H locs ls h1 h2 h3 =>
  va_castS S.1 S.2.1 S.2.2.2.1 (S.2.2.2.2 _ hlink) (hE.1.1 (κ - 1) q hc).2 (z_recvC hE hk hκ hc H h1) hdg (kk H locs ls h1 h2 h3)
end ZB
