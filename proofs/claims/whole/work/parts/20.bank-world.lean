/-! THE BANK's world, by addresses: the kind of each cell, an array's length, the fields (by a number of their own) and the arrays' entries -/
abbrev z_St : Type := (Nat → Nat) × (Nat → Nat) × (Nat → Nat → Int32) × (Nat → Nat → Option Nat) × (Nat → Nat → Int32) × (Nat → Nat → Option Nat)
def z_kd (a : Nat) (u : z_St) : Nat := u.1 a
def z_ln (a : Nat) (u : z_St) : Nat := u.2.1 a
def z_gI (f a : Nat) (u : z_St) : Int32 := u.2.2.1 f a
def z_gR (f a : Nat) (u : z_St) : Option Nat := u.2.2.2.1 f a
def z_aI (a j : Nat) (u : z_St) : Int32 := u.2.2.2.2.1 a j
def z_aR (a j : Nat) (u : z_St) : Option Nat := u.2.2.2.2.2 a j
def z_pI (f a : Nat) (v : Int32) (u : z_St) : z_St := (u.1, u.2.1, z_up u.2.2.1 f a v, u.2.2.2.1, u.2.2.2.2.1, u.2.2.2.2.2)
def z_pR (f a : Nat) (v : Option Nat) (u : z_St) : z_St := (u.1, u.2.1, u.2.2.1, z_up u.2.2.2.1 f a v, u.2.2.2.2.1, u.2.2.2.2.2)
def z_sI (a j : Nat) (v : Int32) (u : z_St) : z_St := (u.1, u.2.1, u.2.2.1, u.2.2.2.1, z_up u.2.2.2.2.1 a j v, u.2.2.2.2.2)
def z_sR (a j : Nat) (v : Option Nat) (u : z_St) : z_St := (u.1, u.2.1, u.2.2.1, u.2.2.2.1, u.2.2.2.2.1, z_up u.2.2.2.2.2 a j v)
/-- a new object of a kind at a, its fields at their defaults -/
def z_nO (κ a : Nat) (u : z_St) : z_St := (va_up u.1 a κ, u.2.1, fun f b => if b = a then 0 else u.2.2.1 f b, fun f b => if b = a then none else u.2.2.2.1 f b, u.2.2.2.2.1, u.2.2.2.2.2)
/-- a new array of a kind and a length at a -/
def z_nA (κ a n : Nat) (u : z_St) : z_St := (va_up u.1 a κ, va_up u.2.1 a n, u.2.2.1, u.2.2.2.1, fun b j => if b = a then 0 else u.2.2.2.2.1 b j, fun b j => if b = a then none else u.2.2.2.2.2 b j)
def z_fF (κ : Nat) (I : Nat → Int32) (F : Nat → Option Nat) : List Value := match κ with
  | 1 => [.int (I 35), va_rf (F 36), .int (I 37)]
  | 2 => [va_rf (F 0), va_rf (F 1), .int (I 2), va_rf (F 3)]
  | 3 => [va_rf (F 4), .int (I 5)]
  | 4 => [va_rf (F 6), .int (I 7), .int (I 8), .int (I 9), .int (I 10), .int (I 11), va_rf (F 12), .int (I 13), .int (I 14), .int (I 15)]
  | 5 => [.int (I 16), .int (I 17), va_rf (F 18), va_rf (F 19), .int (I 20)]
  | 6 => [va_rf (F 21), va_rf (F 22), .int (I 23), .int (I 24), .int (I 25)]
  | 7 => [va_rf (F 26)]
  | 8 => [va_rf (F 27), va_rf (F 28), va_rf (F 29), va_rf (F 30), va_rf (F 31), .int (I 32), .int (I 33), .int (I 34)]
  | _ => []
def z_cF (cy : Nat → ClassId) (κ : Nat) (I : Nat → Int32) (F : Nat → Option Nat) (n : Nat) (X : Nat → Int32) (Y : Nat → Option Nat) : va_E := if κ < 10 then .inr (κ - 1, z_fF κ I F) else if κ = 10 then .inl (cy 0, n, .inl X) else .inl (cy (κ - 9), n, .inr (.inr (.inr (.inr Y))))
def z_cell (cy : Nat → ClassId) (u : z_St) (a : Nat) : va_E := z_cF cy (z_kd a u) (fun f => z_gI f a u) (fun f => z_gR f a u) (z_ln a u) (fun j => z_aI a j u) (fun j => z_aR a j u)
theorem z_cell_o {cy : Nat → ClassId} {u : z_St} {a κ : Nat} (h : z_kd a u = κ) (hκ : κ < 10) : z_cell cy u a = .inr (κ - 1, z_fF κ (fun f => z_gI f a u) (fun f => z_gR f a u)) := by unfold z_cell z_cF; rw [h, if_pos hκ]
theorem z_cell_i {cy : Nat → ClassId} {u : z_St} {a : Nat} (h : z_kd a u = 10) : z_cell cy u a = .inl (cy 0, z_ln a u, .inl (fun j => z_aI a j u)) := by unfold z_cell z_cF; rw [h]; rfl
theorem z_cell_q {cy : Nat → ClassId} {u : z_St} {a κ : Nat} (h : z_kd a u = κ) (hκ : 10 < κ) : z_cell cy u a = .inl (cy (κ - 9), z_ln a u, .inr (.inr (.inr (.inr (fun j => z_aR a j u))))) := by unfold z_cell z_cF; rw [h, if_neg (by omega), if_neg (by omega)]
/-- kinds stay, and lengths -/
def z_mono (u0 u : z_St) : Prop := ∀ a, z_kd a u0 ≠ 0 → z_kd a u = z_kd a u0 ∧ z_ln a u = z_ln a u0
theorem z_mono.rf (u : z_St) : z_mono u u := fun _ _ => ⟨rfl, rfl⟩
theorem z_mono.tr {u v w : z_St} (h1 : z_mono u v) (h2 : z_mono v w) : z_mono u w := fun a ha => by
  obtain ⟨a1, a2⟩ := h1 a ha
  obtain ⟨b1, b2⟩ := h2 a (by rw [a1]; exact ha)
  exact ⟨b1.trans a1, b2.trans a2⟩
theorem z_mono.k {u v : z_St} (h : z_mono u v) {a κ : Nat} (hk : z_kd a u = κ ∧ κ ≠ 0) : z_kd a v = κ ∧ κ ≠ 0 := ⟨(h a (by rw [hk.1]; exact hk.2)).1.trans hk.1, hk.2⟩
def z_hC (D : va_G) (cy : Nat → ClassId) (A : Nat → Prop) (t0 : Nat) (u0 u : z_St) (H : Heap) : Prop :=
  (∀ a, z_kd a u ≠ 0 → z_kd a u ≠ 16 → va_at D vwCl (a, z_cell cy u a) H ∧ A a) ∧ (∀ a, z_kd a u = 16 → a = t0 ∧ z_ln a u = 0) ∧ z_mono u0 u
theorem z_hC.kept {D : va_G} {cy : Nat → ClassId} {A : Nat → Prop} {t0 : Nat} {u0 u : z_St} {H H1 : Heap} (h : z_hC D cy A t0 u0 u H) (hq : ∀ q : Nat, q < H.size → A q → H1[q]? = H[q]?) : z_hC D cy A t0 u0 u H1 :=
  ⟨fun a h0 h1 => ⟨(h.1 a h0 h1).1.kept (hq a (h.1 a h0 h1).1.lt (h.1 a h0 h1).2), (h.1 a h0 h1).2⟩, h.2⟩
theorem z_hC.re {D : va_G} {cy : Nat → ClassId} {A : Nat → Prop} {t0 : Nat} {u0 u : z_St} {H : Heap} (h : z_hC D cy A t0 u0 u H) : z_hC D cy A t0 u u H := ⟨h.1, h.2.1, z_mono.rf u⟩
theorem z_hC.ba {D : va_G} {cy : Nat → ClassId} {A : Nat → Prop} {t0 : Nat} {u0 u u' : z_St} {H H1 : Heap} (h : z_hC D cy A t0 u0 u H) (h1 : z_hC D cy A t0 u u' H1) : z_hC D cy A t0 u0 u' H1 := ⟨h1.1, h1.2.1, h.2.2.tr h1.2.2⟩
/-- the cell a gets a new content; all else stays -/
theorem z_hC.put {D : va_G} {cy : Nat → ClassId} {A : Nat → Prop} {t0 : Nat} {u0 u u' : z_St} {H H1 : Heap} (h : z_hC D cy A t0 u0 u H) (a : Nat) (hk : ∀ b, z_kd b u' = z_kd b u) (hl : ∀ b, z_ln b u' = z_ln b u) (ho : ∀ b, b ≠ a → z_cell cy u' b = z_cell cy u b) (ha : va_at D vwCl (a, z_cell cy u' a) H1) (oq : ∀ q : Nat, q ≠ a → H1[q]? = H[q]?) : z_hC D cy A t0 u0 u' H1 := by
  refine ⟨fun b h0 h1 => ?_, fun b hb => ?_, fun b hb => ?_⟩
  · rw [hk b] at h0 h1
    by_cases hb : b = a
    · subst hb; exact ⟨ha, (h.1 b h0 h1).2⟩
    · rw [ho b hb]; exact ⟨(h.1 b h0 h1).1.kept (oq b hb), (h.1 b h0 h1).2⟩
  · rw [hk b] at hb; rw [hl b]; exact h.2.1 b hb
  · rw [hk b, hl b]; exact h.2.2 b hb
/-- the cell a is new -/
theorem z_hC.new {D : va_G} {cy : Nat → ClassId} {A : Nat → Prop} {t0 : Nat} {u0 u u' : z_St} {H H1 : Heap} (h : z_hC D cy A t0 u0 u H) (a : Nat) (h0 : z_kd a u = 0) (hk : ∀ b, b ≠ a → z_kd b u' = z_kd b u) (hl : ∀ b, b ≠ a → z_ln b u' = z_ln b u) (ho : ∀ b, b ≠ a → z_cell cy u' b = z_cell cy u b) (ha : va_at D vwCl (a, z_cell cy u' a) H1) (hA : A a) (h16 : z_kd a u' ≠ 16) (oq : ∀ q : Nat, q < H.size → H1[q]? = H[q]?) : z_hC D cy A t0 u0 u' H1 := by
  refine ⟨fun b g0 g1 => ?_, fun b hb => ?_, fun b hb => ?_⟩
  · by_cases hb : b = a
    · subst hb; exact ⟨ha, hA⟩
    · rw [hk b hb] at g0 g1
      rw [ho b hb]; exact ⟨(h.1 b g0 g1).1.kept (oq b (h.1 b g0 g1).1.lt), (h.1 b g0 g1).2⟩
  · by_cases hba : b = a
    · subst hba; exact absurd hb h16
    · rw [hk b hba] at hb; rw [hl b hba]; exact h.2.1 b hb
  · have hba : b ≠ a := by
      intro e
      subst e
      have := (h.2.2 b hb).1
      rw [h0] at this
      exact hb this.symm
    rw [hk b hba, hl b hba]; exact h.2.2 b hb
def z_ichI : Nat → Int32
  | 4 => 2
  | 5 => 4
  | 6 => 6
  | 7 => 8
  | _ => -1
def z_strs : List (Nat × String) := [(53, "the quota is not 0 .. 500"), (60, "there are 4 boxes"), (237, "there is no such box"), (240, "there is no such line"), (73, "there is no such kind"), (79, "the line is busy"), (85, "there are 16 messages"), (246, "the line is not busy"), (242, "there is no such list"), (146, "the list has no such message"), (251, "there is no such message"), (185, "there are 16 messages, or the quota does not allow it"), (190, "the message has no such sample"), (244, "a box has no such recording"), (199, "the recording has no such sample"), (204, "the number of moves is not 0 .. 100"), (209, "there is no such block"), (220, "there is no such step")]
def z_NW (U : State) : Prop := va_Nw (.methodLinkNest "MessageBank$Store" 17 ⟨"MessageBank$Block", "<init>", "()V"⟩ "MessageBank") U ∧ va_Nw (.methodLinkNest "MessageBank" 49 ⟨"MessageBank$Box", "<init>", "()V"⟩ "MessageBank") U ∧ va_Nw (.methodLinkNest "MessageBank" 50 ⟨"MessageBank$Line", "<init>", "()V"⟩ "MessageBank") U ∧ va_Nw (.methodLinkNest "MessageBank$Line" 34 ⟨"MessageBank$Recording", "<init>", "()V"⟩ "MessageBank") U ∧ va_Nw (.methodLinkNest "MessageBank$Line" 75 ⟨"MessageBank", "between", "(III)I"⟩ "MessageBank") U ∧ va_Nw (.fieldLinkNest "MessageBank$Line" 79 "MessageBank" "INDEX_CHANGES" "[I" "MessageBank") U ∧ va_Nw (.castable "MessageBank$Message" "java/lang/Object") U ∧ va_Nw (.castable "java/lang/IllegalArgumentException" "java/lang/IllegalArgumentException") U ∧ va_Nw (.castable "java/lang/IllegalStateException" "java/lang/IllegalStateException") U ∧ va_Nw (.castable "java/util/NoSuchElementException" "java/util/NoSuchElementException") U ∧ va_Nw (.castable "java/lang/IndexOutOfBoundsException" "java/lang/IndexOutOfBoundsException") U ∧ va_Nw (.declares ⟨"java/lang/RuntimeException", "<init>", "(Ljava/lang/String;)V"⟩) U ∧ va_Nw (.declares ⟨"java/lang/Exception", "<init>", "(Ljava/lang/String;)V"⟩) U ∧ va_Nw (.declares ⟨"java/lang/Throwable", "<init>", "(Ljava/lang/String;)V"⟩) U ∧ va_AO "MessageBank$Block" U ∧ va_AO "MessageBank$Box" U ∧ va_AO "MessageBank$Line" U ∧ va_AO "MessageBank$Recording" U ∧ va_AO "java/lang/Object" U
theorem z_NW.warm {s U : State} (hW : s.WarmedH U.vm) (h : z_NW s) : z_NW U := by
  obtain ⟨h0, h1, h2, h3, h4, h5, h6, h7, h8, h9, h10, h11, h12, h13, h14, h15, h16, h17, h18⟩ := h
  exact ⟨va_Nw.warmM hW h0, va_Nw.warmM hW h1, va_Nw.warmM hW h2, va_Nw.warmM hW h3, va_Nw.warmM hW h4, va_Nw.warmF hW h5, va_Nw.warmC hW h6, va_Nw.warmC hW h7, va_Nw.warmC hW h8, va_Nw.warmC hW h9, va_Nw.warmC hW h10, va_Nw.warmD hW h11, va_Nw.warmD hW h12, va_Nw.warmD hW h13, va_AO.moved hW.alike h14, va_AO.moved hW.alike h15, va_AO.moved hW.alike h16, va_AO.moved hW.alike h17, va_AO.moved hW.alike h18⟩
theorem z_NW.call {U : State} (g : JFrame) (mk : MethodId) (a : Array Value) (h : z_NW U) : z_NW (U.calling g mk a) := by
  obtain ⟨h0, h1, h2, h3, h4, h5, h6, h7, h8, h9, h10, h11, h12, h13, h14, h15, h16, h17, h18⟩ := h
  exact ⟨va_Nw.same rfl rfl h0, va_Nw.same rfl rfl h1, va_Nw.same rfl rfl h2, va_Nw.same rfl rfl h3, va_Nw.same rfl rfl h4, va_Nw.same rfl rfl h5, va_Nw.same rfl rfl h6, va_Nw.same rfl rfl h7, va_Nw.same rfl rfl h8, va_Nw.same rfl rfl h9, va_Nw.same rfl rfl h10, va_Nw.same rfl rfl h11, va_Nw.same rfl rfl h12, va_Nw.same rfl rfl h13, va_AO.moved (Vm.Alike.refl U.vm) h14, va_AO.moved (Vm.Alike.refl U.vm) h15, va_AO.moved (Vm.Alike.refl U.vm) h16, va_AO.moved (Vm.Alike.refl U.vm) h17, va_AO.moved (Vm.Alike.refl U.vm) h18⟩
def zx_B : List Cond := [.castable "java/lang/IllegalArgumentException" "java/lang/IllegalArgumentException", .castable "java/lang/IllegalStateException" "java/lang/IllegalStateException", .castable "java/util/NoSuchElementException" "java/util/NoSuchElementException", .castable "java/lang/IndexOutOfBoundsException" "java/lang/IndexOutOfBoundsException", .declares ⟨"java/lang/RuntimeException", "<init>", "(Ljava/lang/String;)V"⟩, .declares ⟨"java/lang/Exception", "<init>", "(Ljava/lang/String;)V"⟩, .declares ⟨"java/lang/Throwable", "<init>", "(Ljava/lang/String;)V"⟩]
theorem zx_Bof {s : State} (h : z_NW s) (args : Array Value) : ∀ w ∈ zx_B, w.before args s = true := by
  obtain ⟨h0, h1, h2, h3, h4, h5, h6, h7, h8, h9, h10, h11, h12, h13, h14, h15, h16, h17, h18⟩ := h
  exact (vx_c (va_Nw.use rfl h7) (vx_c (va_Nw.use rfl h8) (vx_c (va_Nw.use rfl h9) (vx_c (va_Nw.use rfl h10) (vx_c (va_Nw.use rfl h11) (vx_c (va_Nw.use rfl h12) (vx_c (va_Nw.use rfl h13) vx_n)))))))
/-- what holds of the state aside from the world -/
def z_EC (D : va_G) (cy : Nat → ClassId) (A : Nat → Prop) (t0 mi : Nat) (U : State) : Prop :=
  va_K D vwCl (z_tys cy) U ∧ (∀ q : Nat, U.heap.size ≤ q → A q) ∧ vx_Zq Bundle.tN "UNASSIGNED_STACK" Bundle.steD A U U.heap ∧ vx_Zq Bundle.tN "SUPPRESSED_SENTINEL" Bundle.listD A U U.heap ∧
  (∀ q ∈ z_strs, ∃ sa, vk_R "MessageBank" q.1 q.2 sa U) ∧ (∃ t, va_Z "MessageBank" "INDEX_CHANGES" "[I" (.ref t) A U U.heap ∧ va_T .int t 8 (fun j => .int (z_ichI j)) A U U.heap) ∧
  va_Z "java/util/ArrayList" "DEFAULTCAPACITY_EMPTY_ELEMENTDATA" "[Ljava/lang/Object;" (.ref t0) A U U.heap ∧ va_T (.object "java/lang/Object") t0 0 (fun _ => .null) A U U.heap ∧ z_NW U ∧ va_Mi "[Ljava/lang/Object;" mi U ∧ va_Dc U
theorem z_ECok (D : va_G) (cy : Nat → ClassId) (A : Nat → Prop) (t0 mi : Nat) : z_Eok (z_EC D cy A t0 mi) A := by
  refine ⟨fun U g mk a h => ?_, fun s U H locs h hS hU hW => ?_⟩
  · obtain ⟨h1, h2, h3, h4, h5, ⟨t, h6, h7⟩, h8, h9, h10, h11, h12⟩ := h
    refine ⟨va_K.moved (u := U) (U := U.calling g mk a) (Vm.Alike.refl U.vm) h1, h2, vx_Zq.moved (u := U) (U := U.calling g mk a) (Vm.Alike.refl U.vm) h3, vx_Zq.moved (u := U) (U := U.calling g mk a) (Vm.Alike.refl U.vm) h4, fun q hq => ?_, ⟨t, va_Z.moved (u := U) (U := U.calling g mk a) (Vm.Alike.refl U.vm) h6, va_T.moved (u := U) (U := U.calling g mk a) (Vm.Alike.refl U.vm) h7⟩, va_Z.moved (u := U) (U := U.calling g mk a) (Vm.Alike.refl U.vm) h8, va_T.moved (u := U) (U := U.calling g mk a) (Vm.Alike.refl U.vm) h9, z_NW.call g mk a h10, va_Mi.moved (u := U) (U := U.calling g mk a) (Vm.Alike.refl U.vm) h11, va_Dc.moved (u := U) (U := U.calling g mk a) (Vm.Alike.refl U.vm) h12⟩
    obtain ⟨sa, hsa⟩ := h5 q hq
    exact ⟨sa, vk_R.same (u := U) (U := U.calling g mk a) rfl hsa⟩
  · obtain ⟨h1, h2, h3, h4, h5, ⟨t, h6, h7⟩, h8, h9, h10, h11, h12⟩ := h
    subst hU
    refine ⟨va_K.moved hW.alike h1, fun q hq => h2 q (Nat.le_trans hS.1 hq), vx_Zq.moved hW.alike (h3.kept hS.2.1), vx_Zq.moved hW.alike (h4.kept hS.2.1), fun q hq => ?_, ⟨t, va_Z.moved hW.alike (h6.kept hS.2.1), va_T.moved hW.alike (h7.kept hS.2.1)⟩, va_Z.moved hW.alike (h8.kept hS.2.1), va_T.moved hW.alike (h9.kept hS.2.1), h10.warm hW, va_Mi.moved hW.alike h11, va_Dc.moved hW.alike h12⟩
    obtain ⟨sa, hsa⟩ := h5 q hq
    exact ⟨sa, vk_R.warm hW hsa⟩
