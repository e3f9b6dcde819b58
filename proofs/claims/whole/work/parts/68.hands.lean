/-! the relation while hands hold records for a moment: pn r of them hold record r -/
def q_Up (pn : Nat → Nat) (S : Nat → Nat) (M : z_Md) (nm : Nat) : Prop :=
  (∀ r, r < 48 → M 6 r = nI (q_rfs M nm r + pn r) ∧ pn r ≤ 3) ∧ (∀ r, r < 48 → (¬ M 7 r = 0 ↔ ∃ l, l < 3 ∧ ¬ M 20 l = 0 ∧ M 23 l = nI r)) ∧
  (∀ l l', l < 3 → l' < 3 → ¬ M 20 l = 0 → ¬ M 20 l' = 0 → M 23 l = M 23 l' → l = l') ∧ (∀ r, r < 48 → ¬ M 7 r = 0 → M 6 r = 0) ∧ (∀ r, r < 48 → M 6 r = 0 → M 7 r = 0 → S r = 0)
def q_Wp (pn : Nat → Nat) (t0 N : Nat) (M : z_Md) (S : Nat → Nat) (C : Nat → Nat → Nat) (E : Nat → Nat → Int32 × Int32) (nb nm md : Nat) (K : Nat → Nat → Nat) (u : z_St) : Prop :=
  q_stp M ∧ q_P N M S C E ∧ q_Q N M nb nm md ∧ q_Up pn S M nm ∧ q_wK t0 nm M K u ∧ q_wP K u ∧ q_wB M S C E K u ∧ q_wX nb M K u ∧ q_wM nm M K u ∧ (∀ l, l < 3 → q_wl N S E M K u l) ∧ q_wR M S C E K u ∧ q_wI M K u
section OH
variable {t0 ti mi nb nm md N N' : Nat} {pn pn' : Nat → Nat} {M M' : z_Md} {S S' : Nat → Nat} {C C' : Nat → Nat → Nat} {E E' : Nat → Nat → Int32 × Int32} {K K' : Nat → Nat → Nat} {u u' : z_St}
theorem q_W.p (h : q_W t0 N M S C E nb nm md K u) : q_Wp (fun _ => 0) t0 N M S C E nb nm md K u := by
  obtain ⟨a1, a2, a3, a4, a5, a6, a7, a8, a9, a10, a11, a12⟩ := h
  exact ⟨a1, a2, a3, ⟨fun r hr => ⟨a4.1 r hr, Nat.zero_le 3⟩, a4.2⟩, a5, a6, a7, a8, a9, a10, a11, a12⟩
theorem q_Wp.w (h : q_Wp pn t0 N M S C E nb nm md K u) (h0 : ∀ r, r < 48 → pn r = 0) : q_W t0 N M S C E nb nm md K u := by
  obtain ⟨a1, a2, a3, a4, a5, a6, a7, a8, a9, a10, a11, a12⟩ := h
  refine ⟨a1, a2, a3, ⟨fun r hr => ?_, a4.2⟩, a5, a6, a7, a8, a9, a10, a11, a12⟩
  have := (a4.1 r hr).1
  rw [h0 r hr] at this
  exact this
theorem q_Wp.cg (h : q_Wp pn t0 N M S C E nb nm md K u) (h0 : ∀ r, r < 48 → pn' r = pn r) : q_Wp pn' t0 N M S C E nb nm md K u := by
  obtain ⟨a1, a2, a3, a4, a5, a6, a7, a8, a9, a10, a11, a12⟩ := h
  refine ⟨a1, a2, a3, ⟨fun r hr => ?_, a4.2⟩, a5, a6, a7, a8, a9, a10, a11, a12⟩
  rw [h0 r hr]
  exact a4.1 r hr
theorem q_Up.p (h : q_Up pn S M nm) (hn : nm ≤ 16) {r : Nat} (hr : r < 48) (hp : 0 < q_rfs M nm r + pn r) : ¬ M 6 r = 0 := by
  obtain ⟨e, b⟩ := h.1 r hr
  have hle := q_rfs_le (M := M) (nm := nm) (r := r) hn
  rw [e]
  exact nI_ne0 hp (by omega)
theorem q_Up.l18 {m r : Nat} (h : q_Up pn S M nm) (hn : nm ≤ 16) (hm : m < nm) (hr : r < 48) (e : M 18 m = nI r) : ¬ M 6 r = 0 := by
  refine h.p hn hr ?_
  have := (fb_ct_pos (p := fun m => decide (M 18 m = nI r)) (n := nm)).mpr ⟨m, hm, decide_eq_true e⟩
  unfold q_rfs; omega
theorem q_Up.l19 {m r : Nat} (h : q_Up pn S M nm) (hn : nm ≤ 16) (hm : m < nm) (hr : r < 48) (e : M 19 m = nI r) : ¬ M 6 r = 0 := by
  refine h.p hn hr ?_
  have := (fb_ct_pos (p := fun m => decide (M 19 m = nI r)) (n := nm)).mpr ⟨m, hm, decide_eq_true e⟩
  unfold q_rfs; omega
theorem q_Up.l12 {s r : Nat} (h : q_Up pn S M nm) (hn : nm ≤ 16) (hs : s < 12) (hr : r < 48) (e : M 12 s = nI r) : ¬ M 6 r = 0 := by
  refine h.p hn hr ?_
  have := (fb_ct_pos (p := fun s => decide (M 12 s = nI r)) (n := 12)).mpr ⟨s, hs, decide_eq_true e⟩
  unfold q_rfs; omega
theorem q_Up.l23 {l r : Nat} (h : q_Up pn S M nm) (hl : l < 3) (hr : r < 48) (hb : ¬ M 20 l = 0) (e : M 23 l = nI r) : ¬ M 7 r = 0 := (h.2.1 r hr).mpr ⟨l, hl, hb, e⟩
/-! parts of the relation that stay -/
theorem q_wK.sub (h : q_wK t0 nm M K u) (hl : ∀ r, r < 48 → q_lv M' r → q_lv M r) (g1 : ∀ x, z_kd x u' = z_kd x u) (g2 : ∀ x, z_ln x u' = z_ln x u) : q_wK t0 nm M' K u' := by
  have hv : ∀ f j, q_vd M' nm f j → q_vd M nm f j := fun f j w => by
    rcases w with w | w | ⟨w1, w2, w3⟩
    · exact Or.inl w
    · exact Or.inr (Or.inl w)
    · exact Or.inr (Or.inr ⟨w1, w2, hl j w2 w3⟩)
  refine ⟨fun f j w hn => (g1 _).trans (h.1 f j (hv f j w) hn), fun f j b1 b2 b3 => (g2 _).trans (h.2.1 f j b1 b2 b3), ?_, fun f j f' j' w w' e => h.2.2.2 f j f' j' (hv f j w) (hv f' j' w') e⟩
  rw [g1, g2]; exact h.2.2.1
theorem q_wP.fr (h : q_wP K u) (gR : ∀ f x, f ≠ 3 → f ≠ 12 → f ≠ 18 → f ≠ 19 → f ≠ 21 → f ≠ 22 → z_gR f x u' = z_gR f x u) (gB : ∀ x j, (x = K 2 0 ∨ x = K 7 0 ∨ x = K 10 0) → z_aR x j u' = z_aR x j u) (gA : ∀ j, z_aI (K 6 0) j u' = z_aI (K 6 0) j u) : q_wP K u' := by
  obtain ⟨p28, p26, p2, p4, p27, p6, p29, p7, p30, p10, p31, p36⟩ := h
  refine ⟨(gR _ _ (by omega) (by omega) (by omega) (by omega) (by omega) (by omega)).trans p28, (gR _ _ (by omega) (by omega) (by omega) (by omega) (by omega) (by omega)).trans p26, fun b hb => (gB _ _ (Or.inl rfl)).trans (p2 b hb), fun b hb => ⟨(gR _ _ (by omega) (by omega) (by omega) (by omega) (by omega) (by omega)).trans (p4 b hb).1, (gR _ _ (by omega) (by omega) (by omega) (by omega) (by omega) (by omega)).trans (p4 b hb).2⟩, (gR _ _ (by omega) (by omega) (by omega) (by omega) (by omega) (by omega)).trans p27, fun j hj => (gA j).trans (p6 j hj), (gR _ _ (by omega) (by omega) (by omega) (by omega) (by omega) (by omega)).trans p29, fun i hi => ⟨(gB _ _ (Or.inr (Or.inl rfl))).trans (p7 i hi).1, (gR _ _ (by omega) (by omega) (by omega) (by omega) (by omega) (by omega)).trans (p7 i hi).2⟩, (gR _ _ (by omega) (by omega) (by omega) (by omega) (by omega) (by omega)).trans p30, fun l hl => ⟨(gB _ _ (Or.inr (Or.inr rfl))).trans (p10 l hl).1, (gR _ _ (by omega) (by omega) (by omega) (by omega) (by omega) (by omega)).trans (p10 l hl).2⟩, (gR _ _ (by omega) (by omega) (by omega) (by omega) (by omega) (by omega)).trans p31, (gR _ _ (by omega) (by omega) (by omega) (by omega) (by omega) (by omega)).trans p36⟩
theorem q_wB.fr (h : q_wB M S C E K u) (e2 : M' 2 = M 2) (hC : ∀ r k, r < 48 → k < q_nb (S r) → C r k < 40) (gI : ∀ b, b < 40 → z_gI 2 (K 3 b) u' = z_gI 2 (K 3 b) u) (gR : ∀ b, b < 40 → z_gR 3 (K 3 b) u' = z_gR 3 (K 3 b) u) (gA : ∀ b j, b < 40 → z_aI (K 4 b) j u' = z_aI (K 4 b) j u ∧ z_aI (K 5 b) j u' = z_aI (K 5 b) j u) : q_wB M' S C E K u' := by
  obtain ⟨b1, b2, b3, b4⟩ := h
  refine ⟨fun b hb => by rw [e2]; exact (gI b hb).trans (b1 b hb), fun b hb z => (gR b hb).trans (b2 b hb (by rw [e2] at z; exact z)), fun r k hr hk => (gR _ (hC r k hr hk)).trans (b3 r k hr hk), fun r i hr hi => ?_⟩
  obtain ⟨c1, c2⟩ := b4 r i hr hi
  have hc := hC r (i / 4) hr (by unfold q_nb; omega)
  exact ⟨((gA _ _ hc).1).trans c1, fun z j hj => ((gA _ _ hc).2).trans (c2 z j hj)⟩
theorem q_wX.fr (h : q_wX nb M K u) (hn : nb ≤ 4) (e11 : M' 11 = M 11) (e12 : M' 12 = M 12) (gI : ∀ i, i < 4 → z_gI 5 (K 8 i) u' = z_gI 5 (K 8 i) u) (gB : ∀ i w, i < 4 → z_aR (K 9 i) w u' = z_aR (K 9 i) w u) : q_wX nb M' K u' :=
  ⟨fun i hi => by rw [e11]; exact (gI i (by omega)).trans (h.1 i hi), fun i w hi hw => by rw [e12]; exact (gB i w hi).trans (h.2 i w hi hw)⟩
theorem q_wM.fr (h : q_wM nm M K u) (e15 : M' 15 = M 15) (e16 : M' 16 = M 16) (e17 : M' 17 = M 17) (e18 : M' 18 = M 18) (e19 : M' 19 = M 19) (g37 : z_gI 37 (K 13 0) u' = z_gI 37 (K 13 0) u) (gB : ∀ m, z_aR (K 14 0) m u' = z_aR (K 14 0) m u) (gI : ∀ f m, m < nm → (f = 16 ∨ f = 17 ∨ f = 20) → z_gI f (K 15 m) u' = z_gI f (K 15 m) u) (gR : ∀ f m, m < nm → (f = 18 ∨ f = 19) → z_gR f (K 15 m) u' = z_gR f (K 15 m) u) : q_wM nm M' K u' := by
  refine ⟨g37.trans h.1, fun m hm => (gB m).trans (h.2.1 m hm), fun m hm => ?_⟩
  obtain ⟨c1, c2, c3, c4, c5⟩ := h.2.2 m hm
  rw [e15, e16, e17, e18, e19]
  exact ⟨(gI _ m hm (by omega)).trans c1, (gI _ m hm (by omega)).trans c2, (gI _ m hm (by omega)).trans c3, (gR _ m hm (by omega)).trans c4, (gR _ m hm (by omega)).trans c5⟩
theorem q_wl.fr {l : Nat} (h : q_wl N S E M K u l) (g8 : z_gI 8 (K 11 l) u' = M' 20 l) (e20 : ¬ M' 20 l = 0 → ¬ M 20 l = 0) (em : ∀ f, 21 ≤ f → f ≤ 29 → M' f = M f) (hS : ∀ r, r < 48 → ¬ M' 20 l = 0 → M 23 l = nI r → S' r = S r)
    (gI : ∀ f, 7 ≤ f → f ≤ 15 → f ≠ 8 → z_gI f (K 11 l) u' = z_gI f (K 11 l) u) (gR : z_gR 12 (K 11 l) u' = z_gR 12 (K 11 l) u) (gA : ∀ j, z_aI (K 12 l) j u' = z_aI (K 12 l) j u) : q_wl N S' E M' K u' l := by
  refine ⟨g8, fun z => ?_⟩
  obtain ⟨c1, c2, c3, c4, c5, c6, c7, c8⟩ := h.2 (e20 z)
  have e21 := em 21 (by omega) (by omega)
  have e22 := em 22 (by omega) (by omega)
  have e23 := em 23 (by omega) (by omega)
  have e24 := em 24 (by omega) (by omega)
  have e25 := em 25 (by omega) (by omega)
  have e26 := em 26 (by omega) (by omega)
  have e27 := em 27 (by omega) (by omega)
  have e28 := em 28 (by omega) (by omega)
  have e29 := em 29 (by omega) (by omega)
  rw [e21, e22, e23, e24, e25, e26]
  refine ⟨(gI _ (by omega) (by omega) (by omega)).trans c1, (gI _ (by omega) (by omega) (by omega)).trans c2, (gI _ (by omega) (by omega) (by omega)).trans c3, gR.trans c4, ⟨(gI _ (by omega) (by omega) (by omega)).trans c5.1, c5.2⟩, fun j hj => ⟨(gA j).trans (c6 j hj).1, (c6 j hj).2⟩, c7, fun w => ?_⟩
  obtain ⟨d1, d2, d3⟩ := c8 w
  unfold q_wG q_s
  rw [e28, e29, e23, e27]
  refine ⟨(gI _ (by omega) (by omega) (by omega)).trans d1, (gI _ (by omega) (by omega) (by omega)).trans d2, fun r hr er => ?_⟩
  rw [hS r hr z er]
  obtain ⟨f1, q, f2, f3, f4⟩ := d3 r hr er
  exact ⟨f1, q, f2, (gI _ (by omega) (by omega) (by omega)).trans f3, f4⟩
/-- a step that touches counts, hands, lines' ends and chains alone -/
theorem q_Wp.core (h : q_Wp pn t0 N M S C E nb nm md K u) (hM : ∀ f, f ≠ 2 → f ≠ 6 → f ≠ 7 → f ≠ 9 → f ≠ 20 → M' f = M f) (h20 : ∀ l, l < 3 → M' 20 l = M 20 l ∨ M' 20 l = 0)
    (gk : ∀ x, z_kd x u' = z_kd x u) (gl : ∀ x, z_ln x u' = z_ln x u) (gI : ∀ f x, f ≠ 2 → f ≠ 8 → f ≠ 25 → f ≠ 34 → z_gI f x u' = z_gI f x u) (gR : ∀ f x, f ≠ 3 → f ≠ 21 → f ≠ 22 → z_gR f x u' = z_gR f x u) (gA : ∀ x j, z_aI x j u' = z_aI x j u) (gB : ∀ x j, z_aR x j u' = z_aR x j u)
    (hP : q_P N M' S' C E) (hU : q_Up pn' S' M' nm) (hlv : ∀ r, r < 48 → q_lv M' r → q_lv M r) (hB : q_wB M' S' C E K u') (h8 : ∀ l, l < 3 → z_gI 8 (K 11 l) u' = M' 20 l) (hS : ∀ l r, l < 3 → r < 48 → ¬ M' 20 l = 0 → M 23 l = nI r → S' r = S r) (hR : q_wR M' S' C E K u') (h34 : z_gI 34 (K 0 0) u' = nI (q_hd M')) : q_Wp pn' t0 N M' S' C E nb nm md K u' := by
  obtain ⟨a1, a2, a3, a4, a5, a6, a7, a8, a9, a10, a11, a12⟩ := h
  have e : ∀ f, 10 ≤ f → f ≠ 20 → M' f = M f := fun f h1 h2 => hM f (by omega) (by omega) (by omega) (by omega) h2
  have e1 := hM 1 (by omega) (by omega) (by omega) (by omega) (by omega)
  have e10 := e 10 (by omega) (by omega)
  have e11 := e 11 (by omega) (by omega)
  have e12 := e 12 (by omega) (by omega)
  have e13 := e 13 (by omega) (by omega)
  have e14 := e 14 (by omega) (by omega)
  have e15 := e 15 (by omega) (by omega)
  have e16 := e 16 (by omega) (by omega)
  have e17 := e 17 (by omega) (by omega)
  have e18 := e 18 (by omega) (by omega)
  have e19 := e 19 (by omega) (by omega)
  have e21 := e 21 (by omega) (by omega)
  have e22 := e 22 (by omega) (by omega)
  have e23 := e 23 (by omega) (by omega)
  have e24 := e 24 (by omega) (by omega)
  have e25 := e 25 (by omega) (by omega)
  refine ⟨?_, hP, ?_, hU, a5.sub hlv gk gl, a6.fr (fun f x h1 _ _ _ h5 h6 => gR f x h1 h5 h6) (fun x j _ => gB x j) (fun j => gA _ j), hB, a8.fr a3.1.2 e11 e12 (fun i _ => gI _ _ (by omega) (by omega) (by omega) (by omega)) (fun i w _ => gB _ w), a9.fr e15 e16 e17 e18 e19 (gI _ _ (by omega) (by omega) (by omega) (by omega)) (fun m => gB _ m) (fun f m _ hf => gI _ _ (by omega) (by omega) (by omega) (by omega)) (fun f m _ hf => gR _ _ (by omega) (by omega) (by omega)), fun l hl => ?_, hR, ?_⟩
  · unfold q_stp; rw [e1]; exact a1
  · refine ⟨by rw [e10]; exact a3.1, by rw [e13]; exact a3.2.1, by rw [e14]; exact a3.2.2.1, by rw [e16, e18, e19, e15]; exact a3.2.2.2.1, by rw [e15]; exact a3.2.2.2.2.1, by rw [e12]; exact a3.2.2.2.2.2.1, fun x hx => ?_, ?_⟩
    · rw [e21, e22, e23, e24, e25]
      obtain ⟨b1, b2⟩ := a3.2.2.2.2.2.2.1 x hx
      rcases h20 x hx with q | q
      · rw [q]; exact ⟨b1, b2⟩
      · rw [q]; exact ⟨Or.inl rfl, fun z => absurd rfl z⟩
    · have hle : fb_ct (q_spk M') 3 ≤ fb_ct (q_spk M) 3 := fb_ct_sub (fun x hx hp => by
        have := of_decide_eq_true hp
        rw [e22] at this
        rcases h20 x hx with q | q
        · rw [q] at this; exact decide_eq_true this
        · exact absurd q this.1)
      have := a3.2.2.2.2.2.2.2
      omega
  · refine (a10 l hl).fr (h8 l hl) (fun z => ?_) (fun f h1 h2 => e f (by omega) (by omega)) (fun r hr z er => hS l r hl hr z er) (fun f h1 h2 h3 => gI f _ (by omega) h3 (by omega) (by omega)) (gR _ _ (by omega) (by omega) (by omega)) (fun j => gA _ j)
    rcases h20 l hl with q | q
    · rw [q] at z; exact z
    · exact absurd q z
  · refine ⟨?_, ?_, h34⟩
    · rw [e10]; exact (gI _ _ (by omega) (by omega) (by omega) (by omega)).trans a12.1
    · rw [e14]; exact (gI _ _ (by omega) (by omega) (by omega) (by omega)).trans a12.2.1
end OH
