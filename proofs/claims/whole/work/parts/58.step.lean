/-! a frame taken: what changes, and that all else stays -/
section OE
variable {t0 ti mi nb nm md N N' : Nat} {M M' : z_Md} {S S' : Nat → Nat} {C C' : Nat → Nat → Nat} {E E' : Nat → Nat → Int32 × Int32} {K : Nat → Nat → Nat} {u u' : z_St}
theorem q_W.frame {l r : Nat} (h : q_W t0 N M S C E nb nm md K u) (hNN : N ≤ N') (hl : l < 3) (hbz : ¬ M 20 l = 0) (hr : r < 48) (hlr : M 23 l = nI r)
    (hM : ∀ f, f ≠ 0 → f ≠ 2 → f ≠ 3 → f ≠ 4 → f ≠ 5 → f ≠ 8 → f ≠ 9 → f ≠ 24 → f ≠ 25 → f ≠ 26 → f ≠ 27 → f ≠ 28 → f ≠ 29 → f ≠ 30 → f ≠ 31 → M' f = M f)
    (m24 : ∀ x, x ≠ l → M' 24 x = M 24 x) (m25 : ∀ x, x ≠ l → M' 25 x = M 25 x) (m26 : ∀ x j, x ≠ l → j < 8 → M' 26 (8 * x + j) = M 26 (8 * x + j)) (m27 : ∀ x, x ≠ l → M' 27 x = M 27 x) (m28 : ∀ x, x ≠ l → M' 28 x = M 28 x) (m29 : ∀ x, x ≠ l → M' 29 x = M 29 x)
    (l24 : M' 24 l = 0 ∨ M' 24 l = 1) (l25 : ∃ t, t < 9 ∧ M' 25 l = nI t) (hP' : q_P N' M' S' C' E') (hS : ∀ x, x ≠ r → S' x = S x) (hE : ∀ x, x ≠ r → E' x = E x) (hC : ∀ x, x ≠ r → C' x = C x)
    (g1 : ∀ x, z_kd x u' = z_kd x u) (g2 : ∀ x, z_ln x u' = z_ln x u) (g3 : ∀ f x, f ≠ 2 → ((f ≠ 7 ∧ f ≠ 9 ∧ f ≠ 13 ∧ f ≠ 14 ∧ f ≠ 15) ∨ x ≠ K 11 l) → ((f ≠ 23 ∧ f ≠ 24) ∨ x ≠ K 16 r) → z_gI f x u' = z_gI f x u)
    (g4 : ∀ f x, f ≠ 3 → ((f ≠ 21 ∧ f ≠ 22) ∨ x ≠ K 16 r) → z_gR f x u' = z_gR f x u) (g5 : ∀ x j, z_aR x j u' = z_aR x j u) (g6 : ∀ x j, (∀ b, b < 40 → x ≠ K 4 b ∧ x ≠ K 5 b) → x ≠ K 12 l → z_aI x j u' = z_aI x j u)
    (hB' : q_wB M' S' C' E' K u') (hL' : q_wl N' S' E' M' K u' l)
    (hR' : z_gR 21 (K 16 r) u' = (if S' r = 0 then none else some (K 3 (C' r 0))) ∧ z_gR 22 (K 16 r) u' = (if S' r = 0 then none else some (K 3 (C' r ((S' r - 1) / 4)))) ∧ z_gI 24 (K 16 r) u' = q_cs (E' r) (S' r) ∧ z_gI 23 (K 16 r) u' = 8 * q_fm (E' r) (S' r) ∧ z_gI 25 (K 16 r) u' = M 6 r) :
    q_W t0 N' M' S' C' E' nb nm md K u' := by
  obtain ⟨a1, a2, a3, a4, a5, a6, a7, a8, a9, a10, a11, a12⟩ := h.mo hNN
  have e : ∀ f, (f = 1 ∨ f = 6 ∨ f = 7 ∨ f = 10 ∨ f = 11 ∨ f = 12 ∨ f = 13 ∨ f = 14 ∨ f = 15 ∨ f = 16 ∨ f = 17 ∨ f = 18 ∨ f = 19 ∨ f = 20 ∨ f = 21 ∨ f = 22 ∨ f = 23) → M' f = M f := fun f hf => hM f (by omega) (by omega) (by omega) (by omega) (by omega) (by omega) (by omega) (by omega) (by omega) (by omega) (by omega) (by omega) (by omega) (by omega) (by omega)
  have e1 := e 1 (by omega)
  have e6 := e 6 (by omega)
  have e7 := e 7 (by omega)
  have e10 := e 10 (by omega)
  have e11 := e 11 (by omega)
  have e12 := e 12 (by omega)
  have e13 := e 13 (by omega)
  have e14 := e 14 (by omega)
  have e15 := e 15 (by omega)
  have e16 := e 16 (by omega)
  have e17 := e 17 (by omega)
  have e18 := e 18 (by omega)
  have e19 := e 19 (by omega)
  have e20 := e 20 (by omega)
  have e21 := e 21 (by omega)
  have e22 := e 22 (by omega)
  have e23 := e 23 (by omega)
  have h7 : ¬ M 7 r = 0 := a4.l23 hl hr hbz hlr
  have hlvr : q_lv M r := Or.inr h7
  have hne : ∀ f j, q_vd M nm f j → (f ≠ 11 ∨ j ≠ l) → K f j ≠ K 11 l := fun f j hv hn => a5.ne hv (Or.inl ⟨by omega, hl⟩) hn
  have hnr : ∀ f j, q_vd M nm f j → (f ≠ 16 ∨ j ≠ r) → K f j ≠ K 16 r := fun f j hv hn => a5.ne hv (Or.inr (Or.inr ⟨rfl, hr, hlvr⟩)) hn
  have v0 : ∀ f j, f ≤ 14 → j < q_fs f → q_vd M nm f j := fun f j h1 h2 => Or.inl ⟨h1, h2⟩
  have gI : ∀ f f' j, q_vd M nm f' j → f ≠ 2 → (f' ≠ 11 ∨ j ≠ l) → (f' ≠ 16 ∨ j ≠ r) → z_gI f (K f' j) u' = z_gI f (K f' j) u := fun f f' j hv h2 h3 h4 => g3 f _ h2 (Or.inr (hne f' j hv h3)) (Or.inr (hnr f' j hv h4))
  have gR : ∀ f f' j, q_vd M nm f' j → f ≠ 3 → (f' ≠ 16 ∨ j ≠ r) → z_gR f (K f' j) u' = z_gR f (K f' j) u := fun f f' j hv h2 h4 => g4 f _ h2 (Or.inr (hnr f' j hv h4))
  have gA : ∀ f' j i, q_vd M nm f' j → f' ≠ 4 → f' ≠ 5 → (f' ≠ 12 ∨ j ≠ l) → z_aI (K f' j) i u' = z_aI (K f' j) i u := fun f' j i hv h4 h5 h12 => g6 _ i (fun b hb => ⟨a5.ne hv (v0 4 b (by omega) hb) (Or.inl h4), a5.ne hv (v0 5 b (by omega) hb) (Or.inl h5)⟩) (a5.ne hv (v0 12 l (by omega) hl) h12)
  refine ⟨?_, hP', ?_, ?_, ?_, ?_, hB', ?_, ?_, fun x hx => ?_, fun x hx hlx => ?_, ?_⟩
  · unfold q_stp; rw [e1]; exact a1
  · refine ⟨by rw [e10]; exact a3.1, by rw [e13]; exact a3.2.1, by rw [e14]; exact a3.2.2.1, by rw [e16, e18, e19, e15]; exact a3.2.2.2.1, by rw [e15]; exact a3.2.2.2.2.1, by rw [e12]; exact a3.2.2.2.2.2.1, fun x hx => ?_, by unfold q_spk; rw [e20, e22]; exact a3.2.2.2.2.2.2.2⟩
    rw [e20, e21, e22, e23]
    obtain ⟨b1, b2⟩ := a3.2.2.2.2.2.2.1 x hx
    refine ⟨b1, fun z => ?_⟩
    obtain ⟨c1, c2, c3, c4, c5⟩ := b2 z
    by_cases q : x = l
    · subst q; exact ⟨c1, c2, c3, l25, l24⟩
    · rw [m24 x q, m25 x q]; exact ⟨c1, c2, c3, c4, c5⟩
  · refine ⟨fun x hx => ?_, ?_, ?_, ?_, fun x hx => ?_⟩
    · unfold q_rfs; rw [e6, e12, e18, e19]; exact a4.1 x hx
    · rw [e7, e20, e23]; exact a4.2.1
    · rw [e20, e23]; exact a4.2.2.1
    · rw [e6, e7]; exact a4.2.2.2.1
    · rw [e6, e7]
      intro z1 z2
      have : x ≠ r := fun w => h7 (w ▸ z2)
      rw [hS x this]
      exact a4.2.2.2.2 x hx z1 z2
  · unfold q_wK q_vd q_lv
    rw [e6, e7]
    refine ⟨fun f j hv hn => (g1 _).trans (a5.1 f j hv hn), fun f j b1 b2 b3 => (g2 _).trans (a5.2.1 f j b1 b2 b3), ?_, a5.2.2.2⟩
    rw [g1, g2]; exact a5.2.2.1
  · obtain ⟨p28, p26, p2, p4, p27, p6, p29, p7, p30, p10, p31, p36⟩ := a6
    exact ⟨(gR 28 0 0 (v0 0 0 (by omega) (by decide)) (by omega) (by omega)).trans p28, (gR 26 1 0 (v0 1 0 (by omega) (by decide)) (by omega) (by omega)).trans p26, fun x hx => (g5 _ _).trans (p2 x hx), fun x hx => ⟨(gR 0 3 x (v0 3 x (by omega) hx) (by omega) (by omega)).trans (p4 x hx).1, (gR 1 3 x (v0 3 x (by omega) hx) (by omega) (by omega)).trans (p4 x hx).2⟩, (gR 27 0 0 (v0 0 0 (by omega) (by decide)) (by omega) (by omega)).trans p27, fun x hx => (gA 6 0 x (v0 6 0 (by omega) (by decide)) (by omega) (by omega) (by omega)).trans (p6 x hx), (gR 29 0 0 (v0 0 0 (by omega) (by decide)) (by omega) (by omega)).trans p29, fun x hx => ⟨(g5 _ _).trans (p7 x hx).1, (gR 4 8 x (v0 8 x (by omega) hx) (by omega) (by omega)).trans (p7 x hx).2⟩, (gR 30 0 0 (v0 0 0 (by omega) (by decide)) (by omega) (by omega)).trans p30, fun x hx => ⟨(g5 _ _).trans (p10 x hx).1, (gR 6 11 x (v0 11 x (by omega) hx) (by omega) (by omega)).trans (p10 x hx).2⟩, (gR 31 0 0 (v0 0 0 (by omega) (by decide)) (by omega) (by omega)).trans p31, (gR 36 13 0 (v0 13 0 (by omega) (by decide)) (by omega) (by omega)).trans p36⟩
  · refine ⟨fun i hi => ?_, fun i w hi hw => ?_⟩
    · rw [e11, gI 5 8 i (v0 8 i (by omega) (show i < 4 from Nat.lt_of_lt_of_le hi a3.1.2)) (by omega) (by omega) (by omega)]; exact a8.1 i hi
    · rw [e12, g5]; exact a8.2 i w hi hw
  · refine ⟨by rw [gI 37 13 0 (v0 13 0 (by omega) (by decide)) (by omega) (by omega) (by omega)]; exact a9.1, fun m hm => by rw [g5]; exact a9.2.1 m hm, fun m hm => ?_⟩
    have hv : q_vd M nm 15 m := Or.inr (Or.inl ⟨rfl, hm⟩)
    rw [gI 16 15 m hv (by omega) (by omega) (by omega), gI 17 15 m hv (by omega) (by omega) (by omega), gI 20 15 m hv (by omega) (by omega) (by omega), gR 18 15 m hv (by omega) (by omega), gR 19 15 m hv (by omega) (by omega), e15, e16, e17, e18, e19]
    exact a9.2.2 m hm
  · by_cases q : x = l
    · subst q; exact hL'
    · have hv := v0 11 x (by omega) hx
      obtain ⟨b1, b2⟩ := a10 x hx
      refine ⟨by rw [gI 8 11 x hv (by omega) (Or.inr q) (by omega), e20]; exact b1, fun z => ?_⟩
      rw [e20] at z
      obtain ⟨c1, c2, c3, c4, c5, c6, c7, c8⟩ := b2 z
      rw [gI 9 11 x hv (by omega) (Or.inr q) (by omega), gI 10 11 x hv (by omega) (Or.inr q) (by omega), gI 11 11 x hv (by omega) (Or.inr q) (by omega), gR 12 11 x hv (by omega) (by omega), gI 7 11 x hv (by omega) (Or.inr q) (by omega), m24 x q, e21, e22, e23, m25 x q]
      refine ⟨c1, c2, c3, c4, c5, fun j hj => ?_, c7, fun w => ?_⟩
      · have := c5.2
        rw [gA 12 x j (v0 12 x (by omega) hx) (by omega) (by omega) (Or.inr q), m26 x j q (by omega)]
        exact c6 j hj
      · obtain ⟨d1, d2, d3⟩ := c8 w
        refine ⟨by rw [gI 14 11 x hv (by omega) (Or.inr q) (by omega), m28 x q]; exact d1, by rw [gI 15 11 x hv (by omega) (Or.inr q) (by omega), m29 x q]; exact d2, fun r' hr' er => ?_⟩
        rw [e23] at er
        have hrr : r' ≠ r := fun w2 => q (a4.2.2.1 x l hx hl z hbz (by rw [er, hlr, w2]))
        obtain ⟨f1, qq, f2, f3, f4, f5, f6⟩ := d3 r' hr' er
        rw [hS r' hrr, hE r' hrr]
        refine ⟨?_, qq, f2, by rw [gI 13 11 x hv (by omega) (Or.inr q) (by omega)]; exact f3, by rw [m27 x q]; exact f4, f5, f6⟩
        unfold q_s at f1 ⊢
        rw [m28 x q, m29 x q]; exact f1
  · unfold q_lv at hlx
    rw [e6, e7] at hlx
    by_cases q : x = r
    · subst q
      rw [e6]
      exact hR'
    · have hv : q_vd M nm 16 x := Or.inr (Or.inr ⟨rfl, hx, hlx⟩)
      obtain ⟨b1, b2, b3, b4, b5⟩ := a11 x hx hlx
      rw [gR 21 16 x hv (by omega) (Or.inr q), gR 22 16 x hv (by omega) (Or.inr q), gI 24 16 x hv (by omega) (by omega) (Or.inr q), gI 23 16 x hv (by omega) (by omega) (Or.inr q), gI 25 16 x hv (by omega) (by omega) (Or.inr q), hS x q, hE x q, hC x q, e6]
      exact ⟨b1, b2, b3, b4, b5⟩
  · have hv := v0 0 0 (by omega) (by decide)
    unfold q_wI q_hd
    rw [gI 32 0 0 hv (by omega) (by omega) (by omega), gI 33 0 0 hv (by omega) (by omega) (by omega), gI 34 0 0 hv (by omega) (by omega) (by omega), e10, e14, e6]
    exact a12
end OE
