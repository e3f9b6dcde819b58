/-! a message more, both sides -/
def q_aM (M : z_Md) (nm md : Nat) (b x18 x19 : Int32) : z_Md := z_up (z_up (z_up (z_up (z_up (z_up (z_up M 15 nm (nI md)) 16 nm b) 17 nm 0) 18 nm x18) 19 nm x19) 13 0 (nI (nm + 1))) 14 0 (nI (md + 1))
theorem q_addM {post : Int32 → z_Md → Prop} {M : z_Md} {nm md : Nat} {b x18 x19 : Int32} (hn : nm < 16) (h13 : M 13 0 = nI nm) (h14 : M 14 0 = nI md) (h : post (nI md) (q_aM M nm md b x18 x19)) : w_X7_add post M b x18 x19 := by
  have hv : vp_in (M 13 0) 16 := by rw [h13]; exact vp_in_nI hn (by omega)
  have hc : (M 13 0).toNatClampNeg = nm := by rw [h13]; exact q_c (by omega)
  refine ⟨hv, hv, hv, hv, hv, ?_⟩
  show post (M 14 0 + 1 - 1) (z_up (z_up (z_up (z_up (z_up (z_up (z_up M 15 (M 13 0).toNatClampNeg (M 14 0)) 16 (M 13 0).toNatClampNeg b) 17 (M 13 0).toNatClampNeg 0) 18 (M 13 0).toNatClampNeg x18) 19 (M 13 0).toNatClampNeg x19) 13 0 (M 13 0 + 1)) 14 0 (M 14 0 + 1))
  rw [hc, h13, h14, nI_1, nI_1, nI_pred]
  exact h
section OK
variable {t0 ti mi nb nm md N N' : Nat} {pn pn' : Nat → Nat} {M M' : z_Md} {S S' : Nat → Nat} {C C' : Nat → Nat → Nat} {E E' : Nat → Nat → Int32 × Int32} {K K' : Nat → Nat → Nat} {u u' : z_St}
theorem q_Wp.mo (h : q_Wp pn t0 N M S C E nb nm md K u) (hN : N ≤ N') : q_Wp pn t0 N' M S C E nb nm md K u := by
  obtain ⟨a1, a2, a3, a4, a5, a6, a7, a8, a9, a10, a11, a12⟩ := h
  refine ⟨a1, a2.mo hN, a3.mo hN, a4, a5, a6, a7, a8, a9, fun l hl => ?_, a11, a12⟩
  obtain ⟨b1, b2⟩ := a10 l hl
  refine ⟨b1, fun hb => ?_⟩
  obtain ⟨c1, c2, c3, c4, c5, c6, c7, c8⟩ := b2 hb
  refine ⟨c1, c2, c3, c4, c5, c6, c7, fun he => ?_⟩
  obtain ⟨d1, d2, d3⟩ := c8 he
  refine ⟨d1, d2, fun r hr e => ?_⟩
  obtain ⟨f1, q, f2, f3⟩ := d3 r hr e
  exact ⟨f1, q, Nat.le_trans f2 hN, f3⟩
theorem q_wB.kk (h : q_wB M S C E K u) (k3 : K' 3 = K 3) (k4 : K' 4 = K 4) (k5 : K' 5 = K 5) : q_wB M S C E K' u := by unfold q_wB; rw [k3, k4, k5]; exact h
theorem q_wX.kk (h : q_wX nb M K u) (k8 : K' 8 = K 8) (k9 : K' 9 = K 9) (k16 : K' 16 = K 16) : q_wX nb M K' u := by unfold q_wX q_rf; rw [k8, k9, k16]; exact h
theorem q_wl.kk {l : Nat} (h : q_wl N S E M K u l) (k11 : K' 11 = K 11) (k12 : K' 12 = K 12) (k16 : K' 16 = K 16) : q_wl N S E M K' u l := by unfold q_wl q_wG q_rf; rw [k11, k12, k16]; exact h
theorem q_wR.kk (h : q_wR M S C E K u) (k3 : K' 3 = K 3) (k16 : K' 16 = K 16) : q_wR M S C E K' u := by unfold q_wR; rw [k3, k16]; exact h
theorem q_kk0 : ∀ f, f ≤ 16 → q_kk f ≠ 0 := by decide
theorem q_wK.nz (hK : q_wK t0 nm M K u) {f j : Nat} (hv : q_vd M nm f j) : z_kd (K f j) u ≠ 0 := fun e => by
  by_cases q : f = 14
  · subst q
    have hj : j = 0 := by rcases hv with ⟨-, q⟩ | ⟨q, -⟩ | ⟨q, -⟩; exact Nat.lt_one_iff.mp q; omega; omega
    subst hj
    rcases hK.2.2.1 with ⟨z, -⟩ | ⟨z, -⟩ <;> rw [e] at z <;> omega
  · have := hK.1 f j hv q
    rw [e] at this
    exact q_kk0 f (by rcases hv with ⟨z, -⟩ | ⟨z, -⟩ | ⟨z, -⟩ <;> omega) this.symm
theorem q_Wp.addm {a R' b r : Nat} {x19 : Int32} (h : q_Wp pn t0 N M S C E nb nm md K u) (hroom : nm + fb_ct (q_spk M) 3 < 16) (hb : b < nb) (hr : r < 48) (hx19 : q_rn x19) (hpn : ∀ x, x < 48 → pn x = pn' x + (if nI r = nI x then 1 else 0) + (if x19 = nI x then 1 else 0))
    (ha : z_kd a u = 0) (hR' : R' = K 14 0 ∨ z_kd R' u = 0) (haR : R' ≠ a) (hN64 : N ≤ 64) (hmd : md + 1 ≤ N) (g1 : ∀ x, z_kd x u ≠ 0 → z_kd x u' = z_kd x u ∧ z_ln x u' = z_ln x u) (g2 : z_kd a u' = 5) (g3 : z_kd R' u' = 15 ∧ nm + 1 ≤ z_ln R' u' ∧ (z_ln R' u' = 10 ∨ z_ln R' u' = 15 ∨ z_ln R' u' = 22))
    (gI : ∀ f x, x ≠ a → (f ≠ 33 ∨ x ≠ K 0 0) → ((f ≠ 37 ∧ f ≠ 35) ∨ x ≠ K 13 0) → z_gI f x u' = z_gI f x u) (gR : ∀ f x, x ≠ a → (f ≠ 36 ∨ x ≠ K 13 0) → z_gR f x u' = z_gR f x u) (gA : ∀ x i, z_kd x u ≠ 0 → z_aI x i u' = z_aI x i u) (gB : ∀ x i, z_kd x u ≠ 0 → x ≠ K 14 0 → z_aR x i u' = z_aR x i u)
    (gm : ∀ m, m < nm → z_aR R' m u' = z_aR (K 14 0) m u) (gn : z_aR R' nm u' = some a) (v16 : z_gI 16 a u' = nI md) (v17 : z_gI 17 a u' = nI b) (v20 : z_gI 20 a u' = 0) (v18 : z_gR 18 a u' = some (K 16 r)) (v19 : z_gR 19 a u' = q_rf K x19) (v33 : z_gI 33 (K 0 0) u' = nI (md + 1)) (v37 : z_gI 37 (K 13 0) u' = nI (nm + 1)) (v36 : z_gR 36 (K 13 0) u' = some R') :
    q_Wp pn' t0 N (q_aM M nm md (nI b) (nI r) x19) S C E nb (nm + 1) (md + 1) (z_up (z_up K 15 nm a) 14 0 R') u' := by
  obtain ⟨a1, a2, a3, a4, a5, a6, a7, a8, a9, a10, a11, a12⟩ := h
  have hn16 : nm < 16 := by omega
  have v0 : ∀ f j, f ≤ 14 → j < q_fs f → q_vd M nm f j := fun f j h1 h2 => Or.inl ⟨h1, h2⟩
  have nz : ∀ f j, q_vd M nm f j → z_kd (K f j) u ≠ 0 := fun f j hv => a5.nz hv
  have na : ∀ f j, q_vd M nm f j → K f j ≠ a := fun f j hv e => nz f j hv (by rw [e]; exact ha)
  have nR : ∀ f j, q_vd M nm f j → f ≠ 14 → K f j ≠ R' := fun f j hv hf e => by
    rcases hR' with q | q
    · exact a5.ne hv (v0 14 0 (by omega) (by decide)) (Or.inl hf) (e.trans q)
    · exact nz f j hv (by rw [e]; exact q)
  generalize hKK : z_up (z_up K 15 nm a) 14 0 R' = K'
  generalize hMM : q_aM M nm md (nI b) (nI r) x19 = M'
  have kf : ∀ f, f ≠ 14 → f ≠ 15 → K' f = K f := fun f h1 h2 => by rw [← hKK, z_up_f _ _ _ h1, z_up_f _ _ _ h2]
  have k14 : K' 14 0 = R' := by rw [← hKK, z_up_s]
  have k15 : ∀ j, K' 15 j = if j = nm then a else K 15 j := fun j => by
    rw [← hKK, z_up_f _ _ _ (by omega)]
    by_cases q : j = nm
    · subst q; rw [z_up_s, if_pos rfl]
    · rw [z_up_a _ _ _ _ q, if_neg q]
  have mf : ∀ f, f ≠ 13 → f ≠ 14 → f ≠ 15 → f ≠ 16 → f ≠ 17 → f ≠ 18 → f ≠ 19 → M' f = M f := fun f h1 h2 h3 h4 h5 h6 h7 => by
    rw [← hMM]; unfold q_aM
    rw [z_up_f _ _ _ h2, z_up_f _ _ _ h1, z_up_f _ _ _ h7, z_up_f _ _ _ h6, z_up_f _ _ _ h5, z_up_f _ _ _ h4, z_up_f _ _ _ h3]
  have mlow : ∀ f, f ≤ 12 → M' f = M f := fun f hf => mf f (by omega) (by omega) (by omega) (by omega) (by omega) (by omega) (by omega)
  have mhi : ∀ f, 20 ≤ f → M' f = M f := fun f hf => mf f (by omega) (by omega) (by omega) (by omega) (by omega) (by omega) (by omega)
  have m13 : M' 13 0 = nI (nm + 1) := by rw [← hMM]; rfl
  have m14 : M' 14 0 = nI (md + 1) := by rw [← hMM]; rfl
  have m15 : ∀ j, M' 15 j = if j = nm then nI md else M 15 j := fun j => by rw [← hMM]; simp [q_aM, z_up]
  have m16 : ∀ j, M' 16 j = if j = nm then nI b else M 16 j := fun j => by rw [← hMM]; simp [q_aM, z_up]
  have m17 : ∀ j, M' 17 j = if j = nm then 0 else M 17 j := fun j => by rw [← hMM]; simp [q_aM, z_up]
  have m18 : ∀ j, M' 18 j = if j = nm then nI r else M 18 j := fun j => by rw [← hMM]; simp [q_aM, z_up]
  have m19 : ∀ j, M' 19 j = if j = nm then x19 else M 19 j := fun j => by rw [← hMM]; simp [q_aM, z_up]
  have e20 := mhi 20 (by omega)
  have e22 := mhi 22 (by omega)
  have hlv : ∀ x, q_lv M' x ↔ q_lv M x := fun x => by unfold q_lv; rw [mlow 6 (by omega), mlow 7 (by omega)]
  have hvd : ∀ f j, q_vd M' (nm + 1) f j → q_vd M nm f j ∨ (f = 15 ∧ j = nm) := fun f j hv => by
    rcases hv with z | ⟨z1, z2⟩ | ⟨z1, z2, z3⟩
    · exact Or.inl (Or.inl z)
    · by_cases q : j = nm
      · exact Or.inr ⟨z1, q⟩
      · exact Or.inl (Or.inr (Or.inl ⟨z1, by omega⟩))
    · exact Or.inl (Or.inr (Or.inr ⟨z1, z2, (hlv j).mp z3⟩))
  have k00 : K' 0 0 = K 0 0 := by rw [kf 0 (by omega) (by omega)]
  have kne : ∀ f j, q_vd M nm f j → f ≠ 14 → K' f j = K f j := fun f j hv hf => by
    by_cases q : f = 15
    · subst q
      rw [k15]
      have : j ≠ nm := by rcases hv with ⟨z, -⟩ | ⟨-, z⟩ | ⟨z, -⟩ <;> omega
      rw [if_neg this]
    · rw [kf f hf q]
  have gI' : ∀ f f' j, q_vd M nm f' j → (f' ≠ 0 ∨ f ≠ 33) → (f' ≠ 13 ∨ (f ≠ 37 ∧ f ≠ 35)) → z_gI f (K f' j) u' = z_gI f (K f' j) u := fun f f' j hv h1 h2 => gI f _ (na f' j hv) (by
      rcases h1 with w | w
      · exact Or.inr (a5.ne hv (v0 0 0 (by omega) (by decide)) (Or.inl w))
      · exact Or.inl w) (by
      rcases h2 with w | w
      · exact Or.inr (a5.ne hv (v0 13 0 (by omega) (by decide)) (Or.inl w))
      · exact Or.inl w)
  have gR' : ∀ f f' j, q_vd M nm f' j → (f' ≠ 13 ∨ f ≠ 36) → z_gR f (K f' j) u' = z_gR f (K f' j) u := fun f f' j hv h2 => gR f _ (na f' j hv) (by
      rcases h2 with w | w
      · exact Or.inr (a5.ne hv (v0 13 0 (by omega) (by decide)) (Or.inl w))
      · exact Or.inl w)
  have gB' : ∀ f' j i, q_vd M nm f' j → f' ≠ 14 → z_aR (K f' j) i u' = z_aR (K f' j) i u := fun f' j i hv h2 => gB _ i (nz f' j hv) (a5.ne hv (v0 14 0 (by omega) (by decide)) (Or.inl h2))
  refine ⟨?_, a2.fr (mlow 2 (by omega)) (mlow 3 (by omega)) (mlow 4 (by omega)) (mlow 5 (by omega)) (mlow 8 (by omega)) (mlow 9 (by omega)), ?_, ?_, ?_, ?_, ?_, ?_, ?_, fun l hl => ?_, ?_, ?_⟩
  · unfold q_stp; rw [mlow 1 (by omega)]; exact a1
  · -- Q
    refine ⟨by rw [mlow 10 (by omega)]; exact a3.1, ⟨m13, by omega⟩, ⟨m14, by omega⟩, fun m hm => ?_, fun m m' h1 h2 => ?_, by rw [mlow 12 (by omega)]; exact a3.2.2.2.2.2.1, fun l hl => ?_, ?_⟩
    · rw [m15, m16, m18, m19]
      by_cases q : m = nm
      · rw [if_pos q, if_pos q, if_pos q, if_pos q]
        exact ⟨⟨b, hb, rfl⟩, ⟨r, hr, rfl⟩, hx19, ⟨md, by omega, rfl⟩⟩
      · rw [if_neg q, if_neg q, if_neg q, if_neg q]
        obtain ⟨c1, c2, c3, ⟨i, hi, ei⟩⟩ := a3.2.2.2.1 m (by omega)
        exact ⟨c1, c2, c3, ⟨i, by omega, ei⟩⟩
    · rw [m15, m15, if_neg (by omega : ¬ m = nm)]
      by_cases q : m' = nm
      · rw [if_pos q]
        obtain ⟨-, -, -, ⟨i, hi, ei⟩⟩ := a3.2.2.2.1 m (by omega)
        rw [ei]
        exact nI_lt hi (by omega)
      · rw [if_neg q]; exact a3.2.2.2.2.1 m m' h1 (by omega)
    · rw [e20, mhi 21 (by omega), e22, mhi 23 (by omega), mhi 24 (by omega), mhi 25 (by omega)]
      exact a3.2.2.2.2.2.2.1 l hl
    · have : q_spk M' = q_spk M := by unfold q_spk; rw [e20, e22]
      rw [this]; omega
  · -- U
    refine ⟨fun x hx => ?_, by rw [mlow 7 (by omega), e20, mhi 23 (by omega)]; exact a4.2.1, by rw [e20, mhi 23 (by omega)]; exact a4.2.2.1, by rw [mlow 6 (by omega), mlow 7 (by omega)]; exact a4.2.2.2.1, by rw [mlow 6 (by omega), mlow 7 (by omega)]; exact a4.2.2.2.2⟩
    obtain ⟨b1, b2⟩ := a4.1 x hx
    have hp := hpn x hx
    rw [mlow 6 (by omega)]
    refine ⟨?_, by omega⟩
    rw [b1]
    have e18 : fb_ct (fun m => decide (M' 18 m = nI x)) (nm + 1) = fb_ct (fun m => decide (M 18 m = nI x)) nm + (if nI r = nI x then 1 else 0) := by
      rw [fb_ct_succ, fb_ct_cong (q := fun m => decide (M 18 m = nI x)) (fun k hk => by rw [m18, if_neg (by omega : ¬ k = nm)]), m18, if_pos rfl]
      simp only [decide_eq_true_eq]
    have e19 : fb_ct (fun m => decide (M' 19 m = nI x)) (nm + 1) = fb_ct (fun m => decide (M 19 m = nI x)) nm + (if x19 = nI x then 1 else 0) := by
      rw [fb_ct_succ, fb_ct_cong (q := fun m => decide (M 19 m = nI x)) (fun k hk => by rw [m19, if_neg (by omega : ¬ k = nm)]), m19, if_pos rfl]
      simp only [decide_eq_true_eq]
    unfold q_rfs
    rw [e18, e19, mlow 12 (by omega)]
    congr 1
    omega
  · -- K
    refine ⟨fun f j hv hn => ?_, fun f j h1 h2 h3 => ?_, Or.inl ?_, fun f j f' j' hv hv' e => ?_⟩
    · rcases hvd f j hv with z | ⟨rfl, rfl⟩
      · rw [kne f j z hn, (g1 _ (nz f j z)).1]; exact a5.1 f j z hn
      · rw [k15, if_pos rfl, g2]; rfl
    · have z := v0 f j (by omega) h2
      rw [kne f j z (by omega), (g1 _ (nz f j z)).2]
      exact a5.2.1 f j h1 h2 h3
    · rw [k14]; exact g3
    · have inj : ∀ f j f' j', q_vd M nm f j → q_vd M nm f' j' → K' f j = K' f' j' → f = f' ∧ j = j' := fun f j f' j' w w' e => by
        by_cases q : f = 14
        · by_cases q' : f' = 14
          · subst q; subst q'
            have h1 : j = 0 := by rcases w with ⟨-, q⟩ | ⟨q, -⟩ | ⟨q, -⟩; exact Nat.lt_one_iff.mp q; omega; omega
            have h2 : j' = 0 := by rcases w' with ⟨-, q⟩ | ⟨q, -⟩ | ⟨q, -⟩; exact Nat.lt_one_iff.mp q; omega; omega
            exact ⟨rfl, h1.trans h2.symm⟩
          · subst q
            have h1 : j = 0 := by rcases w with ⟨-, q⟩ | ⟨q, -⟩ | ⟨q, -⟩; exact Nat.lt_one_iff.mp q; omega; omega
            rw [h1, k14, kne f' j' w' q'] at e
            exact absurd e.symm (nR f' j' w' q')
        · by_cases q' : f' = 14
          · subst q'
            have h1 : j' = 0 := by rcases w' with ⟨-, q⟩ | ⟨q, -⟩ | ⟨q, -⟩; exact Nat.lt_one_iff.mp q; omega; omega
            rw [h1, k14, kne f j w q] at e
            exact absurd e (nR f j w q)
          · rw [kne f j w q, kne f' j' w' q'] at e
            exact a5.2.2.2 f j f' j' w w' e
      have new : ∀ f j, q_vd M nm f j → K' f j ≠ a := fun f j w => by
        by_cases q : f = 14
        · subst q
          have h1 : j = 0 := by rcases w with ⟨-, q⟩ | ⟨q, -⟩ | ⟨q, -⟩; exact Nat.lt_one_iff.mp q; omega; omega
          rw [h1, k14]; exact haR
        · rw [kne f j w q]; exact na f j w
      rcases hvd f j hv with z | ⟨rfl, rfl⟩
      · rcases hvd f' j' hv' with z' | ⟨rfl, rfl⟩
        · exact inj f j f' j' z z' e
        · rw [k15, if_pos rfl] at e
          exact absurd e (new f j z)
      · rcases hvd f' j' hv' with z' | ⟨rfl, rfl⟩
        · rw [k15, if_pos rfl] at e
          exact absurd e.symm (new f' j' z')
        · exact ⟨rfl, rfl⟩
  · -- P
    obtain ⟨p28, p26, p2, p4, p27, p6, p29, p7, p30, p10, p31, p36⟩ := a6
    unfold q_wP
    rw [kf 0 (by omega) (by omega), kf 1 (by omega) (by omega), kf 2 (by omega) (by omega), kf 3 (by omega) (by omega), kf 4 (by omega) (by omega), kf 5 (by omega) (by omega), kf 6 (by omega) (by omega), kf 7 (by omega) (by omega), kf 8 (by omega) (by omega), kf 9 (by omega) (by omega), kf 10 (by omega) (by omega), kf 11 (by omega) (by omega), kf 12 (by omega) (by omega), kf 13 (by omega) (by omega), k14]
    have w : ∀ f f' j, f' ≤ 12 → j < q_fs f' → z_gR f (K f' j) u' = z_gR f (K f' j) u := fun f f' j h1 h2 => gR' f f' j (v0 f' j (by omega) h2) (Or.inl (by omega))
    exact ⟨(w 28 0 0 (by omega) (by decide)).trans p28, (w 26 1 0 (by omega) (by decide)).trans p26, fun x hx => (gB' 2 0 x (v0 2 0 (by omega) (by decide)) (by omega)).trans (p2 x hx), fun x hx => ⟨(w 0 3 x (by omega) hx).trans (p4 x hx).1, (w 1 3 x (by omega) hx).trans (p4 x hx).2⟩, (w 27 0 0 (by omega) (by decide)).trans p27, fun x hx => (gA _ _ (nz 6 0 (v0 6 0 (by omega) (by decide)))).trans (p6 x hx), (w 29 0 0 (by omega) (by decide)).trans p29, fun x hx => ⟨(gB' 7 0 x (v0 7 0 (by omega) (by decide)) (by omega)).trans (p7 x hx).1, (w 4 8 x (by omega) hx).trans (p7 x hx).2⟩, (w 30 0 0 (by omega) (by decide)).trans p30, fun x hx => ⟨(gB' 10 0 x (v0 10 0 (by omega) (by decide)) (by omega)).trans (p10 x hx).1, (w 6 11 x (by omega) hx).trans (p10 x hx).2⟩, (w 31 0 0 (by omega) (by decide)).trans p31, v36⟩
  · -- B
    refine (a7.fr (mlow 2 (by omega)) a2.2.2.1 (fun x hx => gI' 2 3 x (v0 3 x (by omega) hx) (Or.inl (by omega)) (Or.inl (by omega))) (fun x hx => gR' 3 3 x (v0 3 x (by omega) hx) (Or.inl (by omega))) (fun x j hx => ⟨gA _ _ (nz 4 x (v0 4 x (by omega) hx)), gA _ _ (nz 5 x (v0 5 x (by omega) hx))⟩)).kk (kf 3 (by omega) (by omega)) (kf 4 (by omega) (by omega)) (kf 5 (by omega) (by omega))
  · -- X
    refine (a8.fr a3.1.2 (mlow 11 (by omega)) (mlow 12 (by omega)) (fun i hi => gI' 5 8 i (v0 8 i (by omega) hi) (Or.inl (by omega)) (Or.inl (by omega))) (fun i w hi => gB' 9 i w (v0 9 i (by omega) hi) (by omega))).kk (kf 8 (by omega) (by omega)) (kf 9 (by omega) (by omega)) (kf 16 (by omega) (by omega))
  · -- M
    have hrf : ∀ x, q_rf K' x = q_rf K x := fun x => by unfold q_rf; rw [kf 16 (by omega) (by omega)]
    refine ⟨by rw [kf 13 (by omega) (by omega)]; exact v37, fun m hm => ?_, fun m hm => ?_⟩
    · rw [k14, k15]
      by_cases q : m = nm
      · rw [q, if_pos rfl]; exact gn
      · rw [if_neg q, gm m (by omega)]; exact a9.2.1 m (by omega)
    · rw [k15, m15, m16, m17, m18, m19, hrf, hrf]
      by_cases q : m = nm
      · rw [if_pos q, if_pos q, if_pos q, if_pos q, if_pos q, if_pos q, q_rf_s K hr]
        exact ⟨v16, v17, v20, v18, v19⟩
      · rw [if_neg q, if_neg q, if_neg q, if_neg q, if_neg q, if_neg q]
        have hv : q_vd M nm 15 m := Or.inr (Or.inl ⟨rfl, by omega⟩)
        obtain ⟨c1, c2, c3, c4, c5⟩ := a9.2.2 m (by omega)
        exact ⟨(gI' _ 15 m hv (Or.inl (by omega)) (Or.inl (by omega))).trans c1, (gI' _ 15 m hv (Or.inl (by omega)) (Or.inl (by omega))).trans c2, (gI' _ 15 m hv (Or.inl (by omega)) (Or.inl (by omega))).trans c3, (gR' _ 15 m hv (Or.inl (by omega))).trans c4, (gR' _ 15 m hv (Or.inl (by omega))).trans c5⟩
  · -- L
    have hv := v0 11 l (by omega) hl
    refine ((a10 l hl).fr (u' := u') (M' := M') (S' := S) ?_ (fun z => by rw [e20] at z; exact z) (fun f h1 h2 => mhi f (by omega)) (fun _ _ _ _ => rfl) (fun f _ _ _ => gI' f 11 l hv (Or.inl (by omega)) (Or.inl (by omega))) (gR' 12 11 l hv (Or.inl (by omega))) (fun j => gA _ _ (nz 12 l (v0 12 l (by omega) hl)))).kk (kf 11 (by omega) (by omega)) (kf 12 (by omega) (by omega)) (kf 16 (by omega) (by omega))
    rw [gI' 8 11 l hv (Or.inl (by omega)) (Or.inl (by omega)), e20]
    exact (a10 l hl).1
  · -- R
    refine q_wR.kk (K := K) (fun x hx w => ?_) (kf 3 (by omega) (by omega)) (kf 16 (by omega) (by omega))
    have w' := (hlv x).mp w
    have hv : q_vd M nm 16 x := Or.inr (Or.inr ⟨rfl, hx, w'⟩)
    obtain ⟨c1, c2, c3, c4, c5⟩ := a11 x hx w'
    rw [mlow 6 (by omega)]
    exact ⟨(gR' _ 16 x hv (Or.inl (by omega))).trans c1, (gR' _ 16 x hv (Or.inl (by omega))).trans c2, (gI' _ 16 x hv (Or.inl (by omega)) (Or.inl (by omega))).trans c3, (gI' _ 16 x hv (Or.inl (by omega)) (Or.inl (by omega))).trans c4, (gI' _ 16 x hv (Or.inl (by omega)) (Or.inl (by omega))).trans c5⟩
  · -- I
    have hv := v0 0 0 (by omega) (by decide)
    unfold q_wI q_hd
    rw [k00, mlow 10 (by omega), mlow 6 (by omega), m14]
    exact ⟨(gI' 32 0 0 hv (Or.inr (by omega)) (Or.inl (by omega))).trans a12.1, v33, (gI' 34 0 0 hv (Or.inr (by omega)) (Or.inl (by omega))).trans a12.2.2⟩
end OK
