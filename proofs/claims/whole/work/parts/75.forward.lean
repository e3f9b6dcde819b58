/-! forward, both sides -/
section OO
variable {t0 ti mi nb nm md N N' : Nat} {pn pn' : Nat → Nat} {M M' : z_Md} {S S' : Nat → Nat} {C C' : Nat → Nat → Nat} {E E' : Nat → Nat → Int32 × Int32} {K K' : Nat → Nat → Nat} {u u' : z_St} {px : String → z_St → Prop}
def q_u6 (M : z_Md) (r : Nat) (p : Int32) : z_Md := if p < 0 then z_up M 6 r (M 6 r + 1) else z_up (z_up M 6 r (M 6 r + 1)) 6 p.toNatClampNeg (z_up M 6 r (M 6 r + 1) 6 p.toNatClampNeg + 1)
theorem q_u6_f {M : z_Md} {r f : Nat} {p : Int32} (h : f ≠ 6) : q_u6 M r p f = M f := by
  unfold q_u6
  split
  · exact z_up_f _ _ _ h
  · rw [z_up_f _ _ _ h, z_up_f _ _ _ h]
theorem q_fwdM {post : Int32 → z_Md → Prop} {m r b bm : Nat} {x p : Int32} (hN : N ≤ 64) (h : q_W t0 N M S C E nb nm md K u) (hm : m < nm) (em : M 15 m = x) (hb : b < nb) (hbm : bm < nb) (ebm : M 16 m = nI bm) (hr : r < 48) (er : M 18 m = nI r) (ep : M 12 (3 * bm + 2) = p)
    (k1 : ¬ nm + fb_ct (q_spk M) 3 < 16 → post 0 (z_up (z_up M 0 0 0) 0 0 2)) (k2 : nm + fb_ct (q_spk M) 3 < 16 → ¬ q_ub M S E nm (nI b) + (q_cost S E (nI r) + q_cost S E p) ≤ M 11 b → post 0 (z_up (z_up M 0 0 0) 0 0 2))
    (k3 : nm + fb_ct (q_spk M) 3 < 16 → q_ub M S E nm (nI b) + (q_cost S E (nI r) + q_cost S E p) ≤ M 11 b → post (nI md) (q_aM (q_u6 (z_up M 0 0 0) r p) nm md (nI b) (nI r) p)) : w_X7_forward post M x (nI b) := by
  have h' := h
  obtain ⟨a1, a2, a3, a4, a5, a6, a7, a8, a9, a10, a11, a12⟩ := h
  obtain ⟨-, b2, b3, -⟩ := h'.up0 0
  have hn16 := a3.2.1.2
  have hnb := a3.1.2
  have hib : q_ib nb (nI b) := ⟨b, hb, rfl⟩
  refine q_findM a3 (fun m2 hm2 em2 => ?_) (fun q => absurd em (q m hm))
  obtain rfl := q_one a3 hm2 hm (em2.trans em.symm)
  have hvm : vp_in (nI m2) 16 := vp_in_nI (by omega) (by omega)
  have hcm : (nI m2).toNatClampNeg = m2 := q_c (by omega)
  refine ⟨fun q => absurd q (nI_pos (by omega)), fun _ => ?_⟩
  refine q_isBoxM a3 (fun _ => ⟨fun _ => ?_, fun q => absurd q (by decide)⟩) (fun q => absurd hib q)
  unfold w_X7_forward_24
  rw [q_up0, hcm]
  have e16 : 3 * (z_up M 0 0 0 16 m2) + 2 = nI (3 * bm + 2) := by
    have : z_up M 0 0 0 16 m2 = nI bm := ebm
    rw [this]
    show nI 3 * nI bm + nI 2 = _
    rw [pk_mul, nI_add]
  rw [e16, q_c (n := 3 * bm + 2) (by omega)]
  refine ⟨fun _ => ⟨hvm, vp_in_nI (by omega) (by omega), ?_⟩, fun q => absurd q_le0 q⟩
  intro x4 ex4
  have ex4' : x4 = p := ex4.trans ep
  rw [ex4']
  have e18 : z_up M 0 0 0 18 m2 = nI r := er
  rw [e18]
  have hp : q_rn p := by rw [← ep]; exact a3.2.2.2.2.2.1 _ (by omega)
  refine ⟨hvm, q_costM b2 hN (Or.inr ⟨r, hr, rfl⟩) (q_costM b2 hN hp (q_isFullM b3 ?_))⟩
  have esp : q_spk (z_up M 0 0 0) = q_spk M := rfl
  rw [esp]
  by_cases hroom : nm + fb_ct (q_spk M) 3 < 16
  · rw [if_pos hroom]
    refine ⟨fun q => absurd rfl q, fun _ => q_usedByM b2 hN b3 ⟨vp_in_nI (by omega) (by omega), ?_⟩⟩
    have eub : q_ub (z_up M 0 0 0) S E nm (nI b) = q_ub M S E nm (nI b) := q_ub_cong S E nm _ (fun f hf => z_up_f _ _ _ hf)
    rw [eub, q_c (n := b) (by omega)]
    have e11 : z_up M 0 0 0 11 b = M 11 b := rfl
    rw [e11]
    refine ⟨fun hle => ⟨hvm, ?_⟩, fun hle => k2 hroom hle⟩
    have g := k3 hroom hle
    unfold q_u6 at g
    have hv48 : vp_in (nI r) 48 := vp_in_nI hr (by omega)
    rw [e18, q_c (n := r) (by omega)]
    refine ⟨hv48, hv48, fun hneg => ?_, fun hneg => ?_⟩
    · rw [if_pos hneg] at g
      refine ⟨hvm, ?_⟩
      rw [hcm]
      have e18b : z_up (z_up M 0 0 0) 6 r (z_up M 0 0 0 6 r + 1) 18 m2 = nI r := er
      rw [e18b]
      exact q_addM (by omega) a3.2.1.1 a3.2.2.1.1 g
    · rw [if_neg hneg] at g
      rcases hp with hp | ⟨r', hr', hp⟩
      · exact absurd (by rw [hp]; decide) hneg
      · have hvp : vp_in p 48 := by rw [hp]; exact vp_in_nI hr' (by omega)
        refine ⟨hvp, hvp, hvm, ?_⟩
        rw [hcm]
        have e18b : z_up (z_up (z_up M 0 0 0) 6 r (z_up M 0 0 0 6 r + 1)) 6 p.toNatClampNeg (z_up (z_up M 0 0 0) 6 r (z_up M 0 0 0 6 r + 1) 6 p.toNatClampNeg + 1) 18 m2 = nI r := er
        rw [e18b]
        exact q_addM (by omega) a3.2.1.1 a3.2.2.1.1 g
  · rw [if_neg hroom]
    exact ⟨fun _ => k1 hroom, fun q => absurd q (by decide)⟩
theorem q_op_forward {x y : Int32} (hN : N + 1 ≤ 64) (h : q_W t0 N M S C E nb nm md K u) : w_X6_forward (q_ok1 t0 (N + 1) (K 0 0) (fun post => w_X7_forward post M x y)) (q_okx t0 (N + 1) (K 0 0) (fun post => w_X7_forward post M x y) [("java/util/NoSuchElementException", 1), ("java/lang/IllegalStateException", 2)]) t0 mi (K 0 0) u x y := by
  have h' := h
  obtain ⟨a1, a2, a3, a4, a5, a6, a7, a8, a9, a10, a11, a12⟩ := h
  have p29 := a6.2.2.2.2.2.2.1
  have p7 := a6.2.2.2.2.2.2.2.1
  have p31 := a6.2.2.2.2.2.2.2.2.2.2.1
  have hn16 := a3.2.1.2
  have hnb := a3.1.2
  have hmd := a3.2.2.1.2
  refine q_placeOf a3 a5 a6 a9 (fun m hm em => ?_) (fun hn => ?_)
  · refine ⟨_, p31, a5.k 13 0 (by omega) (by decide), q_get hn16 a5 a6 a9 hm ⟨_, rfl, a5.m hm, q_requireBox a3 a12 (fun hb => ?_) (fun hb => ?_)⟩⟩
    · obtain ⟨b, hb, rfl⟩ := hb
      obtain ⟨⟨bm, hbm, ebm⟩, ⟨r, hr, er⟩, hx, -⟩ := a3.2.2.2.1 m hm
      obtain ⟨m16, m17, m20, m18, m19⟩ := a9.2.2 m hm
      have hbm4 : bm < 4 := by omega
      have e17 : z_gI 17 (K 15 m) u = nI bm := m17.trans ebm
      rw [e17, q_c (n := bm) (by omega), m18, er]
      refine ⟨_, p29, a5.k 7 0 (by omega) (by decide), by rw [a5.l 7 0 (by omega) (by decide) (by decide)]; exact vp_in_nI (n := bm) (N := 4) hbm4 (by omega), _, (p7 bm hbm4).1, a5.k 8 bm (by omega) (show bm < 4 from hbm4), _, (p7 bm hbm4).2, a5.k 9 bm (by omega) (show bm < 4 from hbm4), by rw [a5.l 9 bm (by omega) (show bm < 4 from hbm4) (by decide)]; exact vp_in_nI (n := 2) (N := 3) (by omega) (by omega), ?_⟩
      have c2 : (2 : Int32).toNatClampNeg = 2 := rfl
      rw [c2, a8.2 bm 2 hbm4 (by omega)]
      generalize ep : M 12 (3 * bm + 2) = p
      have hlp : p = -1 ∨ ∃ r, r < 48 ∧ p = nI r ∧ q_lv M r := by rw [← ep]; exact q_lv12 a3 a4 (by omega)
      have hp : q_rn p := by rw [← ep]; exact a3.2.2.2.2.2.1 _ (by omega)
      have h18 := q_lv18 a3 a4 hm
      rw [er] at h18
      have h6r := a4.l18 hn16 hm hr er
      have ref := fun (post : Int32 → z_Md → Prop) => q_fwdM (post := post) (by omega : N ≤ 64) h' hm em hb hbm ebm hr er ep
      refine q_costOf a5 a11 h18 (q_costOf a5 a11 hlp (q_hasRoom a3 a5 a6 a9 (fun l hl => ⟨(a10 l hl).1, fun z => ((a10 l hl).2 z).2.2.1⟩) ?_))
      have W2 := ((h'.up0 0).up0 2).ww
      by_cases hroom : nm + fb_ct (q_spk M) 3 < 16
      · rw [if_pos hroom]
        refine ⟨fun q => absurd q (by decide), fun _ => q_withinQuota h' hb rfl ?_⟩
        have hle : q_ub M S E nm (nI b) + (q_cost S E (nI r) + q_cost S E p) ≤ M 11 b ↔ ¬ M 11 b < q_ub M S E nm (nI b) + (q_cost S E (nI r) + q_cost S E p) := ⟨fun q => by
          intro z
          exact (fa_of_lt z).2.1 q, fun q => fa_of_nlt q⟩
        by_cases hq : M 11 b < q_ub M S E nm (nI b) + (q_cost S E (nI r) + q_cost S E p)
        · rw [if_pos hq]
          refine ⟨fun q => absurd rfl q, fun _ => ⟨2, by simp, ref _ (fun q => absurd hroom q) (fun _ _ => ⟨q_up0 _ _, W2⟩) (fun _ q => absurd hq (hle.mp q))⟩⟩
        · rw [if_neg hq]
          refine ⟨fun _ => ?_, fun q => absurd q (by decide)⟩
          rw [m18, er, q_rf_s K hr]
          refine q_addMsg (nm := nm) (by omega) a5 a6 a9 (a12.2.1.trans a3.2.2.1.1) (fun c hc => ?_) (fun c hc => ?_) (fun a R' v hf => ?_)
          · rw [← Option.some.inj hc]; exact a5.r hr (Or.inl h6r)
          · rcases hlp with rfl | ⟨r', hr', rfl, hl'⟩
            · cases hc
            · rw [q_rf_s K hr'] at hc
              rw [← Option.some.inj hc]; exact a5.r hr' hl'
          · dsimp only [q_ok1]
            refine ref _ (fun q => absurd hroom q) (fun _ q => absurd (hle.mpr hq) q) (fun _ _ => ?_)
            refine ⟨?_, rfl, ?_⟩
            · have : q_aM (q_u6 (z_up M 0 0 0) r p) nm md (nI b) (nI r) p 0 0 = q_u6 (z_up M 0 0 0) r p 0 0 := rfl
              rw [this, q_u6_f (by omega)]; rfl
            · have k0 : z_kd (K 0 0) u = 8 := a5.k 0 0 (by omega) (by decide)
              have k13 : z_kd (K 13 0) u = 1 := a5.k 13 0 (by omega) (by decide)
              have kr : z_kd (K 16 r) u = 6 := a5.r hr (Or.inl h6r)
              have T1 := ((h'.up0 0).p.take (r := r) hr h6r (by omega)).mo (N' := N + 1) (by omega)
              have F1 := hf.hold kr k0 k13
              rcases hlp with rfl | ⟨r', hr', rfl, hl'⟩
              · have e6 : q_u6 (z_up M 0 0 0) r (-1) = z_up (z_up M 0 0 0) 6 r (z_up M 0 0 0 6 r + 1) := if_pos (by decide)
                rw [e6]
                have A := T1.addf (pn' := fun _ => 0) hroom hb hr hp (fun z hz => ?_) hN (by omega) F1
                · exact ⟨S, C, E, nb, nm + 1, md + 1, z_up (z_up K 15 nm a) 14 0 R', rfl, A.w (fun _ _ => rfl)⟩
                · have hne : ¬ (-1 : Int32) = nI z := fun q => nI_pos (n := z) (by omega) (by rw [← q]; decide)
                  have i1 : nI r = nI z ↔ z = r := by rw [nI_eq (by omega) (by omega)]; exact eq_comm
                  simp only [i1, hne, if_false, Nat.zero_add, Nat.add_zero]
              · have e6 : q_u6 (z_up M 0 0 0) r (nI r') = z_up (z_up (z_up M 0 0 0) 6 r (z_up M 0 0 0 6 r + 1)) 6 r' (z_up (z_up M 0 0 0) 6 r (z_up M 0 0 0 6 r + 1) 6 r' + 1) := by
                  unfold q_u6
                  rw [if_neg (nI_pos (by omega)), q_c (by omega)]
                have h6r' : ¬ M 6 r' = 0 := a4.l12 hn16 (by omega) hr' ep
                have n6 : ¬ z_up (z_up M 0 0 0) 6 r (z_up M 0 0 0 6 r + 1) 6 r' = 0 := by
                  by_cases q : r' = r
                  · subst q
                    exact T1.2.2.2.1.p hn16 hr' (by rw [if_pos rfl]; omega)
                  · rw [z_up_a _ _ _ _ q]; exact h6r'
                have T2 := T1.take (r := r') hr' n6 (by split <;> omega)
                have F2 := F1.hold (c := K 16 r') (((q_hold_o (K 0 0) (K 16 r) u).1 _).trans (a5.r hr' hl')) (((q_hold_o (K 0 0) (K 16 r) u).1 _).trans k0) (((q_hold_o (K 0 0) (K 16 r) u).1 _).trans k13)
                rw [e6]
                have A := T2.addf (pn' := fun _ => 0) hroom hb hr hp (fun z hz => ?_) hN (by omega) F2
                · rw [q_rf_s K hr']
                  exact ⟨S, C, E, nb, nm + 1, md + 1, z_up (z_up K 15 nm a) 14 0 R', rfl, A.w (fun _ _ => rfl)⟩
                · have i1 : nI r = nI z ↔ z = r := by rw [nI_eq (by omega) (by omega)]; exact eq_comm
                  have i2 : nI r' = nI z ↔ z = r' := by rw [nI_eq (by omega) (by omega)]; exact eq_comm
                  simp only [i1, i2]
                  by_cases q : z = r <;> by_cases q' : z = r' <;> simp only [q, q', if_true, if_false] <;> (try omega)
                  all_goals (by_cases w : r = r' <;> simp_all)
      · rw [if_neg hroom]
        exact ⟨fun _ => ⟨2, by simp, ref _ (fun _ => ⟨q_up0 _ _, W2⟩) (fun q => absurd q hroom) (fun q => absurd q hroom)⟩, fun q => absurd rfl q⟩
    · refine ⟨1, by simp, ?_⟩
      refine q_findM a3 (fun m2 hm2 em2 => ⟨fun q => absurd q (nI_pos (by omega)), fun _ => q_isBoxM a3 (fun q => absurd q hb) (fun _ => ⟨fun q => absurd rfl q, fun _ => ?_⟩)⟩) (fun q => absurd em (q m hm))
      unfold w_X7_forward_19 w_X7_forward_24
      rw [q_up0]
      exact ⟨fun q => absurd q q_n1, fun _ => ⟨q_up0 _ _, (h'.up0 1).ww⟩⟩
  · refine ⟨1, by simp, ?_⟩
    refine q_findM a3 (fun m2 hm2 em2 => absurd em2 (hn m2 hm2)) (fun _ => ⟨fun _ => ?_, fun q => absurd (by decide) q⟩)
    unfold w_X7_forward_19 w_X7_forward_24
    rw [q_up0]
    exact ⟨fun q => absurd q q_n1, fun _ => ⟨q_up0 _ _, (h'.up0 1).ww⟩⟩
end OO
