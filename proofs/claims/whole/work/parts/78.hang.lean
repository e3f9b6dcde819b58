/-! hang, both sides -/
section OR
variable {t0 ti mi nb nm md N N' : Nat} {pn pn' : Nat → Nat} {M M' : z_Md} {S S' : Nat → Nat} {C C' : Nat → Nat → Nat} {E E' : Nat → Nat → Int32 × Int32} {K K' : Nat → Nat → Nat} {u u' : z_St} {px : String → z_St → Prop}
theorem q_hold_sR (h0 a x j : Nat) (v : Option Nat) (u : z_St) : q_hold h0 a (z_sR x j v u) = z_sR x j v (q_hold h0 a u) := by
  show (if z_gI 25 a u = 0 then q_inc 25 a (q_inc 34 h0 (z_sR x j v u)) else q_inc 25 a (z_sR x j v u)) = _
  unfold q_hold
  split <;> rfl
theorem q_dm_12 (M : z_Md) (S : Nat → Nat) (C : Nat → Nat → Nat) (r s : Nat) (v : Int32) : z_up (q_dm M S C r) 12 s v = q_dm (z_up M 12 s v) S C r := by
  funext f x
  by_cases c : f = 2 ∨ f = 6 ∨ f = 9
  · rw [q_dm_c S C c (z_up_f _ _ _ (by omega)) (z_up_f _ _ _ (by omega)) (z_up_f _ _ _ (by omega)), z_up_f _ _ _ (by omega)]
  · have e : ∀ M' : z_Md, q_dm M' S C r f = M' f := fun M' => q_dm_f (by omega) (by omega) (by omega)
    rw [e, z_up_e, z_up_e, e]
theorem q_tail {Q : Int32 → z_St → Prop} {l : Nat} (hN : N ≤ 64) (hmd : md + 1 ≤ N) (h : q_W t0 N M S C E nb nm md K u) (hl : l < 3) (hbz : ¬ M 20 l = 0) (h0 : M 0 0 = 0) (hQ : ∀ r' u', w_X7_hang_83 (fun r M' => M' 0 0 = 0 ∧ r = r' ∧ q_WW t0 N (K 0 0) M' u') M (nI l) → Q r' u') : w_X6_hang_22 Q px t0 mi (K 0 0) u (some (K 11 l)) := by
  have h' := h
  obtain ⟨a1, a2, a3, a4, a5, a6, a7, a8, a9, a10, a11, a12⟩ := h
  have p29 := a6.2.2.2.2.2.2.1
  have p7 := a6.2.2.2.2.2.2.2.1
  have hn16 := a3.2.1.2
  have hnb := a3.1.2
  obtain ⟨-, b2⟩ := a3.2.2.2.2.2.2.1 l hl
  obtain ⟨⟨b, hb, eb⟩, ⟨k, hk, ek⟩, ⟨r, hr, hlr⟩, -, -⟩ := b2 hbz
  obtain ⟨c1, c2, c3, c4, -⟩ := (a10 l hl).2 hbz
  have h7 := a4.l23 hl hr hbz hlr
  have h6 := a4.2.2.2.1 r hr h7
  have hlv : q_lv M r := Or.inr h7
  have hb4 : b < 4 := by omega
  have hvl : vp_in (nI l) 3 := vp_in_nI hl (by omega)
  have hcl : (nI l).toNatClampNeg = l := q_c (by omega)
  have hv48 : vp_in (nI r) 48 := vp_in_nI hr (by omega)
  have hcr : (nI r).toNatClampNeg = r := q_c (by omega)
  have e12 : z_gR 12 (K 11 l) u = some (K 16 r) := by rw [c4, hlr, q_rf_s K hr]
  have e21 := (a11 r hr hlv).1
  have k6 := a5.r hr hlv
  have e9 : M 9 r = nI (S r) := (a2.1 r hr).1
  have hSN := (a2.1 r hr).2
  have ref : ∀ post : Int32 → z_Md → Prop, (S r = 0 → post (-1) (z_up (z_up M 20 l 0) 7 r 0)) →
      (0 < S r → 0 < k → w_X7_letGo (fun _ M5 => vp_in (nI (3 * b + (k - 1))) 12 ∧ post 0 (z_up M5 12 (3 * b + (k - 1)) (nI r))) (z_up (z_up (z_up M 20 l 0) 7 r 0) 6 r 1) (M 12 (3 * b + (k - 1)))) →
      (0 < S r → k = 0 → w_X7_add post (z_up (z_up (z_up M 20 l 0) 7 r 0) 6 r 1) (nI b) (nI r) (-1)) → w_X7_hang_83 post M (nI l) := fun post g1 g2 g3 => by
    refine ⟨hvl, ?_⟩
    intro x2 ex2
    rw [hcl] at ex2 ⊢
    have ex : x2 = nI r := ex2.trans hlr
    rw [ex, hcr]
    have e9' : z_up (z_up M 20 l 0) 7 r 0 9 r = nI (S r) := e9
    rw [e9']
    refine ⟨hvl, hv48, hv48, fun z => ⟨hv48, hvl, ?_⟩, fun z => g1 ?_⟩
    · have hS : 0 < S r := by
        apply Decidable.byContradiction
        intro q
        have : S r = 0 := by omega
        rw [this] at z
        exact z rfl
      have e22 : z_up (z_up (z_up M 20 l 0) 7 r 0) 6 r 1 22 l = nI k := ek
      have e21' : z_up (z_up (z_up M 20 l 0) 7 r 0) 6 r 1 21 l = nI b := eb
      rw [e22, e21']
      refine ⟨fun w => ⟨hvl, hvl, ?_⟩, fun w => ⟨hvl, g3 hS ?_⟩⟩
      · have hk0 : 0 < k := by
          apply Decidable.byContradiction
          intro q
          have : k = 0 := by omega
          rw [this] at w
          exact w rfl
        intro x3 ex3
        have e3 : x3 = nI (3 * b + (k - 1)) := by
          rw [ex3]
          show nI 3 * nI b + nI k - nI 1 = _
          rw [pk_mul, nI_add, pk_sub (by omega)]
          congr 1; omega
        have hv12 : vp_in (nI (3 * b + (k - 1))) 12 := vp_in_nI (by omega) (by omega)
        rw [e3, q_c (n := 3 * b + (k - 1)) (by omega)]
        refine ⟨hv12, ?_⟩
        have e12' : z_up (z_up (z_up M 20 l 0) 7 r 0) 6 r 1 12 (3 * b + (k - 1)) = M 12 (3 * b + (k - 1)) := rfl
        rw [e12']
        exact g2 hS hk0
      · apply Decidable.byContradiction
        intro q
        exact nI_ne0 (n := k) (by omega) (by omega) w
    · apply Decidable.byContradiction
      intro q
      exact nI_ne0 (n := S r) (by omega) (by omega) z
  refine ⟨_, rfl, a5.k 11 l (by omega) (show l < 3 from hl), _, e12, k6, ?_⟩
  generalize hu1 : z_pI 8 (K 11 l) 0 u = u1
  have uR : ∀ f x, z_gR f x u1 = z_gR f x u := fun f x => by rw [← hu1]; rfl
  have uk : ∀ x, z_kd x u1 = z_kd x u := fun x => by rw [← hu1]; rfl
  have ul : ∀ x, z_ln x u1 = z_ln x u := fun x => by rw [← hu1]; rfl
  have uB : ∀ x j, z_aR x j u1 = z_aR x j u := fun x j => by rw [← hu1]; rfl
  have uI : ∀ f x, f ≠ 8 → z_gI f x u1 = z_gI f x u := fun f x hf => by rw [← hu1]; simp [z_gI, z_pI, z_up, hf]
  refine ⟨fun hne => ⟨fun _ => ⟨fun w => ?_, fun w => ?_⟩, fun z => absurd rfl z⟩, fun heq => ⟨fun z => absurd z (by decide), fun _ => ?_⟩⟩
  · -- a greeting or preface
    rw [uR, e21] at hne
    have hS : 0 < S r := by
      apply Decidable.byContradiction
      intro q
      exact hne (if_pos (by omega))
    rw [uI 11 _ (by omega), c3, ek] at w ⊢
    have hk0 : 0 < k := by
      apply Decidable.byContradiction
      intro q
      have : k = 0 := by omega
      rw [this] at w
      exact w rfl
    have ek1 : nI k - 1 = nI (k - 1) := pk_sub (b := 1) (by omega)
    rw [uI 10 _ (by omega), c2, eb, q_c (n := b) (by omega), ek1, e12]
    have hw3 : k - 1 < 3 := by omega
    have hv9 : vp_in (nI (k - 1)) (z_ln (K 9 b) u1) := by
      rw [ul, a5.l 9 b (by omega) (show b < 4 from hb4) (by decide)]
      exact vp_in_nI (n := k - 1) (N := 3) hw3 (by omega)
    refine ⟨_, (uR _ _).trans p29, (uk _).trans (a5.k 7 0 (by omega) (by decide)), by rw [ul, a5.l 7 0 (by omega) (by decide) (by decide)]; exact vp_in_nI (n := b) (N := 4) hb4 (by omega), ?_⟩
    rw [uB, (p7 b hb4).1]
    refine ⟨_, rfl, (uk _).trans (a5.k 8 b (by omega) (show b < 4 from hb4)), _, (uR _ _).trans (p7 b hb4).2, (uk _).trans (a5.k 9 b (by omega) (show b < 4 from hb4)), hv9, _, rfl, (uk _).trans k6, hv9, ?_⟩
    rw [q_c (n := k - 1) (by omega), uB, a8.2 b (k - 1) hb4 hw3]
    have V := h'.endl hl hbz hr hlr
    rw [hu1] at V
    have k00 : K 16 r ≠ K 0 0 := fun q => by
      have := a5.k 0 0 (by omega) (by decide)
      rw [← q, k6] at this
      exact absurd this (by decide)
    refine q_holdC (fun c hc => by rw [← Option.some.inj hc]; exact ⟨(uk _).trans k6, k00⟩) ?_
    show w_X6_release _ t0 mi (K 0 0) (q_hold (K 0 0) (K 16 r) (z_sR (K 9 b) (k - 1) (some (K 16 r)) u1)) (q_rf K (M 12 (3 * b + (k - 1))))
    rw [q_hold_sR]
    have V' := V.own (i := b) (w := k - 1) (r := r) (pn' := fun x => if M 12 (3 * b + (k - 1)) = nI x then 1 else 0) hb4 hw3 hr (fun x hx => by
      have i1 : nI r = nI x ↔ x = r := by rw [nI_eq (by omega) (by omega)]; exact eq_comm
      have e : z_up (z_up (z_up M 20 l 0) 7 r 0) 6 r 1 12 (3 * b + (k - 1)) = M 12 (3 * b + (k - 1)) := rfl
      simp only [i1, e]
      omega) (fun x hx => by split <;> omega)
    rcases a3.2.2.2.2.2.1 (3 * b + (k - 1)) (by omega) with ho | ⟨r2, hr2, ho⟩
    · rw [ho]
      refine q_relC_n ?_
      refine hQ _ _ (ref _ (fun z => by omega) (fun _ _ => ?_) (fun _ z => by omega))
      rw [ho]
      refine q_letGo_n ⟨vp_in_nI (by omega) (by omega), h0, rfl, S, C, E, nb, nm, md, K, rfl, V'.w (fun x hx => ?_)⟩
      rw [ho, if_neg (fun q => nI_pos (n := x) (by omega) (by rw [← q]; decide))]
    · have hpos : 0 < (fun x => if M 12 (3 * b + (k - 1)) = nI x then 1 else 0) r2 := by
        show 0 < if M 12 (3 * b + (k - 1)) = nI r2 then 1 else 0
        rw [if_pos ho]; decide
      rw [ho, q_rf_s K hr2]
      refine q_relC V' hr2 hpos (fun u5 hu5 => ?_)
      have hdM := q_dm_dM (E := E) V'.2.1 hr2
      have V2 := V'.rel hr2 hpos hdM hu5
      have hn2 := q_users1 V' hr2 hpos
      refine hQ _ _ (ref _ (fun z => by omega) (fun _ _ => ?_) (fun _ z => by omega))
      rw [ho]
      refine q_letGoX (N := N) (E := E) (a2.fr rfl rfl rfl rfl rfl rfl) hN hr2 hn2 ⟨vp_in_nI (by omega) (by omega), ?_⟩
      rw [q_dm_12]
      refine ⟨?_, rfl, _, C, E, nb, nm, md, K, rfl, V2.w (fun x hx => ?_)⟩
      · rw [q_dm_f (by omega) (by omega) (by omega)]; exact h0
      · rw [ho]
        have i1 : nI r2 = nI x ↔ x = r2 := by rw [nI_eq (by omega) (by omega)]; exact eq_comm
        simp only [i1]
        split <;> omega
  · -- a message
    rw [uR, e21] at hne
    have hS : 0 < S r := by
      apply Decidable.byContradiction
      intro q
      exact hne (if_pos (by omega))
    rw [uI 11 _ (by omega), c3, ek] at w
    have hk0 : k = 0 := by
      apply Decidable.byContradiction
      intro q
      exact nI_ne0 (n := k) (by omega) (by omega) w
    subst hk0
    rw [uI 10 _ (by omega), c2, eb, e12]
    have V := h'.endl hl hbz hr hlr
    rw [hu1] at V
    have a5' : q_wK t0 nm M K u1 := a5.sub (fun _ _ q => q) uk ul
    have a6' : q_wP K u1 := a6.fr (fun f x _ _ _ _ _ _ => uR f x) (fun x j _ => uB x j) (fun j => by rw [← hu1]; rfl)
    have a9' : q_wM nm M K u1 := a9.fr rfl rfl rfl rfl rfl (uI _ _ (by omega)) (fun m => uB _ m) (fun f m _ hf => uI _ _ (by omega)) (fun f m _ _ => uR _ _)
    have hroom : nm + fb_ct (q_spk (z_up (z_up (z_up M 20 l 0) 7 r 0) 6 r 1)) 3 < 16 := by
      have hsp : q_spk (z_up (z_up (z_up M 20 l 0) 7 r 0) 6 r 1) = fun x => if x = l then false else q_spk M x := by
        funext x
        unfold q_spk
        show decide (¬ z_up M 20 l 0 20 x = 0 ∧ M 22 x = 0) = _
        by_cases q : x = l
        · subst q; rw [z_up_s, if_pos rfl]; simp
        · rw [z_up_a _ _ _ _ q, if_neg q]
      have := fb_ct_upd (q_spk M) false (i := l) (n := 3) hl
      have e1 : q_spk M l = true := decide_eq_true ⟨hbz, ek⟩
      rw [e1] at this
      rw [hsp]
      have h16 := a3.2.2.2.2.2.2.2
      simp only [if_true, Bool.false_eq_true, if_false, Nat.add_zero] at this
      omega
    refine q_addMsg (nm := nm) (md := md) (r1 := some (K 16 r)) (r2 := none) (by omega) a5' a6' a9' ((uI _ _ (by omega)).trans (a12.2.1.trans a3.2.2.1.1)) (fun c hc => by rw [← Option.some.inj hc]; exact (uk _).trans k6) (fun c hc => by cases hc) (fun a R' v hf => ?_)
    have F1 := hf.hold ((uk _).trans k6) ((uk _).trans (a5.k 0 0 (by omega) (by decide))) ((uk _).trans (a5.k 13 0 (by omega) (by decide)))
    have A := V.addf (x19 := -1) (pn' := fun _ => 0) hroom hb hr (Or.inl rfl) (fun z hz => ?_) hN hmd F1
    · refine hQ _ _ (ref _ (fun z => by omega) (fun _ z => by omega) (fun _ _ => ?_))
      refine q_addM (nm := nm) (md := md) (by omega) a3.2.1.1 a3.2.2.1.1 ⟨h0, rfl, S, C, E, nb, nm + 1, md + 1, z_up (z_up K 15 nm a) 14 0 R', rfl, A.w (fun _ _ => rfl)⟩
    · have hne2 : ¬ (-1 : Int32) = nI z := fun q => nI_pos (n := z) (by omega) (by rw [← q]; decide)
      have i1 : nI r = nI z ↔ z = r := by rw [nI_eq (by omega) (by omega)]; exact eq_comm
      simp only [i1, hne2, if_false, Nat.zero_add, Nat.add_zero]
  · -- nothing
    rw [uR, e21] at heq
    have hS : S r = 0 := by
      apply Decidable.byContradiction
      intro q
      rw [if_neg q] at heq
      cases heq
    refine hQ _ _ (ref _ (fun _ => ⟨h0, rfl, S, C, E, nb, nm, md, K, rfl, ?_⟩) (fun z => by omega) (fun z => by omega))
    rw [← hu1]
    exact h'.endl0 hl hbz hr hlr hS
theorem q_op_hang {l0 : Int32} (hN : N + 1 ≤ 64) (h : q_W t0 N M S C E nb nm md K u) : w_X6_hang (q_ok1 t0 (N + 1) (K 0 0) (fun post => w_X7_hang post M l0)) (q_okx t0 (N + 1) (K 0 0) (fun post => w_X7_hang post M l0) [("java/lang/IllegalArgumentException", 1), ("java/lang/IllegalStateException", 2)]) t0 mi (K 0 0) u l0 := by
  have h' := h
  refine q_busyLine h (fun l hl e hbz => ?_) (fun l hl e hbz => ?_) (fun hno => ?_)
  · subst e
    have hlb : q_ib 3 (nI l) := ⟨l, hl, rfl⟩
    have hv : vp_in (nI l) 3 := vp_in_nI hl (by omega)
    have hc : (nI l).toNatClampNeg = l := q_c (by omega)
    have hW0 := h'.up0 0
    obtain ⟨a1, a2, a3, a4, a5, a6, a7, a8, a9, a10, a11, a12⟩ := h
    have hmd := a3.2.2.1.2
    obtain ⟨-, ⟨k, hk, ek⟩, ⟨r, hr, hlr⟩, ⟨t, ht, et⟩, h24⟩ := (a3.2.2.2.2.2.2.1 l hl).2 hbz
    obtain ⟨c1, c2, c3, c4, c5, c6, c7, c8⟩ := (a10 l hl).2 hbz
    have ht8 : t < 8 := by have := c5.2; rw [et, q_c (by omega)] at this; exact this
    have e7 : z_gI 7 (K 11 l) u = nI t := c5.1.trans et
    have ref : ∀ post : Int32 → z_Md → Prop, (t = 0 → w_X7_hang_83 post (z_up M 0 0 0) (nI l)) → (0 < t → ∃ n0, w_X7_hang_54 post n0 (z_up M 0 0 0) (nI l) (nI t)) → w_X7_hang post M (nI l) := fun post g1 g2 => by
      refine q_isLineM (fun _ => ⟨fun _ => hv, ?_⟩) (fun z => absurd hlb z)
      intro y3 e3
      have hy : y3 = 0 := by rw [e3, if_neg (by decide), hc, if_neg hbz]
      rw [hy, q_up0, hc]
      have e25 : z_up M 0 0 0 25 l = nI t := et
      rw [e25]
      refine ⟨fun _ => ⟨hv, fun z => g1 ?_, fun z => ⟨hv, ?_⟩⟩, fun z => absurd q_le0 z⟩
      · apply Decidable.byContradiction
        intro q
        exact nI_nle (n := t) (by omega) (by omega) z
      · intro x2 ex2
        rw [ex2]
        refine g2 ?_
        apply Decidable.byContradiction
        intro q
        have : t = 0 := by omega
        rw [this] at z
        exact z (by decide)
    refine ⟨_, rfl, a5.k 11 l (by omega) (show l < 3 from hl), ?_⟩
    rw [e7]
    refine ⟨fun z => ?_, fun z => ?_⟩
    · have ht0 : t = 0 := by
        apply Decidable.byContradiction
        intro q
        exact nI_nle (n := t) (by omega) (by omega) z
      exact q_tail (by omega) (by omega) (hW0.mo (N' := N + 1) (by omega)) hl hbz rfl (fun r' u' hh => ref _ (fun _ => hh) (fun w => by omega))
    · have ht0 : 0 < t := by
        apply Decidable.byContradiction
        intro q
        have : t = 0 := by omega
        rw [this] at z
        exact z (by decide)
      have b24 : M 24 l = 0 := by
        apply Decidable.byContradiction
        intro q
        have := c7 q
        rw [et] at this
        exact nI_ne0 (n := t) ht0 (by omega) this
      have hk12 : z_kd (K 12 l) u = 10 := a5.k 12 l (by omega) (show l < 3 from hl)
      have hln12 : z_ln (K 12 l) u = 8 := a5.l 12 l (by omega) (show l < 3 from hl) (by decide)
      have hF := q_fill_W (t := t) hW0 hl hbz hr hlr b24 et ht8
      refine q_fillU (t := t) (by omega) (a6.2.2.2.2.2.2.2.2.2.1 l hl).2 hk12 hln12 e7 ?_
      have hF2 : q_W t0 N (z_up (q_iM (z_up M 0 0 0) l t 8) 25 l 0) S C E nb nm md K (z_pI 7 (K 11 l) 0 (z_pI 7 (K 11 l) (nI 8) (q_iU K l t 8 u))) := by
        rw [z_pI_pI]; exact hF
      have iM : ∀ f, f ≠ 26 → q_iM (z_up M 0 0 0) l t 8 f = z_up M 0 0 0 f := fun f hf => q_iM_f hf
      refine q_frame_op (P := fun M' u4 => ∃ S' C' E', q_W t0 (N + 1) M' S' C' E' nb nm md K u4 ∧ M' 0 0 = 0 ∧ ¬ M' 20 l = 0) (fun u4 _ hfr => ?_) hF2 hN hl (by rw [iM 20 (by omega)]; exact hbz) hr (by rw [iM 23 (by omega)]; exact hlr) (by rw [iM 24 (by omega)]; exact b24) ⟨t, ht, by rw [iM 25 (by omega)]; exact et⟩ (fun j hj => ?_) (fun M' u4 S' C' E' hW e0 e20 _ _ _ => ⟨S', C', E', hW, ?_, ?_⟩)
      · obtain ⟨M', ⟨S', C', E', hW, e0, e20⟩, hall⟩ := x_frame _ _ _ hfr
        exact q_tail (by omega) (by omega) hW hl e20 e0 (fun r' u' hh => ref _ (fun w => by omega) (fun _ => q_fillM hl (by omega) (hall _ hh)))
      · by_cases q : j < t
        · obtain ⟨f1, f2⟩ := c6 j (by rw [et, q_c (by omega)]; exact q)
          have e1 : q_iM (z_up M 0 0 0) l t 8 26 (8 * l + j) = M 26 (8 * l + j) := if_neg (by omega)
          have e2 : z_aI (K 12 l) j (z_pI 7 (K 11 l) (nI 8) (q_iU K l t 8 u)) = z_aI (K 12 l) j u := if_neg (by omega)
          rw [e1, e2]; exact ⟨f1, f2⟩
        · have e1 : q_iM (z_up M 0 0 0) l t 8 26 (8 * l + j) = 0 := if_pos (by omega)
          have e2 : z_aI (K 12 l) j (z_pI 7 (K 11 l) (nI 8) (q_iU K l t 8 u)) = 0 := if_pos ⟨rfl, by omega, hj⟩
          rw [e1, e2]; exact ⟨rfl, by decide, by decide⟩
      · rw [e0, iM 0 (by omega)]; rfl
      · rw [e20, iM 20 (by omega)]; exact hbz
  · subst e
    have hlb : q_ib 3 (nI l) := ⟨l, hl, rfl⟩
    refine ⟨2, by simp, ?_⟩
    refine q_isLineM (fun _ => ⟨fun _ => vp_in_nI hl (by omega), ?_⟩) (fun z => absurd hlb z)
    intro y3 e3
    have hy : y3 = 2 := by rw [e3, if_neg (by decide), q_c (by omega), if_pos hbz]
    rw [hy, q_up0]
    exact ⟨fun q => absurd q q_n2, fun _ => ⟨q_up0 _ _, (h'.up0 2).ww⟩⟩
  · refine ⟨1, by simp, ?_⟩
    refine q_isLineM (fun z => absurd z hno) (fun _ => ⟨fun z => absurd rfl z, ?_⟩)
    intro y3 e3
    have hy : y3 = 1 := by rw [e3, if_pos rfl]
    rw [hy, q_up0]
    exact ⟨fun q => absurd q q_n1, fun _ => ⟨q_up0 _ _, (h'.up0 1).ww⟩⟩
end OR
