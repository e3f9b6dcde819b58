/-! sample, both sides -/
theorem z_up_up {α : Type} (F : Nat → Nat → α) (f a : Nat) (v w : α) : z_up (z_up F f a w) f a v = z_up F f a v := by
  funext x y
  simp only [z_up]
  by_cases q : x = f ∧ y = a
  · rw [if_pos q, if_pos q]
  · rw [if_neg q, if_neg q, if_neg q]
theorem z_pI_pI (f a : Nat) (v w : Int32) (u : z_St) : z_pI f a v (z_pI f a w u) = z_pI f a v u := by
  show (_, _, z_up (z_up _ _ _ _) _ _ _, _, _, _) = _
  rw [z_up_up]
  rfl
section OM
variable {t0 ti mi nb nm md N : Nat} {M : z_Md} {S : Nat → Nat} {C : Nat → Nat → Nat} {E : Nat → Nat → Int32 × Int32} {K : Nat → Nat → Nat} {u : z_St} {px : String → z_St → Prop}
theorem q_samp_W {l r t t' : Nat} {x : Int32} (h : q_W t0 N M S C E nb nm md K u) (hl : l < 3) (hbz : ¬ M 20 l = 0) (hr : r < 48) (hlr : M 23 l = nI r) (h24 : M 24 l = 0) (ht : M 25 l = nI t) (ht8 : t < 8) (hx : -32768 ≤ x.toInt ∧ x.toInt ≤ 32767) (ht' : (t' = t + 1 ∧ t + 1 < 8) ∨ t' = 0) :
    q_W t0 N (z_up (z_up M 26 (8 * l + t) x) 25 l (nI t')) S C E nb nm md K (z_pI 7 (K 11 l) (nI t') (z_sI (K 12 l) t x u)) := by
  have h' := h
  obtain ⟨a1, a2, a3, a4, a5, a6, a7, a8, a9, a10, a11, a12⟩ := h
  have hlv : q_lv M r := Or.inr (a4.l23 hl hr hbz hlr)
  have v00 : ∀ f j, f ≤ 14 → j < q_fs f → q_vd M nm f j := fun f j h1 h2 => Or.inl ⟨h1, h2⟩
  obtain ⟨b0, bb⟩ := a10 l hl
  obtain ⟨c1, c2, c3, c4, c5, c6, c7, c8⟩ := bb hbz
  have n12 : ∀ b, b < 40 → K 4 b ≠ K 12 l ∧ K 5 b ≠ K 12 l := fun b hb => ⟨a5.ne (v00 4 b (by omega) hb) (v00 12 l (by omega) hl) (Or.inl (by omega)), a5.ne (v00 5 b (by omega) hb) (v00 12 l (by omega) hl) (Or.inl (by omega))⟩
  have n16 : K 16 r ≠ K 11 l := a5.ne (Or.inr (Or.inr ⟨rfl, hr, hlv⟩)) (v00 11 l (by omega) hl) (Or.inl (by omega))
  have gI : ∀ f a, (f ≠ 7 ∨ a ≠ K 11 l) → z_gI f a (z_pI 7 (K 11 l) (nI t') (z_sI (K 12 l) t x u)) = z_gI f a u := fun f a hf => by
    rcases hf with w | w <;> simp [z_gI, z_pI, z_sI, z_up, w]
  have gA : ∀ a i, (a ≠ K 12 l ∨ i ≠ t) → z_aI a i (z_pI 7 (K 11 l) (nI t') (z_sI (K 12 l) t x u)) = z_aI a i u := fun a i hf => by
    rcases hf with w | w <;> simp [z_aI, z_pI, z_sI, z_up, w]
  refine h'.frame (r := r) (Nat.le_refl _) hl hbz hr hlr (fun f f0 f2 f3 f4 f5 f8 f9 f24 f25 f26 f27 f28 f29 f30 f31 => ?_) (fun z _ => ?_) (fun z hz => ?_) (fun z j hz hj => ?_) (fun z _ => ?_) (fun z _ => ?_) (fun z _ => ?_) (Or.inl ?_) ⟨t', by omega, ?_⟩ (a2.fr ?_ ?_ ?_ ?_ ?_ ?_) (fun _ _ => rfl) (fun _ _ => rfl) (fun _ _ => rfl) (fun _ => rfl) (fun _ => rfl) (fun f a h2 h3 h4 => ?_) (fun _ _ _ _ => rfl) (fun _ _ => rfl) (fun a j _ h5 => gA a j (Or.inl h5)) ?_ ?_ ?_
  · rw [z_up_f _ _ _ f25, z_up_f _ _ _ f26]
  · simp [z_up]
  · simp [z_up, hz]
  · have : ¬ 8 * z + j = 8 * l + t := by omega
    simp [z_up, this]
  · simp [z_up]
  · simp [z_up]
  · simp [z_up]
  · simp [z_up]; exact h24
  · simp [z_up]
  · funext z; simp [z_up]
  · funext z; simp [z_up]
  · funext z; simp [z_up]
  · funext z; simp [z_up]
  · funext z; simp [z_up]
  · funext z; simp [z_up]
  · refine gI f a ?_
    rcases h3 with w | w
    · exact Or.inl w.1
    · exact Or.inr w
  · obtain ⟨b1, b2, b3, b4⟩ := a7
    refine ⟨fun b hb => ?_, fun b hb z => ?_, b3, fun z i hz hi => ?_⟩
    · rw [gI 2 _ (Or.inl (by omega)), b1 b hb]; simp [z_up]
    · exact b2 b hb (by simpa [z_up] using z)
    · obtain ⟨g1, g2⟩ := b4 z i hz hi
      have hb := a2.2.2.1 z (i / 4) hz (by unfold q_nb; omega)
      exact ⟨(gA _ _ (Or.inl (n12 _ hb).1)).trans g1, fun w j hj => (gA _ _ (Or.inl (n12 _ hb).2)).trans (g2 w j hj)⟩
  · have e : ∀ f, f ≠ 25 → f ≠ 26 → z_up (z_up M 26 (8 * l + t) x) 25 l (nI t') f = M f := fun f h1 h2 => by rw [z_up_f _ _ _ h1, z_up_f _ _ _ h2]
    have e25 : z_up (z_up M 26 (8 * l + t) x) 25 l (nI t') 25 l = nI t' := by simp [z_up]
    have eqs : q_s (z_up (z_up M 26 (8 * l + t) x) 25 l (nI t')) l = q_s M l := by unfold q_s; rw [e 28 (by omega) (by omega), e 29 (by omega) (by omega)]
    unfold q_wl q_wG
    rw [eqs, e25, e 20 (by omega) (by omega), e 21 (by omega) (by omega), e 22 (by omega) (by omega), e 23 (by omega) (by omega), e 24 (by omega) (by omega), e 27 (by omega) (by omega), e 28 (by omega) (by omega), e 29 (by omega) (by omega)]
    refine ⟨(gI 8 _ (Or.inl (by omega))).trans b0, fun _ => ⟨(gI 9 _ (Or.inl (by omega))).trans c1, (gI 10 _ (Or.inl (by omega))).trans c2, (gI 11 _ (Or.inl (by omega))).trans c3, c4, ⟨?_, by rw [q_c (by omega)]; omega⟩, fun j hj => ?_, fun z => absurd h24 z, fun z => ?_⟩⟩
    · simp [z_gI, z_pI, z_sI, z_up]
    · rw [q_c (by omega)] at hj
      by_cases w : j = t
      · subst w
        have e1 : z_up (z_up M 26 (8 * l + j) x) 25 l (nI t') 26 (8 * l + j) = x := by simp [z_up]
        rw [e1]
        exact ⟨by simp [z_aI, z_pI, z_sI, z_up], hx⟩
      · have e1 : z_up (z_up M 26 (8 * l + t) x) 25 l (nI t') 26 (8 * l + j) = M 26 (8 * l + j) := by
          simp [z_up, w]
        rw [e1, gA _ _ (Or.inr w)]
        exact c6 j (by rw [ht, q_c (by omega)]; omega)
    · obtain ⟨g1, g2, g3⟩ := c8 z
      refine ⟨(gI 14 _ (Or.inl (by omega))).trans g1, (gI 15 _ (Or.inl (by omega))).trans g2, fun r' hr' er => ?_⟩
      obtain ⟨k1, q, k2, k3, k4⟩ := g3 r' hr' er
      exact ⟨k1, q, k2, (gI 13 _ (Or.inl (by omega))).trans k3, k4⟩
  · obtain ⟨d1, d2, d3, d4, d5⟩ := a11 r hr hlv
    exact ⟨d1, d2, (gI 24 _ (Or.inl (by omega))).trans d3, (gI 23 _ (Or.inl (by omega))).trans d4, (gI 25 _ (Or.inl (by omega))).trans d5⟩
theorem q_busyLine {post : Option Nat → z_St → Prop} {x : Int32} (h : q_W t0 N M S C E nb nm md K u) (h1 : ∀ l, l < 3 → x = nI l → ¬ M 20 l = 0 → post (some (K 11 l)) u) (h2 : ∀ l, l < 3 → x = nI l → M 20 l = 0 → px "java/lang/IllegalStateException" u) (h3 : ¬ q_ib 3 x → px "java/lang/IllegalArgumentException" u) : w_X6_busyLine post px ti mi (K 0 0) u x := by
  obtain ⟨a1, a2, a3, a4, a5, a6, a7, a8, a9, a10, a11, a12⟩ := h
  obtain ⟨-, -, -, -, -, -, -, -, p30, p10, -⟩ := a6
  refine q_require3 (fun hl => ?_) h3
  obtain ⟨l, hl, rfl⟩ := hl
  have hv : vp_in (nI l) (z_ln (K 10 0) u) := by rw [a5.l 10 0 (by omega) (by decide) (by decide)]; exact vp_in_nI (n := l) (N := 3) hl (by omega)
  refine ⟨_, p30, a5.k 10 0 (by omega) (by decide), hv, ?_⟩
  rw [q_c (n := l) (by omega), (p10 l hl).1]
  refine ⟨_, rfl, a5.k 11 l (by omega) (show l < 3 from hl), ?_⟩
  rw [(a10 l hl).1]
  exact ⟨fun z => ⟨hv, h1 l hl rfl z⟩, fun z => h2 l hl rfl z⟩
theorem q_nar {x : Int32} (h : x = 0 ∨ x = 1) : narrow .boolean (.int x) = .int x := by rcases h with rfl | rfl <;> rfl
theorem q_op_sample {l0 x : Int32} (hN : N + 1 ≤ 64) (h : q_W t0 N M S C E nb nm md K u) : w_X6_sample (q_ok1 t0 (N + 1) (K 0 0) (fun post => w_X7_sample post M l0 x)) (q_okx t0 (N + 1) (K 0 0) (fun post => w_X7_sample post M l0 x) [("java/lang/IllegalArgumentException", 1), ("java/lang/IllegalStateException", 2)]) ti mi (K 0 0) u l0 x := by
  have h' := h
  refine q_busyLine h (fun l hl e hbz => ?_) (fun l hl e hbz => ?_) (fun hno => ?_)
  · subst e
    have hlb : q_ib 3 (nI l) := ⟨l, hl, rfl⟩
    have hv : vp_in (nI l) 3 := vp_in_nI hl (by omega)
    have hc : (nI l).toNatClampNeg = l := q_c (by omega)
    have hW0 := h'.up0 0
    obtain ⟨a1, a2, a3, a4, a5, a6, a7, a8, a9, a10, a11, a12⟩ := h
    obtain ⟨-, ⟨k, hk, ek⟩, ⟨r, hr, hlr⟩, ⟨t, ht, et⟩, h24⟩ := (a3.2.2.2.2.2.2.1 l hl).2 hbz
    obtain ⟨b0, bb⟩ := a10 l hl
    obtain ⟨c1, c2, c3, c4, c5, c6, c7, c8⟩ := bb hbz
    have ht8 : t < 8 := by have := c5.2; rw [et, q_c (by omega)] at this; exact this
    -- the reference's way in
    have ref : ∀ post : Int32 → z_Md → Prop, (¬ M 24 l = 0 → post 1 (z_up M 0 0 0)) → (M 24 l = 0 → ¬ t + 1 = 8 → post 0 (z_up (z_up (z_up M 0 0 0) 26 (8 * l + t) (q_cl x)) 25 l (nI (t + 1)))) →
        (M 24 l = 0 → t + 1 = 8 → w_X7_frame (fun M8 => w_X7_sample_118 post M8 (nI l)) (z_up (z_up (z_up M 0 0 0) 26 (8 * l + t) (q_cl x)) 25 l (nI (t + 1))) (nI l)) → w_X7_sample post M (nI l) x := fun post g1 g2 g3 => by
      refine q_isLineM (fun _ => ⟨fun _ => hv, ?_⟩) (fun z => absurd hlb z)
      intro y3 e3
      have hy : y3 = 0 := by rw [e3, if_neg (by decide), hc, if_neg hbz]
      rw [hy, q_up0, hc]
      refine ⟨fun _ => ⟨hv, fun z => ?_, fun z => g1 z⟩, fun z => absurd q_le0 z⟩
      have z' : M 24 l = 0 := z
      refine ⟨hv, ?_⟩
      intro y6 e6
      have hy6 : y6 = q_cl x := e6
      have e25 : z_up M 0 0 0 25 l = nI t := et
      rw [hy6, e25, q_mul8, nI_add, q_c (n := 8 * l + t) (by omega)]
      have e25' : z_up (z_up M 0 0 0) 26 (8 * l + t) (q_cl x) 25 l = nI t := et
      rw [e25', nI_1]
      refine ⟨vp_in_nI (by omega) (by omega), hv, hv, hv, ?_⟩
      rw [z_up_s]
      refine ⟨fun w => ⟨hv, ?_⟩, fun w => ?_⟩
      · have hne : ¬ t + 1 = 8 := fun q => w (by rw [q]; rfl)
        rw [hc]
        have e24 : z_up (z_up (z_up M 0 0 0) 26 (8 * l + t) (q_cl x)) 25 l (nI (t + 1)) 24 l = 0 := z'
        rw [e24]
        exact ⟨q_b0, g2 z' hne⟩
      · exact g3 z' ((nI_eq (a := t + 1) (b := 8) (by omega) (by omega)).mp w)
    refine ⟨_, rfl, a5.k 11 l (by omega) (show l < 3 from hl), ?_⟩
    rw [c1]
    refine ⟨fun z => ⟨q_nar h24, ?_⟩, fun z => q_btw (by decide) ?_⟩
    · dsimp only [q_ok1]
      have h1 : M 24 l = 1 := by rcases h24 with w | w; exact absurd w z; exact w
      exact ref _ (fun _ => ⟨rfl, h1.symm, hW0.ww⟩) (fun w => absurd w z) (fun w => absurd w z)
    · have hcl : (if (-32768) ≤ x then (if x ≤ 32767 then x else 32767) else (-32768)) = q_cl x := rfl
      rw [hcl]
      have hrng := q_cl_rng x
      have e7 : z_gI 7 (K 11 l) u = nI t := c5.1.trans et
      have hk12 : z_kd (K 12 l) u = 10 := a5.k 12 l (by omega) (show l < 3 from hl)
      have hln12 : z_ln (K 12 l) u = 8 := a5.l 12 l (by omega) (show l < 3 from hl) (by decide)
      unfold w_X2_addToFrame
      rw [e7]
      refine ⟨fun w => absurd w (nI_ge (a := t) (b := 8) ht8 (by omega)), fun _ => ⟨_, (a6.2.2.2.2.2.2.2.2.2.1 l hl).2, hk12, by rw [hln12]; exact vp_in_nI ht8 (by omega), ?_⟩⟩
      rw [q_c (n := t) (by omega), nI_1]
      have e7' : z_gI 7 (K 11 l) (z_pI 7 (K 11 l) (nI (t + 1)) (z_sI (K 12 l) t (q_cl x) u)) = nI (t + 1) := by simp [z_gI, z_pI, z_up]
      have e9' : z_gI 9 (K 11 l) (z_pI 7 (K 11 l) (nI (t + 1)) (z_sI (K 12 l) t (q_cl x) u)) = 0 := by
        have := c1.trans z
        simpa [z_gI, z_pI, z_sI, z_up] using this
      dsimp only
      rw [e7', e9']
      have b24 : z_up M 0 0 0 24 l = 0 := z
      refine ⟨fun w => ⟨q_b0, ?_⟩, fun w => ?_⟩
      · have hlt : t + 1 < 8 := (nI_ltI (a := t + 1) (b := 8) (by omega) (by omega)).mp w
        dsimp only [q_ok1]
        refine ref _ (fun q => absurd z q) (fun _ _ => ⟨rfl, rfl, ?_⟩) (fun _ q => by omega)
        exact (q_samp_W (t' := t + 1) hW0 hl hbz hr hlr b24 et ht8 hrng (Or.inl ⟨rfl, hlt⟩)).ww
      · have h8 : t + 1 = 8 := by
          apply Decidable.byContradiction
          intro q
          exact w (nI_lt (a := t + 1) (b := 8) (by omega) (by omega))
        have hW := q_samp_W (t' := 0) hW0 hl hbz hr hlr b24 et ht8 hrng (Or.inr rfl)
        have hW2 : q_W t0 N (z_up (z_up (z_up (z_up M 0 0 0) 26 (8 * l + t) (q_cl x)) 25 l (nI (t + 1))) 25 l 0) S C E nb nm md K (z_pI 7 (K 11 l) 0 (z_pI 7 (K 11 l) (nI (t + 1)) (z_sI (K 12 l) t (q_cl x) u))) := by
          rw [z_up_up, z_pI_pI]; exact hW
        -- one goal: the frame's two sides
        refine q_frame_op (Q := _) (P := fun M' u5 => w_X7_sample_118 (fun r' M' => M' 0 0 = 0 ∧ r' = z_gI 9 (K 11 l) u5 ∧ q_WW t0 (N + 1) (K 0 0) M' u5) M' (nI l)) (fun u5 h5 g5 => ?_) hW2 hN hl hbz hr hlr b24 ⟨t + 1, by omega, by simp [z_up]⟩ (fun j hj => ?_) (fun M' u' S' C' E' hW' e0 e20 e21 e22 e23 => ?_)
        · exact ⟨q_nar h5, ref _ (fun w => absurd z w) (fun _ w => absurd h8 w) (fun _ _ => g5)⟩
        · by_cases q : j = t
          · subst q
            refine ⟨?_, ?_⟩
            · simp [z_aI, z_pI, z_sI, z_up]
            · have e1 : z_up (z_up (z_up M 0 0 0) 26 (8 * l + j) (q_cl x)) 25 l (nI (j + 1)) 26 (8 * l + j) = q_cl x := by simp [z_up]
              rw [e1]; exact hrng
          · have hjt : j < t := by omega
            obtain ⟨f1, f2⟩ := c6 j (by rw [et, q_c (by omega)]; exact hjt)
            have e1 : z_up (z_up (z_up M 0 0 0) 26 (8 * l + t) (q_cl x)) 25 l (nI (t + 1)) 26 (8 * l + j) = M 26 (8 * l + j) := by
              have : ¬ 8 * l + j = 8 * l + t := by omega
              simp [z_up, q]
            rw [e1]
            refine ⟨?_, f2⟩
            rw [← f1]
            simp [z_aI, z_pI, z_sI, z_up, q]
        · have hW'' := hW'
          obtain ⟨-, -, q3, -, -, -, -, -, -, q10, -⟩ := hW'
          have hb' : ¬ M' 20 l = 0 := by rw [e20]; exact hbz
          have e9 := ((q10 l hl).2 hb').1
          have h24' := ((q3.2.2.2.2.2.2.1 l hl).2 hb').2.2.2.2
          refine ⟨hv, ?_⟩
          rw [hc]
          refine ⟨q_nar h24', ?_, e9.symm, S', C', E', nb, nm, md, K, rfl, hW''⟩
          rw [e0]; rfl
  · subst e
    have hlb : q_ib 3 (nI l) := ⟨l, hl, rfl⟩
    refine ⟨2, by simp, ?_⟩
    refine q_isLineM (fun _ => ⟨fun _ => vp_in_nI hl (by omega), ?_⟩) (fun z => absurd hlb z)
    intro y3 e3
    have hy : y3 = 2 := by rw [e3, if_neg (by decide), q_c (by omega), if_pos hbz]
    rw [hy, q_up0]
    exact ⟨fun q => absurd q q_n2, fun _ => ⟨q_up0 _ _, (h'.up0 2).ww⟩⟩
  · refine ⟨1, by simp, ?_⟩
    refine q_isLineM (fun z => absurd z hno) (fun _ => ⟨fun z => absurd rfl z, ?_⟩)
    intro y3 e3
    have hy : y3 = 1 := by rw [e3, if_pos rfl]
    rw [hy, q_up0]
    exact ⟨fun q => absurd q q_n1, fun _ => ⟨q_up0 _ _, (h'.up0 1).ww⟩⟩
end OM
