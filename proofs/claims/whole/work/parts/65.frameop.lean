/-! a frame, both sides -/
section OL
variable {t0 ti mi nb nm md N : Nat} {M : z_Md} {S : Nat → Nat} {C : Nat → Nat → Nat} {E : Nat → Nat → Int32 × Int32} {K : Nat → Nat → Nat} {u : z_St} {px : String → z_St → Prop}
theorem q_frame_op {l r : Nat} {P : z_Md → z_St → Prop} {Q : z_St → Prop} (hQ : ∀ u', (z_gI 9 (K 11 l) u' = 0 ∨ z_gI 9 (K 11 l) u' = 1) → w_X7_frame (fun M' => P M' u') M (nI l) → Q u') (h : q_W t0 N (z_up M 25 l 0) S C E nb nm md K (z_pI 7 (K 11 l) 0 u)) (hN : N + 1 ≤ 64) (hl : l < 3) (hbz : ¬ M 20 l = 0) (hr : r < 48) (hlr : M 23 l = nI r) (h24 : M 24 l = 0) (h25 : ∃ t, t < 9 ∧ M 25 l = nI t)
    (hx : ∀ j, j < 8 → z_aI (K 12 l) j u = M 26 (8 * l + j) ∧ -32768 ≤ (M 26 (8 * l + j)).toInt ∧ (M 26 (8 * l + j)).toInt ≤ 32767)
    (kk : ∀ M' u' S' C' E', q_W t0 (N + 1) M' S' C' E' nb nm md K u' → M' 0 = M 0 → M' 20 = M 20 → M' 21 = M 21 → M' 22 = M 22 → M' 23 = M 23 → P M' u') :
    w_X6_takeFrame Q ti mi (K 0 0) u (some (K 11 l)) := by
  have h' := h
  obtain ⟨a1, a2, a3, a4, a5, a6, a7, a8, a9, a10, a11, a12⟩ := h
  have hk11 : z_kd (K 11 l) u = 4 := a5.k 11 l (by omega) (show l < 3 from hl)
  have hk12 : z_kd (K 12 l) u = 10 := a5.k 12 l (by omega) (show l < 3 from hl)
  have hln12 : z_ln (K 12 l) u = 8 := a5.l 12 l (by omega) (show l < 3 from hl) (by decide)
  have h6 : z_gR 6 (K 11 l) u = some (K 12 l) := (a6.2.2.2.2.2.2.2.2.2.1 l hl).2
  have hlv : q_lv (z_up M 25 l 0) r := Or.inr (a4.l23 hl hr hbz hlr)
  have hSN := (a2.1 r hr).2
  obtain ⟨c1, c2, c3, c4, c5, c6, c7, c8⟩ := (a10 l hl).2 hbz
  obtain ⟨w14, w15, wg⟩ := c8 h24
  obtain ⟨hst, q, hqN, e13, e27, hq2, hq3⟩ := wg r hr hlr
  have e13' : z_gI 13 (K 11 l) u = nI q := by
    have := e13
    simpa [z_gI, z_pI, z_up] using this
  have e27' : M 27 l = nI (min q 3) := e27
  have hstp : q_stp M := a1
  have hP0 : q_P (N + 1) M S C E := (a2.fr rfl rfl rfl rfl rfl rfl).mo (by omega)
  have hst' : q_s M l = q_st (E r) (S r) := hst
  have hQ0 : q_Q (N + 1) M nb nm md := by
    have := a3.mo (N' := N + 1) (by omega)
    refine ⟨this.1, this.2.1, this.2.2.1, this.2.2.2.1, this.2.2.2.2.1, this.2.2.2.2.2.1, fun x hxl => ?_, this.2.2.2.2.2.2.2⟩
    obtain ⟨b1, b2⟩ := this.2.2.2.2.2.2.1 x hxl
    refine ⟨b1, fun z => ?_⟩
    obtain ⟨g1, g2, g3, g4, g5⟩ := b2 z
    refine ⟨g1, g2, g3, ?_, g5⟩
    by_cases w : x = l
    · rw [w]; exact h25
    · have e : z_up M 25 l 0 25 x = M 25 x := z_up_a M 25 0 25 w
      rw [e] at g4
      exact g4
  have hg : q_gd (q_s M l) := by rw [hst']; exact q_gd_st _ _
  have hfr : q_fr (z_up M 25 l 0) = q_fr M := rfl
  -- the line has ended
  have fend : ∀ y : Int32, P (z_up (z_up (z_up M 24 l 1) 27 l y) 25 l 0) (z_pI 9 (K 11 l) 1 (z_pI 7 (K 11 l) 0 u)) := fun y =>
    kk _ _ S C E (q_end_W h' hl hbz hr hlr) (funext fun x => by simp [z_up]) (funext fun x => by simp [z_up]) (funext fun x => by simp [z_up]) (funext fun x => by simp [z_up]) (funext fun x => by simp [z_up])
  have e80 : ∀ (post : z_Md → Prop) (s : Bool) (M1 : z_Md), M1 27 = M 27 → post (z_up (z_up M1 27 l (if s = true then nI (min (q + 1) 3) else 0)) 25 l 0) → w_X7_frame_80 post M1 (nI l) (if s = true then 1 else 0) := fun post s M1 e g => q_frame80 hl (by rw [e]; exact e27') g
  have hk11' : z_kd (K 11 l) (z_pI 7 (K 11 l) 0 u) = 4 := hk11
  have e12 : z_gR 12 (K 11 l) (z_pI 7 (K 11 l) 0 u) = some (K 16 r) := by rw [c4]; show q_rf K (M 23 l) = _; rw [hlr, q_rf_s K hr]
  have hx' : ∀ j, j < 8 → z_aI (K 12 l) j (z_pI 7 (K 11 l) 0 u) = q_x M l j ∧ -32768 ≤ (q_x M l j).toInt ∧ (q_x M l j).toInt ≤ 32767 := hx
  -- from the fit on
  have code : ∀ s : Bool, s = q_qt (q_x M l) 8 → ¬ (s = true ∧ 2 ≤ q) → w_X6_takeFrame_39 Q ti mi (K 0 0) u (some (K 11 l)) (if s = true then 1 else 0) 0 1 := fun s hs hng => by
    have ref : ∀ u', ((S r % 4 = 0 ∧ q_first (q_fr M) 40 = -1) ∨ q_paid M S E nm l 1 = 0 → P (z_up (z_up (z_up M 24 l 1) 27 l (if s = true then nI (min (q + 1) 3) else 0)) 25 l 0) u') →
        (¬ q_paid M S E nm l 1 = 0 → ∀ (M1 : z_Md) (b : Nat), b < 40 → (S r % 4 = 0 → q_first (q_fr M) 40 = nI b ∧ M 2 b = 0) → (S r % 4 ≠ 0 → b = C r (S r / 4)) → (∀ f, f ≠ 2 → f ≠ 3 → f ≠ 4 → f ≠ 5 → f ≠ 8 → f ≠ 9 → f ≠ 28 → f ≠ 29 → f ≠ 30 → f ≠ 31 → M1 f = M f) → (∀ x, M1 2 x = if x = b then nI (S r % 4 + 1) else M 2 x) →
          M1 28 = q_u (M 28) l (q_run (q_s M l) (q_x M l) 8).1 → M1 29 = q_u (M 29) l (q_run (q_s M l) (q_x M l) 8).2 → q_P (N + 1) M1 (q_u S r (S r + 1)) (z_up C r (S r / 4) b) (z_up E r (S r) (0, q_bt (q_s M l) (q_x M l) 8)) → P (z_up (z_up M1 27 l (if s = true then nI (min (q + 1) 3) else 0)) 25 l 0) u') → w_X7_frame (fun M' => P M' u') M (nI l) := fun u' g1 g2 => by
      refine q_frameM hl e27' (fun _ => ?_) (fun w1 w2 => absurd ⟨hs.trans w1, w2⟩ hng)
      rw [← hs]
      refine q_codeFrameM hstp hP0 hN hQ0 hl hbz hr hlr (by omega) hg (fun w => e80 _ s _ (z_up_f M l 1 (by omega)) (g1 w)) (fun hp M1 b hb b0 b1 hf m2 m28 m29 hP1 => e80 _ s M1 (hf 27 (by omega) (by omega) (by omega) (by omega) (by omega) (by omega) (by omega) (by omega) (by omega) (by omega)) (g2 hp M1 b hb b0 b1 hf m2 m28 m29 hP1))
    refine ⟨_, rfl, hk11, q_fits (g := 0) (price := 1) (by omega) h' hl hbz hr hlr (fun w => ⟨fun z => absurd rfl z, fun _ => ?_⟩) (fun w1 w2 => ⟨fun _ => ⟨fun _ => ?_, fun z => absurd rfl z⟩, fun z => absurd z (by decide)⟩)⟩
    · rw [q_paid_25] at w
      refine hQ _ (Or.inr (by simp [z_gI, z_pI, z_up])) (ref _ (fun _ => fend _) (fun hp M1 b hb b0 b1 hf m2 m28 m29 hP1 => ?_))
      rcases w with ⟨-, w1, w2⟩ | w
      · rw [hfr] at w2
        have := (b0 w1).1
        rw [w2] at this
        have hp2 := nI_pos (n := b) (by omega)
        rw [← this] at hp2
        exact absurd q_m1 hp2
      · exact absurd w hp
    · rw [q_paid_25] at w2
      have hfree : S r % 4 = 0 → ∃ b, b < 40 ∧ q_first (q_fr M) 40 = nI b ∧ M 2 b = 0 := fun hm => by
        rcases q_first_spec (q_fr M) 40 with ⟨e, -⟩ | ⟨b, hb, eb, pb, -⟩
        · exact absurd ⟨rfl, hm, e⟩ w1
        · exact ⟨b, hb, eb, of_decide_eq_true pb⟩
      have hb : ∃ b, b < 40 ∧ (S r % 4 = 0 → q_first (q_fr M) 40 = nI b ∧ M 2 b = 0) ∧ (S r % 4 ≠ 0 → b = C r (S r / 4)) := by
        by_cases hm : S r % 4 = 0
        · obtain ⟨b, hb, e1, e2⟩ := hfree hm
          exact ⟨b, hb, fun _ => ⟨e1, e2⟩, fun q => absurd hm q⟩
        · exact ⟨C r (S r / 4), a2.2.2.1 r _ hr (by unfold q_nb; omega), fun q => absurd q hm, fun _ => rfl⟩
      obtain ⟨b, hb, b0, b1⟩ := hb
      have hgu : q_gd (z_gI 14 (K 11 l) (z_pI 7 (K 11 l) 0 u), z_gI 15 (K 11 l) (z_pI 7 (K 11 l) 0 u)) := by rw [w14, w15]; exact hg
      refine q_codeFrame (x := q_x M l) h' (by omega) hl hr hbz hlr hb hgu hx' b0 b1 (fun v hD => ?_)
      have hD' := hD
      obtain ⟨d1, d2, d3, d4, d5, d6, d7, d8, -⟩ := hD
      refine ⟨_, rfl, (d1 _).trans hk11, ?_⟩
      intro y1 e1
      have e13v : z_gI 13 (K 11 l) v = nI q := (d3 13 _ (by omega) (Or.inl (by omega))).trans e13
      rw [e13v, nI_1] at e1
      have hy : y1 = nI (if s = true then q + 1 else 0) := by
        rw [e1]
        cases s <;> rfl
      refine ⟨_, (d8 12 _ (by omega) (Or.inl (by omega))).trans e12, (d1 _).trans (a5.r hr hlv), ?_⟩
      refine hQ _ (Or.inl (by simp [z_gI, z_pI, z_up]; exact (d3 9 _ (by omega) (Or.inl (by omega))).trans (c1.trans h24))) (ref _ (fun w => ?_) (fun hp M1 b' hb' b0' b1' hf m2 m28 m29 hP1 => ?_))
      · rcases w with ⟨w3, w4⟩ | w
        · exact absurd ⟨rfl, w3, w4⟩ w1
        · exact absurd w w2
      · have hbb : b' = b := by
          by_cases hm : S r % 4 = 0
          · have e3 := (b0' hm).1
            rw [(b0 hm).1] at e3
            exact ((nI_eq (by omega) (by omega)).mp e3).symm
          · rw [b1' hm, b1 hm]
        subst hbb
        have hqs : (if s = true then nI (min (q + 1) 3) else 0) = nI (min (if s = true then q + 1 else 0) 3) := by cases s <;> rfl
        rw [hqs]
        have hlt : s = true → q < 2 := fun w => by
          apply Decidable.byContradiction
          intro z
          exact hng ⟨w, by omega⟩
        have hq' : (if s = true then q + 1 else 0) ≤ q + 1 := by split <;> omega
        have hq'' : (if s = true then q + 1 else 0) ≤ 2 := by
          split
          · rename_i w; have := hlt w; omega
          · omega
        have hW := q_code_W (q' := if s = true then q + 1 else 0) (y := y1) (x := q_x M l) h' hN hl hbz hr hlr h24 rfl hb (fun hm => (b0 hm).2) b1 w14 w15 hst' hf m2 m28 m29 hP1 hD' hy (by omega) hq'' (by
          split
          · rename_i w
            have := (hq2 (by have := hlt w; omega)).1
            omega
          · omega) (fun j hj => by
          by_cases w : s = true
          · rw [if_pos w] at hj
            exact (hq2 (by have := hlt w; omega)).2 j (by omega)
          · rw [if_neg w] at hj
            omega)
        have hfx : ∀ f, f = 0 ∨ f = 20 ∨ f = 21 ∨ f = 22 ∨ f = 23 → z_up (z_up M1 27 l (nI (min (if s = true then q + 1 else 0) 3))) 25 l 0 f = M f := fun f hfs => by
          rw [z_up_f _ _ _ (by omega), z_up_f _ _ _ (by omega)]
          exact hf f (by omega) (by omega) (by omega) (by omega) (by omega) (by omega) (by omega) (by omega) (by omega) (by omega)
        exact kk _ _ _ _ _ hW (hfx 0 (by omega)) (hfx 20 (by omega)) (hfx 21 (by omega)) (hfx 22 (by omega)) (hfx 23 (by omega))
  have gap : q_qt (q_x M l) 8 = true → 2 ≤ q → w_X6_takeFrame_39 Q ti mi (K 0 0) u (some (K 11 l)) 1 1 (if q = 2 then -1 else q_more q) := fun ht h2q => by
    have ref : ∀ u', (q_paid M S E nm l (if q = 2 then -1 else q_more q) = 0 → P (z_up (z_up (z_up M 24 l 1) 27 l (nI (min (q + 1) 3))) 25 l 0) u') →
        (q = 2 → ¬ q_paid M S E nm l (-1) = 0 → ∀ M1 : z_Md, (∀ f, f ≠ 2 → f ≠ 3 → f ≠ 4 → f ≠ 9 → f ≠ 28 → f ≠ 29 → M1 f = M f) → (∀ x, M1 2 x = if x = C r ((S r - 1) / 4) then nI ((S r - 1) % 4) else M 2 x) → M1 28 = q_u (M 28) l 0 → M1 29 = q_u (M 29) l 0 → q_P (N + 1) M1 (q_u S r (S r - 1)) C (z_up E r (S r - 2) (3, (E r (S r - 2)).2)) → P (z_up (z_up M1 27 l (nI (min (q + 1) 3))) 25 l 0) u') →
        (3 ≤ q → ¬ q_paid M S E nm l (q_more q) = 0 → ∀ M1 : z_Md, (∀ f, f ≠ 4 → f ≠ 28 → f ≠ 29 → M1 f = M f) → M1 28 = q_u (M 28) l 0 → M1 29 = q_u (M 29) l 0 → q_P (N + 1) M1 S C (z_up E r (S r - 1) (nI (q + 1), (E r (S r - 1)).2)) → P (z_up (z_up M1 27 l (nI (min (q + 1) 3))) 25 l 0) u') → w_X7_frame (fun M' => P M' u') M (nI l) := fun u' g1 g2 g3 => by
      refine q_frameM hl e27' (fun w => absurd ⟨ht, h2q⟩ w) (fun _ _ => ?_)
      refine q_growGapM hP0 hN hQ0 hl hbz hr hlr e27' h2q (by omega) (fun w => by have := (hq2 (by omega)).1; omega) hq3 (fun w => e80 _ true _ (z_up_f M l 1 (by omega)) (g1 w)) (fun w hp M1 hf m2 m28 m29 hP1 => e80 _ true M1 (hf 27 (by omega) (by omega) (by omega) (by omega) (by omega) (by omega)) (g2 w hp M1 hf m2 m28 m29 hP1)) (fun w hp M1 hf m28 m29 hP1 => e80 _ true M1 (hf 27 (by omega) (by omega) (by omega)) (g3 w hp M1 hf m28 m29 hP1))
    refine ⟨_, rfl, hk11, q_fits (g := 1) (price := if q = 2 then -1 else q_more q) (by omega) h' hl hbz hr hlr (fun w => ⟨fun z => absurd rfl z, fun _ => ?_⟩) (fun w1 w2 => ⟨fun _ => ⟨fun z => absurd z (by decide), fun _ => ?_⟩, fun z => absurd z (by decide)⟩)⟩
    · rw [q_paid_25] at w
      have w' : q_paid M S E nm l (if q = 2 then -1 else q_more q) = 0 := by
        rcases w with ⟨z, -⟩ | w
        · exact absurd z (by decide)
        · exact w
      refine hQ _ (Or.inr (by simp [z_gI, z_pI, z_up])) (ref _ (fun _ => fend _) (fun e hp => ?_) (fun e hp => ?_))
      · rw [if_pos e] at w'; exact absurd w' hp
      · rw [if_neg (by omega)] at w'; exact absurd w' hp
    · rw [q_paid_25] at w2
      by_cases hqq : q = 2
      · have hS2 := (hq2 (by omega)).1
        have hz2 := (hq2 (by omega)).2
        rw [if_pos hqq]
        refine q_gap2 h' (by omega) hl hr hbz hlr (by omega) (by rw [e13, hqq]; rfl) (fun v hD => ?_)
        have hD' := hD
        obtain ⟨d1, d2, d3, d4, d5, d6, d7, d8, -⟩ := hD
        refine ⟨_, rfl, (d1 _).trans hk11, ?_⟩
        intro y1 e1
        have e13v : z_gI 13 (K 11 l) v = nI q := (d3 13 _ (by omega) (Or.inl (by omega))).trans e13
        have hy : y1 = 3 := by rw [e1, if_neg (by decide), e13v, hqq]; rfl
        refine ⟨_, (d8 12 _ (by omega) (Or.inl (by omega))).trans e12, (d1 _).trans (a5.r hr hlv), ?_⟩
        refine hQ _ (Or.inl (by simp [z_gI, z_pI, z_up]; exact (d3 9 _ (by omega) (Or.inl (by omega))).trans (c1.trans h24))) (ref _ (fun w => absurd w w2) (fun _ hp M1 hf m2 m28 m29 hP1 => ?_) (fun w => by omega))
        have hW := q_gap2_W (y := y1) h' hN hl hbz hr hlr h24 (by omega) (fun j hj => hz2 j (by omega)) (by omega) hf m2 m28 m29 hP1 hD' hy
        have hfx : ∀ f, f = 0 ∨ f = 20 ∨ f = 21 ∨ f = 22 ∨ f = 23 → z_up (z_up M1 27 l (nI (min 3 3))) 25 l 0 f = M f := fun f hfs => by
          rw [z_up_f _ _ _ (by omega), z_up_f _ _ _ (by omega)]
          exact hf f (by omega) (by omega) (by omega) (by omega) (by omega) (by omega)
        have e3 : q + 1 = 3 := by omega
        rw [e3]
        exact kk _ _ _ _ _ hW (hfx 0 (by omega)) (hfx 20 (by omega)) (hfx 21 (by omega)) (hfx 22 (by omega)) (hfx 23 (by omega))
      · obtain ⟨hS1, hE1⟩ := hq3 (by omega)
        rw [if_neg hqq] at w2 ⊢
        refine q_gap3 (g := q) h' (by omega) hl hr hbz hlr hS1 hE1 (by
          rw [e13]
          intro z
          exact hqq ((nI_eq (a := q) (b := 2) (by omega) (by omega)).mp z)) (fun v hD => ?_)
        have hD' := hD
        obtain ⟨d1, d2, d3, d6, d7, d8, -⟩ := hD
        refine ⟨_, rfl, (d1 _).trans hk11, ?_⟩
        intro y1 e1
        have e13v : z_gI 13 (K 11 l) v = nI q := (d3 13 _ (Or.inl (by omega))).trans e13
        have hy : y1 = nI (q + 1) := by rw [e1, if_neg (by decide), e13v, nI_1]
        refine ⟨_, (d8 12 _).trans e12, (d1 _).trans (a5.r hr hlv), ?_⟩
        refine hQ _ (Or.inl (by simp [z_gI, z_pI, z_up]; exact (d3 9 _ (Or.inl (by omega))).trans (c1.trans h24))) (ref _ (fun w => ?_) (fun w => absurd w hqq) (fun _ hp M1 hf m28 m29 hP1 => ?_))
        · rw [if_neg hqq] at w; exact absurd w w2
        have hW := q_gap3_W (y := y1) h' hN hl hbz hr hlr h24 hS1 (by omega) hqN hE1 hf m28 m29 hP1 hD' hy
        have hfx : ∀ f, f = 0 ∨ f = 20 ∨ f = 21 ∨ f = 22 ∨ f = 23 → z_up (z_up M1 27 l (nI (min (q + 1) 3))) 25 l 0 f = M f := fun f hfs => by
          rw [z_up_f _ _ _ (by omega), z_up_f _ _ _ (by omega)]
          exact hf f (by omega) (by omega) (by omega)
        exact kk _ _ _ _ _ hW (hfx 0 (by omega)) (hfx 20 (by omega)) (hfx 21 (by omega)) (hfx 22 (by omega)) (hfx 23 (by omega))
  refine ⟨_, rfl, hk11, q_isFrameQuiet (x := q_x M l) hl h6 hk12 hln12 (fun j hj => (hx j hj).1) ?_⟩
  intro y1 e1
  rw [e13'] at e1
  by_cases hs : q_qt (q_x M l) 8 = true
  · by_cases h2q : 2 ≤ q
    · have hy : y1 = 1 := by
        rw [e1, hs, if_pos rfl, if_neg (by decide), if_neg]
        exact nI_nlt (a := q) (b := 2) h2q (by omega)
      rw [hy]
      refine ⟨fun z => absurd z (by decide), fun _ => ?_⟩
      rw [e13', if_pos hs]
      exact q_gapPrice (by omega) (gap hs h2q)
    · have hy : y1 = 0 := by
        rw [e1, hs, if_pos rfl, if_neg (by decide), if_pos]
        exact nI_lt (a := q) (b := 2) (by omega) (by omega)
      rw [hy]
      exact ⟨fun _ => code _ rfl (fun z => h2q z.2), fun z => absurd rfl z⟩
  · have hy : y1 = 0 := by rw [e1, if_neg hs, if_pos rfl]
    rw [hy]
    exact ⟨fun _ => code _ rfl (fun z => hs z.1), fun z => absurd rfl z⟩
end OL
