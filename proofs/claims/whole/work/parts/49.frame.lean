/-! a frame in the reference -/
theorem q_first_spec (p : Nat → Bool) (n : Nat) : (q_first p n = -1 ∧ ∀ k, k < n → p k = false) ∨ ∃ b, b < n ∧ q_first p n = nI b ∧ p b = true ∧ ∀ k, k < b → p k = false := by
  unfold q_first
  by_cases h : fa_first p n < n
  · rw [if_pos h]
    exact Or.inr ⟨_, h, rfl, fa_first_yes p n h, fun k hk => fa_first_no p n k hk⟩
  · rw [if_neg h]
    exact Or.inl ⟨rfl, fun k hk => fa_first_no p n k (by omega)⟩
def q_x (M : z_Md) (l : Nat) : Nat → Int32 := fun j => M 26 (8 * l + j)
def q_s (M : z_Md) (l : Nat) : Int32 × Int32 := (M 28 l, M 29 l)
theorem q_codeFrame67 {post : z_Md → Prop} {N : Nat} {M : z_Md} {S : Nat → Nat} {C : Nat → Nat → Nat} {E : Nat → Nat → Int32 × Int32} {l r fb : Nat} (hs : q_stp M) (hP : q_P N M S C E) (hN : N ≤ 64) (hl : l < 3) (hr : r < 48) (hS : S r < N) (hg : q_gd (q_s M l)) (hfb : S r % 4 = 0 → fb < 40 ∧ M 2 fb = 0 ∧ q_first (q_fr M) 40 = nI fb)
    (kk : ∀ (M' : z_Md) (b : Nat), b < 40 → (S r % 4 = 0 → b = fb) → (S r % 4 ≠ 0 → b = C r (S r / 4)) → (∀ f, f ≠ 2 → f ≠ 3 → f ≠ 4 → f ≠ 5 → f ≠ 8 → f ≠ 9 → f ≠ 28 → f ≠ 29 → f ≠ 30 → f ≠ 31 → M' f = M f) → (∀ x, M' 2 x = if x = b then nI (S r % 4 + 1) else M 2 x) →
      M' 28 = q_u (M 28) l (q_run (q_s M l) (q_x M l) 8).1 → M' 29 = q_u (M 29) l (q_run (q_s M l) (q_x M l) 8).2 → q_P N M' (q_u S r (S r + 1)) (z_up C r (S r / 4) b) (z_up E r (S r) (0, q_bt (q_s M l) (q_x M l) 8)) → post M') :
    ∀ d j, j + d = 8 → w_X7_codeFrame_67 post (d + 1) (q_gi M (q_run (q_s M l) (q_x M l) j)) (nI l) (nI r) (q_bt (q_s M l) (q_x M l) j) (nI j) := by
  intro d
  induction d with
  | zero =>
    intro j hj
    have : j = 8 := by omega
    subst this
    have hv : vp_in (nI l) 3 := vp_in_nI hl (by omega)
    refine ⟨fun _ => ?_, fun hh => absurd (by decide) hh⟩
    have hfb' : S r % 4 = 0 → fb < 40 ∧ q_gi M (q_run (q_s M l) (q_x M l) 8) 2 fb = 0 ∧ q_first (q_fr (q_gi M (q_run (q_s M l) (q_x M l) 8))) 40 = nI fb := fun hm => by
      have e : q_gi M (q_run (q_s M l) (q_x M l) 8) 2 = M 2 := q_gi_f M _ (by omega) (by omega)
      unfold q_fr
      rw [e]
      exact hfb hm
    refine q_append (q_gi_P hP _) hN hr hS hfb' (fun M' b hb b0 b1 hf h2 hP' => ⟨hv, hv, ?_⟩)
    rw [q_c (n := l) (by omega)]
    have e30 : M' 30 = q_gi M (q_run (q_s M l) (q_x M l) 8) 30 := hf 30 (by omega) (by omega) (by omega) (by omega) (by omega) (by omega)
    have e31 : M' 31 = q_gi M (q_run (q_s M l) (q_x M l) 8) 31 := hf 31 (by omega) (by omega) (by omega) (by omega) (by omega) (by omega)
    have e28 : M' 28 = M 28 := (hf 28 (by omega) (by omega) (by omega) (by omega) (by omega) (by omega)).trans (q_gi_f M _ (by omega) (by omega))
    have e29 : M' 29 = M 29 := (hf 29 (by omega) (by omega) (by omega) (by omega) (by omega) (by omega)).trans (q_gi_f M _ (by omega) (by omega))
    have e30' : M' 30 0 = (q_run (q_s M l) (q_x M l) 8).1 := by rw [e30, q_gi_30]
    have e31' : z_up M' 28 l (M' 30 0) 31 0 = (q_run (q_s M l) (q_x M l) 8).2 := by
      show M' 31 0 = _
      rw [e31, q_gi_31]
    rw [e31', e30']
    refine kk _ b hb b0 b1 (fun f f2 f3 f4 f5 f8 f9 f28 f29 f30 f31 => ?_) (fun x => ?_) ?_ ?_ (hP'.fr ?_ ?_ ?_ ?_ ?_ ?_)
    · funext x
      simp only [z_up, f28, f29, false_and, if_false]
      rw [hf f f2 f3 f4 f5 f8 f9, q_gi_f M _ f30 f31]
    · have e2 : q_gi M (q_run (q_s M l) (q_x M l) 8) 2 = M 2 := q_gi_f M _ (by omega) (by omega)
      rw [← e2]
      exact h2 x
    · funext x
      show (if 28 = 29 ∧ x = l then _ else if 28 = 28 ∧ x = l then _ else M' 28 x) = _
      rw [e28]
      simp [q_u]
    · funext x
      show (if 29 = 29 ∧ x = l then _ else if 29 = 28 ∧ x = l then _ else M' 29 x) = _
      rw [e29]
      simp [q_u]
    · funext x; simp [z_up]
    · funext x; simp [z_up]
    · funext x; simp [z_up]
    · funext x; simp [z_up]
    · funext x; simp [z_up]
    · funext x; simp [z_up]
  | succ d ih =>
    intro j hj
    have e8 : 8 * nI l + nI j = nI (8 * l + j) := by rw [q_mul8, nI_add]
    refine ⟨fun hh => absurd hh (nI_ge (a := j) (b := 8) (by omega) (by omega)), fun _ => ?_⟩
    rw [e8, q_c (n := 8 * l + j) (by omega), q_gi_f M _ (by omega) (by omega)]
    refine ⟨vp_in_nI (by omega) (by omega), ?_⟩
    obtain ⟨-, n, hn, en⟩ := q_gd_run hg (q_x M l) j
    refine q_code_m (n := n) (fun k hk => by rw [q_gi_f M _ (by omega) (by omega)]; exact hs k hk) hn (by rw [q_gi_31]; exact en) ?_
    rw [q_gi_30, q_gi_31]
    intro x3 e3
    have e := q_gi_gi M (q_run (q_s M l) (q_x M l) j) (q_run (q_s M l) (q_x M l) (j + 1))
    have er : q_run (q_s M l) (q_x M l) (j + 1) = (q_hg (q_run (q_s M l) (q_x M l) j).1 (q_run (q_s M l) (q_x M l) j).2 (q_code (q_run (q_s M l) (q_x M l) j).1 (q_run (q_s M l) (q_x M l) j).2 (M 26 (8 * l + j))), q_hi (q_run (q_s M l) (q_x M l) j).2 (q_code (q_run (q_s M l) (q_x M l) j).1 (q_run (q_s M l) (q_x M l) j).2 (M 26 (8 * l + j)))) := rfl
    have e' := e
    rw [er] at e
    dsimp only at e
    rw [e, ← er]
    have eb : x3 = q_bt (q_s M l) (q_x M l) (j + 1) := e3
    rw [eb, nI_1]
    exact ih (j + 1) (by omega)
theorem q_codeFrameM {post : z_Md → Prop} {N : Nat} {M : z_Md} {S : Nat → Nat} {C : Nat → Nat → Nat} {E : Nat → Nat → Int32 × Int32} {nb nm md l r : Nat} (hs : q_stp M) (hP : q_P N M S C E) (hN : N ≤ 64) (hQ : q_Q N M nb nm md) (hl : l < 3) (hbz : ¬ M 20 l = 0) (hr : r < 48) (hlr : M 23 l = nI r) (hS : S r < N) (hg : q_gd (q_s M l))
    (kE : (S r % 4 = 0 ∧ q_first (q_fr M) 40 = -1) ∨ q_paid M S E nm l 1 = 0 → post (z_up M 24 l 1))
    (kk : ¬ q_paid M S E nm l 1 = 0 → ∀ (M' : z_Md) (b : Nat), b < 40 → (S r % 4 = 0 → q_first (q_fr M) 40 = nI b ∧ M 2 b = 0) → (S r % 4 ≠ 0 → b = C r (S r / 4)) → (∀ f, f ≠ 2 → f ≠ 3 → f ≠ 4 → f ≠ 5 → f ≠ 8 → f ≠ 9 → f ≠ 28 → f ≠ 29 → f ≠ 30 → f ≠ 31 → M' f = M f) → (∀ x, M' 2 x = if x = b then nI (S r % 4 + 1) else M 2 x) →
      M' 28 = q_u (M 28) l (q_run (q_s M l) (q_x M l) 8).1 → M' 29 = q_u (M 29) l (q_run (q_s M l) (q_x M l) 8).2 → q_P N M' (q_u S r (S r + 1)) (z_up C r (S r / 4) b) (z_up E r (S r) (0, q_bt (q_s M l) (q_x M l) 8)) → post M') : w_X7_codeFrame post M (nI l) := by
  have hv : vp_in (nI l) 3 := vp_in_nI hl (by omega)
  have hc : (nI l).toNatClampNeg = l := q_c (by omega)
  have hSr := hP.1 r hr
  refine ⟨hv, ?_⟩
  intro x2 e2
  rw [hc, hlr] at e2
  rw [e2]
  refine ⟨vp_in_nI hr (by omega), ?_⟩
  rw [q_c (n := r) (by omega), hSr.1, q_rem4 (by omega)]
  have paid : ∀ fb, (S r % 4 = 0 → fb < 40 ∧ M 2 fb = 0 ∧ q_first (q_fr M) 40 = nI fb) → w_X7_codeFrame_25 post M (nI l) (nI r) := fun fb hfb => by
    refine q_isPaidM hP hN hQ hl hbz ⟨fun hp => ⟨hv, hv, 9, ?_⟩, fun hp => ⟨hv, ?_⟩⟩
    · rw [hc]
      have e0 : z_up (z_up M 30 0 (M 28 l)) 31 0 (z_up M 30 0 (M 28 l) 29 l) = q_gi M (q_run (q_s M l) (q_x M l) 0) := rfl
      rw [e0]
      exact q_codeFrame67 hs hP hN hl hr hS hg hfb (fun M' b hb b0 b1 hf h2 h28 h29 hP' => kk hp M' b hb (fun hm => by
        obtain ⟨f1, f2, f3⟩ := hfb hm
        rw [b0 hm]
        exact ⟨f3, f2⟩) b1 hf h2 h28 h29 hP') 8 0 (by omega)
    · rw [hc]
      exact kE (Or.inr hp)
  refine ⟨fun hm => paid 0 (fun q => absurd (by rw [q]; rfl) hm), fun hm => q_freeBlock ?_⟩
  have hm' : S r % 4 = 0 := by
    apply Decidable.byContradiction
    intro q
    exact nI_ne0 (n := S r % 4) (by omega) (by omega) hm
  rcases q_first_spec (q_fr M) 40 with ⟨a, -⟩ | ⟨b, hb, eb, pb, -⟩
  · refine ⟨fun _ => ⟨hv, ?_⟩, fun hh => ?_⟩
    · rw [hc]; exact kE (Or.inl ⟨hm', a⟩)
    · rw [a] at hh; exact absurd q_m1 hh
  · refine ⟨fun hh => ?_, fun _ => paid b (fun _ => ⟨hb, of_decide_eq_true pb, eb⟩)⟩
    rw [eb] at hh
    exact absurd hh (nI_pos (by omega))
theorem q_gap_P {N : Nat} {M M' : z_Md} {S : Nat → Nat} {C : Nat → Nat → Nat} {E : Nat → Nat → Int32 × Int32} {r i g : Nat} (hP : q_P N M S C E) (hr : r < 48) (hi : i < S r) (hg : g ≤ N) (h4 : ∀ x, M' 4 x = if x = q_at C r i then nI g else M 4 x) (h2 : M' 2 = M 2) (h3 : M' 3 = M 3) (h5 : M' 5 = M 5) (h8 : M' 8 = M 8) (h9 : M' 9 = M 9) : q_P N M' S C (z_up E r i (nI g, (E r i).2)) := by
  obtain ⟨a1, a2, a3, a4, a5, a6, a7, a8, a9⟩ := hP
  unfold q_P
  rw [h2, h3, h5, h8, h9]
  refine ⟨a1, a2, a3, a4, a5, fun x j hx hj => ?_, fun x j hx hj => ?_, a8, a9⟩
  · rw [h4]
    by_cases q : x = r ∧ j = i
    · obtain ⟨rfl, rfl⟩ := q
      rw [if_pos rfl, z_up_s]
      exact ⟨rfl, (a6 x j hx hj).2⟩
    · have hne : q_at C x j ≠ q_at C r i := fun e => by
        unfold q_at at e
        have e1 : C x (j / 4) = C r (i / 4) := by omega
        obtain ⟨rfl, e2⟩ := a8 x (j / 4) r (i / 4) hx (by unfold q_nb; omega) hr (by unfold q_nb; omega) e1
        exact q ⟨rfl, by omega⟩
      rw [if_neg hne, z_up_e, if_neg q]
      exact a6 x j hx hj
  · rw [z_up_e]
    by_cases q : x = r ∧ j = i
    · rw [if_pos q]; exact ⟨g, hg, rfl⟩
    · rw [if_neg q]; exact a7 x j hx hj
/-- what one more quiet frame costs behind g of them -/
def q_more (g : Nat) : Int32 := (nI (g + 1) + 3) / 4 - (nI g + 3) / 4
theorem q_growGapM {post : z_Md → Prop} {N : Nat} {M : z_Md} {S : Nat → Nat} {C : Nat → Nat → Nat} {E : Nat → Nat → Int32 × Int32} {nb nm md l r q : Nat} (hP : q_P N M S C E) (hN : N ≤ 64) (hQ : q_Q N M nb nm md) (hl : l < 3) (hbz : ¬ M 20 l = 0) (hr : r < 48) (hlr : M 23 l = nI r)
    (hq : M 27 l = nI (min q 3)) (h2q : 2 ≤ q) (hqN : q < N) (h2 : q = 2 → 2 ≤ S r) (h3 : 3 ≤ q → 1 ≤ S r ∧ (E r (S r - 1)).1 = nI q)
    (kE : q_paid M S E nm l (if q = 2 then -1 else q_more q) = 0 → post (z_up M 24 l 1))
    (kF : q = 2 → ¬ q_paid M S E nm l (-1) = 0 → ∀ M' : z_Md, (∀ f, f ≠ 2 → f ≠ 3 → f ≠ 4 → f ≠ 9 → f ≠ 28 → f ≠ 29 → M' f = M f) → (∀ x, M' 2 x = if x = C r ((S r - 1) / 4) then nI ((S r - 1) % 4) else M 2 x) → M' 28 = q_u (M 28) l 0 → M' 29 = q_u (M 29) l 0 → q_P N M' (q_u S r (S r - 1)) C (z_up E r (S r - 2) (3, (E r (S r - 2)).2)) → post M')
    (kG : 3 ≤ q → ¬ q_paid M S E nm l (q_more q) = 0 → ∀ M' : z_Md, (∀ f, f ≠ 4 → f ≠ 28 → f ≠ 29 → M' f = M f) → M' 28 = q_u (M 28) l 0 → M' 29 = q_u (M 29) l 0 → q_P N M' S C (z_up E r (S r - 1) (nI (q + 1), (E r (S r - 1)).2)) → post M') : w_X7_growGap post M (nI l) := by
  have hv : vp_in (nI l) 3 := vp_in_nI hl (by omega)
  have hc : (nI l).toNatClampNeg = l := q_c (by omega)
  have hSr := hP.1 r hr
  refine ⟨hv, ?_⟩
  intro x2 e2
  rw [hc, hlr] at e2
  rw [e2]
  refine ⟨hv, ?_⟩
  intro y2 ey2
  rw [hc, hq] at ey2
  refine ⟨vp_in_nI hr (by omega), ?_⟩
  intro y3 ey3
  rw [q_c (n := r) (by omega), hSr.1]
  by_cases hq2 : q = 2
  · have hy2 : y2 = 1 := by rw [ey2, hq2]; rfl
    have hy3 : y3 = 2 := by rw [ey3, hy2]; rfl
    have hS2 := h2 hq2
    have hsub : nI (S r) - y3 = nI (S r - 2) := by rw [hy3]; exact pk_sub (b := 2) hS2
    rw [hsub]
    refine hP.entry hN hr (i := S r - 2) (by omega) (fun hat hb => ⟨fun z => absurd (hy2.symm.trans z) (by decide), ?_⟩)
    intro y6 e6
    have hy6 : y6 = 3 := by rw [e6, hy2]; rfl
    refine ⟨fun z => absurd (hy2.symm.trans z) (by decide), fun _ => ?_⟩
    rw [if_pos hq2] at kE
    refine q_isPaidM hP hN hQ hl hbz ⟨fun hp => ⟨vp_in_nI hat (by omega), fun z => absurd (hy2.symm.trans z) (by decide), fun _ => ?_⟩, fun hp => ⟨hv, ?_⟩⟩
    · rw [q_c (n := q_at C r (S r - 2)) (by omega), hy6]
      have hP' : q_P N (z_up M 4 (q_at C r (S r - 2)) 3) S C (z_up E r (S r - 2) (3, (E r (S r - 2)).2)) := q_gap_P (g := 3) (i := S r - 2) hP hr (by omega) (by omega) (fun x => by rw [z_up_e]; simp; rfl) (funext fun x => by simp [z_up]) (funext fun x => by simp [z_up]) (funext fun x => by simp [z_up]) (funext fun x => by simp [z_up]) (funext fun x => by simp [z_up])
      refine q_dropLast hP' hN hr (by omega) (fun M' hf g2 hP2 => ⟨hv, hv, ?_⟩)
      rw [hc]
      have e28 : M' 28 = M 28 := (hf 28 (by omega) (by omega) (by omega)).trans (funext fun x => by simp [z_up])
      have e29 : M' 29 = M 29 := (hf 29 (by omega) (by omega) (by omega)).trans (funext fun x => by simp [z_up])
      refine kF hq2 hp _ (fun f f2 f3 f4 f9 f28 f29 => ?_) (fun x => ?_) ?_ ?_ (hP2.fr ?_ ?_ ?_ ?_ ?_ ?_)
      · funext x
        simp only [z_up, f28, f29, false_and, if_false]
        rw [hf f f2 f3 f9]
        simp [z_up, f4]
      · show M' 2 x = _
        rw [g2 x]
        simp [z_up]
      · funext x
        show (if 28 = 29 ∧ x = l then _ else if 28 = 28 ∧ x = l then _ else M' 28 x) = _
        rw [e28]
        simp [q_u]
      · funext x
        show (if 29 = 29 ∧ x = l then _ else if 29 = 28 ∧ x = l then _ else M' 29 x) = _
        rw [e29]
        simp [q_u]
      · funext x; simp [z_up]
      · funext x; simp [z_up]
      · funext x; simp [z_up]
      · funext x; simp [z_up]
      · funext x; simp [z_up]
      · funext x; simp [z_up]
    · rw [hc]; exact kE hp
  · have hq3 : 3 ≤ q := by omega
    have hm3 : min q 3 = 3 := by omega
    have hy2 : y2 = 0 := by rw [ey2, hm3]; rfl
    have hy3 : y3 = 1 := by rw [ey3, hy2]; rfl
    obtain ⟨hS1, hE1⟩ := h3 hq3
    have hsub : nI (S r) - y3 = nI (S r - 1) := by rw [hy3]; exact pk_sub (b := 1) hS1
    rw [hsub]
    refine hP.entry hN hr (i := S r - 1) (by omega) (fun hat hb => ⟨fun _ => vp_in_nI hat (by omega), ?_⟩)
    have e4 : M 4 (q_at C r (S r - 1)) = nI q := by rw [(hP.2.2.2.2.2.1 r (S r - 1) hr (by omega)).1, hE1]
    intro y6 e6
    rw [q_c (n := q_at C r (S r - 1)) (by omega), e4] at e6
    have hy6 : y6 = nI (q + 1) := by rw [e6, hy2, nI_1]; rfl
    refine ⟨fun _ => ⟨vp_in_nI hat (by omega), ?_⟩, fun z => absurd hy2 z⟩
    rw [q_c (n := q_at C r (S r - 1)) (by omega), e4, hy6]
    rw [if_neg hq2] at kE
    refine q_isPaidM (more := q_more q) hP hN hQ hl hbz ⟨fun hp => ⟨vp_in_nI hat (by omega), fun _ => ⟨hv, hv, ?_⟩, fun z => absurd hy2 z⟩, fun hp => ⟨hv, ?_⟩⟩
    · rw [q_c (n := q_at C r (S r - 1)) (by omega), hc]
      refine kG hq3 hp _ (fun f f4 f28 f29 => ?_) ?_ ?_ (q_gap_P (g := q + 1) (i := S r - 1) hP hr (by omega) (by omega) (fun x => ?_) ?_ ?_ ?_ ?_ ?_)
      · funext x; simp [z_up, f4, f28, f29]
      · funext x; simp [z_up, q_u]
      · funext x; simp [z_up, q_u]
      · simp [z_up]
      · funext x; simp [z_up]
      · funext x; simp [z_up]
      · funext x; simp [z_up]
      · funext x; simp [z_up]
      · funext x; simp [z_up]
    · rw [hc]; exact kE hp
/-- whether the first n samples are quiet -/
def q_qt (x : Nat → Int32) : Nat → Bool
  | 0 => true
  | n + 1 => q_qt x n && decide (¬ x n < (-48) ∧ ¬ 48 < x n)
theorem q_frameM {post : z_Md → Prop} {M : z_Md} {l q : Nat} (hl : l < 3) (hq : M 27 l = nI (min q 3))
    (hC : ¬ (q_qt (q_x M l) 8 = true ∧ 2 ≤ q) → w_X7_codeFrame (fun M1 => w_X7_frame_80 post M1 (nI l) (if q_qt (q_x M l) 8 = true then 1 else 0)) M (nI l))
    (hG : q_qt (q_x M l) 8 = true → 2 ≤ q → w_X7_growGap (fun M1 => w_X7_frame_80 post M1 (nI l) 1) M (nI l)) : w_X7_frame post M (nI l) := by
  have hv : vp_in (nI l) 3 := vp_in_nI hl (by omega)
  have hc : (nI l).toNatClampNeg = l := q_c (by omega)
  have key : ∀ d j, j + d = 8 → w_X7_frame_4 post (d + 1) M (nI l) (if q_qt (q_x M l) j = true then 1 else 0) (nI j) := by
    intro d
    induction d with
    | zero =>
      intro j hj
      have : j = 8 := by omega
      subst this
      refine ⟨fun _ => ⟨fun hz => ?_, fun hz => ⟨hv, ?_⟩⟩, fun hh => absurd (by decide) hh⟩
      · refine hC (fun z => ?_)
        rw [if_pos z.1] at hz
        exact absurd hz (by decide)
      · have ht : q_qt (q_x M l) 8 = true := by
          apply Decidable.byContradiction
          intro z
          rw [if_neg z] at hz
          exact hz rfl
        rw [hc, hq]
        have e1 : (if q_qt (q_x M l) 8 = true then (1 : Int32) else 0) = 1 := if_pos ht
        refine ⟨fun hlt => ?_, fun hge => ?_⟩
        · refine hC (fun z => ?_)
          have : min q 3 < 2 := (nI_ltI (a := min q 3) (b := 2) (by omega) (by omega)).mp hlt
          omega
        · have : 2 ≤ q := by
            apply Decidable.byContradiction
            intro z
            exact hge (nI_lt (a := min q 3) (b := 2) (by omega) (by omega))
          rw [e1]
          exact hG ht this
    | succ d ih =>
      intro j hj
      have e8 : 8 * nI l + nI j = nI (8 * l + j) := by rw [q_mul8, nI_add]
      refine ⟨fun hh => absurd hh (nI_ge (a := j) (b := 8) (by omega) (by omega)), fun _ => ?_⟩
      rw [e8, q_c (n := 8 * l + j) (by omega)]
      refine ⟨vp_in_nI (by omega) (by omega), ?_⟩
      intro x4 e4 y8 e8'
      have : y8 = if q_qt (q_x M l) (j + 1) = true then 1 else 0 := by
        rw [e8', e4]
        show _ = if (q_qt (q_x M l) j && decide (¬ M 26 (8 * l + j) < (-48) ∧ ¬ 48 < M 26 (8 * l + j))) = true then 1 else 0
        by_cases a : q_qt (q_x M l) j = true
        · by_cases b : M 26 (8 * l + j) < (-48)
          · simp [a, b]
          · by_cases c : 48 < M 26 (8 * l + j)
            · simp [a, b, c]
            · simp [a, b, c]
        · simp [a]
      rw [this, nI_1]
      exact ih (j + 1) (by omega)
  exact ⟨9, key 8 0 (by omega)⟩
theorem q_frame80 {post : z_Md → Prop} {M : z_Md} {l q : Nat} {s : Bool} (hl : l < 3) (hq : M 27 l = nI (min q 3)) (h : post (z_up (z_up M 27 l (if s = true then nI (min (q + 1) 3) else 0)) 25 l 0)) : w_X7_frame_80 post M (nI l) (if s = true then 1 else 0) := by
  have hv : vp_in (nI l) 3 := vp_in_nI hl (by omega)
  have hc : (nI l).toNatClampNeg = l := q_c (by omega)
  refine ⟨hv, fun _ => hv, ?_⟩
  intro y1 e1 y2 e2
  refine ⟨hv, hv, ?_⟩
  rw [hc] at e1 ⊢
  have h1 : y1 = nI (min (q + 1) 3) := by
    rw [e1, hq]
    by_cases a : 3 ≤ q
    · have e3 : min q 3 = 3 := by omega
      have e4 : min (q + 1) 3 = 3 := by omega
      rw [e3, e4, if_pos (by decide)]
      rfl
    · have e3 : min q 3 = q := by omega
      have e4 : min (q + 1) 3 = q + 1 := by omega
      have e5 : ¬ (3 : Int32) ≤ nI q := nI_ge (a := q) (b := 3) (by omega) (by omega)
      rw [e3, e4, if_neg e5, nI_1]
  have h2 : y2 = if s = true then nI (min (q + 1) 3) else 0 := by
    rw [e2, h1]
    cases s <;> simp
  rw [h2]
  exact h
