/-! what a frame makes of the relation: ended, coded, a gap begun, a gap grown -/
section OI
variable {t0 ti mi nb nm md N : Nat} {M : z_Md} {S : Nat → Nat} {C : Nat → Nat → Nat} {E : Nat → Nat → Int32 × Int32} {K : Nat → Nat → Nat} {u : z_St} {px : String → z_St → Prop}
theorem q_end_W {l r : Nat} {y : Int32} (h : q_W t0 N (z_up M 25 l 0) S C E nb nm md K u) (hl : l < 3) (hbz : ¬ M 20 l = 0) (hr : r < 48) (hlr : M 23 l = nI r) : q_W t0 (N + 1) (z_up (z_up (z_up M 24 l 1) 27 l y) 25 l 0) S C E nb nm md K (z_pI 9 (K 11 l) 1 u) := by
  have h' := h
  obtain ⟨a1, a2, a3, a4, a5, a6, a7, a8, a9, a10, a11, a12⟩ := h
  have hlv : q_lv (z_up M 25 l 0) r := Or.inr (a4.l23 hl hr hbz hlr)
  obtain ⟨c1, c2, c3, c4, c5, c6, c7, c8⟩ := (a10 l hl).2 hbz
  refine h'.frame (by omega) hl hbz hr hlr (fun f f0 f2 f3 f4 f5 f8 f9 f24 f25 f26 f27 f28 f29 f30 f31 => ?_) (fun x hx => ?_) (fun x hx => ?_) (fun x j _ _ => ?_) (fun x hx => ?_) (fun x _ => ?_) (fun x _ => ?_) (Or.inr ?_) ⟨0, by omega, ?_⟩ ((a2.fr ?_ ?_ ?_ ?_ ?_ ?_).mo (by omega)) (fun _ _ => rfl) (fun _ _ => rfl) (fun _ _ => rfl) (fun _ => rfl) (fun _ => rfl) (fun f x h2 h3 _ => ?_) (fun _ _ _ _ => rfl) (fun _ _ => rfl) (fun _ _ _ _ => rfl) ?_ ?_ ?_
  · funext x; simp [z_up, f24, f25, f27]
  · simp [z_up, hx]
  · simp [z_up, hx]
  · simp [z_up]
  · simp [z_up, hx]
  · simp [z_up]
  · simp [z_up]
  · simp [z_up]
  · simp [z_up]; rfl
  · funext x; simp [z_up]
  · funext x; simp [z_up]
  · funext x; simp [z_up]
  · funext x; simp [z_up]
  · funext x; simp [z_up]
  · funext x; simp [z_up]
  · rcases h3 with w | w
    · simp [z_gI, z_pI, z_up, w]
    · simp [z_gI, z_pI, z_up, w]
  · obtain ⟨b1, b2, b3, b4⟩ := a7
    refine ⟨fun b hb => ?_, fun b hb z => ?_, b3, b4⟩
    · have := b1 b hb
      simpa [z_gI, z_pI, z_up] using this
    · refine b2 b hb ?_
      simpa [z_up] using z
  · refine ⟨?_, fun _ => ⟨?_, ?_, ?_, ?_, ⟨?_, ?_⟩, fun j hj => ?_, fun _ => ?_, fun z => ?_⟩⟩
    · have := (a10 l hl).1
      simpa [z_gI, z_pI, z_up] using this
    · simp [z_gI, z_pI, z_up]
    · simpa [z_gI, z_pI, z_up] using c2
    · simpa [z_gI, z_pI, z_up] using c3
    · simpa [z_gR, z_pI, z_up] using c4
    · simpa [z_gI, z_pI, z_up] using c5.1
    · simp [z_up]
    · have : z_up (z_up (z_up M 24 l 1) 27 l y) 25 l 0 25 l = 0 := by simp [z_up]
      rw [this] at hj
      have hz : (0 : Int32).toNatClampNeg = 0 := by decide
      omega
    · simp [z_up]
    · have : z_up (z_up (z_up M 24 l 1) 27 l y) 25 l 0 24 l = 1 := by simp [z_up]
      rw [this] at z
      exact absurd z (by decide)
  · obtain ⟨d1, d2, d3, d4, d5⟩ := a11 r hr hlv
    refine ⟨d1, d2, ?_, ?_, ?_⟩
    · simpa [z_gI, z_pI, z_up] using d3
    · simpa [z_gI, z_pI, z_up] using d4
    · simpa [z_gI, z_pI, z_up] using d5
theorem q_code_W {l r b q' : Nat} {y : Int32} {x : Nat → Int32} {M1 : z_Md} {v : z_St} (h : q_W t0 N (z_up M 25 l 0) S C E nb nm md K u) (hN : N + 1 ≤ 64) (hl : l < 3) (hbz : ¬ M 20 l = 0) (hr : r < 48) (hlr : M 23 l = nI r) (h24 : M 24 l = 0) (hx : x = q_x M l) (hb : b < 40)
    (hb0 : S r % 4 = 0 → M 2 b = 0) (hb1 : S r % 4 ≠ 0 → b = C r (S r / 4))
    (e14 : z_gI 14 (K 11 l) u = M 28 l) (e15 : z_gI 15 (K 11 l) u = M 29 l) (hst : q_s M l = q_st (E r) (S r))
    (hf : ∀ f, f ≠ 2 → f ≠ 3 → f ≠ 4 → f ≠ 5 → f ≠ 8 → f ≠ 9 → f ≠ 28 → f ≠ 29 → f ≠ 30 → f ≠ 31 → M1 f = M f) (m2 : ∀ x, M1 2 x = if x = b then nI (S r % 4 + 1) else M 2 x)
    (m28 : M1 28 = q_u (M 28) l (q_run (q_s M l) (q_x M l) 8).1) (m29 : M1 29 = q_u (M 29) l (q_run (q_s M l) (q_x M l) 8).2) (hP1 : q_P (N + 1) M1 (q_u S r (S r + 1)) (z_up C r (S r / 4) b) (z_up E r (S r) (0, q_bt (q_s M l) (q_x M l) 8)))
    (hD : q_D K l r b (S r) C (z_gI 14 (K 11 l) u, z_gI 15 (K 11 l) u) x u v) (hy : y = nI q') (hq : q' ≤ N + 1) (hq2 : q' ≤ 2) (hqS : q' ≤ S r + 1) (hq0 : ∀ j, j + 1 < q' → (E r (S r - 1 - j)).1 = 0) :
    q_W t0 (N + 1) (z_up (z_up M1 27 l (nI (min q' 3))) 25 l 0) (q_u S r (S r + 1)) (z_up C r (S r / 4) b) (z_up E r (S r) (0, q_bt (q_s M l) (q_x M l) 8)) nb nm md K (z_pI 23 (K 16 r) (z_gI 23 (K 16 r) v + 8) (z_pI 24 (K 16 r) (z_gI 24 (K 16 r) v + 1) (z_pI 13 (K 11 l) y v))) := by
  have h' := h
  obtain ⟨a1, a2, a3, a4, a5, a6, a7, a8, a9, a10, a11, a12⟩ := h
  have hlv : q_lv (z_up M 25 l 0) r := Or.inr (a4.l23 hl hr hbz hlr)
  have hSN := (a2.1 r hr).2
  obtain ⟨c1, c2, c3, c4, c5, c6, c7, c8⟩ := (a10 l hl).2 hbz
  obtain ⟨r21, r22, r24, r23, r25⟩ := a11 r hr hlv
  have hvr : q_vd (z_up M 25 l 0) nm 16 r := Or.inr (Or.inr ⟨rfl, hr, hlv⟩)
  have v00 : ∀ f j, f ≤ 14 → j < q_fs f → q_vd (z_up M 25 l 0) nm f j := fun f j h1 h2 => Or.inl ⟨h1, h2⟩
  have n16 : ∀ f j, f ≤ 14 → j < q_fs f → K f j ≠ K 16 r := fun f j h1 h2 => a5.ne (v00 f j h1 h2) hvr (Or.inl (by omega))
  have n1116 := n16 11 l (by omega) hl
  obtain ⟨d1, d2, d3, d4, d5, d6, d7, d8, d9, d10, d11, d12, d13, d14, d15, d16⟩ := hD
  have hss : (z_gI 14 (K 11 l) u, z_gI 15 (K 11 l) u) = q_s M l := by rw [e14, e15]; rfl
  rw [hss, hx] at d6 d7 d16
  -- the fields behind the three stores
  have gI : ∀ f a, f ≠ 13 → f ≠ 23 → f ≠ 24 → z_gI f a (z_pI 23 (K 16 r) (z_gI 23 (K 16 r) v + 8) (z_pI 24 (K 16 r) (z_gI 24 (K 16 r) v + 1) (z_pI 13 (K 11 l) y v))) = z_gI f a v := fun f a h1 h2 h3 => by simp [z_gI, z_pI, z_up, h1, h2, h3]
  have hSs : q_u S r (S r + 1) r = S r + 1 := q_u_s S r _
  have hSx : ∀ z, z ≠ r → q_u S r (S r + 1) z = S z := fun z hz => q_u_n S _ hz
  have hCo : ∀ z k, ¬ (z = r ∧ k = S r / 4) → z_up C r (S r / 4) b z k = C z k := fun z k hn => by rw [z_up_e]; exact if_neg hn
  have hCb : z_up C r (S r / 4) b r (S r / 4) = b := z_up_s C r _ b
  have hEo : ∀ z i, ¬ (z = r ∧ i = S r) → z_up E r (S r) (0, q_bt (q_s M l) (q_x M l) 8) z i = E z i := fun z i hn => by rw [z_up_e]; exact if_neg hn
  have hEn : z_up E r (S r) (0, q_bt (q_s M l) (q_x M l) 8) r (S r) = (0, q_bt (q_s M l) (q_x M l) 8) := z_up_s E r _ _
  have hEr : ∀ i, i < S r → z_up E r (S r) (0, q_bt (q_s M l) (q_x M l) 8) r i = E r i := fun i hi => hEo r i (fun q => by omega)
  have hstE : q_st (z_up E r (S r) (0, q_bt (q_s M l) (q_x M l) 8) r) (S r) = q_s M l := (q_st_cong hEr).trans hst.symm
  have hm4 : S r % 4 < 4 := by omega
  have hcc := a2.2.2.2.2.2.2.2.1
  have hcnt := a2.2.2.2.1
  -- the chain's other blocks are not b
  have hne : ∀ z k, z < 48 → k < q_nb (S z) → ¬ (z = r ∧ k = S r / 4) → C z k ≠ b := by
    intro z k hz hk hn e
    by_cases hm : S r % 4 = 0
    · have e2 := hcnt z k hz hk
      have e3 : z_up M 25 l 0 2 (C z k) = 0 := by rw [e]; exact hb0 hm
      rw [e3] at e2
      have hz2 := (a2.1 z hz).2
      unfold q_nb at hk
      exact nI_ne0 (n := min 4 (S z - 4 * k)) (by omega) (by omega) e2.symm
    · rw [hb1 hm] at e
      exact hn (hcc z k r (S r / 4) hz hk hr (by unfold q_nb; omega) e)
  have hK3 : ∀ z k, z < 48 → k < q_nb (S z) → ¬ (z = r ∧ k = S r / 4) → K 3 (C z k) ≠ K 3 b := fun z k hz hk hn e => hne z k hz hk hn (a5.2.2.2 _ _ _ _ (v00 3 _ (by omega) (a2.2.2.1 z k hz hk)) (v00 3 b (by omega) hb) e).2
  refine h'.frame (r := r) (by omega) hl hbz hr hlr (fun f f0 f2 f3 f4 f5 f8 f9 f24 f25 f26 f27 f28 f29 f30 f31 => ?_) (fun z hz => ?_) (fun z hz => ?_) (fun z j _ _ => ?_) (fun z hz => ?_) (fun z hz => ?_) (fun z hz => ?_) (Or.inl ?_) ⟨0, by omega, ?_⟩ (hP1.fr ?_ ?_ ?_ ?_ ?_ ?_) hSx (fun z hz => funext fun i => hEo z i (fun q => hz q.1)) (fun z hz => funext fun i => hCo z i (fun q => hz q.1)) d1 d2 (fun f a h2 h3 h4 => ?_) (fun f a h3 h4 => d8 f a h3 h4) d13 (fun a j h5 _ => ?_) ?_ ?_ ?_
  · rw [z_up_f _ _ _ f25, z_up_f _ _ _ f27, hf f f2 f3 f4 f5 f8 f9 f28 f29 f30 f31, z_up_f _ _ _ f25]
  · show M1 24 z = M 24 z
    rw [hf 24 (by omega) (by omega) (by omega) (by omega) (by omega) (by omega) (by omega) (by omega) (by omega) (by omega)]
  · have e := hf 25 (by omega) (by omega) (by omega) (by omega) (by omega) (by omega) (by omega) (by omega) (by omega) (by omega)
    simp [z_up, hz, e]
  · show M1 26 _ = M 26 _
    rw [hf 26 (by omega) (by omega) (by omega) (by omega) (by omega) (by omega) (by omega) (by omega) (by omega) (by omega)]
  · have e := hf 27 (by omega) (by omega) (by omega) (by omega) (by omega) (by omega) (by omega) (by omega) (by omega) (by omega)
    simp [z_up, hz, e]
  · show M1 28 z = M 28 z
    rw [m28]; exact q_u_n _ _ hz
  · show M1 29 z = M 29 z
    rw [m29]; exact q_u_n _ _ hz
  · show M1 24 l = 0
    rw [hf 24 (by omega) (by omega) (by omega) (by omega) (by omega) (by omega) (by omega) (by omega) (by omega) (by omega)]; exact h24
  · simp [z_up]; rfl
  · funext z; simp [z_up]
  · funext z; simp [z_up]
  · funext z; simp [z_up]
  · funext z; simp [z_up]
  · funext z; simp [z_up]
  · funext z; simp [z_up]
  · have e : z_gI f a (z_pI 23 (K 16 r) (z_gI 23 (K 16 r) v + 8) (z_pI 24 (K 16 r) (z_gI 24 (K 16 r) v + 1) (z_pI 13 (K 11 l) y v))) = z_gI f a v := by
      rcases h3 with w | w
      · rcases h4 with w2 | w2
        · exact gI f a w.2.2.1 w2.1 w2.2
        · simp [z_gI, z_pI, z_up, w, w2]
      · rcases h4 with w2 | w2
        · simp [z_gI, z_pI, z_up, w, w2]
        · simp [z_gI, z_pI, z_up, w, w2]
    rw [e]
    refine d3 f a h2 ?_
    rcases h3 with w | w
    · exact Or.inl ⟨w.2.2.2.1, w.2.2.2.2⟩
    · exact Or.inr w
  · obtain ⟨g4, g5⟩ := h5 b hb
    exact d14 a j (fun q => g4 q.1) (Or.inl g5)
  · -- the blocks
    obtain ⟨b1, b2, b3, b4⟩ := a7
    refine ⟨fun z hz => ?_, fun z hz hzz => ?_, fun z k hz hk => ?_, fun z i hz hi => ?_⟩
    · rw [gI 2 _ (by omega) (by omega) (by omega)]
      have e : z_up (z_up M1 27 l (nI (min q' 3))) 25 l 0 2 z = M1 2 z := by simp [z_up]
      rw [e, m2]
      by_cases w : z = b
      · rw [w, if_pos rfl]; exact d5
      · have hn : K 3 z ≠ K 3 b := a5.ne (v00 3 z (by omega) hz) (v00 3 b (by omega) hb) (Or.inr w)
        rw [if_neg w, d4 _ hn]
        exact b1 z hz
    · have e : z_up (z_up M1 27 l (nI (min q' 3))) 25 l 0 2 z = M1 2 z := by simp [z_up]
      rw [e, m2] at hzz
      by_cases w : z = b
      · rw [if_pos w] at hzz
        exact absurd hzz (nI_ne0 (by omega) (by omega))
      · rw [if_neg w] at hzz
        have hn : ∀ k, k < q_nb (S r) → K 3 z ≠ K 3 (C r k) := fun k hk e2 => by
          have e3 := (a5.2.2.2 _ _ _ _ (v00 3 z (by omega) hz) (v00 3 _ (by omega) (a2.2.2.1 r k hr hk)) e2).2
          have e4 := hcnt r k hr hk
          rw [← e3] at e4
          have e5 : z_up M 25 l 0 2 z = 0 := hzz
          rw [e5] at e4
          unfold q_nb at hk
          exact nI_ne0 (n := min 4 (S r - 4 * k)) (by omega) (by omega) e4.symm
        have : z_gR 3 (K 3 z) v = z_gR 3 (K 3 z) u := d9 _ (fun m0 p0 => hn _ (by unfold q_nb; omega))
        exact this.trans (b2 z hz hzz)
    · -- the way on
      show z_gR 3 (K 3 (z_up C r (S r / 4) b z k)) v = _
      by_cases hzr : z = r
      · subst hzr
        rw [hSs] at hk ⊢
        by_cases hk4 : k = S z / 4
        · subst hk4
          rw [hCb, if_neg (by unfold q_nb; omega)]
          have hnb : ∀ w, w < q_nb (S z) → w ≠ S z / 4 → K 3 b ≠ K 3 (C z w) := fun w hw hw2 => (hK3 z w hz hw (fun q => hw2 q.2)).symm
          rw [d9 _ (fun m0 p0 => hnb _ (by unfold q_nb; omega) (by omega))]
          by_cases hm : S z % 4 = 0
          · exact b2 b hb (hb0 hm)
          · have hbb := hb1 hm
            rw [hbb, b3 z (S z / 4) hz (by unfold q_nb; omega), if_neg (by unfold q_nb; omega)]
        · have hko : k < q_nb (S z) := by unfold q_nb at *; omega
          have hk5 : k < S z / 4 := by unfold q_nb at hk; omega
          rw [hCo z k (fun q => hk4 q.2), if_pos (by unfold q_nb; omega)]
          by_cases hlast : S z % 4 = 0 ∧ k + 1 = S z / 4
          · have e1 : k = S z / 4 - 1 := by omega
            rw [hlast.2, hCb, e1]
            exact d10 hlast.1 (by omega)
          · have e2 : z_up C z (S z / 4) b z (k + 1) = C z (k + 1) := by
              by_cases hq4 : k + 1 = S z / 4
              · rw [hq4, hCb]; exact hb1 (by omega)
              · exact hCo z (k + 1) (fun q => hq4 q.2)
            have hn3 : S z % 4 = 0 → 0 < S z → K 3 (C z k) ≠ K 3 (C z (S z / 4 - 1)) := fun m0 p0 e => by
              have e3 := (a5.2.2.2 _ _ _ _ (v00 3 _ (by omega) (a2.2.2.1 z k hz hko)) (v00 3 _ (by omega) (a2.2.2.1 z _ hz (by unfold q_nb; omega))) e).2
              have := (hcc z k z _ hz hko hz (by unfold q_nb; omega) e3).2
              omega
            rw [e2, d9 _ hn3, b3 z k hz hko, if_pos (by unfold q_nb at *; omega)]
      · rw [hSx z hzr] at hk ⊢
        rw [hCo z k (fun q => hzr q.1), hCo z (k + 1) (fun q => hzr q.1)]
        have hn3 : S r % 4 = 0 → 0 < S r → K 3 (C z k) ≠ K 3 (C r (S r / 4 - 1)) := fun m0 p0 e => by
          have e3 := (a5.2.2.2 _ _ _ _ (v00 3 _ (by omega) (a2.2.2.1 z k hz hk)) (v00 3 _ (by omega) (a2.2.2.1 r _ hr (by unfold q_nb; omega))) e).2
          exact hzr (hcc z k r _ hz hk hr (by unfold q_nb; omega) e3).1
        rw [d9 _ hn3]
        exact b3 z k hz hk
    · -- the entries
      show z_aI (K 4 (z_up C r (S r / 4) b z (i / 4))) (i % 4) v = _ ∧ (_ → ∀ j, j < 8 → z_aI (K 5 (z_up C r (S r / 4) b z (i / 4))) (8 * (i % 4) + j) v = _)
      by_cases hn : z = r ∧ i = S r
      · obtain ⟨rfl, rfl⟩ := hn
        rw [hCb, hEn]
        refine ⟨d15, fun _ j hj => ?_⟩
        rw [d16 j hj]
        unfold q_snd
        rw [hstE, hEn, q_nib_run _ _ _ (by omega)]
      · have hio : i < S z := by
          by_cases hzr : z = r
          · subst hzr; rw [hSs] at hi; have : i ≠ S z := fun q => hn ⟨rfl, q⟩; omega
          · rw [hSx z hzr] at hi; exact hi
        obtain ⟨g1, g2⟩ := b4 z i hz hio
        have hEz : z_up E r (S r) (0, q_bt (q_s M l) (q_x M l) 8) z i = E z i := hEo z i hn
        have hsnd : ∀ j, q_snd (z_up E r (S r) (0, q_bt (q_s M l) (q_x M l) 8) z) i j = q_snd (E z) i j := fun j => q_snd_cong (fun k hk => hEo z k (fun q => by
          by_cases hzr : z = r
          · subst hzr; omega
          · exact hzr q.1)) j
        rw [hEz]
        by_cases hq4 : z = r ∧ i / 4 = S r / 4
        · obtain ⟨rfl, e1⟩ := hq4
          have hm : S z % 4 ≠ 0 := by omega
          have hbb := hb1 hm
          rw [e1, hCb]
          rw [e1, ← hbb] at g1 g2
          refine ⟨(d14 _ _ (fun q => by omega) (Or.inl (a5.ne (v00 4 b (by omega) hb) (v00 5 b (by omega) hb) (Or.inl (by omega))))).trans g1, fun w j hj => ?_⟩
          rw [hsnd, d14 _ _ (fun q => absurd q.1 (a5.ne (v00 5 b (by omega) hb) (v00 4 b (by omega) hb) (Or.inl (by omega)))) (Or.inr (fun k hk => by omega))]
          exact g2 w j hj
        · rw [hCo z (i / 4) hq4]
          have hk : i / 4 < q_nb (S z) := by unfold q_nb; omega
          have hbn := hne z (i / 4) hz hk hq4
          have hc40 := a2.2.2.1 z (i / 4) hz hk
          have n4 : K 4 (C z (i / 4)) ≠ K 4 b := a5.ne (v00 4 _ (by omega) hc40) (v00 4 b (by omega) hb) (Or.inr hbn)
          have n45 : K 4 (C z (i / 4)) ≠ K 5 b := a5.ne (v00 4 _ (by omega) hc40) (v00 5 b (by omega) hb) (Or.inl (by omega))
          have n5 : K 5 (C z (i / 4)) ≠ K 5 b := a5.ne (v00 5 _ (by omega) hc40) (v00 5 b (by omega) hb) (Or.inr hbn)
          have n54 : K 5 (C z (i / 4)) ≠ K 4 b := a5.ne (v00 5 _ (by omega) hc40) (v00 4 b (by omega) hb) (Or.inl (by omega))
          refine ⟨(d14 _ _ (fun q => n4 q.1) (Or.inl n45)).trans g1, fun w j hj => ?_⟩
          rw [hsnd, d14 _ _ (fun q => n54 q.1) (Or.inl n5)]
          exact g2 w j hj
  · -- the line
    have e20 : z_up (z_up M1 27 l (nI (min q' 3))) 25 l 0 20 l = M 20 l := congrFun (hf 20 (by omega) (by omega) (by omega) (by omega) (by omega) (by omega) (by omega) (by omega) (by omega) (by omega)) l
    have e21 : z_up (z_up M1 27 l (nI (min q' 3))) 25 l 0 21 l = M 21 l := congrFun (hf 21 (by omega) (by omega) (by omega) (by omega) (by omega) (by omega) (by omega) (by omega) (by omega) (by omega)) l
    have e22 : z_up (z_up M1 27 l (nI (min q' 3))) 25 l 0 22 l = M 22 l := congrFun (hf 22 (by omega) (by omega) (by omega) (by omega) (by omega) (by omega) (by omega) (by omega) (by omega) (by omega)) l
    have e23 : z_up (z_up M1 27 l (nI (min q' 3))) 25 l 0 23 l = M 23 l := congrFun (hf 23 (by omega) (by omega) (by omega) (by omega) (by omega) (by omega) (by omega) (by omega) (by omega) (by omega)) l
    have e24 : z_up (z_up M1 27 l (nI (min q' 3))) 25 l 0 24 l = M 24 l := congrFun (hf 24 (by omega) (by omega) (by omega) (by omega) (by omega) (by omega) (by omega) (by omega) (by omega) (by omega)) l
    have e25 : z_up (z_up M1 27 l (nI (min q' 3))) 25 l 0 25 l = 0 := by simp [z_up]
    have e27 : z_up (z_up M1 27 l (nI (min q' 3))) 25 l 0 27 l = nI (min q' 3) := by simp [z_up]
    have e28 : z_up (z_up M1 27 l (nI (min q' 3))) 25 l 0 28 l = (q_run (q_s M l) (q_x M l) 8).1 := by show M1 28 l = _; rw [m28]; exact q_u_s _ _ _
    have e29 : z_up (z_up M1 27 l (nI (min q' 3))) 25 l 0 29 l = (q_run (q_s M l) (q_x M l) 8).2 := by show M1 29 l = _; rw [m29]; exact q_u_s _ _ _
    have eqs : q_s (z_up (z_up M1 27 l (nI (min q' 3))) 25 l 0) l = q_run (q_s M l) (q_x M l) 8 := by
      show (z_up (z_up M1 27 l (nI (min q' 3))) 25 l 0 28 l, z_up (z_up M1 27 l (nI (min q' 3))) 25 l 0 29 l) = _
      rw [e28, e29]
    unfold q_wl q_wG
    rw [eqs, e20, e21, e22, e23, e24, e25, e27, e28, e29]
    refine ⟨?_, fun _ => ⟨?_, ?_, ?_, ?_, ⟨?_, by decide⟩, fun j hj => ?_, fun _ => rfl, fun _ => ⟨?_, ?_, fun r' hr' er => ?_⟩⟩⟩
    · rw [gI 8 _ (by omega) (by omega) (by omega), d3 8 _ (by omega) (Or.inl (by omega))]; exact (a10 l hl).1
    · rw [gI 9 _ (by omega) (by omega) (by omega), d3 9 _ (by omega) (Or.inl (by omega))]; exact c1
    · rw [gI 10 _ (by omega) (by omega) (by omega), d3 10 _ (by omega) (Or.inl (by omega))]; exact c2
    · rw [gI 11 _ (by omega) (by omega) (by omega), d3 11 _ (by omega) (Or.inl (by omega))]; exact c3
    · exact (d8 12 _ (by omega) (Or.inl (by omega))).trans c4
    · rw [gI 7 _ (by omega) (by omega) (by omega), d3 7 _ (by omega) (Or.inl (by omega))]
      have := c5.1
      rw [z_up_s] at this
      exact this
    · have hz : (0 : Int32).toNatClampNeg = 0 := by decide
      omega
    · rw [gI 14 _ (by omega) (by omega) (by omega)]; exact d6
    · rw [gI 15 _ (by omega) (by omega) (by omega)]; exact d7
    · rw [hlr] at er
      have : r = r' := (nI_eq (by omega) (by omega)).mp er
      subst this
      rw [hSs]
      refine ⟨?_, q', hq, ?_, rfl, fun _ => ⟨hqS, fun j hj => ?_⟩, fun w => by omega⟩
      · have es : q_st (z_up E r (S r) (0, q_bt (q_s M l) (q_x M l) 8) r) (S r + 1) = q_nib (q_st (z_up E r (S r) (0, q_bt (q_s M l) (q_x M l) 8) r) (S r)) (q_bt (q_s M l) (q_x M l) 8) 8 := by
          show (if (z_up E r (S r) (0, q_bt (q_s M l) (q_x M l) 8) r (S r)).1 = 0 then _ else _) = _
          rw [hEn, if_pos rfl]
        rw [es, hstE, q_nib_run _ _ 8 (by omega)]
      · simp [z_gI, z_pI, z_up, hy]
      · by_cases w : j = 0
        · have e0 : S r + 1 - 1 - j = S r := by omega
          rw [e0, hEn]
        · have e0 : S r + 1 - 1 - j = S r - 1 - (j - 1) := by omega
          rw [e0, hEr _ (by omega)]
          exact hq0 (j - 1) (by omega)
  · -- the record
    have e23 : z_gI 23 (K 16 r) v = 8 * q_fm (E r) (S r) := (d3 23 _ (by omega) (Or.inl (by omega))).trans r23
    have e24 : z_gI 24 (K 16 r) v = q_cs (E r) (S r) := (d3 24 _ (by omega) (Or.inl (by omega))).trans r24
    have g24 : z_gI 24 (K 16 r) (z_pI 23 (K 16 r) (z_gI 23 (K 16 r) v + 8) (z_pI 24 (K 16 r) (z_gI 24 (K 16 r) v + 1) (z_pI 13 (K 11 l) y v))) = z_gI 24 (K 16 r) v + 1 := by simp [z_gI, z_pI, z_up]
    have g23 : z_gI 23 (K 16 r) (z_pI 23 (K 16 r) (z_gI 23 (K 16 r) v + 8) (z_pI 24 (K 16 r) (z_gI 24 (K 16 r) v + 1) (z_pI 13 (K 11 l) y v))) = z_gI 23 (K 16 r) v + 8 := by simp [z_gI, z_pI, z_up]
    have g25 := gI 25 (K 16 r) (by omega) (by omega) (by omega)
    have hcs : q_cs (z_up E r (S r) (0, q_bt (q_s M l) (q_x M l) 8) r) (S r) = q_cs (E r) (S r) := q_cs_cong (fun i hi => by rw [hEr i hi])
    have hfm : q_fm (z_up E r (S r) (0, q_bt (q_s M l) (q_x M l) 8) r) (S r) = q_fm (E r) (S r) := q_fm_cong (fun i hi => by rw [hEr i hi])
    rw [g25, hSs, g24, g23, e23, e24]
    refine ⟨?_, ?_, ?_, ?_, ?_⟩
    · show z_gR 21 (K 16 r) v = _
      rw [if_neg (show ¬ S r + 1 = 0 by omega), d11]
      by_cases w : S r = 0
      · have e0 : z_up C r (S r / 4) b r 0 = b := by
          have : S r / 4 = 0 := by omega
          rw [this] at hCb ⊢
          exact hCb
        rw [if_pos w, e0]
      · rw [if_neg w, r21, if_neg w]
        by_cases w4 : S r / 4 = 0
        · have hbb := hb1 (by omega)
          rw [w4] at hCb hbb ⊢
          rw [hCb, hbb]
        · rw [hCo r 0 (fun q => w4 q.2.symm)]
    · show z_gR 22 (K 16 r) v = _
      have e1 : (S r + 1 - 1) / 4 = S r / 4 := by omega
      rw [if_neg (show ¬ S r + 1 = 0 by omega), d12, e1, hCb]
    · show _ = q_cs _ (S r) + (if (z_up E r (S r) (0, q_bt (q_s M l) (q_x M l) 8) r (S r)).1 = 0 then 1 else _)
      rw [hEn, if_pos rfl, hcs]
    · show _ = 8 * (q_fm _ (S r) + (if (z_up E r (S r) (0, q_bt (q_s M l) (q_x M l) 8) r (S r)).1 = 0 then 1 else _))
      rw [hEn, if_pos rfl, hfm, Int32.mul_add, Int32.mul_one]
    · rw [d3 25 _ (by omega) (Or.inl (by omega))]; exact r25
end OI
