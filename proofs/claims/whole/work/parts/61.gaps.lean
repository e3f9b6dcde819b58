/-! the bank's gap grows -/
section OH
variable {t0 ti mi nb nm md N : Nat} {M : z_Md} {S : Nat → Nat} {C : Nat → Nat → Nat} {E : Nat → Nat → Int32 × Int32} {K : Nat → Nat → Nat} {u : z_St} {px : String → z_St → Prop}
def q_G2 (K : Nat → Nat → Nat) (l r n : Nat) (C : Nat → Nat → Nat) (u v : z_St) : Prop :=
  (∀ a, z_kd a v = z_kd a u) ∧ (∀ a, z_ln a v = z_ln a u) ∧ (∀ f a, f ≠ 2 → ((f ≠ 14 ∧ f ≠ 15) ∨ a ≠ K 11 l) → z_gI f a v = z_gI f a u) ∧ (∀ a, a ≠ K 3 (C r ((n - 1) / 4)) → z_gI 2 a v = z_gI 2 a u) ∧ z_gI 2 (K 3 (C r ((n - 1) / 4))) v = nI ((n - 1) % 4) ∧
  z_gI 14 (K 11 l) v = 0 ∧ z_gI 15 (K 11 l) v = 0 ∧ (∀ f a, f ≠ 3 → (f ≠ 22 ∨ a ≠ K 16 r) → z_gR f a v = z_gR f a u) ∧ z_gR 22 (K 16 r) v = some (K 3 (C r ((n - 2) / 4))) ∧
  (∀ a, ((n - 1) % 4 = 0 → a ≠ K 3 (C r ((n - 1) / 4 - 1))) → z_gR 3 a v = z_gR 3 a u) ∧ ((n - 1) % 4 = 0 → z_gR 3 (K 3 (C r ((n - 1) / 4 - 1))) v = none) ∧ (∀ a i, z_aR a i v = z_aR a i u) ∧
  (∀ a i, ¬ (a = K 4 (C r ((n - 2) / 4)) ∧ i = (n - 2) % 4) → z_aI a i v = z_aI a i u) ∧ z_aI (K 4 (C r ((n - 2) / 4))) ((n - 2) % 4) v = 3
theorem q_gap2 {post : z_St → Prop} {l r : Nat} (h : q_W t0 N M S C E nb nm md K u) (hN : N ≤ 64) (hl : l < 3) (hr : r < 48) (hbz : ¬ M 20 l = 0) (hlr : M 23 l = nI r) (h2 : 2 ≤ S r) (hq : z_gI 13 (K 11 l) u = 2) (kk : ∀ v, q_G2 K l r (S r) C u v → post v) : w_X2_lengthenGap post ti mi (K 11 l) u := by
  obtain ⟨a1, a2, a3, a4, a5, a6, a7, a8, a9, a10, a11, a12⟩ := h
  have hlv : q_lv M r := Or.inr (a4.l23 hl hr hbz hlr)
  have hSN := (a2.1 r hr).2
  have e12 : z_gR 12 (K 11 l) u = some (K 16 r) := by rw [((a10 l hl).2 hbz).2.2.2.1, hlr, q_rf_s K hr]
  obtain ⟨r21, r22, -⟩ := a11 r hr hlv
  rw [if_neg (by omega)] at r21 r22
  have hvr : q_vd M nm 16 r := Or.inr (Or.inr ⟨rfl, hr, hlv⟩)
  have hk16 := a5.r hr hlv
  have hkb : (S r - 1) / 4 < q_nb (S r) := by unfold q_nb; omega
  have hkb2 : (S r - 2) / 4 < q_nb (S r) := by unfold q_nb; omega
  have hB := a2.2.2.1 r _ hr hkb
  have hB2 := a2.2.2.1 r _ hr hkb2
  have v3 : ∀ k, k < q_nb (S r) → q_vd M nm 3 (C r k) := fun k hk => Or.inl ⟨by omega, a2.2.2.1 r k hr hk⟩
  have hk3 : ∀ k, k < q_nb (S r) → z_kd (K 3 (C r k)) u = 2 := fun k hk => a5.k 3 _ (by omega) (show C r k < 40 from a2.2.2.1 r k hr hk)
  have hcnt : z_gI 2 (K 3 (C r ((S r - 1) / 4))) u = nI ((S r - 1) % 4 + 1) := by
    rw [a7.1 _ hB, a2.2.2.2.1 r _ hr hkb]; congr 1; omega
  have p4 := a6.2.2.2.1
  have n3_16 : ∀ k, k < q_nb (S r) → K 3 (C r k) ≠ K 16 r := fun k hk => a5.ne (v3 k hk) hvr (Or.inl (by omega))
  -- the end, once the last entry is dropped
  have fin : ∀ v0 : z_St, (∀ a, z_kd a v0 = z_kd a u) → (∀ a, z_ln a v0 = z_ln a u) → (∀ f a, f ≠ 2 → z_gI f a v0 = z_gI f a u) → (∀ a, a ≠ K 3 (C r ((S r - 1) / 4)) → z_gI 2 a v0 = z_gI 2 a u) → z_gI 2 (K 3 (C r ((S r - 1) / 4))) v0 = nI ((S r - 1) % 4) →
      (∀ f a, f ≠ 3 → (f ≠ 22 ∨ a ≠ K 16 r) → z_gR f a v0 = z_gR f a u) → z_gR 22 (K 16 r) v0 = some (K 3 (C r ((S r - 2) / 4))) → (∀ a, ((S r - 1) % 4 = 0 → a ≠ K 3 (C r ((S r - 1) / 4 - 1))) → z_gR 3 a v0 = z_gR 3 a u) → ((S r - 1) % 4 = 0 → z_gR 3 (K 3 (C r ((S r - 1) / 4 - 1))) v0 = none) → (∀ a i, z_aR a i v0 = z_aR a i u) → (∀ a i, z_aI a i v0 = z_aI a i u) →
      (∃ a5 : Nat, z_gR 12 (K 11 l) v0 = some a5 ∧ z_kd a5 v0 = 6 ∧ (w_X4_makeLastEntryGap (fun u6 => (w_X2_lengthenGap_32 post ti mi (K 11 l) u6 )) ti mi a5 v0 )) := fun v0 k1 k2 k3 k4 k5 k6 k7 k8 k9 k10 k11 => by
    refine ⟨_, (k6 12 _ (by omega) (Or.inl (by omega))).trans e12, (k1 _).trans hk16, ?_⟩
    unfold w_X4_makeLastEntryGap
    rw [k7]
    have hc2 : z_gI 2 (K 3 (C r ((S r - 2) / 4))) v0 = nI ((S r - 2) % 4 + 1) := by
      by_cases q : (S r - 2) / 4 = (S r - 1) / 4
      · rw [q, k5]; congr 1; omega
      · have : K 3 (C r ((S r - 2) / 4)) ≠ K 3 (C r ((S r - 1) / 4)) := fun e => by
          have e1 := (a5.2.2.2 _ _ _ _ (v3 _ hkb2) (v3 _ hkb) e).2
          exact q (a2.2.2.2.2.2.2.2.1 r _ r _ hr hkb2 hr hkb e1).2
        rw [k4 _ this, a7.1 _ hB2, a2.2.2.2.1 r _ hr hkb2]
        congr 1; omega
    refine ⟨fun z => (by cases z), fun _ => ⟨_, rfl, (k1 _).trans (hk3 _ hkb2), ?_⟩⟩
    rw [hc2]
    refine ⟨fun z => absurd z (nI_nle (by omega) (by omega)), fun _ => ⟨_, (k6 0 _ (by omega) (Or.inl (by omega))).trans (p4 _ hB2).1, (k1 _).trans (a5.k 4 _ (by omega) (show C r ((S r - 2) / 4) < 40 from hB2)), ?_, ?_⟩⟩
    · rw [k2, a5.l 4 _ (by omega) (show C r ((S r - 2) / 4) < 40 from hB2) (by decide), nI_pred]
      exact vp_in_nI (n := (S r - 2) % 4) (N := 4) (by omega) (by omega)
    · rw [nI_pred, q_c (n := (S r - 2) % 4) (by omega)]
      refine kk _ ⟨k1, k2, fun f a hf hfa => ?_, fun a ha => k4 a ha, k5, ?_, ?_, k6, k7, k8, k9, k10, fun a i hai => ?_, ?_⟩
      · rw [← k3 f a hf]
        rcases hfa with w | w <;> simp [z_gI, z_pI, z_sI, z_up, w]
      · simp [z_gI, z_pI, z_sI, z_up]
      · simp [z_gI, z_pI, z_sI, z_up]
      · rw [← k11]
        simp [z_aI, z_pI, z_sI, z_up, hai]
      · simp [z_aI, z_pI, z_sI, z_up]
  refine ⟨fun z => absurd hq z, fun _ => ⟨_, e12, hk16, ?_⟩⟩
  unfold w_X4_dropLastEntry
  rw [r22]
  refine ⟨fun _ => ⟨_, rfl, hk3 _ hkb, ?_⟩, fun z => (by cases z)⟩
  rw [hcnt, nI_pred]
  have e2 : z_gI 2 (K 3 (C r ((S r - 1) / 4))) (z_pI 2 (K 3 (C r ((S r - 1) / 4))) (nI ((S r - 1) % 4)) u) = nI ((S r - 1) % 4) := by simp [z_gI, z_pI, z_up]
  rw [e2]
  have f3 : ∀ f a, f ≠ 2 → z_gI f a (z_pI 2 (K 3 (C r ((S r - 1) / 4))) (nI ((S r - 1) % 4)) u) = z_gI f a u := fun f a hf => by simp [z_gI, z_pI, z_up, hf]
  have f4 : ∀ a, a ≠ K 3 (C r ((S r - 1) / 4)) → z_gI 2 a (z_pI 2 (K 3 (C r ((S r - 1) / 4))) (nI ((S r - 1) % 4)) u) = z_gI 2 a u := fun a ha => by simp [z_gI, z_pI, z_up, ha]
  refine ⟨fun hm => ?_, fun hm => ?_⟩
  · have hm' : ¬ (S r - 1) % 4 = 0 := fun q => hm (by rw [q]; rfl)
    have e3 : (S r - 2) / 4 = (S r - 1) / 4 := by omega
    exact fin _ (fun _ => rfl) (fun _ => rfl) f3 f4 e2 (fun _ _ _ _ => rfl) (by rw [e3]; exact r22) (fun _ _ => rfl) (fun q => absurd q hm') (fun _ _ => rfl) (fun _ _ => rfl)
  · have hm' : (S r - 1) % 4 = 0 := by
      apply Decidable.byContradiction
      intro q
      exact nI_ne0 (n := (S r - 1) % 4) (by omega) (by omega) hm
    have e3 : (S r - 2) / 4 = (S r - 1) / 4 - 1 := by omega
    have hk0 : 0 < (S r - 1) / 4 := by omega
    -- the walk to the block before the last
    have key : ∀ d k, k + d = (S r - 1) / 4 → ∀ x1 : Option Nat, (0 < k → x1 = some (K 3 (C r (k - 1)))) → w_X4_dropLastBlock_7 (fun u4 => (∃ a5 : Nat, z_gR 12 (K 11 l) u4 = some a5 ∧ z_kd a5 u4 = 6 ∧ (w_X4_makeLastEntryGap (fun u6 => (w_X2_lengthenGap_32 post ti mi (K 11 l) u6 )) ti mi a5 u4 ))) ti mi (K 16 r) (d + 1) (z_pI 2 (K 3 (C r ((S r - 1) / 4))) (nI ((S r - 1) % 4)) u) x1 (some (K 3 (C r k))) := by
      intro d
      induction d with
      | zero =>
        intro k hk x1 hx1
        have hkk : k = (S r - 1) / 4 := by omega
        subst hkk
        have hx := hx1 hk0
        refine ⟨fun z => (by cases z), fun _ => ⟨fun _ => ?_, fun z => absurd r22.symm z⟩⟩
        rw [hx]
        have hpk : (S r - 1) / 4 - 1 < q_nb (S r) := by omega
        refine ⟨fun _ => ⟨_, rfl, hk3 _ hpk, ?_⟩, fun z => (by cases z)⟩
        have np := n3_16 _ hpk
        refine fin _ (fun _ => rfl) (fun _ => rfl) f3 f4 e2 (fun f a h1 h3 => ?_) ?_ (fun a ha => ?_) (fun _ => ?_) (fun _ _ => rfl) (fun _ _ => rfl)
        · rcases h3 with q | q <;> simp [z_gR, z_pR, z_pI, z_up, h1, q]
        · rw [e3]; simp [z_gR, z_pR, z_pI, z_up]
        · have := ha hm'
          simp [z_gR, z_pR, z_pI, z_up, this]
        · simp [z_gR, z_pR, z_pI, z_up]
      | succ d ih =>
        intro k hk x1 hx1
        have hkn : k < q_nb (S r) := by omega
        have hne : K 3 (C r k) ≠ K 3 (C r ((S r - 1) / 4)) := fun e => by
          have e1 := (a5.2.2.2 _ _ _ _ (v3 _ hkn) (v3 _ hkb) e).2
          have := (a2.2.2.2.2.2.2.2.1 r _ r _ hr hkn hr hkb e1).2
          omega
        refine ⟨fun z => (by cases z), fun _ => ⟨fun z => ?_, fun _ => ⟨_, rfl, hk3 _ hkn, ?_⟩⟩⟩
        · have z2 : some (K 3 (C r k)) = some (K 3 (C r ((S r - 1) / 4))) := z.trans r22
          exact absurd (Option.some.inj z2) hne
        · have e4 : z_gR 3 (K 3 (C r k)) (z_pI 2 (K 3 (C r ((S r - 1) / 4))) (nI ((S r - 1) % 4)) u) = some (K 3 (C r (k + 1))) := by
            show z_gR 3 (K 3 (C r k)) u = _
            rw [a7.2.2.1 r k hr hkn, if_pos (by omega)]
          rw [e4]
          exact ih (k + 1) (by omega) _ (fun _ => rfl)
    refine ⟨(S r - 1) / 4 + 1, ?_⟩
    have e5 : z_gR 21 (K 16 r) (z_pI 2 (K 3 (C r ((S r - 1) / 4))) (nI ((S r - 1) % 4)) u) = some (K 3 (C r 0)) := r21
    rw [e5]
    exact key ((S r - 1) / 4) 0 (by omega) none (fun q => by omega)
def q_G3 (K : Nat → Nat → Nat) (l r n g : Nat) (C : Nat → Nat → Nat) (u v : z_St) : Prop :=
  (∀ a, z_kd a v = z_kd a u) ∧ (∀ a, z_ln a v = z_ln a u) ∧ (∀ f a, ((f ≠ 14 ∧ f ≠ 15) ∨ a ≠ K 11 l) → z_gI f a v = z_gI f a u) ∧ z_gI 14 (K 11 l) v = 0 ∧ z_gI 15 (K 11 l) v = 0 ∧ (∀ f a, z_gR f a v = z_gR f a u) ∧ (∀ a i, z_aR a i v = z_aR a i u) ∧
  (∀ a i, ¬ (a = K 4 (C r ((n - 1) / 4)) ∧ i = (n - 1) % 4) → z_aI a i v = z_aI a i u) ∧ z_aI (K 4 (C r ((n - 1) / 4))) ((n - 1) % 4) v = nI (g + 1)
theorem q_gap3 {post : z_St → Prop} {l r g : Nat} (h : q_W t0 N M S C E nb nm md K u) (hN : N ≤ 64) (hl : l < 3) (hr : r < 48) (hbz : ¬ M 20 l = 0) (hlr : M 23 l = nI r) (h1 : 1 ≤ S r) (hg : (E r (S r - 1)).1 = nI g) (hq : ¬ z_gI 13 (K 11 l) u = 2) (kk : ∀ v, q_G3 K l r (S r) g C u v → post v) : w_X2_lengthenGap post ti mi (K 11 l) u := by
  obtain ⟨a1, a2, a3, a4, a5, a6, a7, a8, a9, a10, a11, a12⟩ := h
  have hlv : q_lv M r := Or.inr (a4.l23 hl hr hbz hlr)
  have hSN := (a2.1 r hr).2
  have e12 : z_gR 12 (K 11 l) u = some (K 16 r) := by rw [((a10 l hl).2 hbz).2.2.2.1, hlr, q_rf_s K hr]
  obtain ⟨r21, r22, -⟩ := a11 r hr hlv
  rw [if_neg (by omega)] at r21 r22
  have hkb : (S r - 1) / 4 < q_nb (S r) := by unfold q_nb; omega
  have hB := a2.2.2.1 r _ hr hkb
  have hcnt : z_gI 2 (K 3 (C r ((S r - 1) / 4))) u = nI ((S r - 1) % 4 + 1) := by
    rw [a7.1 _ hB, a2.2.2.2.1 r _ hr hkb]; congr 1; omega
  have p4 := a6.2.2.2.1
  have hv : vp_in (nI ((S r - 1) % 4)) (z_ln (K 4 (C r ((S r - 1) / 4))) u) := by
    rw [a5.l 4 _ (by omega) (show C r ((S r - 1) / 4) < 40 from hB) (by decide)]
    exact vp_in_nI (n := (S r - 1) % 4) (N := 4) (by omega) (by omega)
  have e4 := (a7.2.2.2 r (S r - 1) hr (by omega)).1
  rw [hg] at e4
  refine ⟨fun _ => ⟨_, e12, a5.r hr hlv, ?_⟩, fun z => absurd z hq⟩
  unfold w_X4_lengthenLastEntry
  rw [r22]
  refine ⟨fun z => (by cases z), fun _ => ⟨_, rfl, a5.k 3 _ (by omega) (show C r ((S r - 1) / 4) < 40 from hB), ?_⟩⟩
  rw [hcnt, nI_pred]
  refine ⟨fun z => absurd z (nI_nle (by omega) (by omega)), fun _ => ⟨_, (p4 _ hB).1, a5.k 4 _ (by omega) (show C r ((S r - 1) / 4) < 40 from hB), hv, hv, ?_⟩⟩
  rw [q_c (n := (S r - 1) % 4) (by omega), e4, nI_1]
  refine kk _ ⟨fun _ => rfl, fun _ => rfl, fun f a hfa => ?_, ?_, ?_, fun _ _ => rfl, fun _ _ => rfl, fun a i hai => ?_, ?_⟩
  · rcases hfa with w | w <;> simp [z_gI, z_pI, z_sI, z_up, w]
  · simp [z_gI, z_pI, z_sI, z_up]
  · simp [z_gI, z_pI, z_sI, z_up]
  · simp [z_aI, z_pI, z_sI, z_up, hai]
  · simp [z_aI, z_pI, z_sI, z_up]
end OH
