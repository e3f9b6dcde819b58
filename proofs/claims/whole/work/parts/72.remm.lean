/-! a message less, both sides -/
def q_sk (m j : Nat) : Nat := if j < m then j else j + 1
theorem q_sk_lt {m j n : Nat} (h : j + 1 < n) : q_sk m j < n := by unfold q_sk; split <;> omega
theorem q_sk_ne (m j : Nat) : q_sk m j ≠ m := by unfold q_sk; split <;> omega
theorem q_sk_mono {m i j : Nat} (h : i < j) : q_sk m i < q_sk m j := by unfold q_sk; split <;> split <;> omega
theorem q_sk_inj {m i j : Nat} (h : q_sk m i = q_sk m j) : i = j := by
  rcases Nat.lt_trichotomy i j with q | q | q
  · have := q_sk_mono (m := m) q; omega
  · exact q
  · have := q_sk_mono (m := m) q; omega
theorem q_ct_sk (p : Nat → Bool) (m : Nat) : ∀ n, m ≤ n → fb_ct (fun j => p (q_sk m j)) n + (if p m then 1 else 0) = fb_ct p (n + 1) := by
  intro n
  induction n with
  | zero =>
    intro h
    have : m = 0 := by omega
    subst this
    rw [fb_ct_succ]
    rfl
  | succ n ih =>
    intro h
    by_cases q : m = n + 1
    · subst q
      rw [fb_ct_succ p (n + 1), fb_ct_cong (q := p) (fun k hk => by unfold q_sk; rw [if_pos hk])]
    · rw [fb_ct_succ p (n + 1), ← ih (by omega), fb_ct_succ]
      have : q_sk m n = n + 1 := by unfold q_sk; rw [if_neg (by omega)]
      rw [this]
      omega
section OL
variable {t0 ti mi nb nm md N N' : Nat} {pn pn' : Nat → Nat} {M M' : z_Md} {S S' : Nat → Nat} {C C' : Nat → Nat → Nat} {E E' : Nat → Nat → Int32 × Int32} {K K' : Nat → Nat → Nat} {u u' : z_St}
/-- the reference behind the moves: from j = m up to k -/
def q_sM (M : z_Md) (m k : Nat) : z_Md := fun f j => if 15 ≤ f ∧ f ≤ 19 ∧ m ≤ j ∧ j < k then M f (j + 1) else M f j
theorem q_sM_0 (M : z_Md) (m : Nat) : q_sM M m m = M := by
  funext f j
  exact if_neg (by omega)
theorem q_sM_s (M : z_Md) {m k : Nat} (h : m ≤ k) : z_up (z_up (z_up (z_up (z_up (q_sM M m k) 15 k (M 15 (k + 1))) 16 k (M 16 (k + 1))) 17 k (M 17 (k + 1))) 18 k (M 18 (k + 1))) 19 k (M 19 (k + 1)) = q_sM M m (k + 1) := by
  funext f j
  simp only [z_up_e]
  unfold q_sM
  by_cases hj : j = k
  · subst hj
    by_cases h5 : f = 19
    · subst h5; rw [if_pos ⟨rfl, rfl⟩, if_pos (by omega)]
    · rw [if_neg (fun q => h5 q.1)]
      by_cases h4 : f = 18
      · subst h4; rw [if_pos ⟨rfl, rfl⟩, if_pos (by omega)]
      · rw [if_neg (fun q => h4 q.1)]
        by_cases h3 : f = 17
        · subst h3; rw [if_pos ⟨rfl, rfl⟩, if_pos (by omega)]
        · rw [if_neg (fun q => h3 q.1)]
          by_cases h2 : f = 16
          · subst h2; rw [if_pos ⟨rfl, rfl⟩, if_pos (by omega)]
          · rw [if_neg (fun q => h2 q.1)]
            by_cases h1 : f = 15
            · subst h1; rw [if_pos ⟨rfl, rfl⟩, if_pos (by omega)]
            · rw [if_neg (fun q => h1 q.1), if_neg (by omega), if_neg (by omega)]
  · rw [if_neg (fun q => hj q.2), if_neg (fun q => hj q.2), if_neg (fun q => hj q.2), if_neg (fun q => hj q.2), if_neg (fun q => hj q.2)]
    by_cases c : 15 ≤ f ∧ f ≤ 19 ∧ m ≤ j ∧ j < k
    · rw [if_pos c, if_pos (by omega)]
    · rw [if_neg c, if_neg (by omega)]
theorem q_shiftM {post : Int32 → z_Md → Prop} {m n : Nat} {v : Int32} (hn : n < 16) (h13 : M 13 0 = nI n) (hm : m ≤ n) (h : post v (q_sM M m n)) : ∃ n0, w_X7_erase_63 post n0 M v (nI m) := by
  have key : ∀ d k, k + d = n → m ≤ k → w_X7_erase_63 post (d + 1) (q_sM M m k) v (nI k) := by
    intro d
    induction d with
    | zero =>
      intro k hk hmk
      have : k = n := by omega
      subst this
      have e13 : q_sM M m k 13 0 = nI k := h13
      refine ⟨fun _ => h, fun q => absurd ?_ q⟩
      rw [e13]; exact nI_le (by omega) (by omega)
    | succ d ih =>
      intro k hk hmk
      have e13 : q_sM M m k 13 0 = nI n := h13
      have hv : vp_in (nI k) 16 := vp_in_nI (by omega) (by omega)
      have hv1 : vp_in (nI k + 1) 16 := by rw [nI_1]; exact vp_in_nI (by omega) (by omega)
      have hc : (nI k).toNatClampNeg = k := q_c (by omega)
      have hc1 : (nI k + 1).toNatClampNeg = k + 1 := by rw [nI_1]; exact q_c (by omega)
      refine ⟨fun q => ?_, fun _ => ⟨hv1, hv, hv1, hv, hv1, hv, hv1, hv, hv1, hv, ?_⟩⟩
      · rw [e13] at q; exact absurd q (nI_ge (by omega) (by omega))
      · have e : ∀ f, q_sM M m k f (k + 1) = M f (k + 1) := fun f => if_neg (by omega)
        show w_X7_erase_63 post (d + 1) (z_up (z_up (z_up (z_up (z_up (q_sM M m k) 15 (nI k).toNatClampNeg (q_sM M m k 15 (nI k + 1).toNatClampNeg)) 16 (nI k).toNatClampNeg (q_sM M m k 16 (nI k + 1).toNatClampNeg)) 17 (nI k).toNatClampNeg (q_sM M m k 17 (nI k + 1).toNatClampNeg)) 18 (nI k).toNatClampNeg (q_sM M m k 18 (nI k + 1).toNatClampNeg)) 19 (nI k).toNatClampNeg (q_sM M m k 19 (nI k + 1).toNatClampNeg)) v (nI k + 1)
        rw [hc, hc1, e, e, e, e, e, q_sM_s M hmk, nI_1]
        exact ih (k + 1) (by omega) (by omega)
  have := key (n - m) m (by omega) (Nat.le_refl m)
  rw [q_sM_0] at this
  exact ⟨_, this⟩
/-- the list without its m-th entry -/
def q_RL (L R m n : Nat) (u v : z_St) : Prop :=
  (∀ x, z_kd x v = z_kd x u) ∧ (∀ x, z_ln x v = z_ln x u) ∧ (∀ x i, z_aI x i v = z_aI x i u) ∧ (∀ f x, z_gR f x v = z_gR f x u) ∧ (∀ f x, ((f ≠ 37 ∧ f ≠ 35) ∨ x ≠ L) → z_gI f x v = z_gI f x u) ∧ (∀ x i, x ≠ R → z_aR x i v = z_aR x i u) ∧ z_gI 37 L v = nI (n - 1) ∧ ∀ j, j < n - 1 → z_aR R j v = z_aR R (q_sk m j) u
theorem q_remove {post : Option Nat → z_St → Prop} {L R m n : Nat} (hn : n ≤ 16) (hm : m < n) (h36 : z_gR 36 L u = some R) (h37 : z_gI 37 L u = nI n) (hR : z_kd R u = 15) (hl : n ≤ z_ln R u ∧ z_ln R u ≤ 22) (hr : ∀ j, j < n → ∃ y, z_aR R j u = some y ∧ z_kd y u = 5) (kk : ∀ v, q_RL L R m n u v → post (z_aR R m u) v) : w_Jx4a65c_remove_915e3 post t0 mi L u (nI m) := by
  have hlnR : z_ln R u < 2147483648 := by omega
  have hcm : (nI m).toNatClampNeg = m := q_c (by omega)
  refine ⟨fun hh => absurd hh (nI_pos (by omega)), fun _ => ⟨fun _ => ⟨R, h36, hR, vp_in_nI (by omega) hlnR, ?_⟩, fun hh => ?_⟩⟩
  · rw [hcm, h36]
    intro x3 ex3
    have e1 : z_gI 37 L u - 1 = nI (n - 1) := by rw [h37]; exact pk_sub (b := 1) (by omega)
    rw [e1] at ex3
    rw [e1, ex3]
    have tail : ∀ w : z_St, (∀ x, z_kd x w = z_kd x u) → (∀ x, z_ln x w = z_ln x u) → (∀ x i, z_aI x i w = z_aI x i u) → (∀ f x, z_gR f x w = z_gR f x u) → (∀ f x, (f ≠ 35 ∨ x ≠ L) → z_gI f x w = z_gI f x u) → (∀ x i, x ≠ R → z_aR x i w = z_aR x i u) → (∀ j, j < n - 1 → z_aR R j w = z_aR R (q_sk m j) u) → w_Jx4a65c_fastRemove_b59b0_34 (fun u3 => post (z_aR R m u) u3) t0 mi L w (some R) (nI (n - 1)) := fun w c1 c2 c3 c4 c5 c6 c7 => by
      refine ⟨R, rfl, (c1 R).trans hR, by rw [c2]; exact vp_in_nI (by omega) hlnR, ?_⟩
      rw [q_c (n := n - 1) (by omega)]
      refine kk _ ⟨c1, c2, c3, c4, fun f x h => ?_, fun x i h => ?_, ?_, fun j hj => ?_⟩
      · rw [← c5 f x (by rcases h with h | h; exact Or.inl h.2; exact Or.inr h)]
        rcases h with ⟨h1, h2⟩ | h
        · simp [z_gI, z_pI, z_sR, z_up, h1]
        · simp [z_gI, z_pI, z_sR, z_up, h]
      · rw [← c6 x i h]
        simp [z_aR, z_pI, z_sR, z_up, h]
      · simp [z_gI, z_pI, z_sR, z_up]
      · rw [← c7 j hj]
        have : ¬ j = n - 1 := by omega
        simp [z_aR, z_pI, z_sR, z_up, this]
    refine ⟨fun hle => ?_, fun hle => ⟨R, rfl, hR, ?_⟩⟩
    · have hle' : n - 1 ≤ m := (nI_leI (a := n - 1) (b := m) (by omega) (by omega)).mp hle
      refine tail _ (fun _ => rfl) (fun _ => rfl) (fun _ _ => rfl) (fun _ _ => rfl) (fun f x h => ?_) (fun _ _ _ => rfl) (fun j hj => ?_)
      · rcases h with h | h <;> simp [z_gI, z_pI, z_up, h]
      · unfold q_sk
        rw [if_pos (by omega)]
        rfl
    · have hlt : m < n - 1 := by
        apply Decidable.byContradiction
        intro q
        exact hle (nI_le (by omega) (by omega))
      have es : nI (n - 1) - nI m = nI (n - 1 - m) := pk_sub (by omega)
      rw [nI_1, es, q_c (n := m + 1) (by omega), q_c (n := n - 1 - m) (by omega), hcm]
      refine ⟨nI_pos (by omega), nI_pos (by omega), nI_pos (by omega), by omega, by omega, fun i hi y hy => ?_, ?_⟩
      · obtain ⟨y', g1, g2⟩ := hr (m + 1 + i) (by omega)
        rw [g1] at hy
        have : y' = y := Option.some.inj hy
        subst this
        exact g2
      · refine tail _ (fun _ => rfl) (fun _ => rfl) (fun _ _ => rfl) (fun _ _ => rfl) (fun f x h => ?_) (fun x i h => ?_) (fun j hj => ?_)
        · rcases h with h | h <;> simp [z_gI, z_pI, z_cR, z_up, h]
        · simp [z_aR, z_cR, z_pI, h]
        · have e : z_aR R j (z_cR R R (m + 1) m (n - 1 - m) (z_pI 35 L (z_gI 35 L u + 1) u)) = va_cpy (fun i => z_aR R i u) (fun i => z_aR R i u) (m + 1) m (n - 1 - m) j := if_pos rfl
          rw [e]
          unfold q_sk
          by_cases q : j < m
          · rw [if_pos q, pk_cpy_out (Or.inl q)]
          · rw [if_neg q, pk_cpy_in (by omega) (by omega)]
            congr 1; omega
  · rw [h37] at hh
    exact absurd (nI_lt (by omega) (by omega)) hh
theorem q_Wp.remm {m : Nat} (h : q_Wp pn t0 N M S C E nb nm md K u) (hm : m < nm) (hpn : ∀ x, x < 48 → pn' x = pn x + (if M 18 m = nI x then 1 else 0) + (if M 19 m = nI x then 1 else 0)) (hb : ∀ x, x < 48 → pn' x ≤ 3) (mf : ∀ f, f ≠ 13 → f ≠ 15 → f ≠ 16 → f ≠ 17 → f ≠ 18 → f ≠ 19 → M' f = M f) (m13 : M' 13 0 = nI (nm - 1)) (ms : ∀ f j, 15 ≤ f → f ≤ 19 → j < nm - 1 → M' f j = M f (q_sk m j)) (hU : q_RL (K 13 0) (K 14 0) m nm u u') :
    q_Wp pn' t0 N M' S C E nb (nm - 1) md (fun f j => if f = 15 then K 15 (q_sk m j) else K f j) u' := by
  obtain ⟨w1, w2, w3, w4, w5, w6, w7, w8⟩ := hU
  obtain ⟨a1, a2, a3, a4, a5, a6, a7, a8, a9, a10, a11, a12⟩ := h
  have hn16 := a3.2.1.2
  generalize hKK : (fun f j => if f = 15 then K 15 (q_sk m j) else K f j) = K'
  have kf : ∀ f, f ≠ 15 → K' f = K f := fun f h1 => by rw [← hKK]; funext j; exact if_neg h1
  have k15 : ∀ j, K' 15 j = K 15 (q_sk m j) := fun j => by rw [← hKK]; exact if_pos rfl
  have mlow : ∀ f, f ≤ 12 → M' f = M f := fun f hf => mf f (by omega) (by omega) (by omega) (by omega) (by omega) (by omega)
  have mhi : ∀ f, 20 ≤ f → M' f = M f := fun f hf => mf f (by omega) (by omega) (by omega) (by omega) (by omega) (by omega)
  have e14 := mf 14 (by omega) (by omega) (by omega) (by omega) (by omega) (by omega)
  have e20 := mhi 20 (by omega)
  have e22 := mhi 22 (by omega)
  have v0 : ∀ f j, f ≤ 14 → j < q_fs f → q_vd M nm f j := fun f j h1 h2 => Or.inl ⟨h1, h2⟩
  have sk : ∀ j, j < nm - 1 → q_sk m j < nm := fun j hj => q_sk_lt (by omega)
  have hlv : ∀ x, q_lv M' x ↔ q_lv M x := fun x => by unfold q_lv; rw [mlow 6 (by omega), mlow 7 (by omega)]
  have hvd : ∀ f j, q_vd M' (nm - 1) f j → (f ≠ 15 ∧ q_vd M nm f j) ∨ (f = 15 ∧ j < nm - 1) := fun f j hv => by
    rcases hv with z | ⟨z1, z2⟩ | ⟨z1, z2, z3⟩
    · exact Or.inl ⟨by omega, Or.inl z⟩
    · exact Or.inr ⟨z1, z2⟩
    · exact Or.inl ⟨by omega, Or.inr (Or.inr ⟨z1, z2, (hlv j).mp z3⟩)⟩
  have gI' : ∀ f f' j, q_vd M nm f' j → (f' ≠ 13 ∨ (f ≠ 37 ∧ f ≠ 35)) → z_gI f (K f' j) u' = z_gI f (K f' j) u := fun f f' j hv h2 => w5 f _ (by
      rcases h2 with w | w
      · exact Or.inr (a5.ne hv (v0 13 0 (by omega) (by decide)) (Or.inl w))
      · exact Or.inl w)
  have gB' : ∀ f' j i, q_vd M nm f' j → f' ≠ 14 → z_aR (K f' j) i u' = z_aR (K f' j) i u := fun f' j i hv h2 => w6 _ i (a5.ne hv (v0 14 0 (by omega) (by decide)) (Or.inl h2))
  refine ⟨?_, a2.fr (mlow 2 (by omega)) (mlow 3 (by omega)) (mlow 4 (by omega)) (mlow 5 (by omega)) (mlow 8 (by omega)) (mlow 9 (by omega)), ?_, ?_, ?_, ?_, ?_, ?_, ?_, fun l hl => ?_, ?_, ?_⟩
  · unfold q_stp; rw [mlow 1 (by omega)]; exact a1
  · refine ⟨by rw [mlow 10 (by omega)]; exact a3.1, ⟨m13, by omega⟩, by rw [e14]; exact a3.2.2.1, fun j hj => ?_, fun j j' h1 h2 => ?_, by rw [mlow 12 (by omega)]; exact a3.2.2.2.2.2.1, fun l hl => ?_, ?_⟩
    · rw [ms 15 j (by omega) (by omega) hj, ms 16 j (by omega) (by omega) hj, ms 18 j (by omega) (by omega) hj, ms 19 j (by omega) (by omega) hj]
      exact a3.2.2.2.1 _ (sk j hj)
    · rw [ms 15 j (by omega) (by omega) (by omega), ms 15 j' (by omega) (by omega) h2]
      exact a3.2.2.2.2.1 _ _ (q_sk_mono h1) (sk j' h2)
    · rw [e20, mhi 21 (by omega), e22, mhi 23 (by omega), mhi 24 (by omega), mhi 25 (by omega)]
      exact a3.2.2.2.2.2.2.1 l hl
    · have : q_spk M' = q_spk M := by unfold q_spk; rw [e20, e22]
      have := a3.2.2.2.2.2.2.2
      rw [‹q_spk M' = q_spk M›]; omega
  · refine ⟨fun x hx => ?_, by rw [mlow 7 (by omega), e20, mhi 23 (by omega)]; exact a4.2.1, by rw [e20, mhi 23 (by omega)]; exact a4.2.2.1, by rw [mlow 6 (by omega), mlow 7 (by omega)]; exact a4.2.2.2.1, by rw [mlow 6 (by omega), mlow 7 (by omega)]; exact a4.2.2.2.2⟩
    obtain ⟨b1, b2⟩ := a4.1 x hx
    have hp := hpn x hx
    rw [mlow 6 (by omega)]
    refine ⟨?_, hb x hx⟩
    rw [b1]
    have e18 := q_ct_sk (fun j => decide (M 18 j = nI x)) m (nm - 1) (by omega)
    have e19 := q_ct_sk (fun j => decide (M 19 j = nI x)) m (nm - 1) (by omega)
    have f18 : fb_ct (fun j => decide (M' 18 j = nI x)) (nm - 1) = fb_ct (fun j => decide (M 18 (q_sk m j) = nI x)) (nm - 1) := fb_ct_cong (fun k hk => by rw [ms 18 k (by omega) (by omega) hk])
    have f19 : fb_ct (fun j => decide (M' 19 j = nI x)) (nm - 1) = fb_ct (fun j => decide (M 19 (q_sk m j) = nI x)) (nm - 1) := fb_ct_cong (fun k hk => by rw [ms 19 k (by omega) (by omega) hk])
    have hnn : nm - 1 + 1 = nm := by omega
    rw [hnn] at e18 e19
    simp only [decide_eq_true_eq] at e18 e19
    unfold q_rfs
    rw [f18, f19, mlow 12 (by omega)]
    congr 1
    omega
  · refine ⟨fun f j hv hn => ?_, fun f j h1 h2 h3 => ?_, ?_, fun f j f' j' hv hv' e => ?_⟩
    · rw [w1]
      rcases hvd f j hv with ⟨z1, z⟩ | ⟨rfl, z⟩
      · rw [kf f z1]; exact a5.1 f j z hn
      · rw [k15]; exact a5.1 15 _ (Or.inr (Or.inl ⟨rfl, sk j z⟩)) hn
    · rw [kf f (by omega), w2]
      exact a5.2.1 f j h1 h2 h3
    · rw [kf 14 (by omega), w1, w2]
      rcases a5.2.2.1 with ⟨z1, z2, z3⟩ | ⟨z1, z2, -⟩
      · exact Or.inl ⟨z1, by omega, z3⟩
      · omega
    · have old : ∀ f j, q_vd M' (nm - 1) f j → ∃ j2, q_vd M nm f j2 ∧ K' f j = K f j2 ∧ (f ≠ 15 → j2 = j) ∧ (f = 15 → j2 = q_sk m j) := fun f j hv => by
        rcases hvd f j hv with ⟨z1, z⟩ | ⟨rfl, z⟩
        · exact ⟨j, z, by rw [kf f z1], fun _ => rfl, fun q => absurd q z1⟩
        · exact ⟨_, Or.inr (Or.inl ⟨rfl, sk j z⟩), k15 j, fun q => absurd rfl q, fun _ => rfl⟩
      obtain ⟨j2, b1, b2, b3, b4⟩ := old f j hv
      obtain ⟨j3, c1, c2, c3, c4⟩ := old f' j' hv'
      rw [b2, c2] at e
      obtain ⟨rfl, e2⟩ := a5.2.2.2 f j2 f' j3 b1 c1 e
      refine ⟨rfl, ?_⟩
      by_cases q : f = 15
      · exact q_sk_inj ((b4 q).symm.trans (e2.trans (c4 q)))
      · exact (b3 q).symm.trans (e2.trans (c3 q))
  · have : q_wP K' u' := by
      have h0 := a6.fr (u' := u') (fun f x _ _ _ _ _ _ => w4 f x) (fun x j hx => ?_) (fun j => w3 _ _)
      · unfold q_wP
        rw [kf 0 (by omega), kf 1 (by omega), kf 2 (by omega), kf 3 (by omega), kf 4 (by omega), kf 5 (by omega), kf 6 (by omega), kf 7 (by omega), kf 8 (by omega), kf 9 (by omega), kf 10 (by omega), kf 11 (by omega), kf 12 (by omega), kf 13 (by omega), kf 14 (by omega)]
        exact h0
      · rcases hx with rfl | rfl | rfl
        · exact gB' 2 0 j (v0 2 0 (by omega) (by decide)) (by omega)
        · exact gB' 7 0 j (v0 7 0 (by omega) (by decide)) (by omega)
        · exact gB' 10 0 j (v0 10 0 (by omega) (by decide)) (by omega)
    exact this
  · exact (a7.fr (mlow 2 (by omega)) a2.2.2.1 (fun x hx => gI' 2 3 x (v0 3 x (by omega) hx) (Or.inl (by omega))) (fun x hx => w4 _ _) (fun x j hx => ⟨w3 _ _, w3 _ _⟩)).kk (kf 3 (by omega)) (kf 4 (by omega)) (kf 5 (by omega))
  · exact (a8.fr a3.1.2 (mlow 11 (by omega)) (mlow 12 (by omega)) (fun i hi => gI' 5 8 i (v0 8 i (by omega) hi) (Or.inl (by omega))) (fun i w hi => gB' 9 i w (v0 9 i (by omega) hi) (by omega))).kk (kf 8 (by omega)) (kf 9 (by omega)) (kf 16 (by omega))
  · have hrf : ∀ x, q_rf K' x = q_rf K x := fun x => by unfold q_rf; rw [kf 16 (by omega)]
    refine ⟨by rw [kf 13 (by omega)]; exact w7, fun j hj => ?_, fun j hj => ?_⟩
    · rw [kf 14 (by omega), k15, w8 j hj]; exact a9.2.1 _ (sk j hj)
    · rw [k15, ms 15 j (by omega) (by omega) hj, ms 16 j (by omega) (by omega) hj, ms 17 j (by omega) (by omega) hj, ms 18 j (by omega) (by omega) hj, ms 19 j (by omega) (by omega) hj, hrf, hrf]
      have hv : q_vd M nm 15 (q_sk m j) := Or.inr (Or.inl ⟨rfl, sk j hj⟩)
      obtain ⟨c1, c2, c3, c4, c5⟩ := a9.2.2 _ (sk j hj)
      exact ⟨(gI' _ 15 _ hv (Or.inl (by omega))).trans c1, (gI' _ 15 _ hv (Or.inl (by omega))).trans c2, (gI' _ 15 _ hv (Or.inl (by omega))).trans c3, (w4 _ _).trans c4, (w4 _ _).trans c5⟩
  · have hv := v0 11 l (by omega) hl
    refine ((a10 l hl).fr (u' := u') (M' := M') (S' := S) ?_ (fun z => by rw [e20] at z; exact z) (fun f h1 h2 => mhi f (by omega)) (fun _ _ _ _ => rfl) (fun f _ _ _ => gI' f 11 l hv (Or.inl (by omega))) (w4 _ _) (fun j => w3 _ _)).kk (kf 11 (by omega)) (kf 12 (by omega)) (kf 16 (by omega))
    rw [gI' 8 11 l hv (Or.inl (by omega)), e20]
    exact (a10 l hl).1
  · refine q_wR.kk (K := K) (fun x hx w => ?_) (kf 3 (by omega)) (kf 16 (by omega))
    have w' := (hlv x).mp w
    have hv : q_vd M nm 16 x := Or.inr (Or.inr ⟨rfl, hx, w'⟩)
    obtain ⟨c1, c2, c3, c4, c5⟩ := a11 x hx w'
    rw [mlow 6 (by omega)]
    exact ⟨(w4 _ _).trans c1, (w4 _ _).trans c2, (gI' _ 16 x hv (Or.inl (by omega))).trans c3, (gI' _ 16 x hv (Or.inl (by omega))).trans c4, (gI' _ 16 x hv (Or.inl (by omega))).trans c5⟩
  · have hv := v0 0 0 (by omega) (by decide)
    unfold q_wI q_hd
    rw [kf 0 (by omega), mlow 10 (by omega), mlow 6 (by omega), e14]
    exact ⟨(gI' 32 0 0 hv (Or.inl (by omega))).trans a12.1, (gI' 33 0 0 hv (Or.inl (by omega))).trans a12.2.1, (gI' 34 0 0 hv (Or.inl (by omega))).trans a12.2.2⟩
end OL
