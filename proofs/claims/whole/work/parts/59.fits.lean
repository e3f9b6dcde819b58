/-! the bank's frame: quiet or not, does it fit, what does it cost -/
theorem q_qt_iff (x : Nat → Int32) : ∀ n, q_qt x n = true ↔ ∀ j, j < n → ¬ x j < (-48) ∧ ¬ 48 < x j
  | 0 => ⟨fun _ j hj => by omega, fun _ => rfl⟩
  | n + 1 => by
    have ih := q_qt_iff x n
    show (q_qt x n && decide (¬ x n < (-48) ∧ ¬ 48 < x n)) = true ↔ _
    rw [Bool.and_eq_true, ih]
    constructor
    · rintro ⟨a, b⟩ j hj
      by_cases q : j = n
      · rw [q]; exact of_decide_eq_true b
      · exact a j (by omega)
    · intro a
      exact ⟨fun j hj => a j (by omega), decide_eq_true (a n (by omega))⟩
theorem q_ub_cong2 {M M' : z_Md} (S : Nat → Nat) (E : Nat → Nat → Int32 × Int32) (nm : Nat) (x : Int32) (h16 : M' 16 = M 16) (h18 : M' 18 = M 18) (h19 : M' 19 = M 19) (h20 : M' 20 = M 20) (h21 : M' 21 = M 21) (h22 : M' 22 = M 22) (h23 : M' 23 = M 23) : q_ub M' S E nm x = q_ub M S E nm x := by
  have e1 : ∀ k, q_um M' S E x k = q_um M S E x k := by
    intro k
    induction k with
    | zero => rfl
    | succ k ih => unfold q_um; rw [ih, h16, h18, h19]
  have e2 : ∀ i k, q_ul M' S E x i k = q_ul M S E x i k := by
    intro i k
    induction k with
    | zero => rfl
    | succ k ih => unfold q_ul q_spk; rw [ih, h20, h21, h22, h23]
  unfold q_ub
  rw [e1, e2]
theorem q_paid_25 (M : z_Md) (S : Nat → Nat) (E : Nat → Nat → Int32 × Int32) (nm l : Nat) (more : Int32) (y : Nat) (v : Int32) : q_paid (z_up M 25 y v) S E nm l more = q_paid M S E nm l more := by
  unfold q_paid
  have e : ∀ x, q_ub (z_up M 25 y v) S E nm x = q_ub M S E nm x := fun x => q_ub_cong2 S E nm x (z_up_f M y v (by omega)) (z_up_f M y v (by omega)) (z_up_f M y v (by omega)) (z_up_f M y v (by omega)) (z_up_f M y v (by omega)) (z_up_f M y v (by omega)) (z_up_f M y v (by omega))
  rw [e, z_up_f M y v (show 22 ≠ 25 by omega), z_up_f M y v (show 11 ≠ 25 by omega), z_up_f M y v (show 21 ≠ 25 by omega)]
section OF
variable {t0 ti mi nb nm md N : Nat} {M : z_Md} {S : Nat → Nat} {C : Nat → Nat → Nat} {E : Nat → Nat → Int32 × Int32} {K : Nat → Nat → Nat} {u : z_St} {px : String → z_St → Prop}
theorem q_isFrameQuiet {post : Int32 → z_St → Prop} {l : Nat} {x : Nat → Int32} (hl : l < 3) (h6 : z_gR 6 (K 11 l) u = some (K 12 l)) (hk : z_kd (K 12 l) u = 10) (hln : z_ln (K 12 l) u = 8) (hx : ∀ j, j < 8 → z_aI (K 12 l) j u = x j) (h : post (if q_qt x 8 = true then 1 else 0) u) : w_X2_isFrameQuiet post ti mi (K 11 l) u := by
  have key : ∀ d k, k + d = 8 → q_qt x k = true → w_X2_isFrameQuiet_2 post ti mi (K 11 l) (d + 1) u (nI k) := by
    intro d
    induction d with
    | zero =>
      intro k hk hq
      have : k = 8 := by omega
      subst this
      rw [if_pos hq] at h
      exact ⟨fun _ => h, fun hh => absurd (by decide) hh⟩
    | succ d ih =>
      intro k hk2 hq
      have hv : vp_in (nI k) (z_ln (K 12 l) u) := by rw [hln]; exact vp_in_nI (by omega) (by omega)
      have bad : ¬ (¬ x k < (-48) ∧ ¬ 48 < x k) → post 0 u := fun z => by
        have : ¬ q_qt x 8 = true := fun w => z ((q_qt_iff x 8).mp w k (by omega))
        rw [if_neg this] at h
        exact h
      refine ⟨fun hh => absurd hh (nI_ge (a := k) (b := 8) (by omega) (by omega)), fun _ => ⟨_, h6, hk, hv, ?_⟩⟩
      rw [q_c (n := k) (by omega), hx k (by omega)]
      refine ⟨fun z => bad (fun w => w.1 z), fun z => ⟨hv, fun z2 => ?_, fun z2 => bad (fun w => w.2 (fa_of_nle z2))⟩⟩
      rw [nI_1]
      refine ih (k + 1) (by omega) ((q_qt_iff x (k + 1)).mpr (fun j hj => ?_))
      by_cases q : j = k
      · rw [q]
        refine ⟨z, fun w => ?_⟩
        exact (fa_of_lt w).2.1 z2
      · exact (q_qt_iff x k).mp hq j (by omega)
  exact ⟨9, key 8 0 (by omega) rfl⟩
theorem q_gapPrice {post : Int32 → z_St → Prop} {q : Nat} (hq : q ≤ 64) (h : post (if q = 2 then -1 else q_more q) u) : w_X6_gapPrice post ti mi (K 0 0) u (nI q) := by
  refine ⟨fun z => ?_, fun z => ?_⟩
  · have hq2 : ¬ q = 2 := fun w => z (by rw [w]; rfl)
    rw [if_neg hq2] at h
    intro y e
    have : y = q_more q := by
      rw [e, q_rem4 (by omega)]
      unfold q_more
      have e1 : nI (q + 1) + 3 = nI (q + 4) := nI_add (q + 1) 3
      have e2 : nI q + 3 = nI (q + 3) := nI_add q 3
      rw [e1, e2, q_div4 (by omega), q_div4 (by omega), pk_sub (by omega)]
      by_cases w : q % 4 = 0
      · have : (q + 4) / 4 - (q + 3) / 4 = 1 := by omega
        rw [this, w, if_pos (by decide)]; rfl
      · have : (q + 4) / 4 - (q + 3) / 4 = 0 := by omega
        rw [this, if_neg (nI_ne0 (by omega) (by omega))]; rfl
    rw [this]
    exact h
  · have hq2 : q = 2 := (nI_eq (a := q) (b := 2) (by omega) (by omega)).mp z
    rw [if_pos hq2] at h
    exact h
theorem q_needsBlock {post : Int32 → z_St → Prop} {r : Nat} (hN : N ≤ 64) (h : q_W t0 N M S C E nb nm md K u) (hr : r < 48) (hlv : q_lv M r) (hp : post (if S r % 4 = 0 then 1 else 0) u) : w_X4_needsBlock post ti mi (K 16 r) u := by
  obtain ⟨a1, a2, a3, a4, a5, a6, a7, a8, a9, a10, a11, a12⟩ := h
  obtain ⟨-, r22, -⟩ := a11 r hr hlv
  have hS := (a2.1 r hr).2
  by_cases z : S r = 0
  · rw [if_pos z] at r22
    have : S r % 4 = 0 := by omega
    rw [if_pos this] at hp
    unfold w_X4_needsBlock
    rw [r22]
    exact ⟨fun _ => hp, fun w => absurd rfl w⟩
  · rw [if_neg z] at r22
    have hkb : (S r - 1) / 4 < q_nb (S r) := by unfold q_nb; omega
    have hb := a2.2.2.1 r _ hr hkb
    unfold w_X4_needsBlock
    rw [r22]
    refine ⟨fun w => (by cases w), fun _ => ⟨_, rfl, a5.k 3 _ (by omega) (show C r ((S r - 1) / 4) < 40 from hb), ?_⟩⟩
    rw [a7.1 _ hb, a2.2.2.2.1 r _ hr hkb]
    refine ⟨fun w => ?_, fun w => ?_⟩
    · have := (nI_ltI (a := min 4 (S r - 4 * ((S r - 1) / 4))) (b := 4) (by omega) (by omega)).mp w
      rw [if_neg (by omega)] at hp
      exact hp
    · have : ¬ min 4 (S r - 4 * ((S r - 1) / 4)) < 4 := fun q => w (nI_lt (a := min 4 (S r - 4 * ((S r - 1) / 4))) (b := 4) q (by omega))
      rw [if_pos (by omega)] at hp
      exact hp
theorem q_withinQuota {post : Int32 → z_St → Prop} {x price : Int32} {b : Nat} (h : q_W t0 N M S C E nb nm md K u) (hb : b < nb) (hx : x = nI b) (hp : post (if M 11 b < q_ub M S E nm x + price then 0 else 1) u) : w_X6_isWithinQuota post ti mi (K 0 0) u x price := by
  obtain ⟨a1, a2, a3, a4, a5, a6, a7, a8, a9, a10, a11, a12⟩ := h
  have hb4 : b < 4 := Nat.lt_of_lt_of_le hb a3.1.2
  have p29 := a6.2.2.2.2.2.2.1
  have p7 := a6.2.2.2.2.2.2.2.1
  refine q_usedBy a3 a4 a5 a6 a9 a11 (fun l hl => ⟨(a10 l hl).1, fun z => ⟨((a10 l hl).2 z).2.2.1, ((a10 l hl).2 z).2.1, ((a10 l hl).2 z).2.2.2.1⟩⟩) ?_
  refine ⟨_, p29, a5.k 7 0 (by omega) (by decide), ?_, ?_⟩
  · rw [a5.l 7 0 (by omega) (by decide) (by decide), hx]
    exact vp_in_nI (n := b) (N := 4) hb4 (by omega)
  · rw [hx, q_c (n := b) (by omega), (p7 b hb4).1, ← hx]
    refine ⟨_, rfl, a5.k 8 b (by omega) (show b < 4 from hb4), ?_⟩
    intro y2 e2
    rw [a8.1 b hb] at e2
    rw [e2]
    exact ⟨q_bif, hp⟩
theorem q_fits {post : Int32 → z_St → Prop} {l r : Nat} {g price : Int32} (hN : N ≤ 64) (h : q_W t0 N M S C E nb nm md K u) (hl : l < 3) (hbz : ¬ M 20 l = 0) (hr : r < 48) (hlr : M 23 l = nI r)
    (h0 : (g = 0 ∧ S r % 4 = 0 ∧ q_first (q_fr M) 40 = -1) ∨ q_paid M S E nm l price = 0 → post 0 u) (h1 : ¬ (g = 0 ∧ S r % 4 = 0 ∧ q_first (q_fr M) 40 = -1) → ¬ q_paid M S E nm l price = 0 → post 1 u) : w_X6_fits post ti mi (K 0 0) u (some (K 11 l)) g price := by
  have h' := h
  obtain ⟨a1, a2, a3, a4, a5, a6, a7, a8, a9, a10, a11, a12⟩ := h
  have hk11 := a5.k 11 l (by omega) (show l < 3 from hl)
  obtain ⟨c1, c2, c3, c4, -⟩ := (a10 l hl).2 hbz
  obtain ⟨⟨b, hb, eb⟩, ⟨k, hk, ek⟩, -⟩ := (a3.2.2.2.2.2.2.1 l hl).2 hbz
  have h7 : ¬ M 7 r = 0 := a4.l23 hl hr hbz hlr
  have hb4 : b < 4 := Nat.lt_of_lt_of_le hb a3.1.2
  have f27 : ¬ (g = 0 ∧ S r % 4 = 0 ∧ q_first (q_fr M) 40 = -1) → w_X6_fits_27 post ti mi (K 0 0) u (some (K 11 l)) price := fun hn => by
    refine ⟨_, rfl, hk11, ?_⟩
    rw [c3, ek]
    have hp : q_paid M S E nm l price = if 0 < M 22 l then 1 else if M 11 (M 21 l).toNatClampNeg < q_ub M S E nm (M 21 l) + price then 0 else 1 := rfl
    refine ⟨fun z => h1 hn (fun w => ?_), fun z => ?_⟩
    · have : 0 < M 22 l := by
        rw [ek]
        have hk0 : k ≠ 0 := fun q => z (by rw [q]; rfl)
        exact nI_lt (a := 0) (b := k) (by omega) (by omega)
      rw [hp, if_pos this] at w
      exact absurd w (by decide)
    · have hn0 : ¬ 0 < M 22 l := by rw [ek, z]; decide
      rw [c2]
      refine q_withinQuota h' hb eb ?_
      rw [if_neg hn0, eb, q_c (n := b) (by omega), ← eb] at hp
      by_cases w : M 11 b < q_ub M S E nm (M 21 l) + price
      · rw [if_pos w] at hp ⊢
        exact ⟨fun _ => h0 (Or.inr hp), fun q => absurd rfl q⟩
      · rw [if_neg w] at hp ⊢
        exact ⟨fun q => absurd q (by decide), fun _ => h1 hn (by rw [hp]; decide)⟩
  refine ⟨fun z => f27 (fun q => z q.1), fun z => ⟨_, rfl, hk11, _, by rw [c4, hlr, q_rf_s K hr], a5.r hr (Or.inr h7), q_needsBlock hN h' hr (Or.inr h7) ?_⟩⟩
  by_cases w : S r % 4 = 0
  · rw [if_pos w]
    refine ⟨fun q => absurd q (by decide), fun _ => ⟨_, a6.1, a5.k 1 0 (by omega) (by decide), q_leastFree a5 a6 a7.1 ?_⟩⟩
    exact ⟨fun q => f27 (fun v => q v.2.2), fun q => h0 (Or.inl ⟨z, w, q⟩)⟩
  · rw [if_neg w]
    exact ⟨fun _ => f27 (fun v => w v.2.1), fun q => absurd rfl q⟩
end OF
