/-! what the bank's reading methods say -/
theorem q_first_at {p : Nat → Bool} {n k : Nat} (hk : k < n) (hp : p k = true) (hj : ∀ j, j < k → p j = false) : q_first p n = nI k := by
  rcases q_first_spec p n with ⟨-, a⟩ | ⟨b, hb, eb, pb, ab⟩
  · rw [a k hk] at hp; exact absurd hp (by decide)
  · have : b = k := by
      rcases Nat.lt_trichotomy b k with q | q | q
      · rw [hj b q] at pb; exact absurd pb (by decide)
      · exact q
      · rw [ab k q] at hp; exact absurd hp (by decide)
    rw [eb, this]
theorem q_first_no {p : Nat → Bool} {n : Nat} (hj : ∀ j, j < n → p j = false) : q_first p n = -1 := by
  rcases q_first_spec p n with ⟨a, -⟩ | ⟨b, hb, eb, pb, -⟩
  · exact a
  · rw [hj b hb] at pb; exact absurd pb (by decide)
section QR
variable {t0 ti mi nb nm md N : Nat} {M : z_Md} {S : Nat → Nat} {C : Nat → Nat → Nat} {E : Nat → Nat → Int32 × Int32} {K : Nat → Nat → Nat} {u : z_St} {px : String → z_St → Prop}
theorem q_wK.k (hK : q_wK t0 nm M K u) (f j : Nat) (h : f ≤ 13) (h2 : j < q_fs f) : z_kd (K f j) u = q_kk f := hK.1 f j (Or.inl ⟨by omega, h2⟩) (by omega)
theorem q_wK.l (hK : q_wK t0 nm M K u) (f j : Nat) (h : f ≤ 12) (h2 : j < q_fs f) (h3 : q_ll f ≠ 0) : z_ln (K f j) u = q_ll f := hK.2.1 f j h h2 h3
theorem q_wK.m (hK : q_wK t0 nm M K u) {m : Nat} (h : m < nm) : z_kd (K 15 m) u = 5 := hK.1 15 m (Or.inr (Or.inl ⟨rfl, h⟩)) (by omega)
theorem q_wK.r (hK : q_wK t0 nm M K u) {r : Nat} (h : r < 48) (hl : q_lv M r) : z_kd (K 16 r) u = 6 := hK.1 16 r (Or.inr (Or.inr ⟨rfl, h, hl⟩)) (by omega)
theorem q_wK.ne (hK : q_wK t0 nm M K u) {f j f' j' : Nat} (h : q_vd M nm f j) (h' : q_vd M nm f' j') (hn : f ≠ f' ∨ j ≠ j') : K f j ≠ K f' j' := fun e => by
  have := hK.2.2.2 f j f' j' h h' e
  omega
theorem q_leastFree {post : Int32 → z_St → Prop} (hK : q_wK t0 nm M K u) (hP : q_wP K u) (hB : ∀ b, b < 40 → z_gI 2 (K 3 b) u = M 2 b) (h : post (q_first (q_fr M) 40) u) : w_X5_leastFree post ti mi (K 1 0) u := by
  obtain ⟨-, p26, p2, -⟩ := hP
  have key : ∀ d k, k + d = 40 → (∀ j, j < k → q_fr M j = false) → w_X5_leastFree_2 post ti mi (K 1 0) (d + 1) u (nI k) := by
    intro d
    induction d with
    | zero =>
      intro k hk hj
      have : k = 40 := by omega
      subst this
      rw [q_first_no hj] at h
      exact ⟨fun _ => h, fun hh => absurd (by decide) hh⟩
    | succ d ih =>
      intro k hk hj
      refine ⟨fun hh => absurd hh (nI_ge (a := k) (b := 40) (by omega) (by omega)), fun _ => ⟨_, p26, hK.k 2 0 (by omega) (by decide), ?_, ?_⟩⟩
      · rw [hK.l 2 0 (by omega) (by decide) (by decide)]
        exact vp_in_nI (n := k) (N := 40) (by omega) (by omega)
      · rw [q_c (n := k) (by omega), p2 k (by omega)]
        refine ⟨_, rfl, hK.k 3 k (by omega) (show k < 40 by omega), ?_⟩
        rw [hB k (by omega)]
        refine ⟨fun hz => ?_, fun hz => ?_⟩
        · rw [nI_1]
          refine ih (k + 1) (by omega) (fun j hj2 => ?_)
          by_cases e : j = k
          · rw [e]; exact decide_eq_false hz
          · exact hj j (by omega)
        · rw [q_first_at (k := k) (by omega) (decide_eq_true hz) hj] at h
          exact h
  exact ⟨41, key 40 0 (by omega) (fun j hj => by omega)⟩
theorem q_greatestUsed {post : Int32 → z_St → Prop} (hK : q_wK t0 nm M K u) (hP : q_wP K u) (hB : ∀ b, b < 40 → z_gI 2 (K 3 b) u = M 2 b) (h : post (q_last (q_us M) 40) u) : w_X5_greatestUsed post ti mi (K 1 0) u := by
  obtain ⟨-, p26, p2, -⟩ := hP
  have key : ∀ d, d ≤ 40 → post (q_last (q_us M) d) u → w_X5_greatestUsed_3 post ti mi (K 1 0) (d + 1) u (nI d - 1) := by
    intro d
    induction d with
    | zero => intro _ h; exact ⟨fun _ => h, fun hh => absurd (by decide) hh⟩
    | succ d ih =>
      intro hd h
      rw [nI_pred]
      refine ⟨fun hh => absurd hh (nI_pos (by omega)), fun _ => ⟨_, p26, hK.k 2 0 (by omega) (by decide), ?_, ?_⟩⟩
      · rw [hK.l 2 0 (by omega) (by decide) (by decide)]
        exact vp_in_nI (n := d) (N := 40) (by omega) (by omega)
      · rw [q_c (n := d) (by omega), p2 d (by omega)]
        refine ⟨_, rfl, hK.k 3 d (by omega) (show d < 40 by omega), ?_⟩
        rw [hB d (by omega)]
        have hs : q_last (q_us M) (d + 1) = if q_us M d then nI d else q_last (q_us M) d := rfl
        refine ⟨fun hz => ?_, fun hz => ?_⟩
        · have e : nI d + (-1) = nI d - 1 := by rw [Int32.sub_eq_add_neg]
          rw [e]
          refine ih (by omega) ?_
          rw [hs, if_neg (by unfold q_us; simp [hz])] at h
          exact h
        · rw [hs, if_pos (by unfold q_us; simp [hz])] at h
          exact h
  exact ⟨41, key 40 (by omega) h⟩
theorem q_countFree {post : Int32 → z_St → Prop} (hK : q_wK t0 nm M K u) (hP : q_wP K u) (hB : ∀ b, b < 40 → z_gI 2 (K 3 b) u = M 2 b) (h : post (nI (fb_ct (q_fr M) 40)) u) : w_X5_countFree post ti mi (K 1 0) u := by
  obtain ⟨-, p26, p2, -⟩ := hP
  have key : ∀ d k, k + d = 40 → w_X5_countFree_4 post ti mi (K 1 0) (d + 1) u (nI (fb_ct (q_fr M) k)) (nI k) := by
    intro d
    induction d with
    | zero =>
      intro k hk
      have : k = 40 := by omega
      subst this
      exact ⟨fun _ => h, fun hh => absurd (by decide) hh⟩
    | succ d ih =>
      intro k hk
      refine ⟨fun hh => absurd hh (nI_ge (a := k) (b := 40) (by omega) (by omega)), fun _ => ⟨_, p26, hK.k 2 0 (by omega) (by decide), ?_, ?_⟩⟩
      · rw [hK.l 2 0 (by omega) (by decide) (by decide)]
        exact vp_in_nI (n := k) (N := 40) (by omega) (by omega)
      · rw [q_c (n := k) (by omega), p2 k (by omega)]
        refine ⟨_, rfl, hK.k 3 k (by omega) (show k < 40 by omega), ?_⟩
        intro y3 e3
        rw [hB k (by omega)] at e3
        have : y3 = nI (fb_ct (q_fr M) (k + 1)) := by
          rw [e3, fb_ct_succ]
          unfold q_fr
          by_cases hz : M 2 k = 0
          · simp [hz, nI_1]
          · simp [hz]
        rw [this, nI_1]
        exact ih (k + 1) (by omega)
  exact ⟨41, key 40 0 (by omega)⟩
theorem q_get {post : Option Nat → z_St → Prop} {k : Nat} (hn : nm ≤ 16) (hK : q_wK t0 nm M K u) (hP : q_wP K u) (hM : q_wM nm M K u) (hk : k < nm) (h : post (some (K 15 k)) u) : w_Jx4a65c_get_915e3 post ti mi (K 13 0) u (nI k) := by
  obtain ⟨-, -, -, -, -, -, -, -, -, -, -, p36⟩ := hP
  obtain ⟨m1, m2, -⟩ := hM
  refine ⟨fun hh => absurd hh (nI_pos (by omega)), fun _ => ⟨fun _ => ?_, fun hh => ?_⟩⟩
  · rcases hK.2.2.1 with ⟨a, b, c⟩ | ⟨a, b, -⟩
    · refine ⟨_, p36, a, vp_in_nI (by omega) (by omega), ?_⟩
      rw [q_c (n := k) (by omega), m2 k hk]
      exact h
    · omega
  · rw [m1] at hh
    exact absurd (nI_lt hk (by omega)) hh
theorem q_costOf {post : Int32 → z_St → Prop} {x : Int32} (hK : q_wK t0 nm M K u) (hR : q_wR M S C E K u) (hx : x = -1 ∨ ∃ r, r < 48 ∧ x = nI r ∧ q_lv M r) (h : post (q_cost S E x) u) : w_X6_costOf post ti mi u (q_rf K x) := by
  rcases hx with rfl | ⟨r, hr, rfl, hl⟩
  · rw [q_rf_n]
    exact ⟨fun hh => absurd rfl hh, fun _ => h⟩
  · rw [q_rf_s K hr]
    unfold q_cost at h
    rw [if_neg (nI_pos (by omega)), q_c (by omega)] at h
    refine ⟨fun _ => ⟨_, rfl, hK.r hr hl, ?_⟩, fun hh => by cases hh⟩
    rw [(hR r hr hl).2.2.1]
    exact h
theorem q_samplesOf {post : Int32 → z_St → Prop} {x : Int32} (hK : q_wK t0 nm M K u) (hR : q_wR M S C E K u) (hx : x = -1 ∨ ∃ r, r < 48 ∧ x = nI r ∧ q_lv M r) (h : post (8 * q_frames S E x) u) : w_X6_samplesOf post ti mi u (q_rf K x) := by
  rcases hx with rfl | ⟨r, hr, rfl, hl⟩
  · rw [q_rf_n]
    exact ⟨fun hh => absurd rfl hh, fun _ => h⟩
  · rw [q_rf_s K hr]
    unfold q_frames at h
    rw [if_neg (nI_pos (by omega)), q_c (by omega)] at h
    refine ⟨fun _ => ⟨_, rfl, hK.r hr hl, ?_⟩, fun hh => by cases hh⟩
    rw [(hR r hr hl).2.2.2.1]
    exact h
theorem q_lv18 (hQ : q_Q N M nb nm md) (hU : q_U S M nm) {m : Nat} (hm : m < nm) : M 18 m = -1 ∨ ∃ r, r < 48 ∧ M 18 m = nI r ∧ q_lv M r := by
  obtain ⟨r, hr, e⟩ := (hQ.2.2.2.1 m hm).2.1
  exact Or.inr ⟨r, hr, e, Or.inl (hU.l18 hQ.2.1.2 hm hr e)⟩
theorem q_lv19 (hQ : q_Q N M nb nm md) (hU : q_U S M nm) {m : Nat} (hm : m < nm) : M 19 m = -1 ∨ ∃ r, r < 48 ∧ M 19 m = nI r ∧ q_lv M r := by
  rcases (hQ.2.2.2.1 m hm).2.2.1 with e | ⟨r, hr, e⟩
  · exact Or.inl e
  · exact Or.inr ⟨r, hr, e, Or.inl (hU.l19 hQ.2.1.2 hm hr e)⟩
theorem q_lv12 (hQ : q_Q N M nb nm md) (hU : q_U S M nm) {s : Nat} (hs : s < 12) : M 12 s = -1 ∨ ∃ r, r < 48 ∧ M 12 s = nI r ∧ q_lv M r := by
  rcases hQ.2.2.2.2.2.1 s hs with e | ⟨r, hr, e⟩
  · exact Or.inl e
  · exact Or.inr ⟨r, hr, e, Or.inl (hU.l12 hQ.2.1.2 hs hr e)⟩
theorem q_lv23 (hQ : q_Q N M nb nm md) (hU : q_U S M nm) {l : Nat} (hl : l < 3) (hb : ¬ M 20 l = 0) : M 23 l = -1 ∨ ∃ r, r < 48 ∧ M 23 l = nI r ∧ q_lv M r := by
  obtain ⟨-, -, ⟨r, hr, e⟩, -⟩ := (hQ.2.2.2.2.2.2.1 l hl).2 hb
  exact Or.inr ⟨r, hr, e, Or.inr (hU.l23 hl hr hb e)⟩
theorem q_speaks {post : Int32 → z_St → Prop} {a l : Nat} (h8 : z_gI 8 a u = M 20 l) (h11 : ¬ M 20 l = 0 → z_gI 11 a u = M 22 l) (h : post (if q_spk M l = true then 1 else 0) u) : w_X2_speaksMessage post ti mi a u := by
  intro y1 e1
  have : y1 = if q_spk M l = true then 1 else 0 := by
    rw [e1, h8]
    unfold q_spk
    by_cases a : M 20 l = 0
    · simp [a]
    · rw [h11 a]
      by_cases b : M 22 l = 0
      · simp [a, b]
      · simp [a, b]
  rw [this]
  exact ⟨q_bif', h⟩
theorem q_hasRoom {post : Int32 → z_St → Prop} (hQ : q_Q N M nb nm md) (hK : q_wK t0 nm M K u) (hP : q_wP K u) (hM : q_wM nm M K u) (hL : ∀ l, l < 3 → z_gI 8 (K 11 l) u = M 20 l ∧ (¬ M 20 l = 0 → z_gI 11 (K 11 l) u = M 22 l)) (h : post (if nm + fb_ct (q_spk M) 3 < 16 then 1 else 0) u) : w_X6_hasRoomForMessage post ti mi (K 0 0) u := by
  obtain ⟨-, -, -, -, -, -, -, -, p30, p10, p31, -⟩ := hP
  have hn := hQ.2.1.2
  refine ⟨_, p31, hK.k 13 0 (by omega) (by decide), ?_⟩
  have key : ∀ d k, k + d = 3 → w_X6_hasRoomForMessage_10 post ti mi (K 0 0) (d + 1) u (nI (nm + fb_ct (q_spk M) k)) (nI k) := by
    intro d
    induction d with
    | zero =>
      intro k hk
      have : k = 3 := by omega
      subst this
      refine ⟨fun _ => ?_, fun hh => absurd (by decide) hh⟩
      intro y2 e2
      have hct := fb_ct_le (q_spk M) 3
      have hi : (16 : Int32) ≤ nI (nm + fb_ct (q_spk M) 3) ↔ 16 ≤ nm + fb_ct (q_spk M) 3 := nI_leI (a := 16) (b := nm + fb_ct (q_spk M) 3) (by omega) (by omega)
      have e : y2 = if nm + fb_ct (q_spk M) 3 < 16 then 1 else 0 := by
        rw [e2]
        by_cases q : 16 ≤ nm + fb_ct (q_spk M) 3
        · rw [if_pos (hi.mpr q), if_neg (by omega)]
        · rw [if_neg (fun z => q (hi.mp z)), if_pos (by omega)]
      rw [e]
      exact ⟨q_bif', h⟩
    | succ d ih =>
      intro k hk
      refine ⟨fun hh => absurd hh (nI_ge (a := k) (b := 3) (by omega) (by omega)), fun _ => ⟨_, p30, hK.k 10 0 (by omega) (by decide), ?_, ?_⟩⟩
      · rw [hK.l 10 0 (by omega) (by decide) (by decide)]
        exact vp_in_nI (n := k) (N := 3) (by omega) (by omega)
      · rw [q_c (n := k) (by omega), (p10 k (by omega)).1]
        refine ⟨_, rfl, hK.k 11 k (by omega) (show k < 3 by omega), q_speaks (l := k) (hL k (by omega)).1 (hL k (by omega)).2 ?_⟩
        intro y5 e5
        have : y5 = nI (nm + fb_ct (q_spk M) (k + 1)) := by
          rw [e5, fb_ct_succ]
          by_cases q : q_spk M k = true
          · simp [q, nI_1, Nat.add_assoc]
          · simp [q]
        rw [this, nI_1]
        exact ih (k + 1) (by omega)
  refine ⟨4, ?_⟩
  rw [hM.1]
  exact key 3 0 (by omega)
theorem q_usedBy {post : Int32 → z_St → Prop} {x : Int32} (hQ : q_Q N M nb nm md) (hU : q_U S M nm) (hK : q_wK t0 nm M K u) (hP : q_wP K u) (hM : q_wM nm M K u) (hR : q_wR M S C E K u)
    (hL : ∀ l, l < 3 → z_gI 8 (K 11 l) u = M 20 l ∧ (¬ M 20 l = 0 → z_gI 11 (K 11 l) u = M 22 l ∧ z_gI 10 (K 11 l) u = M 21 l ∧ z_gR 12 (K 11 l) u = q_rf K (M 23 l))) (h : post (q_ub M S E nm x) u) : w_X6_usedBy post ti mi (K 0 0) u x := by
  have hP0 := hP
  obtain ⟨-, -, -, -, -, -, -, -, p30, p10, p31, -⟩ := hP
  have hn := hQ.2.1.2
  have lines : ∀ i, post (q_ul M S E x i 3) u → ∀ d k, k + d = 3 → w_X6_usedBy_65 post ti mi (K 0 0) (d + 1) u x (q_ul M S E x i k) (nI k) := by
    intro i h d
    induction d with
    | zero =>
      intro k hk
      have : k = 3 := by omega
      subst this
      exact ⟨fun _ => h, fun hh => absurd (by decide) hh⟩
    | succ d ih =>
      intro k hk
      have hv : vp_in (nI k) (z_ln (K 10 0) u) := by
        rw [hK.l 10 0 (by omega) (by decide) (by decide)]
        exact vp_in_nI (n := k) (N := 3) (by omega) (by omega)
      have hstep : q_ul M S E x i (k + 1) = if q_spk M k = true ∧ M 21 k = x then q_ul M S E x i k + q_cost S E (M 23 k) else q_ul M S E x i k := rfl
      have hno : ¬ (q_spk M k = true ∧ M 21 k = x) → w_X6_usedBy_110 post (w_X6_usedBy_65 post ti mi (K 0 0) (d + 1)) ti mi (K 0 0) u x (q_ul M S E x i k) (nI k) := fun hn => by
        show w_X6_usedBy_65 post ti mi (K 0 0) (d + 1) u x (q_ul M S E x i k) (nI k + 1)
        rw [nI_1]
        rw [if_neg hn] at hstep
        rw [← hstep]
        exact ih (k + 1) (by omega)
      have hk11 := hK.k 11 k (by omega) (show k < 3 by omega)
      obtain ⟨l8, lo⟩ := hL k (by omega)
      refine ⟨fun hh => absurd hh (nI_ge (a := k) (b := 3) (by omega) (by omega)), fun _ => ⟨_, p30, hK.k 10 0 (by omega) (by decide), hv, ?_⟩⟩
      rw [q_c (n := k) (by omega), (p10 k (by omega)).1]
      refine ⟨_, rfl, hk11, q_speaks (l := k) l8 (fun a => (lo a).1) ⟨fun hz => hno (fun q => ?_), fun hz => ⟨_, p30, hK.k 10 0 (by omega) (by decide), hv, _, (p10 k (by omega)).1, hk11, ?_⟩⟩⟩
      · rw [if_pos q.1] at hz; exact absurd hz (by decide)
      · have hs : q_spk M k = true := by
          apply Decidable.byContradiction
          intro q
          rw [if_neg q] at hz
          exact hz rfl
        have hb := (of_decide_eq_true hs).1
        obtain ⟨-, l10, l12⟩ := lo hb
        rw [l10]
        refine ⟨fun c => hno (fun q => c q.2), fun c => ⟨hv, ?_⟩⟩
        rw [l12]
        refine q_costOf hK hR (q_lv23 hQ hU (by omega) hb) ?_
        show w_X6_usedBy_65 post ti mi (K 0 0) (d + 1) u x (q_ul M S E x i k + q_cost S E (M 23 k)) (nI k + 1)
        rw [if_pos ⟨hs, c⟩] at hstep
        rw [nI_1, ← hstep]
        exact ih (k + 1) (by omega)
  have msgs : ∀ d k, k + d = nm → w_X6_usedBy_4 post ti mi (K 0 0) (d + 1) u x (q_um M S E x k) (nI k) := by
    intro d
    induction d with
    | zero =>
      intro k hk
      have hkk : k = nm := by omega
      refine ⟨_, p31, hK.k 13 0 (by omega) (by decide), ?_⟩
      show (_ → _) ∧ _
      rw [hM.1]
      refine ⟨fun _ => ⟨4, ?_⟩, fun hh => absurd (nI_le (by omega) (by omega)) hh⟩
      rw [hkk]
      exact lines _ h 3 0 (by omega)
    | succ d ih =>
      intro k hk
      have hstep : q_um M S E x (k + 1) = if M 16 k = x then q_um M S E x k + (q_cost S E (M 18 k) + q_cost S E (M 19 k)) else q_um M S E x k := rfl
      have m3 := hM.2.2
      obtain ⟨-, a17, -, a18, a19⟩ := m3 k (by omega)
      refine ⟨_, p31, hK.k 13 0 (by omega) (by decide), ?_⟩
      show (_ → _) ∧ _
      rw [hM.1]
      refine ⟨fun hh => absurd hh (nI_ge (by omega) (by omega)), fun _ => ⟨_, p31, hK.k 13 0 (by omega) (by decide), q_get hn hK hP0 hM (by omega) ⟨_, rfl, hK.m (by omega), ?_⟩⟩⟩
      rw [a17, a18]
      refine ⟨fun c => ?_, fun c => q_costOf hK hR (q_lv18 hQ hU (by omega)) ?_⟩
      · show w_X6_usedBy_4 post ti mi (K 0 0) (d + 1) u x (q_um M S E x k) (nI k + 1)
        rw [if_neg c] at hstep
        rw [nI_1, ← hstep]
        exact ih (k + 1) (by omega)
      · rw [a19]
        refine q_costOf hK hR (q_lv19 hQ hU (by omega)) ?_
        intro x2 e2
        show w_X6_usedBy_4 post ti mi (K 0 0) (d + 1) u x x2 (nI k + 1)
        rw [if_pos c, ← e2] at hstep
        rw [nI_1, ← hstep]
        exact ih (k + 1) (by omega)
  exact ⟨nm + 1, msgs nm 0 (by omega)⟩
end QR
