/-! pack, both sides -/
theorem q_last_spec (p : Nat → Bool) : ∀ n, (q_last p n = -1 ∧ ∀ k, k < n → p k = false) ∨ ∃ b, b < n ∧ q_last p n = nI b ∧ p b = true
  | 0 => Or.inl ⟨rfl, fun k hk => absurd hk (Nat.not_lt_zero k)⟩
  | n + 1 => by
    have e : q_last p (n + 1) = if p n then nI n else q_last p n := rfl
    rw [e]
    by_cases q : p n = true
    · rw [if_pos q]
      exact Or.inr ⟨n, by omega, rfl, q⟩
    · rw [if_neg q]
      rcases q_last_spec p n with ⟨a, b⟩ | ⟨b, h1, h2, h3⟩
      · refine Or.inl ⟨a, fun k hk => ?_⟩
        by_cases z : k = n
        · rw [z]; exact Bool.eq_false_iff.mpr q
        · exact b k (by omega)
      · exact Or.inr ⟨b, by omega, h2, h3⟩
def q_v1 (M : z_Md) (a b i : Nat) : z_Md := fun f j => if (f = 4 ∨ f = 5) ∧ 4 * b ≤ j ∧ j < 4 * b + i then M f (4 * a + (j - 4 * b)) else M f j
def q_v2 (M : z_Md) (a b k : Nat) : z_Md := fun f j => if f = 3 ∧ j < k then (if M 2 j ≤ 0 then M 3 j else if M 3 j = nI a then nI b else M 3 j) else M f j
def q_v3 (M : z_Md) (a b k : Nat) : z_Md := fun f j => if f = 8 ∧ j < k then (if M 9 j ≤ 0 then M 8 j else if M 8 j = nI a then nI b else M 8 j) else M f j
theorem q_v1_0 (M : z_Md) (a b : Nat) : q_v1 M a b 0 = M := by
  funext f j; unfold q_v1; rw [if_neg (by omega)]
theorem q_v2_0 (M : z_Md) (a b : Nat) : q_v2 M a b 0 = M := by
  funext f j; unfold q_v2; rw [if_neg (by omega)]
theorem q_v3_0 (M : z_Md) (a b : Nat) : q_v3 M a b 0 = M := by
  funext f j; unfold q_v3; rw [if_neg (by omega)]
theorem q_v1_s (M : z_Md) {a b i : Nat} (h : a ≠ b) (hi : i < 4) : z_up (z_up (q_v1 M a b i) 4 (4 * b + i) (q_v1 M a b i 4 (4 * a + i))) 5 (4 * b + i) (q_v1 M a b i 5 (4 * a + i)) = q_v1 M a b (i + 1) := by
  have e : ∀ f, q_v1 M a b i f (4 * a + i) = M f (4 * a + i) := fun f => by unfold q_v1; rw [if_neg (by omega)]
  rw [e, e]
  funext f j
  simp only [z_up_e]
  unfold q_v1
  by_cases hj : j = 4 * b + i
  · subst hj
    have e2 : 4 * a + (4 * b + i - 4 * b) = 4 * a + i := by omega
    by_cases h5 : f = 5
    · subst h5; rw [if_pos ⟨rfl, rfl⟩, if_pos (by omega), e2]
    · rw [if_neg (fun q => h5 q.1)]
      by_cases h4 : f = 4
      · subst h4; rw [if_pos ⟨rfl, rfl⟩, if_pos (by omega), e2]
      · rw [if_neg (fun q => h4 q.1), if_neg (by omega), if_neg (by omega)]
  · rw [if_neg (fun q => hj q.2), if_neg (fun q => hj q.2)]
    by_cases c : (f = 4 ∨ f = 5) ∧ 4 * b ≤ j ∧ j < 4 * b + i
    · rw [if_pos c, if_pos (by omega)]
    · rw [if_neg c, if_neg (by omega)]
theorem q_v2_s (M : z_Md) (a b k : Nat) : z_up (q_v2 M a b k) 3 k (if M 2 k ≤ 0 then M 3 k else if M 3 k = nI a then nI b else M 3 k) = q_v2 M a b (k + 1) := by
  funext f j
  rw [z_up_e]
  unfold q_v2
  by_cases c : f = 3 ∧ j = k
  · rw [if_pos c, if_pos (show f = 3 ∧ j < k + 1 from ⟨c.1, by omega⟩), c.2]
  · rw [if_neg c]
    by_cases d : f = 3 ∧ j < k
    · rw [if_pos d, if_pos (show f = 3 ∧ j < k + 1 from ⟨d.1, by omega⟩)]
    · rw [if_neg d, if_neg (show ¬ (f = 3 ∧ j < k + 1) by omega)]
theorem q_v3_s (M : z_Md) (a b k : Nat) : z_up (q_v3 M a b k) 8 k (if M 9 k ≤ 0 then M 8 k else if M 8 k = nI a then nI b else M 8 k) = q_v3 M a b (k + 1) := by
  funext f j
  rw [z_up_e]
  unfold q_v3
  by_cases c : f = 8 ∧ j = k
  · rw [if_pos c, if_pos (show f = 8 ∧ j < k + 1 from ⟨c.1, by omega⟩), c.2]
  · rw [if_neg c]
    by_cases d : f = 8 ∧ j < k
    · rw [if_pos d, if_pos (show f = 8 ∧ j < k + 1 from ⟨d.1, by omega⟩)]
    · rw [if_neg d, if_neg (show ¬ (f = 8 ∧ j < k + 1) by omega)]
/-- the reference behind a move from a to b -/
def q_mv (M : z_Md) (a b : Nat) : z_Md := q_v3 (q_v2 (q_v1 (z_up (z_up (z_up M 2 b (M 2 a)) 3 b (M 3 a)) 2 a 0) a b 4) a b 40) a b 48
theorem q_moveBlock {post : z_Md → Prop} {M : z_Md} {a b : Nat} (ha : a < 40) (hb : b < 40) (hab : a ≠ b) (h : post (q_mv M a b)) : w_X7_moveBlock post M (nI a) (nI b) := by
  have va : vp_in (nI a) 40 := vp_in_nI ha (by omega)
  have vb : vp_in (nI b) 40 := vp_in_nI hb (by omega)
  have ca : (nI a).toNatClampNeg = a := q_c (by omega)
  have cb : (nI b).toNatClampNeg = b := q_c (by omega)
  refine ⟨va, vb, va, vb, va, ?_⟩
  rw [ca, cb]
  have e3 : z_up M 2 b (M 2 a) 3 a = M 3 a := rfl
  rw [e3]
  unfold q_mv at h
  generalize z_up (z_up (z_up M 2 b (M 2 a)) 3 b (M 3 a)) 2 a 0 = M1 at *
  have l3 : ∀ M : z_Md, post (q_v3 M a b 48) → ∃ n0, w_X7_moveBlock_135 post n0 M (nI a) (nI b) 0 := fun M hp => by
    have key : ∀ d k, k + d = 48 → w_X7_moveBlock_135 post (d + 1) (q_v3 M a b k) (nI a) (nI b) (nI k) := by
      intro d
      induction d with
      | zero =>
        intro k hk
        have : k = 48 := by omega
        subst this
        exact ⟨fun _ => hp, fun q => absurd (by decide) q⟩
      | succ d ih =>
        intro k hk
        have hv : vp_in (nI k) 48 := vp_in_nI (by omega) (by omega)
        refine ⟨fun q => absurd q (nI_ge (a := k) (b := 48) (by omega) (by omega)), fun _ => ⟨hv, ⟨fun _ => hv, fun _ => ⟨hv, fun _ => hv⟩⟩, ?_⟩⟩
        intro y2 e2
        rw [q_c (n := k) (by omega)] at e2 ⊢
        have e8 : q_v3 M a b k 8 k = M 8 k := by unfold q_v3; rw [if_neg (by omega)]
        have e9 : q_v3 M a b k 9 k = M 9 k := by unfold q_v3; rw [if_neg (by omega)]
        rw [e8, e9] at e2
        rw [e2, q_v3_s, nI_1]
        exact ⟨hv, ih (k + 1) (by omega)⟩
    have := key 48 0 (by omega)
    rw [q_v3_0] at this
    exact ⟨49, this⟩
  have l2 : ∀ M : z_Md, post (q_v3 (q_v2 M a b 40) a b 48) → ∃ n0, w_X7_moveBlock_86 post n0 M (nI a) (nI b) 0 := fun M hp => by
    have key : ∀ d k, k + d = 40 → w_X7_moveBlock_86 post (d + 1) (q_v2 M a b k) (nI a) (nI b) (nI k) := by
      intro d
      induction d with
      | zero =>
        intro k hk
        have : k = 40 := by omega
        subst this
        exact ⟨fun _ => l3 _ hp, fun q => absurd (by decide) q⟩
      | succ d ih =>
        intro k hk
        have hv : vp_in (nI k) 40 := vp_in_nI (by omega) (by omega)
        refine ⟨fun q => absurd q (nI_ge (a := k) (b := 40) (by omega) (by omega)), fun _ => ⟨hv, ⟨fun _ => hv, fun _ => ⟨hv, fun _ => hv⟩⟩, ?_⟩⟩
        intro y2 e2
        rw [q_c (n := k) (by omega)] at e2 ⊢
        have e8 : q_v2 M a b k 3 k = M 3 k := by unfold q_v2; rw [if_neg (by omega)]
        have e9 : q_v2 M a b k 2 k = M 2 k := by unfold q_v2; rw [if_neg (by omega)]
        rw [e8, e9] at e2
        rw [e2, q_v2_s, nI_1]
        exact ⟨hv, ih (k + 1) (by omega)⟩
    have := key 40 0 (by omega)
    rw [q_v2_0] at this
    exact ⟨41, this⟩
  have key : ∀ d k, k + d = 4 → w_X7_moveBlock_33 post (d + 1) (q_v1 M1 a b k) (nI a) (nI b) (nI k) := by
    intro d
    induction d with
    | zero =>
      intro k hk
      have : k = 4 := by omega
      subst this
      exact ⟨fun _ => l2 _ h, fun q => absurd (by decide) q⟩
    | succ d ih =>
      intro k hk
      have w1 : vp_in (4 * nI a + nI k) 160 := by rw [q_mul4, nI_add]; exact vp_in_nI (by omega) (by omega)
      have w2 : vp_in (4 * nI b + nI k) 160 := by rw [q_mul4, nI_add]; exact vp_in_nI (by omega) (by omega)
      refine ⟨fun q => absurd q (nI_ge (a := k) (b := 4) (by omega) (by omega)), fun _ => ⟨w1, w2, w1, w2, ?_⟩⟩
      show w_X7_moveBlock_33 post (d + 1) (z_up (z_up (q_v1 M1 a b k) 4 (4 * nI b + nI k).toNatClampNeg (q_v1 M1 a b k 4 (4 * nI a + nI k).toNatClampNeg)) 5 (4 * nI b + nI k).toNatClampNeg (q_v1 M1 a b k 5 (4 * nI a + nI k).toNatClampNeg)) (nI a) (nI b) (nI k + 1)
      rw [q_mul4, q_mul4, nI_add, nI_add, q_c (n := 4 * b + k) (by omega), q_c (n := 4 * a + k) (by omega), q_v1_s M1 hab (by omega), nI_1]
      exact ih (k + 1) (by omega)
  have := key 4 0 (by omega)
  rw [q_v1_0] at this
  exact ⟨5, this⟩
def q_sw (a b j : Nat) : Nat := if j = a then b else if j = b then a else j
theorem q_sw_lt {a b j n : Nat} (ha : a < n) (hb : b < n) (hj : j < n) : q_sw a b j < n := by unfold q_sw; split; exact hb; split; exact ha; exact hj
theorem q_sw_sw (a b x : Nat) : q_sw a b (q_sw a b x) = x := by
  unfold q_sw
  by_cases h1 : x = a
  · rw [if_pos h1]
    by_cases h2 : b = a
    · rw [if_pos h2, h1, h2]
    · rw [if_neg h2, if_pos rfl, h1]
  · rw [if_neg h1]
    by_cases h2 : x = b
    · rw [if_pos h2, if_pos rfl, h2]
    · rw [if_neg h2, if_neg h1, if_neg h2]
theorem q_sw_inj {a b i j : Nat} (h : q_sw a b i = q_sw a b j) : i = j := by
  have := congrArg (q_sw a b) h
  rw [q_sw_sw, q_sw_sw] at this
  exact this
section OS
variable {t0 ti mi nb nm md N N' : Nat} {pn pn' : Nat → Nat} {M M' : z_Md} {S S' : Nat → Nat} {C C' : Nat → Nat → Nat} {E E' : Nat → Nat → Int32 × Int32} {K K' : Nat → Nat → Nat} {u u' : z_St} {px : String → z_St → Prop}
def q_KW (K : Nat → Nat → Nat) (a b : Nat) : Nat → Nat → Nat := fun f j => if 3 ≤ f ∧ f ≤ 5 then K f (q_sw a b j) else K f j
theorem q_W.move {a b : Nat} (hN : N ≤ 64) (h : q_W t0 N M S C E nb nm md K u) (ha : a < 40) (hb : b < 40) (hab : a ≠ b) (h2a : ¬ M 2 a = 0) (h2b : M 2 b = 0) : q_W t0 N (q_mv M a b) S (fun r k => if C r k = a then b else C r k) E nb nm md (q_KW K a b) (z_sR (K 2 0) b (some (K 3 a)) (z_sR (K 2 0) a (some (K 3 b)) u)) := by
  obtain ⟨a1, a2, a3, a4, a5, a6, a7, a8, a9, a10, a11, a12⟩ := h
  have hP := a2
  obtain ⟨p1, p2, p3, p4, p5, p6, p7, p8, p9⟩ := a2
  have kf : ∀ f, (f < 3 ∨ 5 < f) → q_KW K a b f = K f := fun f hf => by funext j; unfold q_KW; rw [if_neg (by omega)]
  have k3 : ∀ j, q_KW K a b 3 j = K 3 (q_sw a b j) := fun j => if_pos (by omega)
  have k4 : ∀ j, q_KW K a b 4 j = K 4 (q_sw a b j) := fun j => if_pos (by omega)
  have k5 : ∀ j, q_KW K a b 5 j = K 5 (q_sw a b j) := fun j => if_pos (by omega)
  have v0 : ∀ f j, f ≤ 14 → j < q_fs f → q_vd M nm f j := fun f j h1 h2 => Or.inl ⟨h1, h2⟩
  have mf : ∀ f, f ≠ 2 → f ≠ 3 → f ≠ 4 → f ≠ 5 → f ≠ 8 → q_mv M a b f = M f := fun f h1 h2 h3 h4 h5 => by
    funext j
    unfold q_mv q_v3 q_v2 q_v1
    rw [if_neg (by omega), if_neg (by omega), if_neg (by omega), z_up_f _ _ _ h1, z_up_f _ _ _ h2, z_up_f _ _ _ h1]
  have m2 : ∀ j, q_mv M a b 2 j = M 2 (q_sw a b j) := fun j => by
    have : q_mv M a b 2 j = z_up (z_up (z_up M 2 b (M 2 a)) 3 b (M 3 a)) 2 a 0 2 j := by
      unfold q_mv q_v3 q_v2 q_v1
      rw [if_neg (by omega), if_neg (by omega), if_neg (by omega)]
    rw [this, z_up_e, z_up_e, z_up_e]
    unfold q_sw
    by_cases q : j = a
    · rw [if_pos ⟨rfl, q⟩, if_pos q, h2b]
    · rw [if_neg (fun z => q z.2), if_neg (by omega), if_neg q]
      by_cases q2 : j = b
      · rw [if_pos ⟨rfl, q2⟩, if_pos q2]
      · rw [if_neg (fun z => q2 z.2), if_neg q2]
  have m3 : ∀ j, j < 40 → q_mv M a b 3 j = if q_mv M a b 2 j ≤ 0 then (if j = b then M 3 a else M 3 j) else if (if j = b then M 3 a else M 3 j) = nI a then nI b else (if j = b then M 3 a else M 3 j) := fun j hj => by
    have e2 : q_v1 (z_up (z_up (z_up M 2 b (M 2 a)) 3 b (M 3 a)) 2 a 0) a b 4 2 j = q_mv M a b 2 j := by
      unfold q_mv q_v3 q_v2
      rw [if_neg (by omega), if_neg (by omega)]
    have e3 : q_v1 (z_up (z_up (z_up M 2 b (M 2 a)) 3 b (M 3 a)) 2 a 0) a b 4 3 j = if j = b then M 3 a else M 3 j := by
      unfold q_v1
      rw [if_neg (by omega), z_up_f _ _ _ (by omega), z_up_e, z_up_f _ _ _ (by omega)]
      by_cases q : j = b
      · rw [if_pos ⟨rfl, q⟩, if_pos q]
      · rw [if_neg (fun z => q z.2), if_neg q]
    have : q_mv M a b 3 j = q_v2 (q_v1 (z_up (z_up (z_up M 2 b (M 2 a)) 3 b (M 3 a)) 2 a 0) a b 4) a b 40 3 j := by
      unfold q_mv q_v3
      rw [if_neg (by omega)]
    rw [this]
    unfold q_v2
    rw [if_pos ⟨rfl, hj⟩, e2, e3]
  have m45 : ∀ f j, f = 4 ∨ f = 5 → q_mv M a b f j = if 4 * b ≤ j ∧ j < 4 * b + 4 then M f (4 * a + (j - 4 * b)) else M f j := fun f j hf => by
    unfold q_mv q_v3 q_v2 q_v1
    rw [if_neg (by omega), if_neg (by omega)]
    have z : ∀ y, z_up (z_up (z_up M 2 b (M 2 a)) 3 b (M 3 a)) 2 a 0 f y = M f y := fun y => by rw [z_up_f _ _ _ (by omega), z_up_f _ _ _ (by omega), z_up_f _ _ _ (by omega)]
    rw [z, z]
    by_cases q : 4 * b ≤ j ∧ j < 4 * b + 4
    · rw [if_pos ⟨hf, q⟩, if_pos q]
    · rw [if_neg (fun w => q w.2), if_neg q]
  have m8 : ∀ r, r < 48 → q_mv M a b 8 r = if M 9 r ≤ 0 then M 8 r else if M 8 r = nI a then nI b else M 8 r := fun r hr => by
    have e : ∀ f, f = 8 ∨ f = 9 → q_v2 (q_v1 (z_up (z_up (z_up M 2 b (M 2 a)) 3 b (M 3 a)) 2 a 0) a b 4) a b 40 f r = M f r := fun f hf => by
      unfold q_v2 q_v1
      rw [if_neg (by omega), if_neg (by omega), z_up_f _ _ _ (by omega), z_up_f _ _ _ (by omega), z_up_f _ _ _ (by omega)]
    unfold q_mv q_v3
    rw [if_pos ⟨rfl, hr⟩, e 8 (Or.inl rfl), e 9 (Or.inr rfl)]
  generalize hMM : q_mv M a b = M' at *
  have cnb : ∀ r k, r < 48 → k < q_nb (S r) → ¬ M 2 (C r k) = 0 ∧ ¬ M 2 (C r k) ≤ 0 := fun r k hr hk => by
    have hS := (p1 r hr).2
    rw [p4 r k hr hk]
    have : 0 < min 4 (S r - 4 * k) := by unfold q_nb at hk; omega
    exact ⟨nI_ne0 this (by omega), nI_nle this (by omega)⟩
  have cne : ∀ r k, r < 48 → k < q_nb (S r) → C r k ≠ b := fun r k hr hk e => (cnb r k hr hk).1 (by rw [e]; exact h2b)
  have swC : ∀ r k, r < 48 → k < q_nb (S r) → q_sw a b (if C r k = a then b else C r k) = C r k := fun r k hr hk => by
    unfold q_sw
    by_cases q : C r k = a
    · rw [if_pos q, if_neg (fun z => hab z.symm), if_pos rfl, q]
    · rw [if_neg q, if_neg q, if_neg (cne r k hr hk)]
  have cl : ∀ r k, r < 48 → k < q_nb (S r) → (if C r k = a then b else C r k) < 40 := fun r k hr hk => by
    split
    · exact hb
    · exact p3 r k hr hk
  have nIi : ∀ x y : Nat, x < 40 → y < 40 → (nI x = nI y ↔ x = y) := fun x y hx hy => nI_eq (by omega) (by omega)
  have hsR : ∀ x j, x ≠ K 2 0 → z_aR x j (z_sR (K 2 0) b (some (K 3 a)) (z_sR (K 2 0) a (some (K 3 b)) u)) = z_aR x j u := fun x j hx => by simp [z_aR, z_sR, z_up, hx]
  have n2 : ∀ f j, q_vd M nm f j → f ≠ 2 → K f j ≠ K 2 0 := fun f j hv hf => a5.ne hv (v0 2 0 (by omega) (by decide)) (Or.inl hf)
  have e1 := mf 1 (by omega) (by omega) (by omega) (by omega) (by omega)
  have e6 := mf 6 (by omega) (by omega) (by omega) (by omega) (by omega)
  have e7 := mf 7 (by omega) (by omega) (by omega) (by omega) (by omega)
  have e9 := mf 9 (by omega) (by omega) (by omega) (by omega) (by omega)
  have eh : ∀ f, 10 ≤ f → M' f = M f := fun f hf => mf f (by omega) (by omega) (by omega) (by omega) (by omega)
  have hvd : ∀ f j, q_vd M' nm f j → q_vd M nm f j := fun f j w => by unfold q_vd q_lv at w ⊢; rw [e6, e7] at w; exact w
  have old : ∀ f j, q_vd M nm f j → ∃ j2, q_vd M nm f j2 ∧ q_KW K a b f j = K f j2 ∧ ((3 ≤ f ∧ f ≤ 5) → j2 = q_sw a b j) ∧ (¬ (3 ≤ f ∧ f ≤ 5) → j2 = j) := fun f j hv => by
    by_cases q : 3 ≤ f ∧ f ≤ 5
    · have hj : j < 40 := by
        rcases hv with ⟨-, w⟩ | ⟨w, -⟩ | ⟨w, -⟩
        · have : f = 3 ∨ f = 4 ∨ f = 5 := by omega
          rcases this with rfl | rfl | rfl <;> exact w
        · omega
        · omega
      refine ⟨q_sw a b j, Or.inl ⟨by omega, ?_⟩, if_pos q, fun _ => rfl, fun z => absurd q z⟩
      have : f = 3 ∨ f = 4 ∨ f = 5 := by omega
      rcases this with rfl | rfl | rfl <;> exact q_sw_lt ha hb hj
    · exact ⟨j, hv, if_neg q, fun z => absurd z q, fun _ => rfl⟩
  refine ⟨?_, ⟨?_, ?_, ?_, ?_, ?_, ?_, p7, ?_, ?_⟩, ?_, ?_, ⟨?_, ?_, ?_, ?_⟩, ?_, ⟨?_, ?_, ?_, ?_⟩, ?_, ?_, fun l hl => ?_, ?_, ?_⟩
  · unfold q_stp; rw [e1]; exact a1
  · intro r hr; rw [e9]; exact p1 r hr
  · intro r hr hz
    have h9 : ¬ M 9 r ≤ 0 := by rw [(p1 r hr).1]; exact nI_nle hz (by have := (p1 r hr).2; omega)
    rw [m8 r hr, if_neg h9, p2 r hr hz]
    have hnb0 : 0 < q_nb (S r) := by unfold q_nb; omega
    dsimp only
    by_cases q : C r 0 = a
    · rw [if_pos q, if_pos (by rw [q])]
    · rw [if_neg q, if_neg (fun z => q ((nIi _ _ (p3 r 0 hr hnb0) ha).mp z))]
  · intro r k hr hk; exact cl r k hr hk
  · intro r k hr hk; rw [m2, swC r k hr hk]; exact p4 r k hr hk
  · intro r k hr hk
    have hk' : k < q_nb (S r) := by omega
    have hpos : ¬ M' 2 (if C r k = a then b else C r k) ≤ 0 := by rw [m2, swC r k hr hk']; exact (cnb r k hr hk').2
    have h3 : (if (if C r k = a then b else C r k) = b then M 3 a else M 3 (if C r k = a then b else C r k)) = nI (C r (k + 1)) := by
      by_cases q : C r k = a
      · rw [if_pos q, if_pos rfl, ← q]; exact p5 r k hr hk
      · rw [if_neg q, if_neg (cne r k hr hk')]; exact p5 r k hr hk
    dsimp only
    rw [m3 _ (cl r k hr hk'), if_neg hpos, h3]
    by_cases q : C r (k + 1) = a
    · rw [if_pos q, if_pos (by rw [q])]
    · rw [if_neg q, if_neg (fun z => q ((nIi _ _ (p3 r (k + 1) hr hk) ha).mp z))]
  · intro r i hr hi
    have hk' : i / 4 < q_nb (S r) := by unfold q_nb; omega
    obtain ⟨g1, g2⟩ := p6 r i hr hi
    unfold q_at at g1 g2 ⊢
    dsimp only
    by_cases q : C r (i / 4) = a
    · rw [if_pos q, m45 4 _ (Or.inl rfl), m45 5 _ (Or.inr rfl), if_pos (by omega), if_pos (by omega)]
      have e : 4 * a + (4 * b + i % 4 - 4 * b) = 4 * C r (i / 4) + i % 4 := by omega
      rw [e]; exact ⟨g1, g2⟩
    · have := cne r _ hr hk'
      rw [if_neg q, m45 4 _ (Or.inl rfl), m45 5 _ (Or.inr rfl), if_neg (by omega), if_neg (by omega)]; exact ⟨g1, g2⟩
  · intro r k r' k' hr hk hr' hk' e
    refine p8 r k r' k' hr hk hr' hk' ?_
    have e' := congrArg (q_sw a b) e
    dsimp only at e'
    rw [swC r k hr hk, swC r' k' hr' hk'] at e'
    exact e'
  · intro x hx hno
    rw [m2]
    refine p9 _ (q_sw_lt ha hb hx) (fun r k hr hk e => ?_)
    refine hno r k hr hk (q_sw_inj (a := a) (b := b) ?_)
    rw [swC r k hr hk]; exact e
  · unfold q_Q q_spk
    rw [eh 10 (by omega), eh 13 (by omega), eh 14 (by omega), eh 15 (by omega), eh 16 (by omega), eh 18 (by omega), eh 19 (by omega), eh 12 (by omega), eh 20 (by omega), eh 21 (by omega), eh 22 (by omega), eh 23 (by omega), eh 24 (by omega), eh 25 (by omega)]
    exact a3
  · unfold q_U q_rfs
    rw [e6, e7, eh 18 (by omega), eh 19 (by omega), eh 12 (by omega), eh 20 (by omega), eh 23 (by omega)]
    exact a4
  · exact fun f j hv hn => by
      obtain ⟨j2, b1, b2, -⟩ := old f j (hvd f j hv)
      rw [b2]; exact a5.1 f j2 b1 hn
  · exact fun f j h1 h2 h3 => by
      obtain ⟨j2, b1, b2, -⟩ := old f j (v0 f j (by omega) h2)
      rw [b2]
      refine a5.2.1 f j2 h1 ?_ h3
      rcases b1 with ⟨-, w⟩ | ⟨w, -⟩ | ⟨w, -⟩
      · exact w
      · omega
      · omega
  · rw [kf 14 (by omega)]; exact a5.2.2.1
  · exact fun f j f' j' hv hv' e => by
      obtain ⟨j2, b1, b2, b3, b4⟩ := old f j (hvd f j hv)
      obtain ⟨j3, d1, d2, d3, d4⟩ := old f' j' (hvd f' j' hv')
      rw [b2, d2] at e
      obtain ⟨rfl, e2⟩ := a5.2.2.2 f j2 f' j3 b1 d1 e
      refine ⟨rfl, ?_⟩
      by_cases q : 3 ≤ f ∧ f ≤ 5
      · exact q_sw_inj ((b3 q).symm.trans (e2.trans (d3 q)))
      · exact (b4 q).symm.trans (e2.trans (d4 q))
  · obtain ⟨p28, p26, pp2, pp4, p27, pp6, p29, pp7, p30, p10, p31, p36⟩ := a6
    unfold q_wP
    rw [kf 0 (by omega), kf 1 (by omega), kf 2 (by omega), kf 6 (by omega), kf 7 (by omega), kf 8 (by omega), kf 9 (by omega), kf 10 (by omega), kf 11 (by omega), kf 12 (by omega), kf 13 (by omega), kf 14 (by omega)]
    refine ⟨p28, p26, fun x hx => ?_, fun x hx => ?_, p27, pp6, p29, fun x hx => ⟨(hsR _ _ (n2 7 0 (v0 7 0 (by omega) (by decide)) (by omega))).trans (pp7 x hx).1, (pp7 x hx).2⟩, p30, fun x hx => ⟨(hsR _ _ (n2 10 0 (v0 10 0 (by omega) (by decide)) (by omega))).trans (p10 x hx).1, (p10 x hx).2⟩, p31, p36⟩
    · rw [k3]
      have e : z_aR (K 2 0) x (z_sR (K 2 0) b (some (K 3 a)) (z_sR (K 2 0) a (some (K 3 b)) u)) = if x = b then some (K 3 a) else if x = a then some (K 3 b) else z_aR (K 2 0) x u := by simp [z_aR, z_sR, z_up]
      rw [e]
      unfold q_sw
      by_cases q : x = a
      · rw [if_neg (fun z => hab (q.symm.trans z)), if_pos q, if_pos q]
      · by_cases q2 : x = b
        · rw [if_pos q2, if_neg q, if_pos q2]
        · rw [if_neg q2, if_neg q, if_neg q, if_neg q2]; exact pp2 x hx
    · rw [k3, k4, k5]; exact pp4 _ (q_sw_lt ha hb hx)
  · intro x hx
    rw [k3, m2]; exact a7.1 _ (q_sw_lt ha hb hx)
  · intro x hx z
    rw [m2] at z
    rw [k3]; exact a7.2.1 _ (q_sw_lt ha hb hx) z
  · intro r k hr hk
    dsimp only
    rw [k3, k3, swC r k hr hk]
    have := a7.2.2.1 r k hr hk
    refine Eq.trans this ?_
    by_cases q : k + 1 < q_nb (S r)
    · rw [if_pos q, if_pos q, swC r (k + 1) hr q]
    · rw [if_neg q, if_neg q]
  · intro r i hr hi
    dsimp only
    rw [k4, k5, swC r (i / 4) hr (by unfold q_nb; omega)]
    exact a7.2.2.2 r i hr hi
  · exact (a8.fr (u' := z_sR (K 2 0) b (some (K 3 a)) (z_sR (K 2 0) a (some (K 3 b)) u)) a3.1.2 (eh 11 (by omega)) (eh 12 (by omega)) (fun i hi => rfl) (fun i w hi => hsR _ _ (n2 9 i (v0 9 i (by omega) hi) (by omega)))).kk (kf 8 (by omega)) (kf 9 (by omega)) (kf 16 (by omega))
  · have h0 := a9.fr (u' := z_sR (K 2 0) b (some (K 3 a)) (z_sR (K 2 0) a (some (K 3 b)) u)) (eh 15 (by omega)) (eh 16 (by omega)) (eh 17 (by omega)) (eh 18 (by omega)) (eh 19 (by omega)) rfl (fun m => hsR _ _ (n2 14 0 (v0 14 0 (by omega) (by decide)) (by omega))) (fun _ _ _ _ => rfl) (fun _ _ _ _ => rfl)
    unfold q_wM q_rf
    rw [kf 13 (by omega), kf 14 (by omega), kf 15 (by omega), kf 16 (by omega)]
    exact h0
  · refine ((a10 l hl).fr (u' := z_sR (K 2 0) b (some (K 3 a)) (z_sR (K 2 0) a (some (K 3 b)) u)) (M' := M') (S' := S) ?_ (fun z => by rw [eh 20 (by omega)] at z; exact z) (fun f h1 h2 => eh f (by omega)) (fun _ _ _ _ => rfl) (fun _ _ _ _ => rfl) rfl (fun _ => rfl)).kk (kf 11 (by omega)) (kf 12 (by omega)) (kf 16 (by omega))
    rw [eh 20 (by omega)]; exact (a10 l hl).1
  · intro x hx w
    have w' : q_lv M x := by unfold q_lv at w ⊢; rw [e6, e7] at w; exact w
    obtain ⟨c1, c2, c3, c4, c5⟩ := a11 x hx w'
    dsimp only
    rw [kf 16 (by omega), e6]
    refine ⟨?_, ?_, c3, c4, c5⟩
    · refine Eq.trans c1 ?_
      by_cases q : S x = 0
      · rw [if_pos q, if_pos q]
      · rw [if_neg q, if_neg q, k3, swC x 0 hx (by unfold q_nb; omega)]
    · refine Eq.trans c2 ?_
      by_cases q : S x = 0
      · rw [if_pos q, if_pos q]
      · rw [if_neg q, if_neg q, k3, swC x _ hx (by unfold q_nb; omega)]
  · unfold q_wI q_hd
    rw [kf 0 (by omega), eh 10 (by omega), eh 14 (by omega), e6]
    exact a12
theorem q_packL {Q : Int32 → z_St → Prop} {n h0 : Nat} (hN : N ≤ 64) (hn : n ≤ 100) : ∀ d k M C K u, k + d = n → q_W t0 N M S C E nb nm md K u → K 0 0 = h0 → M 0 0 = 0 → (∀ r' u', (∃ n0, w_X7_pack_21 (fun r M' => M' 0 0 = 0 ∧ r = r' ∧ q_WW t0 (N + 1) h0 M' u') n0 M (nI n) (nI k)) → Q r' u') → w_X6_pack_22 Q px ti mi h0 (d + 1) u (nI n) (nI k) := by
  intro d
  induction d with
  | zero =>
    intro k M C K u hk hW hh h00 hQ
    have hkn : k = n := by omega
    refine ⟨fun _ => hQ _ _ ⟨1, fun q => absurd h00 q, fun _ => ⟨fun _ => ⟨h00, rfl, hW.ww' hh⟩, fun q => absurd (nI_le (by omega) (by omega)) q⟩⟩, fun q => absurd (nI_le (by omega) (by omega)) q⟩
  | succ d ih =>
    intro k M C K u hk hW hh h00 hQ
    have hW' := hW
    obtain ⟨a1, a2, a3, a4, a5, a6, a7, a8, a9, a10, a11, a12⟩ := hW
    subst hh
    have hlt : ¬ nI n ≤ nI k := nI_ge (by omega) (by omega)
    refine ⟨fun q => absurd q hlt, fun _ => ⟨_, a6.1, a5.k 1 0 (by omega) (by decide), q_greatestUsed a5 a6 a7.1 (q_leastFree a5 a6 a7.1 ?_)⟩⟩
    have stop : ∀ (w : ∀ post : Int32 → z_Md → Prop, post (nI k) M → ∃ n0, w_X7_pack_21 post n0 M (nI n) (nI k)), Q (nI k) u := fun w => hQ _ _ (w _ ⟨h00, rfl, hW'.ww⟩)
    rcases q_first_spec (q_fr M) 40 with ⟨eF, -⟩ | ⟨b, hb, eF, pb, -⟩
    · rw [eF]
      refine ⟨fun _ => ⟨fun _ => stop (fun post hp => ?_), fun q => absurd rfl q⟩, fun q => absurd rfl q⟩
      refine ⟨1, fun q => absurd h00 q, fun _ => ⟨fun q => absurd q hlt, fun _ => q_freeBlock ?_⟩⟩
      rw [eF]
      exact ⟨fun _ => hp, fun q => absurd (by decide) q⟩
    · have h2b : M 2 b = 0 := of_decide_eq_true pb
      have hne1 : ¬ nI b = -1 := fun q => nI_pos (n := b) (by omega) (by rw [q]; decide)
      rw [eF]
      refine ⟨fun q => absurd q hne1, fun _ => ?_⟩
      have refS : ∀ (post : Int32 → z_Md → Prop) (n0 : Nat), (q_last (q_us M) 40 ≤ nI b → post (nI k) M) → (¬ q_last (q_us M) 40 ≤ nI b → w_X7_moveBlock (fun M15 => w_X7_pack_21 post n0 M15 (nI n) (nI (k + 1))) M (q_last (q_us M) 40) (nI b)) → w_X7_pack_21 post (n0 + 1) M (nI n) (nI k) := fun post n0 g1 g2 => by
        refine ⟨fun q => absurd h00 q, fun _ => ⟨fun q => absurd q hlt, fun _ => q_freeBlock ?_⟩⟩
        rw [eF]
        refine ⟨fun q => absurd q (nI_pos (by omega)), fun _ => q_freeBlock (q_lastBlock ?_)⟩
        rw [eF]
        refine ⟨g1, fun q => q_lastBlock (q_freeBlock ?_)⟩
        rw [eF, nI_1]
        exact g2 q
      rcases q_last_spec (q_us M) 40 with ⟨eL, -⟩ | ⟨a, ha, eL, pa⟩
      · rw [eL]
        have hle : (-1 : Int32) ≤ nI b := by
          rw [fa_le, nI_toInt (by omega)]
          show (-1 : Int) ≤ _
          omega
        have hnle : ¬ nI b ≤ (-1 : Int32) := fun q => by
          rw [fa_le, nI_toInt (by omega)] at q
          have : (b : Int) ≤ -1 := q
          omega
        refine ⟨fun q => absurd q hnle, fun _ => ⟨fun _ => stop (fun post hp => ⟨1, refS post 0 (fun _ => hp) (fun q => ?_)⟩), fun q => absurd rfl q⟩⟩
        rw [eL] at q; exact absurd hle q
      · have h2a : ¬ M 2 a ≤ 0 := of_decide_eq_true pa
        have h2a0 : ¬ M 2 a = 0 := fun q => h2a (by rw [q]; decide)
        have hab : a ≠ b := fun q => h2a0 (by rw [q]; exact h2b)
        rw [eL]
        by_cases hlt2 : b < a
        · have hle : nI b ≤ nI a := nI_le (by omega) (by omega)
          refine ⟨fun _ => ?_, fun q => absurd hle q⟩
          have va : vp_in (nI a) (z_ln (K 2 0) u) := by rw [a5.l 2 0 (by omega) (by decide) (by decide)]; exact vp_in_nI (n := a) (N := 40) ha (by omega)
          have vb : vp_in (nI b) (z_ln (K 2 0) u) := by rw [a5.l 2 0 (by omega) (by decide) (by decide)]; exact vp_in_nI (n := b) (N := 40) hb (by omega)
          refine ⟨_, a6.2.1, a5.k 2 0 (by omega) (by decide), va, vb, ?_⟩
          rw [q_c (n := b) (by omega), q_c (n := a) (by omega)]
          refine ⟨_, a6.2.2.1 b hb, a5.k 3 b (by omega) (show b < 40 from hb), va, _, a6.2.2.1 a ha, a5.k 3 a (by omega) (show a < 40 from ha), vb, fun q => absurd q (by decide), fun _ => ?_⟩
          rw [nI_1]
          have hmv := hW'.move hN ha hb hab h2a0 h2b
          refine ih (k + 1) _ _ _ _ (by omega) hmv rfl ?_ (fun r' u' hh => hQ r' u' ?_)
          · have : q_mv M a b 0 0 = M 0 0 := by
              unfold q_mv q_v3 q_v2 q_v1
              rw [if_neg (by omega), if_neg (by omega), if_neg (by omega)]
              rfl
            rw [this]; exact h00
          · obtain ⟨n0, hn0⟩ := hh
            refine ⟨n0 + 1, refS _ n0 (fun q => ?_) (fun _ => ?_)⟩
            · rw [eL] at q; exact absurd q (nI_ge hlt2 (by omega))
            · rw [eL]; exact q_moveBlock ha hb hab hn0
        · have hnle : ¬ nI b ≤ nI a := nI_ge (by omega) (by omega)
          refine ⟨fun q => absurd q hnle, fun _ => ⟨fun _ => stop (fun post hp => ⟨1, refS post 0 (fun _ => hp) (fun q => ?_)⟩), fun q => absurd rfl q⟩⟩
          rw [eL] at q; exact absurd (nI_le (by omega) (by omega)) q
theorem q_op_pack {x : Int32} (hN : N ≤ 64) (h : q_W t0 N M S C E nb nm md K u) : w_X6_pack (q_ok1 t0 (N + 1) (K 0 0) (fun post => w_X7_pack post M x)) (q_okx t0 (N + 1) (K 0 0) (fun post => w_X7_pack post M x) [("java/lang/IllegalArgumentException", 1)]) ti mi (K 0 0) u x := by
  have bad : (x < 0 ∨ ¬ x ≤ 100) → q_okx t0 (N + 1) (K 0 0) (fun post => w_X7_pack post M x) [("java/lang/IllegalArgumentException", 1)] "java/lang/IllegalArgumentException" u := fun hx => by
    refine ⟨1, by simp, ?_⟩
    intro y1 e1
    have hy : y1 = 1 := by
      rw [e1]
      by_cases q : x < 0
      · rw [if_pos q]
      · rw [if_neg q, if_neg (by rcases hx with w | w; exact absurd w q; exact w)]
    rw [hy]
    refine ⟨1, fun _ => ⟨q_up0 _ _, (h.up0 1).ww⟩, fun q => absurd ?_ (by decide : ¬ (1 : Int32) = 0)⟩
    rw [q_up0] at q; exact q
  refine ⟨fun q => bad (Or.inl q), fun q => ⟨fun q2 => ?_, fun q2 => bad (Or.inr q2)⟩⟩
  obtain ⟨n, hn, rfl⟩ := nI_of2 (n := 100) (M := 100) (by decide) q q2
  refine ⟨n + 1, q_packL hN hn n 0 (z_up M 0 0 0) C K u (by omega) (h.up0 0) rfl (q_up0 _ _) (fun r' u' hh => ?_)⟩
  dsimp only [q_ok1]
  intro y1 e1
  have hy : y1 = 0 := by rw [e1, if_neg q, if_pos q2]
  rw [hy]
  exact hh
end OS
