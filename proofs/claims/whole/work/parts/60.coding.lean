/-! the bank codes a frame -/
section OG
variable {t0 ti mi nb nm md N : Nat} {M : z_Md} {S : Nat → Nat} {C : Nat → Nat → Nat} {E : Nat → Nat → Int32 × Int32} {K : Nat → Nat → Nat} {u : z_St} {px : String → z_St → Prop}
/-- j samples of the frame told into block b's entry c -/
def q_F (K : Nat → Nat → Nat) (l b c j : Nat) (s : Int32 × Int32) (x : Nat → Int32) (u v : z_St) : Prop :=
  (∀ a, z_kd a v = z_kd a u) ∧ (∀ a, z_ln a v = z_ln a u) ∧ (∀ f a, ((f ≠ 14 ∧ f ≠ 15) ∨ a ≠ K 11 l) → z_gI f a v = z_gI f a u) ∧ (∀ f a, z_gR f a v = z_gR f a u) ∧ (∀ a i, z_aR a i v = z_aR a i u) ∧
  (∀ a i, (a ≠ K 5 b ∨ ∀ k, k < j → i ≠ 8 * c + k) → z_aI a i v = z_aI a i u) ∧ z_gI 14 (K 11 l) v = (q_run s x j).1 ∧ z_gI 15 (K 11 l) v = (q_run s x j).2 ∧ (∀ k, k < j → z_aI (K 5 b) (8 * c + k) v = (q_run s x (k + 1)).1)
theorem q_into {post : z_St → Prop} {l b c : Nat} {s : Int32 × Int32} {x : Nat → Int32} (hK : q_wK t0 nm M K u) (hP : q_wP K u) (hl : l < 3) (hb : b < 40) (hc : c < 4) (hs : q_gd s) (hx : ∀ j, j < 8 → z_aI (K 12 l) j u = x j ∧ -32768 ≤ (x j).toInt ∧ (x j).toInt ≤ 32767)
    (kk : ∀ v, q_F K l b c 8 s x u v → post (z_pI 2 (K 3 b) (z_gI 2 (K 3 b) u + 1) v)) :
    ∀ d j, j + d = 8 → ∀ v, q_F K l b c j s x u v → w_X2_codeInto_28 post ti mi (K 11 l) (d + 1) v (some (K 3 b)) (some (K 6 0)) (nI c) (nI j) := by
  obtain ⟨-, -, -, p4, -, p6, -, -, -, p10, -⟩ := hP
  intro d
  induction d with
  | zero =>
    intro j hj v hF
    have : j = 8 := by omega
    subst this
    refine ⟨fun _ => ⟨_, rfl, (hF.1 _).trans (hK.k 3 b (by omega) hb), ?_⟩, fun hh => absurd (by decide) hh⟩
    have e : z_gI 2 (K 3 b) v = z_gI 2 (K 3 b) u := hF.2.2.1 2 _ (Or.inl (by omega))
    rw [e]
    exact kk v hF
  | succ d ih =>
    intro j hj v hF
    obtain ⟨f1, f2, f3, f4, f5, f6, f7, f8, f9⟩ := hF
    obtain ⟨gg, n, hn, en⟩ := q_gd_run hs x j
    have h12 : z_kd (K 12 l) v = 10 := (f1 _).trans (hK.k 12 l (by omega) (show l < 3 from hl))
    have hln12 : z_ln (K 12 l) v = 8 := (f2 _).trans (hK.l 12 l (by omega) (show l < 3 from hl) (by decide))
    have h6k : z_kd (K 6 0) v = 10 := (f1 _).trans (hK.k 6 0 (by omega) (by decide))
    have hln6 : z_ln (K 6 0) v = 49 := (f2 _).trans (hK.l 6 0 (by omega) (by decide) (by decide))
    have hln5 : z_ln (K 5 b) v = 32 := (f2 _).trans (hK.l 5 b (by omega) (show b < 40 from hb) (by decide))
    have n5 : ∀ f i, f ≤ 14 → i < q_fs f → f ≠ 5 → K f i ≠ K 5 b := fun f i h1 h2 h3 => hK.ne (Or.inl ⟨h1, h2⟩) (Or.inl ⟨by omega, hb⟩) (Or.inl h3)
    have e15 : z_gI 15 (K 11 l) v = nI n := f8.trans en
    refine ⟨fun hh => absurd hh (nI_ge (a := j) (b := 8) (by omega) (by omega)), fun _ => ⟨_, (f4 6 _).trans (p10 l hl).2, h12, by rw [hln12]; exact vp_in_nI (by omega) (by omega), _, rfl, h6k, by rw [hln6, e15]; exact vp_in_nI hn (by omega), ?_⟩⟩
    rw [e15, q_c (n := n) (by omega), q_c (n := j) (by omega), f6 _ n (Or.inl (n5 6 0 (by omega) (by decide) (by omega))), p6 n hn, f6 _ j (Or.inl (n5 12 l (by omega) hl (by omega))), (hx j (by omega)).1]
    refine q_tell hn e15 (by rw [f7]; exact gg) (hx j (by omega)).2 ?_
    rw [f7, ← en]
    have er : q_run s x (j + 1) = (q_hg (q_run s x j).1 (q_run s x j).2 (q_code (q_run s x j).1 (q_run s x j).2 (x j)), q_hi (q_run s x j).2 (q_code (q_run s x j).1 (q_run s x j).2 (x j))) := rfl
    generalize hg : q_hg (q_run s x j).1 (q_run s x j).2 (q_code (q_run s x j).1 (q_run s x j).2 (x j)) = g' at er ⊢
    generalize hi : q_hi (q_run s x j).2 (q_code (q_run s x j).1 (q_run s x j).2 (x j)) = i' at er ⊢
    have e18 : (nI c * 8 : Int32) = nI (c * 8) := pk_mul c 8
    refine ⟨_, rfl, (f1 _).trans (hK.k 3 b (by omega) hb), _, (f4 1 _).trans (p4 b hb).2, (f1 _).trans (hK.k 5 b (by omega) (show b < 40 from hb)), ?_, ?_⟩
    · show vp_in (nI c * 8 + nI j) (z_ln (K 5 b) v)
      rw [hln5, e18, nI_add]
      exact vp_in_nI (by omega) (by omega)
    · rw [e18, nI_add, q_c (n := c * 8 + j) (by omega), nI_1]
      refine ih (j + 1) (by omega) _ ⟨f1, f2, fun f a hfa => ?_, f4, f5, fun a i hai => ?_, ?_, ?_, fun k hk => ?_⟩
      · rw [← f3 f a hfa]
        rcases hfa with w | w
        · simp [z_gI, z_pI, z_sI, z_up, w]
        · simp [z_gI, z_pI, z_sI, z_up, w]
      · have : a ≠ K 5 b ∨ i ≠ c * 8 + j := by
          rcases hai with w | w
          · exact Or.inl w
          · exact Or.inr (fun q => w j (by omega) (by omega))
        rw [← f6 a i (by
          rcases hai with w | w
          · exact Or.inl w
          · exact Or.inr (fun k hk => w k (by omega)))]
        rcases this with w | w <;> simp [z_aI, z_sI, z_pI, z_up, w]
      · rw [er]; simp [z_gI, z_sI, z_pI, z_up]
      · rw [er]; simp [z_gI, z_sI, z_pI, z_up]
      · by_cases q : k = j
        · subst q
          have e9 : c * 8 + k = 8 * c + k := by omega
          rw [er, e9]
          simp [z_aI, z_gI, z_sI, z_pI, z_up]
        · have e9 : ¬ 8 * c + k = c * 8 + j := by omega
          rw [← f9 k (by omega)]
          simp [z_aI, z_sI, z_pI, z_up, e9]
/-- behind the coding: what is where -/
def q_D (K : Nat → Nat → Nat) (l r b n : Nat) (C : Nat → Nat → Nat) (s : Int32 × Int32) (x : Nat → Int32) (u v : z_St) : Prop :=
  (∀ a, z_kd a v = z_kd a u) ∧ (∀ a, z_ln a v = z_ln a u) ∧ (∀ f a, f ≠ 2 → ((f ≠ 14 ∧ f ≠ 15) ∨ a ≠ K 11 l) → z_gI f a v = z_gI f a u) ∧ (∀ a, a ≠ K 3 b → z_gI 2 a v = z_gI 2 a u) ∧ z_gI 2 (K 3 b) v = nI (n % 4 + 1) ∧
  z_gI 14 (K 11 l) v = (q_run s x 8).1 ∧ z_gI 15 (K 11 l) v = (q_run s x 8).2 ∧
  (∀ f a, f ≠ 3 → ((f ≠ 21 ∧ f ≠ 22) ∨ a ≠ K 16 r) → z_gR f a v = z_gR f a u) ∧ (∀ a, (n % 4 = 0 → 0 < n → a ≠ K 3 (C r (n / 4 - 1))) → z_gR 3 a v = z_gR 3 a u) ∧ (n % 4 = 0 → 0 < n → z_gR 3 (K 3 (C r (n / 4 - 1))) v = some (K 3 b)) ∧
  z_gR 21 (K 16 r) v = (if n = 0 then some (K 3 b) else z_gR 21 (K 16 r) u) ∧ z_gR 22 (K 16 r) v = some (K 3 b) ∧ (∀ a i, z_aR a i v = z_aR a i u) ∧
  (∀ a i, ¬ (a = K 4 b ∧ i = n % 4) → (a ≠ K 5 b ∨ ∀ k, k < 8 → i ≠ 8 * (n % 4) + k) → z_aI a i v = z_aI a i u) ∧ z_aI (K 4 b) (n % 4) v = 0 ∧ (∀ k, k < 8 → z_aI (K 5 b) (8 * (n % 4) + k) v = (q_run s x (k + 1)).1)
theorem q_codeInto {post : z_St → Prop} {l r b : Nat} {x : Nat → Int32} {v0 : z_St} (h : q_W t0 N M S C E nb nm md K u) (hN : N ≤ 64) (hl : l < 3) (hr : r < 48) (hlv : q_lv M r) (hb : b < 40) (hs : q_gd (z_gI 14 (K 11 l) u, z_gI 15 (K 11 l) u)) (hx : ∀ j, j < 8 → z_aI (K 12 l) j u = x j ∧ -32768 ≤ (x j).toInt ∧ (x j).toInt ≤ 32767)
    (w1 : ∀ a, z_kd a v0 = z_kd a u) (w2 : ∀ a, z_ln a v0 = z_ln a u) (w3 : ∀ f a, z_gI f a v0 = z_gI f a u) (w4 : ∀ f a, f ≠ 3 → ((f ≠ 21 ∧ f ≠ 22) ∨ a ≠ K 16 r) → z_gR f a v0 = z_gR f a u) (w5 : ∀ a i, z_aR a i v0 = z_aR a i u) (w6 : ∀ a i, z_aI a i v0 = z_aI a i u)
    (x1 : ∀ a, (S r % 4 = 0 → 0 < S r → a ≠ K 3 (C r (S r / 4 - 1))) → z_gR 3 a v0 = z_gR 3 a u) (x2 : S r % 4 = 0 → 0 < S r → z_gR 3 (K 3 (C r (S r / 4 - 1))) v0 = some (K 3 b)) (x3 : z_gR 21 (K 16 r) v0 = (if S r = 0 then some (K 3 b) else z_gR 21 (K 16 r) u)) (x4 : z_gR 22 (K 16 r) v0 = some (K 3 b))
    (hcnt : z_gI 2 (K 3 b) u = nI (S r % 4)) (kk : ∀ v, q_D K l r b (S r) C (z_gI 14 (K 11 l) u, z_gI 15 (K 11 l) u) x u v → post v) : w_X6_codeFrame_39 post ti mi (K 0 0) v0 (some (K 11 l)) (some (K 16 r)) := by
  obtain ⟨a1, a2, a3, a4, a5, a6, a7, a8, a9, a10, a11, a12⟩ := h
  have p27 := a6.2.2.2.2.1
  have p4 := a6.2.2.2.1
  have v00 : ∀ f j, f ≤ 14 → j < q_fs f → q_vd M nm f j := fun f j h1 h2 => Or.inl ⟨h1, h2⟩
  have hvr : q_vd M nm 16 r := Or.inr (Or.inr ⟨rfl, hr, hlv⟩)
  have n16 : ∀ f j, f ≤ 14 → j < q_fs f → K f j ≠ K 16 r := fun f j h1 h2 => a5.ne (v00 f j h1 h2) hvr (Or.inl (by omega))
  have n45 : K 4 b ≠ K 5 b := a5.ne (v00 4 b (by omega) hb) (v00 5 b (by omega) hb) (Or.inl (by omega))
  have e27 : z_gR 27 (K 0 0) v0 = some (K 6 0) := (w4 27 _ (by omega) (Or.inl (by omega))).trans p27
  refine ⟨_, rfl, (w1 _).trans (a5.r hr hlv), _, rfl, (w1 _).trans (a5.k 11 l (by omega) (show l < 3 from hl)), ?_⟩
  rw [x4, e27]
  refine ⟨fun z => (by cases z), fun _ => ⟨_, rfl, (w1 _).trans (a5.k 3 b (by omega) hb), ?_⟩⟩
  rw [w3, hcnt]
  refine ⟨fun _ => ⟨_, (w4 0 _ (by omega) (Or.inl (by omega))).trans (p4 b hb).1, (w1 _).trans (a5.k 4 b (by omega) (show b < 40 from hb)), ?_, 9, ?_⟩, fun z => ?_⟩
  · rw [w2, a5.l 4 b (by omega) (show b < 40 from hb) (by decide)]
    exact vp_in_nI (n := S r % 4) (N := 4) (by omega) (by omega)
  · rw [q_c (n := S r % 4) (by omega)]
    -- the relation's world with the entry's gap at naught
    have hK2 : q_wK t0 nm M K (z_sI (K 4 b) (S r % 4) 0 v0) := by
      refine ⟨fun f j hv hn => (w1 _).trans (a5.1 f j hv hn), fun f j b1 b2 b3 => (w2 _).trans (a5.2.1 f j b1 b2 b3), ?_, a5.2.2.2⟩
      have e1 : z_kd (K 14 0) (z_sI (K 4 b) (S r % 4) 0 v0) = z_kd (K 14 0) u := w1 _
      have e2 : z_ln (K 14 0) (z_sI (K 4 b) (S r % 4) 0 v0) = z_ln (K 14 0) u := w2 _
      rw [e1, e2]
      exact a5.2.2.1
    have gA : ∀ f i j, f ≤ 14 → i < q_fs f → f ≠ 4 → z_aI (K f i) j (z_sI (K 4 b) (S r % 4) 0 v0) = z_aI (K f i) j u := fun f i j h1 h2 h3 => by
      have hne := a5.ne (v00 f i h1 h2) (v00 4 b (by omega) hb) (Or.inl h3)
      rw [← w6]
      simp [z_aI, z_sI, z_up, hne]
    have hP2 : q_wP K (z_sI (K 4 b) (S r % 4) 0 v0) := by
      obtain ⟨p28, p26, p2, p4, p27, p6, p29, p7, p30, p10, p31, p36⟩ := a6
      exact ⟨(w4 28 _ (by omega) (Or.inl (by omega))).trans p28, (w4 26 _ (by omega) (Or.inl (by omega))).trans p26, fun y hy => (w5 _ _).trans (p2 y hy), fun y hy => ⟨(w4 0 _ (by omega) (Or.inl (by omega))).trans (p4 y hy).1, (w4 1 _ (by omega) (Or.inl (by omega))).trans (p4 y hy).2⟩, e27, fun y hy => (gA 6 0 y (by omega) (by decide) (by omega)).trans (p6 y hy), (w4 29 _ (by omega) (Or.inl (by omega))).trans p29, fun y hy => ⟨(w5 _ _).trans (p7 y hy).1, (w4 4 _ (by omega) (Or.inl (by omega))).trans (p7 y hy).2⟩, (w4 30 _ (by omega) (Or.inl (by omega))).trans p30, fun y hy => ⟨(w5 _ _).trans (p10 y hy).1, (w4 6 _ (by omega) (Or.inl (by omega))).trans (p10 y hy).2⟩, (w4 31 _ (by omega) (Or.inl (by omega))).trans p31, (w4 36 _ (by omega) (Or.inl (by omega))).trans p36⟩
    refine q_into (s := (z_gI 14 (K 11 l) u, z_gI 15 (K 11 l) u)) (x := x) (c := S r % 4) hK2 hP2 hl hb (by omega) hs (fun j hj => ?_) (fun v hF => kk _ ?_) 8 0 (by omega) _ ⟨fun _ => rfl, fun _ => rfl, fun _ _ _ => rfl, fun _ _ => rfl, fun _ _ => rfl, fun _ _ _ => rfl, w3 14 _, w3 15 _, fun k hk => by omega⟩
    · rw [gA 12 l j (by omega) hl (by omega)]
      exact hx j hj
    · obtain ⟨f1, f2, f3, f4, f5, f6, f7, f8, f9⟩ := hF
      have hcc : z_gI 2 (K 3 b) (z_sI (K 4 b) (S r % 4) 0 v0) = nI (S r % 4) := (w3 2 _).trans hcnt
      rw [hcc, nI_1]
      have n311 : K 11 l ≠ K 3 b := a5.ne (v00 11 l (by omega) hl) (v00 3 b (by omega) hb) (Or.inl (by omega))
      have gI0 : ∀ f a, f ≠ 2 → z_gI f a (z_pI 2 (K 3 b) (nI (S r % 4 + 1)) v) = z_gI f a v := fun f a hf => by simp [z_gI, z_pI, z_up, hf]
      refine ⟨fun a => (f1 a).trans (w1 a), fun a => (f2 a).trans (w2 a), fun f a hf hfa => ?_, fun a ha => ?_, ?_, ?_, ?_, fun f a h1 h2 => (f4 f a).trans (w4 f a h1 h2), fun a ha => (f4 3 a).trans (x1 a ha), fun c1 c2 => (f4 3 _).trans (x2 c1 c2), (f4 21 _).trans x3, (f4 22 _).trans x4, fun a i => (f5 a i).trans (w5 a i), fun a i h1 h2 => ?_, ?_, fun k hk => f9 k hk⟩
      · rw [gI0 f a hf]; exact (f3 f a hfa).trans (w3 f a)
      · have : z_gI 2 a (z_pI 2 (K 3 b) (nI (S r % 4 + 1)) v) = z_gI 2 a v := by simp [z_gI, z_pI, z_up, ha]
        rw [this]; exact (f3 2 a (Or.inl (by omega))).trans (w3 2 a)
      · simp [z_gI, z_pI, z_up]
      · rw [gI0 14 _ (by omega)]; exact f7
      · rw [gI0 15 _ (by omega)]; exact f8
      · have e1 : z_aI a i (z_pI 2 (K 3 b) (nI (S r % 4 + 1)) v) = z_aI a i v := rfl
        rw [e1, f6 a i h2, ← w6]
        have : ¬ (a = K 4 b ∧ i = S r % 4) := h1
        simp [z_aI, z_sI, z_up, this]
      · have e1 : z_aI (K 4 b) (S r % 4) (z_pI 2 (K 3 b) (nI (S r % 4 + 1)) v) = z_aI (K 4 b) (S r % 4) v := rfl
        rw [e1, f6 _ _ (Or.inl n45)]
        simp [z_aI, z_sI, z_up]
  · exact absurd (nI_lt (a := S r % 4) (b := 4) (by omega) (by omega)) z
theorem q_codeFrame {post : z_St → Prop} {l r b : Nat} {x : Nat → Int32} (h : q_W t0 N M S C E nb nm md K u) (hN : N ≤ 64) (hl : l < 3) (hr : r < 48) (hbz : ¬ M 20 l = 0) (hlr : M 23 l = nI r) (hb : b < 40) (hs : q_gd (z_gI 14 (K 11 l) u, z_gI 15 (K 11 l) u)) (hx : ∀ j, j < 8 → z_aI (K 12 l) j u = x j ∧ -32768 ≤ (x j).toInt ∧ (x j).toInt ≤ 32767)
    (hb0 : S r % 4 = 0 → q_first (q_fr M) 40 = nI b ∧ M 2 b = 0) (hb1 : S r % 4 ≠ 0 → b = C r (S r / 4)) (kk : ∀ v, q_D K l r b (S r) C (z_gI 14 (K 11 l) u, z_gI 15 (K 11 l) u) x u v → post v) : w_X6_codeFrame post ti mi (K 0 0) u (some (K 11 l)) := by
  have h' := h
  obtain ⟨a1, a2, a3, a4, a5, a6, a7, a8, a9, a10, a11, a12⟩ := h
  have hlv : q_lv M r := Or.inr (a4.l23 hl hr hbz hlr)
  have hSN := (a2.1 r hr).2
  have e12 : z_gR 12 (K 11 l) u = some (K 16 r) := by rw [((a10 l hl).2 hbz).2.2.2.1, hlr, q_rf_s K hr]
  obtain ⟨r21, r22, -⟩ := a11 r hr hlv
  have hvr : q_vd M nm 16 r := Or.inr (Or.inr ⟨rfl, hr, hlv⟩)
  refine ⟨_, rfl, a5.k 11 l (by omega) (show l < 3 from hl), _, e12, a5.r hr hlv, q_needsBlock hN h' hr hlv ?_⟩
  rw [e12]
  by_cases w : S r % 4 = 0
  · rw [if_pos w]
    obtain ⟨hf, hz⟩ := hb0 w
    refine ⟨fun q => absurd q (by decide), fun _ => ⟨_, a6.1, a5.k 1 0 (by omega) (by decide), q_leastFree a5 a6 a7.1 ?_⟩⟩
    rw [hf]
    refine ⟨fun _ => ⟨_, a6.1, a5.k 1 0 (by omega) (by decide), _, a6.2.1, a5.k 2 0 (by omega) (by decide), ?_, ?_⟩, fun q => ?_⟩
    · rw [a5.l 2 0 (by omega) (by decide) (by decide)]
      exact vp_in_nI (n := b) (N := 40) hb (by omega)
    · rw [q_c (n := b) (by omega), a6.2.2.1 b hb]
      have hcnt : z_gI 2 (K 3 b) u = nI (S r % 4) := by rw [a7.1 b hb, hz, w]; rfl
      refine ⟨fun z => ?_, fun z => ?_⟩
      · have hS0 : ¬ S r = 0 := fun q => z (by rw [r22, if_pos q])
        have hkb : (S r - 1) / 4 < q_nb (S r) := by unfold q_nb; omega
        have hlast := a2.2.2.1 r _ hr hkb
        have ek : (S r - 1) / 4 = S r / 4 - 1 := by omega
        rw [ek] at hlast
        refine ⟨K 3 (C r (S r / 4 - 1)), by rw [r22, if_neg hS0, ek], a5.k 3 _ (by omega) (show C r (S r / 4 - 1) < 40 from hlast), ?_⟩
        have n316 : K 3 (C r (S r / 4 - 1)) ≠ K 16 r := a5.ne (Or.inl ⟨by omega, hlast⟩) hvr (Or.inl (by omega))
        refine q_codeInto (v0 := z_pR 22 (K 16 r) (some (K 3 b)) (z_pR 3 (K 3 (C r (S r / 4 - 1))) (some (K 3 b)) u)) h' hN hl hr hlv hb hs hx (fun _ => rfl) (fun _ => rfl) (fun _ _ => rfl) (fun f a h1 h2 => ?_) (fun _ _ => rfl) (fun _ _ => rfl) (fun a ha => ?_) (fun _ _ => ?_) ?_ ?_ hcnt kk
        · rcases h2 with q | q <;> simp [z_gR, z_pR, z_up, h1, q]
        · have := ha w (by omega)
          simp [z_gR, z_pR, z_up, this]
        · simp [z_gR, z_pR, z_up]
        · simp [z_gR, z_pR, z_up, hS0]
        · simp [z_gR, z_pR, z_up]
      · have hS0 : S r = 0 := by
          apply Decidable.byContradiction
          intro q
          rw [r22, if_neg q] at z
          cases z
        refine q_codeInto (v0 := z_pR 22 (K 16 r) (some (K 3 b)) (z_pR 21 (K 16 r) (some (K 3 b)) u)) h' hN hl hr hlv hb hs hx (fun _ => rfl) (fun _ => rfl) (fun _ _ => rfl) (fun f a h1 h2 => ?_) (fun _ _ => rfl) (fun _ _ => rfl) (fun a ha => ?_) (fun _ q => absurd q (by omega)) ?_ ?_ hcnt kk
        · rcases h2 with q | q <;> simp [z_gR, z_pR, z_up, q]
        · simp [z_gR, z_pR, z_up]
        · simp [z_gR, z_pR, z_up, hS0]
        · simp [z_gR, z_pR, z_up]
    · have hp := nI_pos (n := b) (by omega)
      rw [q] at hp
      exact absurd q_m1 hp
  · rw [if_neg w]
    have hS0 : ¬ S r = 0 := fun q => w (by rw [q])
    have hkb : S r / 4 < q_nb (S r) := by unfold q_nb; omega
    have ek : (S r - 1) / 4 = S r / 4 := by omega
    have hbb := hb1 w
    have hcnt : z_gI 2 (K 3 b) u = nI (S r % 4) := by
      rw [a7.1 b hb, hbb, a2.2.2.2.1 r _ hr hkb]
      congr 1; omega
    refine ⟨fun _ => q_codeInto (v0 := u) h' hN hl hr hlv hb hs hx (fun _ => rfl) (fun _ => rfl) (fun _ _ => rfl) (fun _ _ _ _ => rfl) (fun _ _ => rfl) (fun _ _ => rfl) (fun _ _ => rfl) (fun q => absurd q w) ?_ ?_ hcnt kk, fun q => absurd rfl q⟩
    · rw [if_neg hS0]
    · rw [r22, if_neg hS0, ek, ← hbb]
end OG
