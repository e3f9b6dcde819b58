/-! letting go of a record, both sides -/
def q_dv (M : z_Md) (S : Nat → Nat) (r : Nat) : Int32 := if M 6 r = 1 then nI (q_nb (S r)) else 0
def q_dS (M : z_Md) (S : Nat → Nat) (r : Nat) : Nat → Nat := if M 6 r = 1 then q_u S r 0 else S
def q_dM (N : Nat) (M : z_Md) (S : Nat → Nat) (C : Nat → Nat → Nat) (E : Nat → Nat → Int32 × Int32) (r : Nat) (M' : z_Md) : Prop :=
  (∀ f, f ≠ 2 → f ≠ 6 → f ≠ 9 → M' f = M f) ∧ (∀ x, M' 6 x = if x = r then M 6 r - 1 else M 6 x) ∧ (¬ M 6 r = 1 → M' 2 = M 2) ∧ (M 6 r = 1 → (∀ x, (∀ k, k < q_nb (S r) → x ≠ C r k) → M' 2 x = M 2 x) ∧ ∀ k, k < q_nb (S r) → M' 2 (C r k) = 0) ∧ q_P N M' (q_dS M S r) C E
theorem q_letGo {post : Int32 → z_Md → Prop} {N : Nat} {M : z_Md} {S : Nat → Nat} {C : Nat → Nat → Nat} {E : Nat → Nat → Int32 × Int32} {r : Nat} (hP : q_P N M S C E) (hN : N ≤ 64) (hr : r < 48) (h6 : ∃ n : Nat, 1 ≤ n ∧ n ≤ 60 ∧ M 6 r = nI n) (kk : ∀ M', q_dM N M S C E r M' → post (q_dv M S r) M') : w_X7_letGo post M (nI r) := by
  obtain ⟨n, h1, h2, e⟩ := h6
  have hv : vp_in (nI r) 48 := vp_in_nI hr (by omega)
  have hsub : nI n - 1 = nI (n - 1) := pk_sub (b := 1) h1
  have hP1 : q_P N (z_up M 6 r (nI (n - 1))) S C E := hP.fr rfl rfl rfl rfl rfl rfl
  refine ⟨fun _ => ⟨hv, hv, hv, ?_⟩, fun q => absurd (nI_pos' (by omega)) q⟩
  rw [q_c (n := r) (by omega), e, hsub, z_up_s]
  refine ⟨fun z => ?_, fun z => ?_⟩
  · have hn : ¬ M 6 r = 1 := fun q => by
      rw [e] at q
      have := (nI_eq (a := n) (b := 1) (by omega) (by omega)).mp q
      subst this
      exact z rfl
    have := kk (z_up M 6 r (nI (n - 1))) ⟨fun f _ f6 _ => z_up_f _ _ _ f6, fun x => ?_, fun _ => rfl, fun q => absurd q hn, ?_⟩
    · unfold q_dv at this
      rw [if_neg hn] at this
      exact this
    · rw [e, hsub]
      by_cases q : x = r
      · subst q; rw [z_up_s, if_pos rfl]
      · rw [z_up_a _ _ _ _ q, if_neg q]
    · unfold q_dS
      rw [if_neg hn]
      exact hP1
  · have hn1 : n = 1 := by
      apply Decidable.byContradiction
      intro q
      exact nI_ne0 (n := n - 1) (by omega) (by omega) z
    subst hn1
    have hn : M 6 r = 1 := e
    refine q_release hP1 hN hr (fun M' g1 g2 g3 g4 => ?_)
    have := kk M' ⟨fun f f2 f6 f9 => (g1 f f2 f9).trans (z_up_f _ _ _ f6), fun x => ?_, fun q => absurd hn q, fun _ => ⟨fun x hx => ?_, g3⟩, ?_⟩
    · unfold q_dv at this
      rw [if_pos hn] at this
      exact this
    · rw [g1 6 (by omega) (by omega), hn]
      by_cases q : x = r
      · subst q; rw [z_up_s, if_pos rfl]; rfl
      · rw [z_up_a _ _ _ _ q, if_neg q]
    · exact g2 x hx
    · unfold q_dS
      rw [if_pos hn]
      exact g4
theorem q_letGo_n {post : Int32 → z_Md → Prop} {M : z_Md} (h : post 0 M) : w_X7_letGo post M (-1) := ⟨fun q => absurd q (by decide), fun _ => h⟩
/-- the chain's blocks emptied -/
def q_zf {α : Type} (K : Nat → Nat → Nat) (C : Nat → Nat → Nat) (r k g : Nat) (v : α) (F : Nat → Nat → α) : Nat → Nat → α := fun f x => if f = g ∧ ∃ j, j < k ∧ x = K 3 (C r j) then v else F f x
theorem q_zf_0 {α : Type} (K : Nat → Nat → Nat) (C : Nat → Nat → Nat) (r g : Nat) (v : α) (F : Nat → Nat → α) : q_zf K C r 0 g v F = F := by
  funext f x
  unfold q_zf
  rw [if_neg (fun q => by obtain ⟨-, j, hj, -⟩ := q; omega)]
theorem q_zf_s {α : Type} (K : Nat → Nat → Nat) (C : Nat → Nat → Nat) (r k g : Nat) (v : α) (F : Nat → Nat → α) : z_up (q_zf K C r k g v F) g (K 3 (C r k)) v = q_zf K C r (k + 1) g v F := by
  funext f x
  rw [z_up_e]
  unfold q_zf
  by_cases h : f = g ∧ x = K 3 (C r k)
  · rw [if_pos h, if_pos ⟨h.1, k, by omega, h.2⟩]
  · rw [if_neg h]
    by_cases h2 : f = g ∧ ∃ j, j < k ∧ x = K 3 (C r j)
    · obtain ⟨a, j, hj, e⟩ := h2
      rw [if_pos ⟨a, j, hj, e⟩, if_pos ⟨a, j, by omega, e⟩]
    · rw [if_neg h2, if_neg (fun q => by
        obtain ⟨a, j, hj, e⟩ := q
        by_cases hjk : j = k
        · subst hjk; exact h ⟨a, e⟩
        · exact h2 ⟨a, j, by omega, e⟩)]
def q_fz (K : Nat → Nat → Nat) (C : Nat → Nat → Nat) (r k : Nat) (u : z_St) : z_St := (u.1, u.2.1, q_zf K C r k 2 0 u.2.2.1, q_zf K C r k 3 none u.2.2.2.1, u.2.2.2.2.1, u.2.2.2.2.2)
theorem q_fz_0 (K : Nat → Nat → Nat) (C : Nat → Nat → Nat) (r : Nat) (u : z_St) : q_fz K C r 0 u = u := by
  unfold q_fz
  rw [q_zf_0, q_zf_0]
theorem q_fz_s (K : Nat → Nat → Nat) (C : Nat → Nat → Nat) (r k : Nat) (u : z_St) : z_pR 3 (K 3 (C r k)) none (z_pI 2 (K 3 (C r k)) 0 (q_fz K C r k u)) = q_fz K C r (k + 1) u := by
  show (u.1, u.2.1, z_up (q_zf K C r k 2 0 u.2.2.1) 2 (K 3 (C r k)) 0, z_up (q_zf K C r k 3 none u.2.2.2.1) 3 (K 3 (C r k)) none, u.2.2.2.2.1, u.2.2.2.2.2) = _
  rw [q_zf_s, q_zf_s]
  rfl
def q_dU (K : Nat → Nat → Nat) (C : Nat → Nat → Nat) (S : Nat → Nat) (M : z_Md) (r : Nat) (u u' : z_St) : Prop :=
  (∀ x, z_kd x u' = z_kd x u) ∧ (∀ x, z_ln x u' = z_ln x u) ∧ (∀ x j, z_aI x j u' = z_aI x j u) ∧ (∀ x j, z_aR x j u' = z_aR x j u) ∧ (∀ f x, f ≠ 2 → f ≠ 25 → f ≠ 34 → z_gI f x u' = z_gI f x u) ∧ (∀ f x, f ≠ 3 → f ≠ 21 → f ≠ 22 → z_gR f x u' = z_gR f x u) ∧
  z_gI 25 (K 16 r) u' = z_gI 25 (K 16 r) u - 1 ∧ (∀ x, x ≠ K 16 r → z_gI 25 x u' = z_gI 25 x u) ∧ z_gI 34 (K 0 0) u' = (if M 6 r = 1 then z_gI 34 (K 0 0) u - 1 else z_gI 34 (K 0 0) u) ∧ (∀ f x, (¬ M 6 r = 1 ∨ (x ≠ K 16 r ∧ ∀ k, k < q_nb (S r) → x ≠ K 3 (C r k))) → z_gI 2 x u' = z_gI 2 x u ∧ z_gR f x u' = z_gR f x u) ∧
  (M 6 r = 1 → ∀ k, k < q_nb (S r) → z_gI 2 (K 3 (C r k)) u' = 0 ∧ z_gR 3 (K 3 (C r k)) u' = none)
section OJ
variable {t0 ti mi nb nm md N N' : Nat} {pn pn' : Nat → Nat} {M M' : z_Md} {S S' : Nat → Nat} {C C' : Nat → Nat → Nat} {E E' : Nat → Nat → Int32 × Int32} {K K' : Nat → Nat → Nat} {u u' : z_St}
theorem q_users1 (h : q_Wp pn t0 N M S C E nb nm md K u) {r : Nat} (hr : r < 48) (hp : 0 < pn r) : ∃ n : Nat, 1 ≤ n ∧ n ≤ 60 ∧ M 6 r = nI n := by
  obtain ⟨-, -, a3, a4, -⟩ := h
  have hle := q_rfs_le (M := M) (nm := nm) (r := r) a3.2.1.2
  obtain ⟨e, b⟩ := a4.1 r hr
  exact ⟨_, by omega, by omega, e⟩
theorem q_relC_l {post : Int32 → z_St → Prop} {r : Nat} (hP : q_P N M S C E) (hr : r < 48) {u1 : z_St} (hk : ∀ b, b < 40 → z_kd (K 3 b) u1 = 2) (hch : ∀ k, k < q_nb (S r) → z_gR 3 (K 3 (C r k)) u1 = if k + 1 < q_nb (S r) then some (K 3 (C r (k + 1))) else none) (hinj : ∀ b b', b < 40 → b' < 40 → K 3 b = K 3 b' → b = b')
    (h : post (nI (q_nb (S r))) (z_pR 22 (K 16 r) none (z_pR 21 (K 16 r) none (q_fz K C r (q_nb (S r)) u1)))) : ∀ d k, k + d = q_nb (S r) → w_X4_freeBlocks_7 post t0 mi (K 16 r) (d + 1) (q_fz K C r k u1) (nI k) (if k < q_nb (S r) then some (K 3 (C r k)) else none) := by
  obtain ⟨h1, h2, h3, h4, h5, h6, h7, h8, h9⟩ := hP
  intro d
  induction d with
  | zero =>
    intro k hk2
    have hkk : k = q_nb (S r) := by omega
    rw [if_neg (by omega)]
    refine ⟨fun _ => ?_, fun q => absurd rfl q⟩
    rw [hkk]; exact h
  | succ d ih =>
    intro k hk2
    have hlt : k < q_nb (S r) := by omega
    rw [if_pos hlt]
    refine ⟨fun q => (by cases q), fun _ => ⟨_, rfl, hk _ (h3 r k hr hlt), ?_⟩⟩
    have e : z_gR 3 (K 3 (C r k)) (q_fz K C r k u1) = if k + 1 < q_nb (S r) then some (K 3 (C r (k + 1))) else none := by
      rw [← hch k hlt]
      refine if_neg (fun q => ?_)
      obtain ⟨-, j, hj, ej⟩ := q
      have := (h8 r k r j hr hlt hr (by omega) (hinj _ _ (h3 r k hr hlt) (h3 r j hr (by omega)) ej)).2
      omega
    rw [q_fz_s, nI_1, e]
    exact ih (k + 1) (by omega)
theorem q_relC {post : Int32 → z_St → Prop} {r : Nat} (h : q_Wp pn t0 N M S C E nb nm md K u) (hr : r < 48) (hp : 0 < pn r) (kk : ∀ u', q_dU K C S M r u u' → post (q_dv M S r) u') : w_X6_release post t0 mi (K 0 0) u (some (K 16 r)) := by
  obtain ⟨n, n1, n2, en⟩ := q_users1 h hr hp
  obtain ⟨a1, a2, a3, a4, a5, a6, a7, a8, a9, a10, a11, a12⟩ := h
  have h6 : ¬ M 6 r = 0 := by rw [en]; exact nI_ne0 (by omega) (by omega)
  have hlv : q_lv M r := Or.inl h6
  obtain ⟨c21, c22, c24, c23, c25⟩ := a11 r hr hlv
  have e25 : z_gI 25 (K 16 r) u = nI n := c25.trans en
  have hsub : nI n - 1 = nI (n - 1) := pk_sub (b := 1) n1
  have v00 : ∀ f j, f ≤ 14 → j < q_fs f → q_vd M nm f j := fun f j h1 h2 => Or.inl ⟨h1, h2⟩
  have v16 : q_vd M nm 16 r := Or.inr (Or.inr ⟨rfl, hr, hlv⟩)
  have hinj : ∀ b b', b < 40 → b' < 40 → K 3 b = K 3 b' → b = b' := fun b b' hb hb' e => (a5.2.2.2 3 b 3 b' (v00 3 b (by omega) hb) (v00 3 b' (by omega) hb') e).2
  have n0 : K 0 0 ≠ K 16 r := a5.ne (v00 0 0 (by omega) (by decide)) v16 (Or.inl (by omega))
  refine ⟨fun _ => ⟨_, rfl, a5.r hr hlv, ?_⟩, fun q => (by cases q)⟩
  have ez : z_gI 25 (K 16 r) (z_pI 25 (K 16 r) (z_gI 25 (K 16 r) u - 1) u) = nI (n - 1) := by
    rw [e25, hsub]; simp [z_gI, z_pI, z_up]
  rw [ez]
  refine ⟨fun z => ?_, fun z => ?_⟩
  · have hn1 : n = 1 := by
      apply Decidable.byContradiction
      intro q
      exact nI_nle (n := n - 1) (by omega) (by omega) z
    subst hn1
    have hn : M 6 r = 1 := en
    generalize hu1 : z_pI 34 (K 0 0) (z_gI 34 (K 0 0) u - 1) (z_pI 25 (K 16 r) (z_gI 25 (K 16 r) u - 1) u) = u1
    have uI : ∀ f x, z_gI f x u1 = if f = 34 ∧ x = K 0 0 then z_gI 34 (K 0 0) u - 1 else if f = 25 ∧ x = K 16 r then z_gI 25 (K 16 r) u - 1 else z_gI f x u := fun f x => by rw [← hu1]; rfl
    have uR : ∀ f x, z_gR f x u1 = z_gR f x u := fun f x => by rw [← hu1]; rfl
    have uk : ∀ x, z_kd x u1 = z_kd x u := fun x => by rw [← hu1]; rfl
    have ul : ∀ x, z_ln x u1 = z_ln x u := fun x => by rw [← hu1]; rfl
    have uA : ∀ x j, z_aI x j u1 = z_aI x j u := fun x j => by rw [← hu1]; rfl
    have uB : ∀ x j, z_aR x j u1 = z_aR x j u := fun x j => by rw [← hu1]; rfl
    have hq := q_relC_l (post := fun r2 u2 => post r2 u2) (t0 := t0) (mi := mi) (u1 := u1) a2 hr (fun b hb => (uk _).trans (a5.k 3 b (by omega) hb)) (fun k hk => (uR _ _).trans (a7.2.2.1 r k hr hk)) hinj ?_ (q_nb (S r)) 0 (by omega)
    · rw [q_fz_0] at hq
      refine ⟨q_nb (S r) + 1, ?_⟩
      rw [uR, c21]
      have e : (if S r = 0 then none else some (K 3 (C r 0))) = (if 0 < q_nb (S r) then some (K 3 (C r 0)) else none) := by
        by_cases q : S r = 0
        · rw [if_pos q, if_neg (by unfold q_nb; omega)]
        · rw [if_neg q, if_pos (by unfold q_nb; omega)]
      rw [e]
      exact hq
    · have hdv : q_dv M S r = nI (q_nb (S r)) := if_pos hn
      rw [← hdv]
      have wI : ∀ f x, z_gI f x (z_pR 22 (K 16 r) none (z_pR 21 (K 16 r) none (q_fz K C r (q_nb (S r)) u1))) = if f = 2 ∧ ∃ j, j < q_nb (S r) ∧ x = K 3 (C r j) then 0 else z_gI f x u1 := fun f x => rfl
      have wR : ∀ f x, z_gR f x (z_pR 22 (K 16 r) none (z_pR 21 (K 16 r) none (q_fz K C r (q_nb (S r)) u1))) = if f = 22 ∧ x = K 16 r then none else if f = 21 ∧ x = K 16 r then none else if f = 3 ∧ ∃ j, j < q_nb (S r) ∧ x = K 3 (C r j) then none else z_gR f x u1 := fun f x => rfl
      refine kk _ ⟨fun x => uk x, fun x => ul x, fun x j => uA x j, fun x j => uB x j, fun f x f2 f25 f34 => ?_, fun f x f3 f21 f22 => ?_, ?_, fun x hx => ?_, ?_, fun f x hx => ?_, fun _ k hk => ?_⟩
      · rw [wI, if_neg (fun q => f2 q.1), uI, if_neg (fun q => f34 q.1), if_neg (fun q => f25 q.1)]
      · rw [wR, if_neg (fun q => f22 q.1), if_neg (fun q => f21 q.1), if_neg (fun q => f3 q.1), uR]
      · rw [wI, if_neg (by omega), uI, if_neg (by omega), if_pos ⟨rfl, rfl⟩]
      · rw [wI, if_neg (by omega), uI, if_neg (by omega), if_neg (fun q => hx q.2)]
      · rw [wI, if_neg (by omega), uI, if_pos ⟨rfl, rfl⟩, if_pos hn]
      · rcases hx with hx | ⟨hx, hx2⟩
        · exact absurd hn hx
        · have hx3 : ¬ ∃ j, j < q_nb (S r) ∧ x = K 3 (C r j) := fun q => by obtain ⟨j, hj, e⟩ := q; exact hx2 j hj e
          refine ⟨?_, ?_⟩
          · rw [wI, if_neg (fun q => hx3 q.2), uI, if_neg (by omega), if_neg (by omega)]
          · rw [wR, if_neg (fun q => hx q.2), if_neg (fun q => hx q.2), if_neg (fun q => hx3 q.2), uR]
      · refine ⟨?_, ?_⟩
        · rw [wI, if_pos ⟨rfl, k, hk, rfl⟩]
        · rw [wR, if_neg (by omega), if_neg (by omega), if_pos ⟨rfl, k, hk, rfl⟩]
  · have hn : ¬ M 6 r = 1 := fun q => by
      rw [en] at q
      have := (nI_eq (a := n) (b := 1) (by omega) (by omega)).mp q
      subst this
      exact z (by decide)
    have hdv : q_dv M S r = 0 := if_neg hn
    rw [← hdv]
    have wI : ∀ f x, z_gI f x (z_pI 25 (K 16 r) (z_gI 25 (K 16 r) u - 1) u) = if f = 25 ∧ x = K 16 r then z_gI 25 (K 16 r) u - 1 else z_gI f x u := fun f x => rfl
    refine kk _ ⟨fun x => rfl, fun x => rfl, fun x j => rfl, fun x j => rfl, fun f x f2 f25 f34 => ?_, fun f x _ _ _ => rfl, ?_, fun x hx => ?_, ?_, fun f x hx => ⟨?_, rfl⟩, fun q => absurd q hn⟩
    · rw [wI, if_neg (fun q => f25 q.1)]
    · rw [wI, if_pos ⟨rfl, rfl⟩]
    · rw [wI, if_neg (fun q => hx q.2)]
    · rw [wI, if_neg (by omega), if_neg hn]
    · rw [wI, if_neg (by omega)]
theorem q_relC_n {post : Int32 → z_St → Prop} {h0 : Nat} (h : post 0 u) : w_X6_release post t0 mi h0 u none := ⟨fun q => absurd rfl q, fun _ => h⟩
theorem q_Wp.rel {r : Nat} (h : q_Wp pn t0 N M S C E nb nm md K u) (hr : r < 48) (hp : 0 < pn r) (hM : q_dM N M S C E r M') (hU : q_dU K C S M r u u') : q_Wp (fun x => if x = r then pn x - 1 else pn x) t0 N M' (q_dS M S r) C E nb nm md K u' := by
  have h' := h
  obtain ⟨n, n1, n2, en⟩ := q_users1 h hr hp
  obtain ⟨a1, a2, a3, a4, a5, a6, a7, a8, a9, a10, a11, a12⟩ := h
  obtain ⟨m1, m6, m2, m2f, mP⟩ := hM
  obtain ⟨w1, w2, w3, w4, w5, w6, w7, w8, w9, w10, w11⟩ := hU
  have h6 : ¬ M 6 r = 0 := by rw [en]; exact nI_ne0 (by omega) (by omega)
  have h7 : M 7 r = 0 := by
    apply Decidable.byContradiction
    intro q
    exact h6 (a4.2.2.2.1 r hr q)
  have hlv : q_lv M r := Or.inl h6
  have hsub : nI n - 1 = nI (n - 1) := pk_sub (b := 1) n1
  have e6r : M' 6 r = nI (n - 1) := by rw [m6, if_pos rfl, en, hsub]
  have e6x : ∀ x, x ≠ r → M' 6 x = M 6 x := fun x q => by rw [m6, if_neg q]
  have e7 : M' 7 = M 7 := m1 7 (by omega) (by omega) (by omega)
  have e20 : M' 20 = M 20 := m1 20 (by omega) (by omega) (by omega)
  have e23 : M' 23 = M 23 := m1 23 (by omega) (by omega) (by omega)
  have hn1 : M 6 r = 1 ↔ n = 1 := by
    rw [en]
    exact nI_eq (a := n) (b := 1) (by omega) (by omega)
  have hS : ∀ x, x ≠ r → q_dS M S r x = S x := fun x q => by
    unfold q_dS
    split
    · exact q_u_n S _ q
    · rfl
  have hlvx : ∀ x, x < 48 → q_lv M' x → q_lv M x := fun x hx w => by
    by_cases q : x = r
    · rw [q]; exact hlv
    · unfold q_lv at w ⊢
      rw [e6x x q, e7] at w
      exact w
  have v00 : ∀ f j, f ≤ 14 → j < q_fs f → q_vd M nm f j := fun f j h1 h2 => Or.inl ⟨h1, h2⟩
  have v16 : q_vd M nm 16 r := Or.inr (Or.inr ⟨rfl, hr, hlv⟩)
  have hinj : ∀ b b', b < 40 → b' < 40 → K 3 b = K 3 b' → b = b' := fun b b' hb hb' e => (a5.2.2.2 3 b 3 b' (v00 3 b (by omega) hb) (v00 3 b' (by omega) hb') e).2
  have n3 : ∀ b, b < 40 → K 3 b ≠ K 16 r := fun b hb => a5.ne (v00 3 b (by omega) hb) v16 (Or.inl (by omega))
  have hC := a2.2.2.1
  have h8 := a2.2.2.2.2.2.2.2.1
  refine q_Wp.core h' (fun f f2 f6 f7 f9 f20 => m1 f f2 f6 f9) (fun x _ => Or.inl (by rw [e20])) w1 w2 (fun f x f2 f8 f25 f34 => w5 f x f2 f25 f34) w6 w3 w4 mP ⟨fun x hx => ?_, ?_, ?_, fun x hx z => ?_, fun x hx z1 z2 => ?_⟩ hlvx ?_ (fun x hx => ?_) (fun l x hl hx z e => ?_) (fun x hx w => ?_) ?_
  · have erf : q_rfs M' nm x = q_rfs M nm x := by
      unfold q_rfs
      rw [m1 12 (by omega) (by omega) (by omega), m1 18 (by omega) (by omega) (by omega), m1 19 (by omega) (by omega) (by omega)]
    rw [erf]
    obtain ⟨b1, b2⟩ := a4.1 x hx
    dsimp only
    by_cases q : x = r
    · subst q
      rw [if_pos rfl]
      refine ⟨?_, by omega⟩
      rw [m6, if_pos rfl, b1]
      have : q_rfs M nm x + pn x - 1 = q_rfs M nm x + (pn x - 1) := by omega
      rw [← this]
      exact pk_sub (b := 1) (by omega)
    · rw [if_neg q, e6x x q]
      exact ⟨b1, b2⟩
  · rw [e7, e20, e23]; exact a4.2.1
  · rw [e20, e23]; exact a4.2.2.1
  · rw [e7] at z
    have := a4.2.2.2.1 x hx z
    by_cases q : x = r
    · rw [q] at this; exact absurd this h6
    · rw [e6x x q]; exact this
  · rw [e7] at z2
    by_cases q : x = r
    · subst q
      rw [e6r] at z1
      have : n = 1 := by
        apply Decidable.byContradiction
        intro q
        exact nI_ne0 (n := n - 1) (by omega) (by omega) z1
      unfold q_dS
      rw [if_pos (hn1.mpr this)]
      exact q_u_s S x 0
    · rw [e6x x q] at z1
      rw [hS x q]
      exact a4.2.2.2.2 x hx z1 z2
  · by_cases hf : M 6 r = 1
    · obtain ⟨f1, f2⟩ := m2f hf
      have w11 := w11 hf
      obtain ⟨b1, b2, b3, b4⟩ := a7
      have hdS : q_dS M S r = q_u S r 0 := if_pos hf
      rw [hdS]
      have hr1 : ∀ x i, i < q_u S r 0 x → x ≠ r ∧ i < S x := fun x i hi => by
        by_cases hxr : x = r
        · subst hxr; rw [q_u_s] at hi; omega
        · rw [q_u_n S _ hxr] at hi; exact ⟨hxr, hi⟩
      have cls : ∀ b, b < 40 → (∃ k, k < q_nb (S r) ∧ b = C r k) ∨ ((∀ k, k < q_nb (S r) → b ≠ C r k) ∧ ∀ f, z_gI 2 (K 3 b) u' = z_gI 2 (K 3 b) u ∧ z_gR f (K 3 b) u' = z_gR f (K 3 b) u) := fun b hb => by
        by_cases q : ∃ k, k < q_nb (S r) ∧ b = C r k
        · exact Or.inl q
        · have q' : ∀ k, k < q_nb (S r) → b ≠ C r k := fun k hk e => q ⟨k, hk, e⟩
          exact Or.inr ⟨q', fun f => w10 f _ (Or.inr ⟨n3 b hb, fun k hk e => q' k hk (hinj b _ hb (hC r k hr hk) e)⟩)⟩
      refine ⟨fun b hb => ?_, fun b hb z => ?_, fun x k hx hk => ?_, fun x i hx hi => ?_⟩
      · rcases cls b hb with ⟨k, hk, rfl⟩ | ⟨q1, q2⟩
        · rw [(w11 k hk).1, f2 k hk]
        · rw [(q2 0).1, f1 b q1]; exact b1 b hb
      · rcases cls b hb with ⟨k, hk, rfl⟩ | ⟨q1, q2⟩
        · exact (w11 k hk).2
        · rw [f1 b q1] at z
          rw [(q2 3).2]; exact b2 b hb z
      · have hk0 : x ≠ r ∧ q_u S r 0 x = S x := by
          by_cases hxr : x = r
          · subst hxr; rw [q_u_s] at hk; exact absurd hk (by unfold q_nb; omega)
          · exact ⟨hxr, q_u_n S _ hxr⟩
        rw [hk0.2] at hk ⊢
        rw [← b3 x k hx hk]
        rcases cls (C x k) (hC x k hx hk) with ⟨k', hk', e⟩ | ⟨q1, q2⟩
        · exact absurd (h8 x k r k' hx hk hr hk' e).1 hk0.1
        · exact (q2 3).2
      · obtain ⟨x1, x2⟩ := hr1 x i hi
        obtain ⟨c1, c2⟩ := b4 x i hx x2
        exact ⟨(w3 _ _).trans c1, fun z j hj => (w3 _ _).trans (c2 z j hj)⟩
    · have hdS : q_dS M S r = S := if_neg hf
      rw [hdS]
      exact a7.fr (m2 hf) hC (fun b hb => (w10 0 _ (Or.inl hf)).1) (fun b hb => (w10 3 _ (Or.inl hf)).2) (fun b j hb => ⟨w3 _ _, w3 _ _⟩)
  · rw [w5 8 _ (by omega) (by omega) (by omega), e20]
    exact (a10 x hx).1
  · rw [e20] at z
    have := a4.2.2.2.1 x hx (a4.l23 hl hx z e)
    exact hS x (fun q => h6 (q ▸ this))
  · by_cases q : x = r
    · subst q
      have hf : ¬ M 6 x = 1 := fun q => by
        rcases w with w | w
        · rw [e6r, hn1.mp q] at w; exact w rfl
        · rw [e7] at w; exact w h7
      obtain ⟨c1, c2, c3, c4, c5⟩ := a11 x hx hlv
      have hdS : q_dS M S x = S := if_neg hf
      rw [hdS, (w10 21 _ (Or.inl hf)).2, (w10 22 _ (Or.inl hf)).2, w5 24 _ (by omega) (by omega) (by omega), w5 23 _ (by omega) (by omega) (by omega), w7, m6, if_pos rfl, c5]
      exact ⟨c1, c2, c3, c4, rfl⟩
    · obtain ⟨c1, c2, c3, c4, c5⟩ := a11 x hx (hlvx x hx w)
      have vx : q_vd M nm 16 x := Or.inr (Or.inr ⟨rfl, hx, hlvx x hx w⟩)
      have hne : K 16 x ≠ K 16 r := a5.ne vx v16 (Or.inr q)
      have hne3 : ∀ k, k < q_nb (S r) → K 16 x ≠ K 3 (C r k) := fun k hk => a5.ne vx (v00 3 _ (by omega) (hC r k hr hk)) (Or.inl (by omega))
      rw [hS x q, (w10 21 _ (Or.inr ⟨hne, hne3⟩)).2, (w10 22 _ (Or.inr ⟨hne, hne3⟩)).2, w5 24 _ (by omega) (by omega) (by omega), w5 23 _ (by omega) (by omega) (by omega), w8 _ hne, e6x x q]
      exact ⟨c1, c2, c3, c4, c5⟩
  · rw [w9]
    have e := q_hd_up (M := M) (M' := M') (v := M 6 r - 1) hr m6
    rw [if_neg h6] at e
    have e34 : z_gI 34 (K 0 0) u = nI (q_hd M) := a12.2.2
    by_cases hf : M 6 r = 1
    · rw [if_pos hf, e34]
      have z : M 6 r - 1 = 0 := by rw [hf]; decide
      rw [if_pos z] at e
      have : q_hd M' = q_hd M - 1 := by omega
      rw [this]
      exact pk_sub (b := 1) (by omega)
    · have z : ¬ M 6 r - 1 = 0 := by
        rw [en, hsub]
        have : n ≠ 1 := fun q => hf (hn1.mpr q)
        exact nI_ne0 (by omega) (by omega)
      rw [if_neg z] at e
      rw [if_neg hf, e34]
      congr 1; omega
end OJ
