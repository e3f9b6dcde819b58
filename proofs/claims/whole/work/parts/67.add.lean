/-! the list grows by one -/
def q_AL (L R R' x nm : Nat) (u v : z_St) : Prop :=
  (R' = R ∨ z_kd R' u = 0) ∧ z_kd R' v = 15 ∧ (nm + 1 ≤ z_ln R' v ∧ (z_ln R' v = 10 ∨ z_ln R' v = 15 ∨ z_ln R' v = 22)) ∧ (∀ a, z_kd a u ≠ 0 → z_kd a v = z_kd a u ∧ z_ln a v = z_ln a u) ∧ (∀ a i, z_kd a u ≠ 0 → z_aI a i v = z_aI a i u) ∧ (∀ a i, z_kd a u ≠ 0 → a ≠ R → z_aR a i v = z_aR a i u) ∧ (∀ m, m < nm → z_aR R' m v = z_aR R m u) ∧ z_aR R' nm v = some x ∧ (∀ f a, (f ≠ 37 ∧ f ≠ 35) ∨ a ≠ L → z_gI f a v = z_gI f a u) ∧ z_gI 37 L v = nI (nm + 1) ∧ (∀ f a, f ≠ 36 ∨ a ≠ L → z_gR f a v = z_gR f a u) ∧ z_gR 36 L v = some R'
theorem q_add {post : Int32 → z_St → Prop} {t0 mi L R x nm : Nat} {u : z_St} (hn : nm < 16) (h36 : z_gR 36 L u = some R) (h37 : z_gI 37 L u = nI nm) (hx : z_kd x u = 5)
    (hR : (z_kd R u = 15 ∧ nm ≤ z_ln R u ∧ (z_ln R u = 10 ∨ z_ln R u = 15 ∨ z_ln R u = 22)) ∨ (z_kd R u = 16 ∧ nm = 0 ∧ R = t0 ∧ z_ln R u = 0)) (hr : ∀ m, m < nm → ∃ y, z_aR R m u = some y ∧ z_kd y u = 5)
    (kk : ∀ v R', q_AL L R R' x nm u v → post 1 v) : w_Jx4a65c_add_9ea2d post t0 mi L u (some x) := by
  show w_Jx4a65c_add_72be8 (fun u1 => post 1 u1) t0 mi L (z_pI 35 L (z_gI 35 L u + 1) u) (some x) (z_gR 36 L u) (z_gI 37 L u)
  rw [h36, h37]
  have hnR : nm < 24 := by omega
  refine ⟨R, rfl, ?_, fun hne => ?_, fun heq => ?_⟩
  · rcases hR with ⟨e, -⟩ | ⟨e, -⟩
    · exact Or.inl e
    · exact Or.inr e
  · have hln : z_ln R u ≤ 22 := by rcases hR with ⟨-, -, e⟩ | ⟨-, -, -, e⟩ <;> omega
    have hne' : nm ≠ z_ln R u := fun q => hne (by show nI nm = nI (z_ln R u); rw [← q])
    rcases hR with ⟨e1, e2, e3⟩ | ⟨-, e2, -, e4⟩
    · refine ⟨R, rfl, e1, x, rfl, hx, vp_in_nI (show nm < z_ln R u by omega) (show z_ln R u < 2147483648 by omega), ?_⟩
      rw [q_c (n := nm) (by omega), nI_1]
      refine kk _ R ⟨Or.inl rfl, e1, ⟨by show nm + 1 ≤ z_ln R u; omega, e3⟩, fun a _ => ⟨rfl, rfl⟩, fun _ _ _ => rfl, fun a i _ h => ?_, fun m hm => ?_, ?_, fun f a h => ?_, ?_, fun _ _ _ => rfl, h36⟩
      · simp [z_aR, z_pI, z_sR, z_up, h]
      · have : ¬ m = nm := by omega
        simp [z_aR, z_pI, z_sR, z_up, this]
      · simp [z_aR, z_pI, z_sR, z_up]
      · rcases h with ⟨h1, h2⟩ | h
        · simp [z_gI, z_pI, z_sR, z_up, h1, h2]
        · simp [z_gI, z_pI, z_sR, z_up, h]
      · simp [z_gI, z_pI, z_sR, z_up]
    · omega
  · have heq' : nm = z_ln R u := (nI_eq (a := nm) (b := z_ln R u) (by omega) (by rcases hR with ⟨-, -, e⟩ | ⟨-, -, -, e⟩ <;> omega)).mp heq
    have e37 : z_gI 37 L (z_pI 35 L (z_gI 35 L u + 1) u) = nI nm := by
      rw [← h37]; simp [z_gI, z_pI, z_up]
    have fin : ∀ (R' n : Nat) (w : z_St), z_kd R' u = 0 → n < 2147483648 → nm < n → (n = 10 ∨ n = 15 ∨ n = 22) → z_kd R' w = 15 → z_ln R' w = n → (∀ a, z_kd a u ≠ 0 → z_kd a w = z_kd a u ∧ z_ln a w = z_ln a u) → (∀ a i, z_kd a u ≠ 0 → z_aI a i w = z_aI a i u) → (∀ a i, z_kd a u ≠ 0 → z_aR a i w = z_aR a i u) → (∀ m, m < nm → z_aR R' m w = z_aR R m u) → (∀ f a, f ≠ 35 ∨ a ≠ L → z_gI f a w = z_gI f a u) → (∀ f a, f ≠ 36 ∨ a ≠ L → z_gR f a w = z_gR f a u) → z_gR 36 L w = some R' → w_Jx4a65c_add_72be8_11 (fun u1 => post 1 u1) t0 mi L w (some x) (some R') (nI nm) := fun R' n w c0 c1 c2 c3 c4 c5 c6 c7 c8 c9 c10 c11 c12 => by
      refine ⟨R', rfl, c4, x, rfl, (c6 x (by rw [hx]; decide)).1.trans hx, by rw [c5]; exact vp_in_nI c2 c1, ?_⟩
      rw [q_c (n := nm) (by omega), nI_1]
      refine kk _ R' ⟨Or.inr c0, c4, ⟨by show nm + 1 ≤ z_ln R' w; omega, by rw [← c5] at c3; exact c3⟩, c6, c7, fun a i h0 h => ?_, fun m hm => ?_, ?_, fun f a h => ?_, ?_, c11, c12⟩
      · rw [← c8 a i h0]
        have : a ≠ R' := fun q => h0 (by rw [q]; exact c0)
        simp [z_aR, z_pI, z_sR, z_up, this]
      · rw [← c9 m hm]
        have : ¬ m = nm := by omega
        simp [z_aR, z_pI, z_sR, z_up, this]
      · simp [z_aR, z_pI, z_sR, z_up]
      · rw [← c10 f a (by rcases h with h | h; exact Or.inl h.2; exact Or.inr h)]
        rcases h with ⟨h1, h2⟩ | h
        · simp [z_gI, z_pI, z_sR, z_up, h1]
        · simp [z_gI, z_pI, z_sR, z_up, h]
      · simp [z_gI, z_pI, z_sR, z_up]
    have hkR : z_kd R u = 15 ∨ z_kd R u = 16 := by
      rcases hR with ⟨e, -⟩ | ⟨e, -⟩
      · exact Or.inl e
      · exact Or.inr e
    refine ⟨R, h36, hkR, ?_⟩
    intro x2 ex2
    have ex2' : x2 = nI nm := by rw [ex2, heq']; rfl
    rw [e37, nI_1, ex2']
    rcases hR with ⟨e1, e2, e3⟩ | ⟨e1, e2, e3, e4⟩
    · have h2 : nm = 10 ∨ nm = 15 := by omega
      refine ⟨fun _ => ?_, fun q => absurd (nI_lt (a := 0) (b := nm) (by omega) (by omega)) q⟩
      have grow : ∀ q1 n', nI nm + q1 = nI n' → nm < n' → (n' = 15 ∨ n' = 22) → ∀ w : Int32, w = nI nm + q1 → w_J7_copyOf_1904c (fun r2 u2 => w_Jx4a65c_add_72be8_11 (fun u1 => post 1 u1) t0 mi L (z_pR 36 L r2 u2) (some x) r2 (nI nm)) t0 mi (z_pI 35 L (z_gI 35 L u + 1) u) (some R) w := fun q1 n' hq hn' hn2 w ew => by
        rw [ew, hq]
        have hc : (nI n').toNatClampNeg = n' := q_c (by omega)
        refine ⟨R, rfl, e1, ⟨fun q => absurd rfl q, fun _ => ⟨nI_pos (by omega), by rw [hc]; omega, fun a1 ha1 => ?_⟩⟩⟩
        have ha1' : z_kd a1 u = 0 := ha1
        rw [hc]
        have ne : ∀ a, z_kd a u ≠ 0 → a ≠ a1 := fun a h q => h (by rw [q]; exact ha1')
        have nR : R ≠ a1 := ne R (by rw [e1]; decide)
        have kR : z_kd R (z_nA 15 a1 n' (z_pI 35 L (z_gI 35 L u + 1) u)) = 15 := by
          rw [← e1]; simp [z_kd, z_nA, z_pI, va_up, nR]
        have lR : z_ln R (z_nA 15 a1 n' (z_pI 35 L (z_gI 35 L u + 1) u)) = nm := by
          rw [heq']; simp [z_ln, z_nA, z_pI, va_up, nR]
        have l1 : z_ln a1 (z_nA 15 a1 n' (z_pI 35 L (z_gI 35 L u + 1) u)) = n' := by simp [z_ln, z_nA, va_up]
        refine ⟨R, rfl, Or.inl kR, ?_⟩
        intro q4 e4
        rw [lR, if_neg (nI_nlt (a := n') (b := nm) (by omega) (by omega))] at e4
        have c0 : (0 : Int32).toNatClampNeg = 0 := rfl
        rw [e4, q_c (n := nm) (by omega), lR, l1, c0]
        refine ⟨kR, by decide, by decide, nI_pos (by omega), by omega, by omega, fun i hi y ey => ?_, ?_⟩
        · have ey' : z_aR R i u = some y := by
            rw [← ey]; simp [z_aR, z_nA, z_pI, nR]
          obtain ⟨y', g1, g2⟩ := hr i hi
          rw [g1] at ey'
          have : y' = y := Option.some.inj ey'
          subst this
          rw [← g2]; simp [z_kd, z_nA, z_pI, va_up, ne y' (by rw [g2]; decide)]
        · refine fin a1 n' _ ha1' (by omega) hn' (by omega) ?_ ?_ (fun a h => ?_) (fun a i h => ?_) (fun a i h => ?_) (fun m hm => ?_) (fun f a h => ?_) (fun f a h => ?_) ?_
          · simp [z_kd, z_pR, z_cR, z_nA, va_up]
          · simp [z_ln, z_pR, z_cR, z_nA, va_up]
          · simp [z_kd, z_ln, z_pR, z_pI, z_cR, z_nA, va_up, ne a h]
          · simp [z_aI, z_pR, z_pI, z_cR, z_nA, va_up, ne a h]
          · simp [z_aR, z_pR, z_pI, z_cR, z_nA, va_up, ne a h]
          · simp [z_aR, z_pR, z_pI, z_cR, z_nA, va_cpy, nR, hm]
          · rcases h with h | h <;> simp [z_gI, z_pR, z_pI, z_cR, z_nA, z_up, h]
          · rcases h with h | h <;> simp [z_gR, z_pR, z_pI, z_cR, z_nA, z_up, h]
          · simp [z_gR, z_pR, z_pI, z_cR, z_nA, z_up]
      have h36' : z_gR 36 L (z_pI 35 L (z_gI 35 L u + 1) u) = some R := h36
      intro q1 eq1
      dsimp only
      rw [h36']
      rcases h2 with h2 | h2
      · have e : nI nm + q1 = nI 15 := by rw [eq1, h2]; decide
        refine ⟨fun q => absurd q (by rw [e]; decide), fun _ => ⟨fun q => absurd q (by rw [e]; decide), fun _ => grow q1 15 e (by omega) (Or.inl rfl) _ rfl⟩⟩
      · have e : nI nm + q1 = nI 22 := by rw [eq1, h2]; decide
        refine ⟨fun q => absurd q (by rw [e]; decide), fun _ => ⟨fun q => absurd q (by rw [e]; decide), fun _ => grow q1 22 e (by omega) (Or.inr rfl) _ rfl⟩⟩
    · subst e2
      refine ⟨fun q => absurd q (by decide), fun _ => ⟨fun _ => ?_, fun q => absurd (by rw [← e3]; exact h36) q⟩⟩
      intro q4 e5
      have e5' : q4 = 10 := e5
      refine ⟨by rw [e5']; decide, by rw [e5']; decide, fun a2 ha2 => ?_⟩
      have ha2' : z_kd a2 u = 0 := ha2
      have ec : (10 : Int32).toNatClampNeg = 10 := rfl
      rw [e5', ec]
      have ne : ∀ a, z_kd a u ≠ 0 → a ≠ a2 := fun a h q => h (by rw [q]; exact ha2')
      refine fin a2 10 _ ha2' (by omega) (by omega) (Or.inl rfl) ?_ ?_ (fun a h => ?_) (fun a i h => ?_) (fun a i h => ?_) (fun m hm => by omega) (fun f a h => ?_) (fun f a h => ?_) ?_
      · simp [z_kd, z_pR, z_nA, va_up]
      · simp [z_ln, z_pR, z_nA, va_up]
      · simp [z_kd, z_ln, z_pR, z_pI, z_nA, va_up, ne a h]
      · simp [z_aI, z_pR, z_pI, z_nA, va_up, ne a h]
      · simp [z_aR, z_pR, z_pI, z_nA, va_up, ne a h]
      · rcases h with h | h <;> simp [z_gI, z_pR, z_pI, z_nA, z_up, h]
      · rcases h with h | h <;> simp [z_gR, z_pR, z_pI, z_nA, z_up, h]
      · simp [z_gR, z_pR, z_pI, z_nA, z_up]
