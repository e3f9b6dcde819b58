/-! a frame filled up with naughts, both sides -/
section OQ
variable {t0 ti mi nb nm md N N' : Nat} {pn pn' : Nat → Nat} {M M' : z_Md} {S S' : Nat → Nat} {C C' : Nat → Nat → Nat} {E E' : Nat → Nat → Int32 × Int32} {K K' : Nat → Nat → Nat} {u u' : z_St} {px : String → z_St → Prop}
def q_iM (M : z_Md) (l t k : Nat) : z_Md := fun f j => if f = 26 ∧ 8 * l + t ≤ j ∧ j < 8 * l + k then 0 else M f j
def q_iU (K : Nat → Nat → Nat) (l t k : Nat) (u : z_St) : z_St := (u.1, u.2.1, u.2.2.1, u.2.2.2.1, (fun a j => if a = K 12 l ∧ t ≤ j ∧ j < k then 0 else u.2.2.2.2.1 a j), u.2.2.2.2.2)
theorem q_iM_0 (M : z_Md) (l t : Nat) : q_iM M l t t = M := by
  funext f j
  unfold q_iM
  rw [if_neg (by omega)]
theorem q_iU_0 (K : Nat → Nat → Nat) (l t : Nat) (u : z_St) : q_iU K l t t u = u := by
  have : (fun a j => if a = K 12 l ∧ t ≤ j ∧ j < t then (0 : Int32) else u.2.2.2.2.1 a j) = u.2.2.2.2.1 := by
    funext a j
    rw [if_neg (by omega)]
  unfold q_iU
  rw [this]
theorem q_iM_s (M : z_Md) (l : Nat) {t k : Nat} (h : t ≤ k) : z_up (q_iM M l t k) 26 (8 * l + k) 0 = q_iM M l t (k + 1) := by
  funext f j
  rw [z_up_e]
  unfold q_iM
  by_cases c : f = 26 ∧ j = 8 * l + k
  · rw [if_pos c, if_pos (by omega)]
  · rw [if_neg c]
    by_cases d : f = 26 ∧ 8 * l + t ≤ j ∧ j < 8 * l + k
    · rw [if_pos d, if_pos (by omega)]
    · rw [if_neg d, if_neg (by omega)]
theorem q_iU_s (K : Nat → Nat → Nat) (l : Nat) {t k : Nat} (h : t ≤ k) (u : z_St) : z_sI (K 12 l) k 0 (q_iU K l t k u) = q_iU K l t (k + 1) u := by
  have : z_up (fun a j => if a = K 12 l ∧ t ≤ j ∧ j < k then (0 : Int32) else u.2.2.2.2.1 a j) (K 12 l) k 0 = fun a j => if a = K 12 l ∧ t ≤ j ∧ j < k + 1 then 0 else u.2.2.2.2.1 a j := by
    funext a j
    rw [z_up_e]
    by_cases c : a = K 12 l ∧ j = k
    · rw [if_pos c, if_pos (by omega)]
    · rw [if_neg c]
      by_cases d : a = K 12 l ∧ t ≤ j ∧ j < k
      · rw [if_pos d, if_pos (by omega)]
      · rw [if_neg d, if_neg (by omega)]
  show (u.1, u.2.1, u.2.2.1, u.2.2.2.1, z_up (fun a j => if a = K 12 l ∧ t ≤ j ∧ j < k then (0 : Int32) else u.2.2.2.2.1 a j) (K 12 l) k 0, u.2.2.2.2.2) = _
  rw [this]
  rfl
theorem q_iM_f {M : z_Md} {l t k f : Nat} (h : f ≠ 26) : q_iM M l t k f = M f := funext fun j => by unfold q_iM; rw [if_neg (fun q => h q.1)]
/-- the reference fills -/
theorem q_fillM {post : Int32 → z_Md → Prop} {l t : Nat} (hl : l < 3) (ht : t ≤ 8) (h : w_X7_frame (fun M2 => w_X7_hang_83 post M2 (nI l)) (q_iM M l t 8) (nI l)) : ∃ n0, w_X7_hang_54 post n0 M (nI l) (nI t) := by
  have key : ∀ d k, k + d = 8 → t ≤ k → w_X7_hang_54 post (d + 1) (q_iM M l t k) (nI l) (nI k) := by
    intro d
    induction d with
    | zero =>
      intro k hk htk
      have : k = 8 := by omega
      subst this
      exact ⟨fun _ => h, fun q => absurd (by decide) q⟩
    | succ d ih =>
      intro k hk htk
      refine ⟨fun q => absurd q (nI_ge (a := k) (b := 8) (by omega) (by omega)), fun _ => ?_⟩
      rw [q_mul8, nI_add, q_c (n := 8 * l + k) (by omega), q_iM_s M l htk, nI_1]
      exact ⟨vp_in_nI (by omega) (by omega), ih (k + 1) (by omega) (by omega)⟩
  have := key (8 - t) t (by omega) (Nat.le_refl t)
  rw [q_iM_0] at this
  exact ⟨_, this⟩
/-- the class fills -/
theorem q_fillU {post : z_St → Prop} {l t : Nat} (ht : t ≤ 8) (h6 : z_gR 6 (K 11 l) u = some (K 12 l)) (hk : z_kd (K 12 l) u = 10) (hln : z_ln (K 12 l) u = 8) (h7 : z_gI 7 (K 11 l) u = nI t) (h : post (z_pI 7 (K 11 l) (nI 8) (q_iU K l t 8 u))) : ∃ n0, w_X2_fillFrame post t0 mi (K 11 l) n0 u := by
  have key : ∀ d k, k + d = 8 → t ≤ k → w_X2_fillFrame post t0 mi (K 11 l) (d + 1) (z_pI 7 (K 11 l) (nI k) (q_iU K l t k u)) := by
    intro d
    induction d with
    | zero =>
      intro k hk2 htk
      have : k = 8 := by omega
      subst this
      have e7 : z_gI 7 (K 11 l) (z_pI 7 (K 11 l) (nI 8) (q_iU K l t 8 u)) = nI 8 := by simp [z_gI, z_pI, z_up]
      refine ⟨fun _ => h, fun q => absurd ?_ q⟩
      rw [e7]; decide
    | succ d ih =>
      intro k hk2 htk
      have e7 : z_gI 7 (K 11 l) (z_pI 7 (K 11 l) (nI k) (q_iU K l t k u)) = nI k := by simp [z_gI, z_pI, z_up]
      unfold w_X2_fillFrame
      rw [e7]
      refine ⟨fun q => absurd q (nI_ge (a := k) (b := 8) (by omega) (by omega)), fun _ => ⟨K 12 l, h6, hk, ?_, ?_⟩⟩
      · show vp_in (nI k) (z_ln (K 12 l) u)
        rw [hln]; exact vp_in_nI (by omega) (by omega)
      · rw [q_c (n := k) (by omega), nI_1]
        have e : z_pI 7 (K 11 l) (nI (k + 1)) (z_sI (K 12 l) k 0 (z_pI 7 (K 11 l) (nI k) (q_iU K l t k u))) = z_pI 7 (K 11 l) (nI (k + 1)) (q_iU K l t (k + 1) u) := by
          have e1 : z_sI (K 12 l) k 0 (z_pI 7 (K 11 l) (nI k) (q_iU K l t k u)) = z_pI 7 (K 11 l) (nI k) (z_sI (K 12 l) k 0 (q_iU K l t k u)) := rfl
          rw [e1, q_iU_s K l htk, z_pI_pI]
        rw [e]
        exact ih (k + 1) (by omega) (by omega)
  have := key (8 - t) t (by omega) (Nat.le_refl t)
  rw [q_iU_0] at this
  have e : z_pI 7 (K 11 l) (nI t) u = u := by
    have : z_up u.2.2.1 7 (K 11 l) (nI t) = u.2.2.1 := by
      funext f x
      rw [z_up_e]
      by_cases q : f = 7 ∧ x = K 11 l
      · rw [if_pos q, q.1, q.2, ← h7]; rfl
      · rw [if_neg q]
    show (u.1, u.2.1, z_up u.2.2.1 7 (K 11 l) (nI t), u.2.2.2.1, u.2.2.2.2.1, u.2.2.2.2.2) = u
    rw [this]
  rw [e] at this
  exact ⟨_, this⟩
theorem z_up_same (M : z_Md) (f a : Nat) {v : Int32} (h : M f a = v) : z_up M f a v = M := by
  funext x y
  rw [z_up_e]
  by_cases q : x = f ∧ y = a
  · rw [if_pos q, q.1, q.2, h]
  · rw [if_neg q]
/-- both filled: the relation with the frame taken out -/
theorem q_fill_W {l r t : Nat} (h : q_W t0 N M S C E nb nm md K u) (hl : l < 3) (hbz : ¬ M 20 l = 0) (hr : r < 48) (hlr : M 23 l = nI r) (h24 : M 24 l = 0) (ht : M 25 l = nI t) (ht8 : t < 8) :
    q_W t0 N (z_up (q_iM M l t 8) 25 l 0) S C E nb nm md K (z_pI 7 (K 11 l) 0 (q_iU K l t 8 u)) := by
  have h7 : z_gI 7 (K 11 l) u = nI t := (((h.2.2.2.2.2.2.2.2.2.1 l hl).2 hbz).2.2.2.2.1.1).trans ht
  have ep : z_pI 7 (K 11 l) (nI t) u = u := by
    have : z_up u.2.2.1 7 (K 11 l) (nI t) = u.2.2.1 := by
      funext f x
      rw [z_up_e]
      by_cases q : f = 7 ∧ x = K 11 l
      · rw [if_pos q, q.1, q.2, ← h7]; rfl
      · rw [if_neg q]
    show (u.1, u.2.1, z_up u.2.2.1 7 (K 11 l) (nI t), u.2.2.2.1, u.2.2.2.2.1, u.2.2.2.2.2) = u
    rw [this]
  have step : ∀ k t', t ≤ k → k < 8 → ((t' = k + 1 ∧ k + 1 < 8) ∨ t' = 0) → q_W t0 N (z_up (q_iM M l t k) 25 l (nI k)) S C E nb nm md K (z_pI 7 (K 11 l) (nI k) (q_iU K l t k u)) → q_W t0 N (z_up (q_iM M l t (k + 1)) 25 l (nI t')) S C E nb nm md K (z_pI 7 (K 11 l) (nI t') (q_iU K l t (k + 1) u)) := fun k t' h1 h2 h3 hW => by
    have e20 : z_up (q_iM M l t k) 25 l (nI k) 20 = M 20 := by rw [z_up_f _ _ _ (by omega), q_iM_f (by omega)]
    have e23 : z_up (q_iM M l t k) 25 l (nI k) 23 = M 23 := by rw [z_up_f _ _ _ (by omega), q_iM_f (by omega)]
    have e24 : z_up (q_iM M l t k) 25 l (nI k) 24 = M 24 := by rw [z_up_f _ _ _ (by omega), q_iM_f (by omega)]
    have := q_samp_W (x := 0) (t := k) (t' := t') hW hl (by rw [e20]; exact hbz) hr (by rw [e23]; exact hlr) (by rw [e24]; exact h24) (z_up_s _ _ _ _) h2 (by decide) h3
    have eM : z_up (z_up (z_up (q_iM M l t k) 25 l (nI k)) 26 (8 * l + k) 0) 25 l (nI t') = z_up (q_iM M l t (k + 1)) 25 l (nI t') := by
      rw [← q_iM_s M l h1]
      funext f j
      simp only [z_up_e]
      by_cases q : f = 25 ∧ j = l
      · rw [if_pos q, if_pos q]
      · rw [if_neg q, if_neg q, if_neg q]
    have eU : z_pI 7 (K 11 l) (nI t') (z_sI (K 12 l) k 0 (z_pI 7 (K 11 l) (nI k) (q_iU K l t k u))) = z_pI 7 (K 11 l) (nI t') (q_iU K l t (k + 1) u) := by
      have e1 : z_sI (K 12 l) k 0 (z_pI 7 (K 11 l) (nI k) (q_iU K l t k u)) = z_pI 7 (K 11 l) (nI k) (z_sI (K 12 l) k 0 (q_iU K l t k u)) := rfl
      rw [e1, q_iU_s K l h1, z_pI_pI]
    rw [eM, eU] at this
    exact this
  have all : ∀ d k, t + d = k → k < 8 → q_W t0 N (z_up (q_iM M l t k) 25 l (nI k)) S C E nb nm md K (z_pI 7 (K 11 l) (nI k) (q_iU K l t k u)) := by
    intro d
    induction d with
    | zero =>
      intro k hk _
      have : k = t := by omega
      subst this
      rw [q_iM_0, q_iU_0, ep, z_up_same M 25 l ht]
      exact h
    | succ d ih =>
      intro k hk h8
      have := step (k - 1) k (by omega) (by omega) (Or.inl ⟨by omega, by omega⟩) (ih (k - 1) (by omega) (by omega))
      have e : k - 1 + 1 = k := by omega
      rw [e] at this
      exact this
  exact step 7 0 (by omega) (by omega) (Or.inr rfl) (all (7 - t) 7 (by omega) (by omega))
end OQ
