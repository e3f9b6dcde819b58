/-! THE REFERENCE's POOL: S r entries in record r, its k-th block C r k, its i-th entry E r i -/
def q_nb (n : Nat) : Nat := (n + 3) / 4
def q_at (C : Nat → Nat → Nat) (r i : Nat) : Nat := 4 * C r (i / 4) + i % 4
def q_P (N : Nat) (M : z_Md) (S : Nat → Nat) (C : Nat → Nat → Nat) (E : Nat → Nat → Int32 × Int32) : Prop :=
  (∀ r, r < 48 → M 9 r = nI (S r) ∧ S r ≤ N) ∧
  (∀ r, r < 48 → 0 < S r → M 8 r = nI (C r 0)) ∧
  (∀ r k, r < 48 → k < q_nb (S r) → C r k < 40) ∧
  (∀ r k, r < 48 → k < q_nb (S r) → M 2 (C r k) = nI (min 4 (S r - 4 * k))) ∧
  (∀ r k, r < 48 → k + 1 < q_nb (S r) → M 3 (C r k) = nI (C r (k + 1))) ∧
  (∀ r i, r < 48 → i < S r → M 4 (q_at C r i) = (E r i).1 ∧ M 5 (q_at C r i) = (E r i).2) ∧
  (∀ r i, r < 48 → i < S r → ∃ g : Nat, g ≤ N ∧ (E r i).1 = nI g) ∧
  (∀ r k r' k', r < 48 → k < q_nb (S r) → r' < 48 → k' < q_nb (S r') → C r k = C r' k' → r = r' ∧ k = k') ∧
  (∀ b, b < 40 → (∀ r k, r < 48 → k < q_nb (S r) → C r k ≠ b) → M 2 b = 0)
theorem q_P.fr {N : Nat} {M M' : z_Md} {S : Nat → Nat} {C : Nat → Nat → Nat} {E : Nat → Nat → Int32 × Int32} (h : q_P N M S C E) (h2 : M' 2 = M 2) (h3 : M' 3 = M 3) (h4 : M' 4 = M 4) (h5 : M' 5 = M 5) (h8 : M' 8 = M 8) (h9 : M' 9 = M 9) : q_P N M' S C E := by
  unfold q_P at *
  rw [h2, h3, h4, h5, h8, h9]
  exact h
theorem q_P.mo {N N' : Nat} {M : z_Md} {S : Nat → Nat} {C : Nat → Nat → Nat} {E : Nat → Nat → Int32 × Int32} (h : q_P N M S C E) (hN : N ≤ N') : q_P N' M S C E := by
  obtain ⟨h1, h2, h3, h4, h5, h6, h7, h8, h9⟩ := h
  exact ⟨fun r hr => ⟨(h1 r hr).1, Nat.le_trans (h1 r hr).2 hN⟩, h2, h3, h4, h5, h6, fun r i hr hi => by
    obtain ⟨g, hg, e⟩ := h7 r i hr hi
    exact ⟨g, Nat.le_trans hg hN, e⟩, h8, h9⟩
theorem q_div4 {n : Nat} (h : n < 2 ^ 31) : nI n / 4 = nI (n / 4) := pk_div (d := 4) h (by omega) (by omega)
theorem q_rem4 {n : Nat} (h : n < 2 ^ 31) : nI n - nI n / 4 * 4 = nI (n % 4) := pk_rem (d := 4) h (by omega) (by omega)
theorem q_mul4 (n : Nat) : 4 * nI n = nI (4 * n) := pk_mul 4 n
theorem q_mul8 (n : Nat) : 8 * nI n = nI (8 * n) := pk_mul 8 n
theorem q_c {n : Nat} (h : n < 2 ^ 31) : (nI n).toNatClampNeg = n := nI_clamp h
theorem q_entryAt_l {post : Int32 → z_Md → Prop} {M : z_Md} {i : Nat} (hi : i < 1000) (c : Nat → Nat) (hc : ∀ k, k < i / 4 → c k < 40 ∧ M 3 (c k) = nI (c (k + 1))) (h : post (nI (4 * c (i / 4) + i % 4)) M) :
    ∀ d k, k + d = i / 4 → w_X7_entryAt_10 post (d + 1) M (nI i) (nI (c k)) (nI k) := by
  intro d
  induction d with
  | zero =>
    intro k hk
    refine ⟨fun _ => ?_, fun hh => ?_⟩
    · rw [q_mul4, q_rem4 (by omega), nI_add]
      have : k = i / 4 := by omega
      rw [this]
      exact h
    · rw [q_div4 (by omega)] at hh
      exact absurd (nI_le (by omega) (by omega)) hh
  | succ d ih =>
    intro k hk
    obtain ⟨c1, c2⟩ := hc k (by omega)
    refine ⟨fun hh => ?_, fun _ => ⟨vp_in_nI c1 (by omega), ?_⟩⟩
    · rw [q_div4 (by omega)] at hh
      exact absurd hh (nI_ge (by omega) (by omega))
    · intro x3 e3
      rw [e3, q_c (by omega), c2, nI_1]
      exact ih (k + 1) (by omega)
theorem q_entryAt {post : Int32 → z_Md → Prop} {M : z_Md} {r i : Nat} (hr : r < 48) (hi : i < 1000) (c : Nat → Nat) (h8 : M 8 r = nI (c 0)) (hc : ∀ k, k < i / 4 → c k < 40 ∧ M 3 (c k) = nI (c (k + 1))) (h : post (nI (4 * c (i / 4) + i % 4)) M) : w_X7_entryAt post M (nI r) (nI i) := by
  refine ⟨vp_in_nI hr (by omega), ?_⟩
  intro x3 e3
  rw [e3, q_c (by omega), h8]
  exact ⟨i / 4 + 1, q_entryAt_l hi c hc h (i / 4) 0 (by omega)⟩
theorem q_P.entry {N : Nat} {M : z_Md} {S : Nat → Nat} {C : Nat → Nat → Nat} {E : Nat → Nat → Int32 × Int32} (hP : q_P N M S C E) (hN : N ≤ 64) {post : Int32 → z_Md → Prop} {r i : Nat} (hr : r < 48) (hi : i < S r) (h : q_at C r i < 160 → C r (i / 4) < 40 → post (nI (q_at C r i)) M) : w_X7_entryAt post M (nI r) (nI i) := by
  obtain ⟨h1, h2, h3, h4, h5, h6, h7, h8, h9⟩ := hP
  have hS := (h1 r hr).2
  have hb : C r (i / 4) < 40 := h3 r (i / 4) hr (by unfold q_nb; omega)
  exact q_entryAt hr (by omega) (C r) (h2 r hr (by omega)) (fun k hk => ⟨h3 r k hr (by unfold q_nb; omega), h5 r k hr (by unfold q_nb; omega)⟩) (h (by unfold q_at; omega) hb)
/-- scans of the blocks -/
def q_dn (p : Nat → Bool) : Nat → Int32 → Int32
  | 0, x => x
  | k + 1, x => q_dn p k (if p k then nI k else x)
theorem q_dn_first (p : Nat → Bool) : ∀ n x, q_dn p n x = if fa_first p n < n then nI (fa_first p n) else x
  | 0, x => rfl
  | n + 1, x => by
    unfold q_dn
    rw [q_dn_first p n]
    have hle := fa_first_le p n
    have e0 : fa_first p (n + 1) = if fa_first p n < n then fa_first p n else if p n then n else n + 1 := rfl
    rw [e0]
    by_cases h : fa_first p n < n
    · rw [if_pos h, if_pos h, if_pos (by omega)]
    · rw [if_neg h, if_neg h]
      by_cases hp : p n = true
      · rw [if_pos hp, if_pos hp, if_pos (by omega)]
      · rw [if_neg hp, if_neg hp, if_neg (by omega)]
def q_first (p : Nat → Bool) (n : Nat) : Int32 := if fa_first p n < n then nI (fa_first p n) else -1
def q_last (p : Nat → Bool) : Nat → Int32
  | 0 => -1
  | n + 1 => if p n then nI n else q_last p n
def q_fr (M : z_Md) (b : Nat) : Bool := decide (M 2 b = 0)
def q_us (M : z_Md) (b : Nat) : Bool := decide (¬ M 2 b ≤ 0)
theorem q_freeBlock_l {post : Int32 → z_Md → Prop} {M : z_Md} : ∀ k, k ≤ 40 → ∀ x1 : Int32, post (q_dn (q_fr M) k x1) M → w_X7_freeBlock_5 post (k + 1) M x1 (nI k - 1) := by
  intro k
  induction k with
  | zero => intro _ x1 h; exact ⟨fun _ => h, fun hh => absurd (by decide) hh⟩
  | succ k ih =>
    intro hk x1 h
    rw [nI_pred]
    refine ⟨fun hh => absurd hh (nI_pos (by omega)), fun _ => ⟨vp_in_nI (by omega) (by omega), ?_⟩⟩
    intro y2 e2
    have e : nI k + (-1) = nI k - 1 := by rw [Int32.sub_eq_add_neg]
    rw [e]
    refine ih (by omega) y2 ?_
    have : y2 = if q_fr M k = true then nI k else x1 := by
      rw [e2, q_c (by omega)]
      unfold q_fr
      by_cases h0 : M 2 k = 0
      · rw [if_pos h0, if_pos (decide_eq_true h0)]
      · rw [if_neg h0, if_neg (by simp [h0])]
    rw [this]
    exact h
theorem q_freeBlock {post : Int32 → z_Md → Prop} {M : z_Md} (h : post (q_first (q_fr M) 40) M) : w_X7_freeBlock post M := by
  refine ⟨41, q_freeBlock_l 40 (by omega) (-1) ?_⟩
  rw [q_dn_first]
  exact h
theorem q_lastBlock_l {post : Int32 → z_Md → Prop} {M : z_Md} (h : post (q_last (q_us M) 40) M) : ∀ d k, k + d = 40 → w_X7_lastBlock_4 post (d + 1) M (q_last (q_us M) k) (nI k) := by
  intro d
  induction d with
  | zero =>
    intro k hk
    have : k = 40 := by omega
    subst this
    exact ⟨fun _ => h, fun hh => absurd (by decide) hh⟩
  | succ d ih =>
    intro k hk
    refine ⟨fun hh => absurd hh (nI_ge (a := k) (b := 40) (by omega) (by omega)), fun _ => ⟨vp_in_nI (by omega) (by omega), ?_⟩⟩
    intro y2 e2
    have : y2 = q_last (q_us M) (k + 1) := by
      rw [e2, q_c (by omega)]
      show _ = if q_us M k = true then nI k else q_last (q_us M) k
      unfold q_us
      by_cases h0 : M 2 k ≤ 0
      · rw [if_pos h0, if_neg (by simp [h0])]
      · rw [if_neg h0, if_pos (by simp [h0])]
    rw [this, nI_1]
    exact ih (k + 1) (by omega)
theorem q_lastBlock {post : Int32 → z_Md → Prop} {M : z_Md} (h : post (q_last (q_us M) 40) M) : w_X7_lastBlock post M := ⟨41, q_lastBlock_l h 40 0 (by omega)⟩
