/-! the reference's boxes, messages and lines: what is so at every time -/
def q_spk (M : z_Md) (l : Nat) : Bool := decide (¬ M 20 l = 0 ∧ M 22 l = 0)
def q_Q (N : Nat) (M : z_Md) (nb nm md : Nat) : Prop :=
  (M 10 0 = nI nb ∧ nb ≤ 4) ∧ (M 13 0 = nI nm ∧ nm ≤ 16) ∧ (M 14 0 = nI md ∧ md ≤ N) ∧
  (∀ m, m < nm → (∃ b, b < nb ∧ M 16 m = nI b) ∧ (∃ r, r < 48 ∧ M 18 m = nI r) ∧ q_rn (M 19 m) ∧ ∃ i, i < md ∧ M 15 m = nI i) ∧
  (∀ m m', m < m' → m' < nm → M 15 m < M 15 m') ∧
  (∀ s, s < 12 → q_rn (M 12 s)) ∧
  (∀ l, l < 3 → (M 20 l = 0 ∨ M 20 l = 1) ∧ (¬ M 20 l = 0 → (∃ b, b < nb ∧ M 21 l = nI b) ∧ (∃ k, k < 4 ∧ M 22 l = nI k) ∧ (∃ r, r < 48 ∧ M 23 l = nI r) ∧ (∃ t, t < 9 ∧ M 25 l = nI t) ∧ (M 24 l = 0 ∨ M 24 l = 1))) ∧
  nm + fb_ct (q_spk M) 3 ≤ 16
theorem q_Q.fr {N : Nat} {M M' : z_Md} {nb nm md : Nat} (h : q_Q N M nb nm md) (h10 : M' 10 = M 10) (h12 : M' 12 = M 12) (h13 : M' 13 = M 13) (h14 : M' 14 = M 14) (h15 : M' 15 = M 15) (h16 : M' 16 = M 16) (h18 : M' 18 = M 18) (h19 : M' 19 = M 19) (h20 : M' 20 = M 20) (h21 : M' 21 = M 21) (h22 : M' 22 = M 22) (h23 : M' 23 = M 23) (h24 : M' 24 = M 24) (h25 : M' 25 = M 25) : q_Q N M' nb nm md := by
  unfold q_Q q_spk at *
  rw [h10, h12, h13, h14, h15, h16, h18, h19, h20, h21, h22, h23, h24, h25]
  exact h
theorem q_Q.mo {N N' : Nat} {M : z_Md} {nb nm md : Nat} (h : q_Q N M nb nm md) (hN : N ≤ N') : q_Q N' M nb nm md :=
  ⟨h.1, h.2.1, ⟨h.2.2.1.1, Nat.le_trans h.2.2.1.2 hN⟩, h.2.2.2⟩
theorem q_b0 : narrow .boolean (.int 0) = .int 0 := rfl
theorem q_b1 : narrow .boolean (.int 1) = .int 1 := rfl
theorem q_bif {p : Prop} [Decidable p] : narrow .boolean (.int (if p then 0 else 1)) = .int (if p then 0 else 1) := by split <;> rfl
theorem q_bif' {p : Prop} [Decidable p] : narrow .boolean (.int (if p then 1 else 0)) = .int (if p then 1 else 0) := by split <;> rfl
theorem q_bif3 {p r : Prop} [Decidable p] [Decidable r] : narrow .boolean (.int (if p then 0 else if r then 0 else 1)) = .int (if p then 0 else if r then 0 else 1) := by split <;> (try split) <;> rfl
/-- a box's number -/
def q_ib (nb : Nat) (x : Int32) : Prop := ∃ b, b < nb ∧ x = nI b
theorem q_ib_iff {nb : Nat} (h : nb ≤ 4) (x : Int32) : q_ib nb x ↔ ¬ x < 0 ∧ ¬ nI nb ≤ x := by
  constructor
  · rintro ⟨b, hb, rfl⟩
    exact ⟨nI_pos (by omega), nI_ge hb (by omega)⟩
  · rintro ⟨h0, h1⟩
    obtain ⟨j, hj, rfl⟩ := nI_of h0
    refine ⟨j, ?_, rfl⟩
    apply Decidable.byContradiction
    intro q
    exact h1 (nI_le (by omega) hj)
theorem q_isBoxM {post : Int32 → z_Md → Prop} {N : Nat} {M : z_Md} {nb nm md : Nat} (hQ : q_Q N M nb nm md) {x : Int32} (h1 : q_ib nb x → post 1 M) (h0 : ¬ q_ib nb x → post 0 M) : w_X7_isBox post M x := by
  have hi := q_ib_iff hQ.1.2 x
  intro y1 e1
  rw [hQ.1.1] at e1
  by_cases a : x < 0
  · rw [if_pos a] at e1
    rw [e1]
    exact ⟨q_b0, h0 (fun q => (hi.mp q).1 a)⟩
  · rw [if_neg a] at e1
    by_cases b : nI nb ≤ x
    · rw [if_pos b] at e1
      rw [e1]
      exact ⟨q_b0, h0 (fun q => (hi.mp q).2 b)⟩
    · rw [if_neg b] at e1
      rw [e1]
      exact ⟨q_b1, h1 (hi.mpr ⟨a, b⟩)⟩
theorem q_isLineM {post : Int32 → z_Md → Prop} {M : z_Md} {x : Int32} (h1 : q_ib 3 x → post 1 M) (h0 : ¬ q_ib 3 x → post 0 M) : w_X7_isLine post M x := by
  have hi := q_ib_iff (nb := 3) (by omega) x
  intro y1 e1
  by_cases a : x < 0
  · rw [if_pos a] at e1
    rw [e1]
    exact ⟨q_b0, h0 (fun q => (hi.mp q).1 a)⟩
  · rw [if_neg a] at e1
    by_cases b : 3 ≤ x
    · rw [if_pos b] at e1
      rw [e1]
      exact ⟨q_b0, h0 (fun q => (hi.mp q).2 b)⟩
    · rw [if_neg b] at e1
      rw [e1]
      exact ⟨q_b1, h1 (hi.mpr ⟨a, b⟩)⟩
theorem q_isFull_l {post : Int32 → z_Md → Prop} {M : z_Md} {nm : Nat} (hnm : nm ≤ 16) (h : post (if nm + fb_ct (q_spk M) 3 < 16 then 0 else 1) M) :
    ∀ d k, k + d = 3 → w_X7_isFull_7 post (d + 1) M (nI (nm + fb_ct (q_spk M) k)) (nI k) := by
  intro d
  induction d with
  | zero =>
    intro k hk
    have : k = 3 := by omega
    subst this
    refine ⟨fun _ => ?_, fun hh => absurd (by decide) hh⟩
    intro y2 e2
    have hct := fb_ct_le (q_spk M) 3
    have e : y2 = if nm + fb_ct (q_spk M) 3 < 16 then 0 else 1 := by
      rw [e2]
      have : nI (nm + fb_ct (q_spk M) 3) < 16 ↔ nm + fb_ct (q_spk M) 3 < 16 := nI_ltI (a := nm + fb_ct (q_spk M) 3) (b := 16) (by omega) (by omega)
      by_cases q : nm + fb_ct (q_spk M) 3 < 16
      · rw [if_pos q, if_pos (this.mpr q)]
      · rw [if_neg q, if_neg (fun z => q (this.mp z))]
    rw [e]
    exact ⟨q_bif, h⟩
  | succ d ih =>
    intro k hk
    refine ⟨fun hh => absurd hh (nI_ge (a := k) (b := 3) (by omega) (by omega)), fun _ => ⟨vp_in_nI (by omega) (by omega), fun _ => vp_in_nI (by omega) (by omega), ?_⟩⟩
    intro y4 e4
    rw [q_c (n := k) (by omega)] at e4
    have e : y4 = nI (nm + fb_ct (q_spk M) (k + 1)) := by
      rw [e4, fb_ct_succ]
      unfold q_spk
      by_cases a : M 20 k = 0
      · simp [a]
      · by_cases b : M 22 k = 0
        · simp [a, b, nI_1, Nat.add_assoc]
        · simp [a, b]
    rw [e, nI_1]
    exact ih (k + 1) (by omega)
theorem q_isFullM {post : Int32 → z_Md → Prop} {N : Nat} {M : z_Md} {nb nm md : Nat} (hQ : q_Q N M nb nm md) (h : post (if nm + fb_ct (q_spk M) 3 < 16 then 0 else 1) M) : w_X7_isFull post M := by
  refine ⟨4, ?_⟩
  rw [hQ.2.1.1]
  exact q_isFull_l hQ.2.1.2 h 3 0 (by omega)
/-- what a box has used: its messages, and what is being spoken for it -/
def q_um (M : z_Md) (S : Nat → Nat) (E : Nat → Nat → Int32 × Int32) (x : Int32) : Nat → Int32
  | 0 => 0
  | m + 1 => if M 16 m = x then q_um M S E x m + (q_cost S E (M 18 m) + q_cost S E (M 19 m)) else q_um M S E x m
def q_ul (M : z_Md) (S : Nat → Nat) (E : Nat → Nat → Int32 × Int32) (x i : Int32) : Nat → Int32
  | 0 => i
  | l + 1 => if q_spk M l = true ∧ M 21 l = x then q_ul M S E x i l + q_cost S E (M 23 l) else q_ul M S E x i l
def q_ub (M : z_Md) (S : Nat → Nat) (E : Nat → Nat → Int32 × Int32) (nm : Nat) (x : Int32) : Int32 := q_ul M S E x (q_um M S E x nm) 3
theorem q_usedBy_l {post : Int32 → z_Md → Prop} {N : Nat} {M : z_Md} {S : Nat → Nat} {C : Nat → Nat → Nat} {E : Nat → Nat → Int32 × Int32} {nb nm md : Nat} {x i : Int32} (hP : q_P N M S C E) (hN : N ≤ 64) (hQ : q_Q N M nb nm md) (h : post (q_ul M S E x i 3) M) :
    ∀ d k, k + d = 3 → w_X7_usedBy_58 post (d + 1) M x (q_ul M S E x i k) (nI k) := by
  obtain ⟨-, -, -, -, -, -, hl, -⟩ := hQ
  intro d
  induction d with
  | zero =>
    intro k hk
    have : k = 3 := by omega
    subst this
    exact ⟨fun _ => h, fun hh => absurd (by decide) hh⟩
  | succ d ih =>
    intro k hk
    have hstep : q_ul M S E x i (k + 1) = if q_spk M k = true ∧ M 21 k = x then q_ul M S E x i k + q_cost S E (M 23 k) else q_ul M S E x i k := rfl
    have hno : ¬ (q_spk M k = true ∧ M 21 k = x) → w_X7_usedBy_105 post (w_X7_usedBy_58 post (d + 1)) M x (nI k) (q_ul M S E x i k) := fun hn => by
      show w_X7_usedBy_58 post (d + 1) M x (q_ul M S E x i k + 0) (nI k + 1)
      rw [Int32.add_zero, nI_1]
      rw [if_neg hn] at hstep
      rw [← hstep]
      exact ih (k + 1) (by omega)
    have hv : vp_in (nI k) 3 := vp_in_nI (by omega) (by omega)
    have hc : (nI k).toNatClampNeg = k := q_c (by omega)
    refine ⟨fun hh => absurd hh (nI_ge (a := k) (b := 3) (by omega) (by omega)), fun _ => ⟨hv, ?_⟩⟩
    rw [hc]
    refine ⟨fun a => hno (fun q => ?_), fun a => ⟨hv, fun b => hno (fun q => ?_), fun b => ⟨hv, fun c => hno (fun q => c q.2), fun c => ⟨hv, ?_⟩⟩⟩⟩
    · have := of_decide_eq_true q.1; exact this.1 a
    · have := of_decide_eq_true q.1; exact b this.2
    · obtain ⟨-, hb⟩ := hl k (by omega)
      obtain ⟨-, -, ⟨r, hr, er⟩, -⟩ := hb a
      have hsp : q_spk M k = true := decide_eq_true ⟨a, b⟩
      rw [if_pos ⟨hsp, c⟩] at hstep
      refine q_costM hP hN (Or.inr ⟨r, hr, er⟩) ?_
      show w_X7_usedBy_58 post (d + 1) M x (q_ul M S E x i k + q_cost S E (M 23 k)) (nI k + 1)
      rw [nI_1, ← hstep]
      exact ih (k + 1) (by omega)
theorem q_usedBy_m {post : Int32 → z_Md → Prop} {N : Nat} {M : z_Md} {S : Nat → Nat} {C : Nat → Nat → Nat} {E : Nat → Nat → Int32 × Int32} {nb nm md : Nat} {x : Int32} (hP : q_P N M S C E) (hN : N ≤ 64) (hQ : q_Q N M nb nm md) (h : post (q_ub M S E nm x) M) :
    ∀ d k, k + d = nm → w_X7_usedBy_4 post (d + 1) M x (q_um M S E x k) (nI k) := by
  have hQ0 := hQ
  obtain ⟨-, ⟨hn, hn16⟩, -, hm, -⟩ := hQ
  intro d
  induction d with
  | zero =>
    intro k hk
    have hkk : k = nm := by omega
    refine ⟨fun _ => ⟨4, ?_⟩, fun hh => ?_⟩
    · rw [hkk]
      exact q_usedBy_l hP hN hQ0 h 3 0 (by omega)
    · rw [hn, hkk] at hh
      exact absurd (nI_le (by omega) (by omega)) hh
  | succ d ih =>
    intro k hk
    have hstep : q_um M S E x (k + 1) = if M 16 k = x then q_um M S E x k + (q_cost S E (M 18 k) + q_cost S E (M 19 k)) else q_um M S E x k := rfl
    have hv : vp_in (nI k) 16 := vp_in_nI (by omega) (by omega)
    have hc : (nI k).toNatClampNeg = k := q_c (by omega)
    refine ⟨fun hh => ?_, fun _ => ⟨hv, ?_⟩⟩
    · rw [hn] at hh
      exact absurd hh (nI_ge (by omega) (by omega))
    · rw [hc]
      obtain ⟨-, ⟨r, hr, er⟩, hp, -⟩ := hm k (by omega)
      refine ⟨fun a => ?_, fun a => ⟨hv, q_costM hP hN (Or.inr ⟨r, hr, er⟩) ⟨hv, q_costM hP hN hp ?_⟩⟩⟩
      · show w_X7_usedBy_4 post (d + 1) M x (q_um M S E x k + 0) (nI k + 1)
        rw [Int32.add_zero, nI_1]
        rw [if_neg a] at hstep
        rw [← hstep]
        exact ih (k + 1) (by omega)
      · show w_X7_usedBy_4 post (d + 1) M x (q_um M S E x k + (q_cost S E (M 18 k) + q_cost S E (M 19 k))) (nI k + 1)
        rw [if_pos a] at hstep
        rw [nI_1, ← hstep]
        exact ih (k + 1) (by omega)
theorem q_usedByM {post : Int32 → z_Md → Prop} {N : Nat} {M : z_Md} {S : Nat → Nat} {C : Nat → Nat → Nat} {E : Nat → Nat → Int32 × Int32} {nb nm md : Nat} {x : Int32} (hP : q_P N M S C E) (hN : N ≤ 64) (hQ : q_Q N M nb nm md) (h : post (q_ub M S E nm x) M) : w_X7_usedBy post M x :=
  ⟨nm + 1, q_usedBy_m hP hN hQ h nm 0 (by omega)⟩
def q_paid (M : z_Md) (S : Nat → Nat) (E : Nat → Nat → Int32 × Int32) (nm l : Nat) (more : Int32) : Int32 := if 0 < M 22 l then 1 else if M 11 (M 21 l).toNatClampNeg < q_ub M S E nm (M 21 l) + more then 0 else 1
theorem q_isPaidM {post : Int32 → z_Md → Prop} {N : Nat} {M : z_Md} {S : Nat → Nat} {C : Nat → Nat → Nat} {E : Nat → Nat → Int32 × Int32} {nb nm md l : Nat} {more : Int32} (hP : q_P N M S C E) (hN : N ≤ 64) (hQ : q_Q N M nb nm md) (hl : l < 3) (hb : ¬ M 20 l = 0) (h : post (q_paid M S E nm l more) M) : w_X7_isPaid post M (nI l) more := by
  have hv : vp_in (nI l) 3 := vp_in_nI hl (by omega)
  have hc : (nI l).toNatClampNeg = l := q_c (by omega)
  refine ⟨hv, ?_⟩
  rw [hc]
  unfold q_paid at h
  refine ⟨fun a => ?_, fun a => ⟨hv, q_usedByM hP hN hQ ⟨hv, ?_, ?_⟩⟩⟩
  · rw [if_pos a] at h; exact h
  · obtain ⟨⟨-, hb4⟩, -, -, -, -, -, hls, -⟩ := hQ
    obtain ⟨⟨b, hb', eb⟩, -⟩ := (hls l hl).2 hb
    rw [eb]
    exact vp_in_nI (by omega) (by omega)
  · rw [if_neg a] at h
    refine ⟨fun c => ?_, fun c => ?_⟩
    · rw [if_pos c] at h; exact h
    · rw [if_neg c] at h; exact h
