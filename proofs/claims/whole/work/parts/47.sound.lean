/-! cost, frames and sound of a record in the reference -/
def q_cs (e : Nat → Int32 × Int32) : Nat → Int32
  | 0 => 0
  | n + 1 => q_cs e n + (if (e n).1 = 0 then 1 else ((e n).1 + 3) / 4)
def q_fm (e : Nat → Int32 × Int32) : Nat → Int32
  | 0 => 0
  | n + 1 => q_fm e n + (if (e n).1 = 0 then 1 else (e n).1)
theorem q_cs_cong {e e' : Nat → Int32 × Int32} : ∀ {n : Nat}, (∀ i, i < n → (e i).1 = (e' i).1) → q_cs e n = q_cs e' n
  | 0, _ => rfl
  | n + 1, h => by unfold q_cs; rw [q_cs_cong (n := n) (fun i hi => h i (by omega)), h n (by omega)]
theorem q_fm_cong {e e' : Nat → Int32 × Int32} : ∀ {n : Nat}, (∀ i, i < n → (e i).1 = (e' i).1) → q_fm e n = q_fm e' n
  | 0, _ => rfl
  | n + 1, h => by unfold q_fm; rw [q_fm_cong (n := n) (fun i hi => h i (by omega)), h n (by omega)]
def q_cost (S : Nat → Nat) (E : Nat → Nat → Int32 × Int32) (x : Int32) : Int32 := if x < 0 then 0 else q_cs (E x.toNatClampNeg) (S x.toNatClampNeg)
def q_frames (S : Nat → Nat) (E : Nat → Nat → Int32 × Int32) (x : Int32) : Int32 := if x < 0 then 0 else q_fm (E x.toNatClampNeg) (S x.toNatClampNeg)
/-- a record's number, or none -/
def q_rn (x : Int32) : Prop := x = -1 ∨ ∃ r, r < 48 ∧ x = nI r
theorem q_m1 : (-1 : Int32) < 0 := by decide
theorem q_cost_l {post : Int32 → z_Md → Prop} {N : Nat} {M : z_Md} {S : Nat → Nat} {C : Nat → Nat → Nat} {E : Nat → Nat → Int32 × Int32} {r : Nat} (hP : q_P N M S C E) (hN : N ≤ 64) (hr : r < 48) (h : post (q_cs (E r) (S r)) M) :
    ∀ d k, k + d = S r → w_X7_cost_4 post (d + 1) M (nI r) (q_cs (E r) k) (nI k) := by
  have hSr := hP.1 r hr
  intro d
  induction d with
  | zero =>
    intro k hk
    have hkk : k = S r := by omega
    refine ⟨fun hh => absurd hh (nI_pos (by omega)), fun _ => ⟨vp_in_nI hr (by omega), fun _ => ?_, fun hh => ?_⟩⟩
    · rw [hkk]; exact h
    · rw [q_c (n := r) (by omega), hSr.1] at hh
      exact absurd (nI_le (by omega) (by omega)) hh
  | succ d ih =>
    intro k hk
    refine ⟨fun hh => absurd hh (nI_pos (by omega)), fun _ => ⟨vp_in_nI hr (by omega), fun hh => ?_, fun _ => ?_⟩⟩
    · rw [q_c (n := r) (by omega), hSr.1] at hh
      exact absurd hh (nI_ge (by omega) (by omega))
    · refine hP.entry hN hr (i := k) (by omega) (fun hat hb => ⟨vp_in_nI hat (by omega), ?_⟩)
      intro x4 e4
      rw [q_c (by omega), (hP.2.2.2.2.2.1 r k hr (by omega)).1] at e4
      refine ⟨fun hz => ?_, fun hz => ?_⟩
      · show w_X7_cost_4 post (d + 1) M (nI r) (q_cs (E r) k + (x4 + 3) / 4) (nI k + 1)
        have e : q_cs (E r) k + (x4 + 3) / 4 = q_cs (E r) (k + 1) := by
          show _ = q_cs (E r) k + (if (E r k).1 = 0 then 1 else ((E r k).1 + 3) / 4)
          rw [← e4, if_neg hz]
        rw [e, nI_1]
        exact ih (k + 1) (by omega)
      · show w_X7_cost_4 post (d + 1) M (nI r) (q_cs (E r) k + 1) (nI k + 1)
        have e : q_cs (E r) k + 1 = q_cs (E r) (k + 1) := by
          show _ = q_cs (E r) k + (if (E r k).1 = 0 then 1 else ((E r k).1 + 3) / 4)
          rw [← e4, if_pos hz]
        rw [e, nI_1]
        exact ih (k + 1) (by omega)
theorem q_costM {post : Int32 → z_Md → Prop} {N : Nat} {M : z_Md} {S : Nat → Nat} {C : Nat → Nat → Nat} {E : Nat → Nat → Int32 × Int32} {x : Int32} (hP : q_P N M S C E) (hN : N ≤ 64) (hx : q_rn x) (h : post (q_cost S E x) M) : w_X7_cost post M x := by
  rcases hx with rfl | ⟨r, hr, rfl⟩
  · exact ⟨1, fun _ => h, fun hh => absurd q_m1 hh⟩
  · unfold q_cost at h
    rw [if_neg (nI_pos (by omega)), q_c (by omega)] at h
    exact ⟨S r + 1, q_cost_l hP hN hr h (S r) 0 (by omega)⟩
theorem q_frames_l {post : Int32 → z_Md → Prop} {N : Nat} {M : z_Md} {S : Nat → Nat} {C : Nat → Nat → Nat} {E : Nat → Nat → Int32 × Int32} {r : Nat} (hP : q_P N M S C E) (hN : N ≤ 64) (hr : r < 48) (h : post (q_fm (E r) (S r)) M) :
    ∀ d k, k + d = S r → w_X7_frames_4 post (d + 1) M (nI r) (q_fm (E r) k) (nI k) := by
  have hSr := hP.1 r hr
  intro d
  induction d with
  | zero =>
    intro k hk
    have hkk : k = S r := by omega
    refine ⟨fun hh => absurd hh (nI_pos (by omega)), fun _ => ⟨vp_in_nI hr (by omega), fun _ => ?_, fun hh => ?_⟩⟩
    · rw [hkk]; exact h
    · rw [q_c (n := r) (by omega), hSr.1] at hh
      exact absurd (nI_le (by omega) (by omega)) hh
  | succ d ih =>
    intro k hk
    refine ⟨fun hh => absurd hh (nI_pos (by omega)), fun _ => ⟨vp_in_nI hr (by omega), fun hh => ?_, fun _ => ?_⟩⟩
    · rw [q_c (n := r) (by omega), hSr.1] at hh
      exact absurd hh (nI_ge (by omega) (by omega))
    · refine hP.entry hN hr (i := k) (by omega) (fun hat hb => ⟨vp_in_nI hat (by omega), ?_⟩)
      intro x4 e4 y6 e6
      rw [q_c (by omega), (hP.2.2.2.2.2.1 r k hr (by omega)).1] at e4
      have e : q_fm (E r) k + y6 = q_fm (E r) (k + 1) := by
        show _ = q_fm (E r) k + (if (E r k).1 = 0 then 1 else (E r k).1)
        rw [e6, e4]
      rw [e, nI_1]
      exact ih (k + 1) (by omega)
theorem q_framesM {post : Int32 → z_Md → Prop} {N : Nat} {M : z_Md} {S : Nat → Nat} {C : Nat → Nat → Nat} {E : Nat → Nat → Int32 × Int32} {x : Int32} (hP : q_P N M S C E) (hN : N ≤ 64) (hx : q_rn x) (h : post (q_frames S E x) M) : w_X7_frames post M x := by
  rcases hx with rfl | ⟨r, hr, rfl⟩
  · exact ⟨1, fun _ => h, fun hh => absurd q_m1 hh⟩
  · unfold q_frames at h
    rw [if_neg (nI_pos (by omega)), q_c (by omega)] at h
    exact ⟨S r + 1, q_frames_l hP hN hr h (S r) 0 (by omega)⟩
/-- sample 'left' behind the first k entries, d entries before the end -/
def q_sd (e : Nat → Int32 × Int32) : Nat → Nat → Nat → Int32
  | 0, _, _ => 0
  | d + 1, k, left => if (e k).1 = 0 then (if left < 8 then q_snd e k left else q_sd e d (k + 1) (left - 8)) else (if left < 8 * (e k).1.toNatClampNeg then 0 else q_sd e d (k + 1) (left - 8 * (e k).1.toNatClampNeg))
def q_gi (M : z_Md) (s : Int32 × Int32) : z_Md := z_up (z_up M 30 0 s.1) 31 0 s.2
theorem q_gi_f (M : z_Md) (s : Int32 × Int32) {f : Nat} (h0 : f ≠ 30) (h1 : f ≠ 31) : q_gi M s f = M f := by funext x; simp [q_gi, z_up, h0, h1]
theorem q_gi_30 (M : z_Md) (s : Int32 × Int32) : q_gi M s 30 0 = s.1 := by simp [q_gi, z_up]
theorem q_gi_31 (M : z_Md) (s : Int32 × Int32) : q_gi M s 31 0 = s.2 := by simp [q_gi, z_up]
theorem q_gi_gi (M : z_Md) (s t : Int32 × Int32) : z_up (z_up (q_gi M s) 30 0 t.1) 31 0 t.2 = q_gi M t := by
  funext f x
  simp only [q_gi, z_up]
  by_cases h1 : f = 31 ∧ x = 0
  · simp [h1]
  · by_cases h2 : f = 30 ∧ x = 0
    · simp [h2]
    · simp [h1, h2]
theorem q_gi_P {N : Nat} {M : z_Md} {S : Nat → Nat} {C : Nat → Nat → Nat} {E : Nat → Nat → Int32 × Int32} (hP : q_P N M S C E) (s : Int32 × Int32) : q_P N (q_gi M s) S C E :=
  hP.fr (q_gi_f M s (by omega) (by omega)) (q_gi_f M s (by omega) (by omega)) (q_gi_f M s (by omega) (by omega)) (q_gi_f M s (by omega) (by omega)) (q_gi_f M s (by omega) (by omega)) (q_gi_f M s (by omega) (by omega))
theorem q_hearG {post : z_Md → Prop} {M : z_Md} {s : Int32 × Int32} {c : Int32} (hs : q_stp M) (hg : q_gd s) (h : post (q_gi M (q_nx s c))) : w_X7_hear post (q_gi M s) c := by
  obtain ⟨-, n, hn, e⟩ := hg
  refine q_hear (n := n) (fun j hj => by rw [q_gi_f M s (by omega) (by omega)]; exact hs j hj) hn (by rw [q_gi_31]; exact e) ?_
  rw [q_gi_30, q_gi_31]
  have := q_gi_gi M s (q_nx s c)
  unfold q_nx at *
  rw [this]
  exact h
theorem q_sound90 {post : Int32 → z_Md → Prop} {J : z_Md → Int32 → Int32 → Int32 → Prop} {M : z_Md} {s : Int32 × Int32} (hs : q_stp M) (hg : q_gd s) {at_ : Nat} (hat : at_ < 160) (r k left : Nat) (hl : left < 100000)
    (h1 : left < 8 → ∀ t, post (q_nib s (M 5 at_) (left + 1)).1 (q_gi M t)) (h2 : 8 ≤ left → J (q_gi M (q_nib s (M 5 at_) 8)) (nI r) (nI (left - 8)) (nI k + 1)) :
    ∀ d j, j + d = 8 → j ≤ left → w_X7_sound_90 post J (d + 1) (q_gi M (q_nib s (M 5 at_) j)) (nI r) (nI (left - j)) (nI k) (nI at_) (nI j) := by
  intro d
  induction d with
  | zero =>
    intro j hj hjl
    have : j = 8 := by omega
    subst this
    refine ⟨fun _ => h2 hjl, fun hh => absurd (by decide) hh⟩
  | succ d ih =>
    intro j hj hjl
    refine ⟨fun hh => absurd hh (nI_ge (a := j) (b := 8) (by omega) (by omega)), fun _ => ⟨vp_in_nI hat (by omega), ?_⟩⟩
    rw [q_c (n := at_) (by omega), q_gi_f M _ (by omega) (by omega)]
    refine q_hearG hs (q_gd_nib hg _ j) ?_
    show (¬ nI (left - j) = 0 → _) ∧ (nI (left - j) = 0 → _)
    refine ⟨fun hz => ?_, fun hz => ?_⟩
    · have h0 : 0 < left - j := by
        apply Decidable.byContradiction
        intro q
        have : left - j = 0 := by omega
        exact hz (by rw [this]; rfl)
      have e : nI (left - j) + (-1) = nI (left - (j + 1)) := by
        have := pk_m1 (left - (j + 1))
        have e2 : left - (j + 1) + 1 = left - j := by omega
        rw [e2] at this
        exact this
      rw [e, nI_1]
      exact ih (j + 1) (by omega) (by omega)
    · have h0 : left = j := by
        apply Decidable.byContradiction
        intro q
        exact nI_ne0 (n := left - j) (by omega) (by omega) hz
      rw [q_gi_30]
      have := h1 (by omega) (q_nx (q_nib s (M 5 at_) j) (q_nyb (M 5 at_) j))
      rw [h0] at this
      exact this
theorem q_sound_l {post : Int32 → z_Md → Prop} {N : Nat} {M : z_Md} {S : Nat → Nat} {C : Nat → Nat → Nat} {E : Nat → Nat → Int32 × Int32} {r : Nat} (hs : q_stp M) (hP : q_P N M S C E) (hN : N ≤ 64) (hr : r < 48) :
    ∀ d k left, k + d = S r → left < 100000 → (∀ t, post (q_sd (E r) d k left) (q_gi M t)) → w_X7_sound_15 post (d + 1) (q_gi M (q_st (E r) k)) (nI r) (nI left) (nI k) := by
  have hSr := hP.1 r hr
  intro d
  induction d with
  | zero =>
    intro k left hk hl h
    have hkk : k = S r := by omega
    refine ⟨vp_in_nI hr (by omega), fun _ => h _, fun hh => ?_⟩
    rw [q_c (n := r) (by omega), q_gi_f M _ (by omega) (by omega), hSr.1] at hh
    exact absurd (nI_le (by omega) (by omega)) hh
  | succ d ih =>
    intro k left hk hl h
    have hP' := q_gi_P hP (q_st (E r) k)
    refine ⟨vp_in_nI hr (by omega), fun hh => ?_, fun _ => ?_⟩
    · rw [q_c (n := r) (by omega), q_gi_f M _ (by omega) (by omega), hSr.1] at hh
      exact absurd hh (nI_ge (by omega) (by omega))
    · refine hP'.entry hN hr (i := k) (by omega) (fun hat hb => ⟨vp_in_nI hat (by omega), ?_⟩)
      obtain ⟨e4, e5⟩ := hP.2.2.2.2.2.1 r k hr (by omega)
      obtain ⟨g, hg, eg⟩ := hP.2.2.2.2.2.2.1 r k hr (by omega)
      rw [q_c (n := q_at C r k) (by omega), q_gi_f M _ (by omega) (by omega), e4, eg]
      have hstep : q_sd (E r) (d + 1) k left = if (E r k).1 = 0 then (if left < 8 then q_snd (E r) k left else q_sd (E r) d (k + 1) (left - 8)) else (if left < 8 * (E r k).1.toNatClampNeg then 0 else q_sd (E r) d (k + 1) (left - 8 * (E r k).1.toNatClampNeg)) := rfl
      rw [hstep, eg, q_c (n := g) (by omega)] at h
      have hst : q_st (E r) (k + 1) = if (E r k).1 = 0 then q_nib (q_st (E r) k) (E r k).2 8 else (0, 0) := rfl
      rw [eg] at hst
      refine ⟨fun hz => ?_, fun hz => ?_⟩
      · have g0 : nI g = 0 := by
          have : g = 0 := by
            apply Decidable.byContradiction
            intro q
            exact nI_nle (n := g) (by omega) (by omega) hz
          rw [this]; rfl
        rw [if_pos g0] at h hst
        refine ⟨9, ?_⟩
        have := q_sound90 (post := post) (J := w_X7_sound_15 post (d + 1)) hs (q_gd_st (E r) k) hat r k left hl (fun h8 t => ?_) (fun h8 => ?_) 8 0 (by omega) (by omega)
        · exact this
        · have h9 := h t
          rw [if_pos h8] at h9
          rw [e5]
          exact h9
        · rw [nI_1, e5, ← hst]
          exact ih (k + 1) (left - 8) (by omega) (by omega) (fun t => by
            have h9 := h t
            rw [if_neg (by omega)] at h9
            exact h9)
      · have g0 : ¬ nI g = 0 := fun q => hz (by rw [q]; decide)
        have g1 : 0 < g := by
          apply Decidable.byContradiction
          intro q
          have : g = 0 := by omega
          exact g0 (by rw [this]; rfl)
        rw [if_neg g0] at h hst
        rw [q_mul8]
        refine ⟨vp_in_nI hat (by omega), fun hh => ⟨vp_in_nI hat (by omega), ?_⟩, fun hh => ?_⟩
        · have hle : 8 * g ≤ left := (nI_leI (by omega) (by omega)).mp hh
          intro x3 e3
          rw [pk_sub hle] at e3
          show w_X7_sound_15 post (d + 1) _ (nI r) x3 (nI k + 1)
          have := q_gi_gi M (q_st (E r) k) (0, 0)
          rw [this, e3, nI_1, ← hst]
          exact ih (k + 1) (left - 8 * g) (by omega) (by omega) (fun t => by
            have h9 := h t
            rw [if_neg (by omega)] at h9
            exact h9)
        · have hlt : left < 8 * g := by
            apply Decidable.byContradiction
            intro q
            exact hh (nI_le (by omega) (by omega))
          have h9 := h (q_st (E r) k)
          rw [if_pos hlt] at h9
          exact h9
theorem q_soundM {post : Int32 → z_Md → Prop} {N : Nat} {M : z_Md} {S : Nat → Nat} {C : Nat → Nat → Nat} {E : Nat → Nat → Int32 × Int32} {r left : Nat} (hs : q_stp M) (hP : q_P N M S C E) (hN : N ≤ 64) (hr : r < 48) (hl : left < 100000) (h : ∀ t, post (q_sd (E r) (S r) 0 left) (q_gi M t)) : w_X7_sound post M (nI r) (nI left) :=
  ⟨S r + 1, q_sound_l hs hP hN hr (S r) 0 left (by omega) hl h⟩
