/-! the last entry dropped; a record released -/
theorem q_drop_P {N : Nat} {M M' : z_Md} {S : Nat → Nat} {C : Nat → Nat → Nat} {E : Nat → Nat → Int32 × Int32} {r : Nat} (hP : q_P N M S C E) (hN : N ≤ 64) (hr : r < 48) (h0 : 0 < S r)
    (g2 : ∀ x, M' 2 x = if x = C r ((S r - 1) / 4) then nI ((S r - 1) % 4) else M 2 x) (g9 : ∀ x, M' 9 x = if x = r then nI (S r - 1) else M 9 x)
    (g8 : M' 8 = M 8) (g3 : ∀ x, ((S r - 1) % 4 = 0 → 1 < S r → x ≠ C r ((S r - 1) / 4 - 1)) → M' 3 x = M 3 x) (g4 : M' 4 = M 4) (g5 : M' 5 = M 5) : q_P N M' (q_u S r (S r - 1)) C E := by
  obtain ⟨h1, h2, h3, h4, h5, h6, h7, h8, h9⟩ := hP
  have hSr := (h1 r hr).2
  have hSs : q_u S r (S r - 1) r = S r - 1 := q_u_s S r _
  have hSx : ∀ x, x ≠ r → q_u S r (S r - 1) x = S x := fun x hx => q_u_n S _ hx
  have hle : ∀ x, q_u S r (S r - 1) x ≤ S x := fun x => by
    by_cases hxr : x = r
    · subst hxr; rw [hSs]; omega
    · rw [hSx x hxr]; exact Nat.le_refl _
  have hold : ∀ x k, k < q_nb (q_u S r (S r - 1) x) → k < q_nb (S x) := fun x k hk => by
    have := hle x
    unfold q_nb at *
    omega
  have hbl : (S r - 1) / 4 < q_nb (S r) := by unfold q_nb; omega
  refine ⟨?_, ?_, ?_, ?_, ?_, ?_, ?_, ?_, ?_⟩
  · intro x hx
    by_cases hxr : x = r
    · subst hxr; rw [hSs, g9, if_pos rfl]; exact ⟨rfl, by omega⟩
    · rw [hSx x hxr, g9, if_neg hxr]; exact h1 x hx
  · intro x hx hz
    rw [g8]
    exact h2 x hx (Nat.lt_of_lt_of_le hz (hle x))
  · intro x k hx hk
    exact h3 x k hx (hold x k hk)
  · intro x k hx hk
    have ho := hold x k hk
    rw [g2]
    by_cases hq : C x k = C r ((S r - 1) / 4)
    · obtain ⟨rfl, rfl⟩ := h8 x k r _ hx ho hr hbl hq
      rw [if_pos hq, hSs]
      rw [hSs] at hk
      unfold q_nb at hk
      congr 1
      omega
    · rw [if_neg hq, h4 x k hx ho]
      by_cases hxr : x = r
      · subst hxr
        rw [hSs] at hk ⊢
        have : k ≠ (S x - 1) / 4 := fun q => hq (by rw [q])
        unfold q_nb at hk
        congr 1
        omega
      · rw [hSx x hxr]
  · intro x k hx hk
    have ho : k + 1 < q_nb (S x) := hold x (k + 1) hk
    rw [g3]
    · exact h5 x k hx ho
    · intro hm hz e
      obtain ⟨rfl, rfl⟩ := h8 x k r _ hx (by omega) hr (by unfold q_nb; omega) e
      rw [hSs] at hk
      unfold q_nb at hk
      omega
  · intro x i hx hi
    rw [g4, g5]
    exact h6 x i hx (Nat.lt_of_lt_of_le hi (hle x))
  · intro x i hx hi
    exact h7 x i hx (Nat.lt_of_lt_of_le hi (hle x))
  · intro x k x' k' hx hk hx' hk' e
    exact h8 x k x' k' hx (hold x k hk) hx' (hold x' k' hk') e
  · intro b hb hf
    rw [g2]
    by_cases hq : b = C r ((S r - 1) / 4)
    · rw [if_pos hq]
      have : (S r - 1) % 4 = 0 := by
        apply Decidable.byContradiction
        intro hm
        exact hf r ((S r - 1) / 4) hr (by rw [hSs]; unfold q_nb; omega) hq.symm
      rw [this]; rfl
    · rw [if_neg hq]
      refine h9 b hb (fun x k hx hk e => ?_)
      by_cases hxr : x = r
      · subst hxr
        have : k ≠ (S x - 1) / 4 := fun q => hq (by rw [← e, q])
        exact hf x k hx (by rw [hSs]; unfold q_nb at *; omega) e
      · exact hf x k hx (by rw [hSx x hxr]; exact hk) e
theorem q_dropLast {post : z_Md → Prop} {N : Nat} {M : z_Md} {S : Nat → Nat} {C : Nat → Nat → Nat} {E : Nat → Nat → Int32 × Int32} {r : Nat} (hP : q_P N M S C E) (hN : N ≤ 64) (hr : r < 48) (h0 : 0 < S r)
    (kk : ∀ M' : z_Md, (∀ f, f ≠ 2 → f ≠ 3 → f ≠ 9 → M' f = M f) → (∀ x, M' 2 x = if x = C r ((S r - 1) / 4) then nI ((S r - 1) % 4) else M 2 x) → q_P N M' (q_u S r (S r - 1)) C E → post M') : w_X7_dropLast post M (nI r) := by
  have hP0 := hP
  obtain ⟨h1, h2, h3, h4, h5, h6, h7, h8, h9⟩ := hP
  have hSr := (h1 r hr)
  have hbl : (S r - 1) / 4 < q_nb (S r) := by unfold q_nb; omega
  have hb := h3 r _ hr hbl
  have hsub : nI (S r) - 1 = nI (S r - 1) := pk_sub (b := 1) (by omega)
  refine ⟨vp_in_nI hr (by omega), ?_⟩
  rw [q_c (n := r) (by omega), hSr.1, hsub]
  refine q_entryAt hr (by omega) (C r) (h2 r hr h0) (fun k hk => ⟨h3 r k hr (by unfold q_nb; omega), h5 r k hr (by unfold q_nb; omega)⟩) ?_
  rw [q_div4 (by omega)]
  have hd2 : (4 * C r ((S r - 1) / 4) + (S r - 1) % 4) / 4 = C r ((S r - 1) / 4) := by omega
  rw [hd2, q_c (n := C r ((S r - 1) / 4)) (by omega)]
  have hc2 : M 2 (C r ((S r - 1) / 4)) = nI ((S r - 1) % 4 + 1) := by
    rw [h4 r _ hr hbl]
    congr 1; omega
  have hc3 : M 2 (C r ((S r - 1) / 4)) - 1 = nI ((S r - 1) % 4) := by rw [hc2, nI_pred]
  have e2 : z_up M 9 r (nI (S r) - 1) 2 (C r ((S r - 1) / 4)) - 1 = nI ((S r - 1) % 4) := by
    show M 2 (C r ((S r - 1) / 4)) - 1 = _
    exact hc3
  refine ⟨vp_in_nI hr (by omega), vp_in_nI hr (by omega), vp_in_nI hb (by omega), vp_in_nI hb (by omega), vp_in_nI hb (by omega), ?_⟩
  rw [hSr.1, hsub]
  rw [hsub] at e2
  rw [e2, z_up_s]
  refine ⟨fun hm => ?_, fun hm => ?_⟩
  · have hm' : ¬ (S r - 1) % 4 = 0 := fun q => hm (by rw [q]; rfl)
    refine kk _ (fun f f2 f3 f9 => ?_) (fun x => ?_) (q_drop_P hP0 hN hr h0 (fun x => ?_) (fun x => ?_) ?_ (fun x _ => ?_) ?_ ?_)
    · funext j; simp [z_up, f2, f9]
    · simp [z_up]
    · simp [z_up]
    · simp [z_up]
    · funext j; simp [z_up]
    · simp [z_up]
    · funext j; simp [z_up]
    · funext j; simp [z_up]
  · have hm' : (S r - 1) % 4 = 0 := by
      apply Decidable.byContradiction
      intro q
      exact nI_ne0 (n := (S r - 1) % 4) (by omega) (by omega) hm
    have e9 : z_up (z_up M 9 r (nI (S r - 1))) 2 (C r ((S r - 1) / 4)) (nI ((S r - 1) % 4)) 9 r = nI (S r - 1) := by simp [z_up]
    refine ⟨vp_in_nI hr (by omega), ?_⟩
    rw [e9]
    refine ⟨fun hz => ?_, fun hz => ?_⟩
    · refine kk _ (fun f f2 f3 f9 => ?_) (fun x => ?_) (q_drop_P hP0 hN hr h0 (fun x => ?_) (fun x => ?_) ?_ (fun x _ => ?_) ?_ ?_)
      · funext j; simp [z_up, f2, f9]
      · simp [z_up]
      · simp [z_up]
      · simp [z_up]
      · funext j; simp [z_up]
      · simp [z_up]
      · funext j; simp [z_up]
      · funext j; simp [z_up]
    · have h1' : 1 < S r := by
        apply Decidable.byContradiction
        intro q
        have : S r - 1 = 0 := by omega
        rw [this] at hz
        exact hz (by decide)
      have hsub2 : nI (S r - 1) - 1 = nI (S r - 1 - 1) := pk_sub (b := 1) (by omega)
      refine ⟨vp_in_nI hr (by omega), ?_⟩
      rw [hsub2]
      refine q_entryAt hr (by omega) (C r) (by simp [z_up]; exact h2 r hr h0) (fun k hk => ⟨h3 r k hr (by unfold q_nb; omega), by simp [z_up]; exact h5 r k hr (by unfold q_nb; omega)⟩) ?_
      rw [q_div4 (by
        have := h3 r ((S r - 1 - 1) / 4) hr (by unfold q_nb; omega)
        omega)]
      have hd3 : (4 * C r ((S r - 1 - 1) / 4) + (S r - 1 - 1) % 4) / 4 = C r ((S r - 1) / 4 - 1) := by
        have : (S r - 1 - 1) / 4 = (S r - 1) / 4 - 1 := by omega
        rw [this]; omega
      have hb3 := h3 r ((S r - 1) / 4 - 1) hr (by unfold q_nb; omega)
      rw [hd3, q_c (n := C r ((S r - 1) / 4 - 1)) (by omega)]
      refine ⟨vp_in_nI hb3 (by omega), ?_⟩
      refine kk _ (fun f f2 f3 f9 => ?_) (fun x => ?_) (q_drop_P hP0 hN hr h0 (fun x => ?_) (fun x => ?_) ?_ (fun x hx => ?_) ?_ ?_)
      · funext j; simp [z_up, f2, f3, f9]
      · simp [z_up]
      · simp [z_up]
      · simp [z_up]
      · funext j; simp [z_up]
      · simp [z_up, hx hm' h1']
      · funext j; simp [z_up]
      · funext j; simp [z_up]
theorem q_free_P {N : Nat} {M M' : z_Md} {S : Nat → Nat} {C : Nat → Nat → Nat} {E : Nat → Nat → Int32 × Int32} {r : Nat} (hP : q_P N M S C E) (hr : r < 48)
    (g2 : ∀ x, (∀ k, k < q_nb (S r) → x ≠ C r k) → M' 2 x = M 2 x) (g2z : ∀ k, k < q_nb (S r) → M' 2 (C r k) = 0) (g9 : ∀ x, M' 9 x = if x = r then 0 else M 9 x)
    (g8 : M' 8 = M 8) (g3 : M' 3 = M 3) (g4 : M' 4 = M 4) (g5 : M' 5 = M 5) : q_P N M' (q_u S r 0) C E := by
  obtain ⟨h1, h2, h3, h4, h5, h6, h7, h8, h9⟩ := hP
  have hSs : q_u S r 0 r = 0 := q_u_s S r _
  have hSx : ∀ x, x ≠ r → q_u S r 0 x = S x := fun x hx => q_u_n S _ hx
  have hr0 : ∀ x k, k < q_nb (q_u S r 0 x) → x ≠ r ∧ k < q_nb (S x) := fun x k hk => by
    by_cases hxr : x = r
    · subst hxr; rw [hSs] at hk; exact absurd hk (by unfold q_nb; omega)
    · rw [hSx x hxr] at hk; exact ⟨hxr, hk⟩
  have hr1 : ∀ x i, i < q_u S r 0 x → x ≠ r ∧ i < S x := fun x i hi => by
    by_cases hxr : x = r
    · subst hxr; rw [hSs] at hi; omega
    · rw [hSx x hxr] at hi; exact ⟨hxr, hi⟩
  refine ⟨?_, ?_, ?_, ?_, ?_, ?_, ?_, ?_, ?_⟩
  · intro x hx
    by_cases hxr : x = r
    · subst hxr; rw [hSs, g9, if_pos rfl]; exact ⟨rfl, by omega⟩
    · rw [hSx x hxr, g9, if_neg hxr]; exact h1 x hx
  · intro x hx hz
    rw [g8]
    exact h2 x hx (hr1 x 0 hz).2
  · intro x k hx hk
    exact h3 x k hx (hr0 x k hk).2
  · intro x k hx hk
    obtain ⟨a1, a2⟩ := hr0 x k hk
    rw [hSx x a1, g2 _ (fun k' hk' e => a1 (h8 x k r k' hx a2 hr hk' e).1)]
    exact h4 x k hx a2
  · intro x k hx hk
    rw [g3]
    exact h5 x k hx (hr0 x (k + 1) hk).2
  · intro x i hx hi
    rw [g4, g5]
    exact h6 x i hx (hr1 x i hi).2
  · intro x i hx hi
    exact h7 x i hx (hr1 x i hi).2
  · intro x k x' k' hx hk hx' hk' e
    exact h8 x k x' k' hx (hr0 x k hk).2 hx' (hr0 x' k' hk').2 e
  · intro b hb hf
    by_cases hq : ∃ k, k < q_nb (S r) ∧ b = C r k
    · obtain ⟨k, hk, e⟩ := hq
      rw [e]; exact g2z k hk
    · rw [g2 b (fun k hk e => hq ⟨k, hk, e⟩)]
      refine h9 b hb (fun x k hx hk e => ?_)
      by_cases hxr : x = r
      · subst hxr; exact hq ⟨k, hk, e.symm⟩
      · exact hf x k hx (by rw [hSx x hxr]; exact hk) e
/-- the blocks of a chain from k on at naught -/
def q_zr (M : z_Md) (C : Nat → Nat → Nat) (r k : Nat) : z_Md := fun f x => if f = 2 ∧ ∃ j, j < k ∧ x = C r j then 0 else M f x
theorem q_zr_0 (M : z_Md) (C : Nat → Nat → Nat) (r : Nat) : q_zr M C r 0 = M := by
  funext f x
  unfold q_zr
  rw [if_neg (fun q => by obtain ⟨-, j, hj, -⟩ := q; omega)]
theorem q_zr_s (M : z_Md) (C : Nat → Nat → Nat) (r k : Nat) : z_up (q_zr M C r k) 2 (C r k) 0 = q_zr M C r (k + 1) := by
  funext f x
  rw [z_up_e]
  unfold q_zr
  by_cases h : f = 2 ∧ x = C r k
  · rw [if_pos h, if_pos ⟨h.1, k, by omega, h.2⟩]
  · rw [if_neg h]
    by_cases h2 : f = 2 ∧ ∃ j, j < k ∧ x = C r j
    · obtain ⟨a, j, hj, e⟩ := h2
      rw [if_pos ⟨a, j, hj, e⟩, if_pos ⟨a, j, by omega, e⟩]
    · rw [if_neg h2, if_neg (fun q => by
        obtain ⟨a, j, hj, e⟩ := q
        by_cases hjk : j = k
        · subst hjk; exact h ⟨a, e⟩
        · exact h2 ⟨a, j, by omega, e⟩)]
theorem q_zr_f (M : z_Md) (C : Nat → Nat → Nat) (r k : Nat) {f : Nat} (hf : f ≠ 2) : q_zr M C r k f = M f := funext fun x => if_neg (fun q => hf q.1)
theorem q_release_l {post : Int32 → z_Md → Prop} {N : Nat} {M : z_Md} {S : Nat → Nat} {C : Nat → Nat → Nat} {E : Nat → Nat → Int32 × Int32} {r : Nat} (hP : q_P N M S C E) (hN : N ≤ 64) (hr : r < 48)
    (h : post (nI (q_nb (S r))) (z_up (q_zr M C r (q_nb (S r))) 9 r 0)) : ∀ d k, k + d = q_nb (S r) → ∀ x3 : Int32, (k < q_nb (S r) → x3 = nI (C r k)) → w_X7_release_12 post (d + 1) (q_zr M C r k) (nI r) (nI k) x3 (nI (4 * k)) := by
  obtain ⟨h1, h2, h3, h4, h5, h6, h7, h8, h9⟩ := hP
  have hSr := (h1 r hr)
  intro d
  induction d with
  | zero =>
    intro k hk x3 _
    have hkk : k = q_nb (S r) := by omega
    refine ⟨vp_in_nI hr (by omega), fun _ => ⟨vp_in_nI hr (by omega), ?_⟩, fun hh => ?_⟩
    · rw [q_c (n := r) (by omega), hkk]
      exact h
    · rw [q_c (n := r) (by omega), q_zr_f M C r k (by omega), hSr.1] at hh
      exact absurd (nI_le (by unfold q_nb at hkk; omega) (by unfold q_nb at hkk; omega)) hh
  | succ d ih =>
    intro k hk x3 hx3
    have hlt : k < q_nb (S r) := by omega
    have hb := h3 r k hr hlt
    rw [hx3 hlt]
    refine ⟨vp_in_nI hr (by omega), fun hh => ?_, fun _ => ⟨vp_in_nI hb (by omega), vp_in_nI hb (by omega), ?_⟩⟩
    · rw [q_c (n := r) (by omega), q_zr_f M C r k (by omega), hSr.1] at hh
      exact absurd hh (nI_ge (by unfold q_nb at hlt; omega) (by unfold q_nb at hlt; omega))
    · intro x4 e4
      rw [q_c (n := C r k) (by omega), q_zr_s, nI_1]
      have e : nI (4 * k) + 4 = nI (4 * (k + 1)) := nI_add (4 * k) 4
      rw [e]
      refine ih (k + 1) (by omega) x4 (fun hl => ?_)
      rw [e4, q_c (n := C r k) (by omega), q_zr_s, q_zr_f M C r (k + 1) (by omega)]
      exact h5 r k hr hl
theorem q_release {post : Int32 → z_Md → Prop} {N : Nat} {M : z_Md} {S : Nat → Nat} {C : Nat → Nat → Nat} {E : Nat → Nat → Int32 × Int32} {r : Nat} (hP : q_P N M S C E) (hN : N ≤ 64) (hr : r < 48)
    (kk : ∀ M' : z_Md, (∀ f, f ≠ 2 → f ≠ 9 → M' f = M f) → (∀ x, (∀ k, k < q_nb (S r) → x ≠ C r k) → M' 2 x = M 2 x) → (∀ k, k < q_nb (S r) → M' 2 (C r k) = 0) → q_P N M' (q_u S r 0) C E → post (nI (q_nb (S r))) M') : w_X7_release post M (nI r) := by
  refine ⟨vp_in_nI hr (by omega), ?_⟩
  intro x3 e3
  refine ⟨q_nb (S r) + 1, ?_⟩
  have g2 : ∀ x, (∀ k, k < q_nb (S r) → x ≠ C r k) → z_up (q_zr M C r (q_nb (S r))) 9 r 0 2 x = M 2 x := fun x hx => by
    show q_zr M C r (q_nb (S r)) 2 x = M 2 x
    exact if_neg (fun q => by obtain ⟨-, j, hj, e⟩ := q; exact hx j hj e)
  have g2z : ∀ k, k < q_nb (S r) → z_up (q_zr M C r (q_nb (S r))) 9 r 0 2 (C r k) = 0 := fun k hk => by
    show q_zr M C r (q_nb (S r)) 2 (C r k) = 0
    exact if_pos ⟨rfl, k, hk, rfl⟩
  have hP2 : q_P N (z_up (q_zr M C r (q_nb (S r))) 9 r 0) (q_u S r 0) C E := by
    refine q_free_P hP hr g2 g2z (fun x => ?_) ?_ ?_ ?_ ?_
    · rw [z_up_e, q_zr_f M C r _ (by omega)]; simp
    · funext x; rw [z_up_e, q_zr_f M C r _ (by omega)]; simp
    · funext x; rw [z_up_e, q_zr_f M C r _ (by omega)]; simp
    · funext x; rw [z_up_e, q_zr_f M C r _ (by omega)]; simp
    · funext x; rw [z_up_e, q_zr_f M C r _ (by omega)]; simp
  have := q_release_l (post := post) hP hN hr (kk _ (fun f f2 f9 => by funext x; rw [z_up_e, q_zr_f M C r _ f2]; simp [f9]) g2 g2z hP2) (q_nb (S r)) 0 (by omega) x3 (fun hl => by
    rw [e3, q_c (n := r) (by omega)]
    exact hP.2.1 r hr (by unfold q_nb at hl; omega))
  rw [q_zr_0] at this
  exact this
