def q_u {α : Type} (S : Nat → α) (r : Nat) (v : α) : Nat → α := fun x => if x = r then v else S x
theorem q_u_s {α : Type} (S : Nat → α) (r : Nat) (v : α) : q_u S r v r = v := if_pos rfl
theorem q_u_n {α : Type} (S : Nat → α) {r x : Nat} (v : α) (h : x ≠ r) : q_u S r v x = S x := if_neg h
theorem q_append_P {N : Nat} {M M' : z_Md} {S : Nat → Nat} {C C' : Nat → Nat → Nat} {E : Nat → Nat → Int32 × Int32} {r b : Nat} {bits : Int32} (hP : q_P N M S C E) (hN : N ≤ 64) (hr : r < 48) (hS : S r < N) (hb : b < 40)
    (hC : ∀ x k, C' x k = if x = r ∧ k = S r / 4 then b else C x k) (hb1 : S r % 4 ≠ 0 → b = C r (S r / 4)) (hb0 : S r % 4 = 0 → M 2 b = 0)
    (g2 : ∀ x, M' 2 x = if x = b then nI (S r % 4 + 1) else M 2 x) (g9 : ∀ x, M' 9 x = if x = r then nI (S r + 1) else M 9 x)
    (g8 : ∀ x, x ≠ r → M' 8 x = M 8 x) (g8r : M' 8 r = if S r = 0 then nI b else M 8 r)
    (g3 : ∀ x, x ≠ b → (S r % 4 = 0 → 0 < S r → x ≠ C r (S r / 4 - 1)) → M' 3 x = M 3 x) (g3r : S r % 4 = 0 → 0 < S r → M' 3 (C r (S r / 4 - 1)) = nI b)
    (g4 : ∀ x, M' 4 x = if x = 4 * b + S r % 4 then 0 else M 4 x) (g5 : ∀ x, M' 5 x = if x = 4 * b + S r % 4 then bits else M 5 x) :
    q_P N M' (q_u S r (S r + 1)) C' (z_up E r (S r) (0, bits)) := by
  obtain ⟨h1, h2, h3, h4, h5, h6, h7, h8, h9⟩ := hP
  have hSr := (h1 r hr).2
  have hne : ∀ x k, x < 48 → k < q_nb (S x) → ¬ (x = r ∧ k = S r / 4) → C x k ≠ b := by
    intro x k hx hk hn e
    by_cases hm : S r % 4 = 0
    · have e2 := h4 x k hx hk
      rw [e, hb0 hm] at e2
      have hx2 := (h1 x hx).2
      unfold q_nb at hk
      exact nI_ne0 (n := min 4 (S x - 4 * k)) (by omega) (by omega) e2.symm
    · rw [hb1 hm] at e
      exact hn (h8 x k r (S r / 4) hx hk hr (by unfold q_nb; omega) e)
  have hSx : ∀ x, x ≠ r → q_u S r (S r + 1) x = S x := fun x hx => q_u_n S _ hx
  have hSs : q_u S r (S r + 1) r = S r + 1 := q_u_s S r _
  have hCo : ∀ x k, ¬ (x = r ∧ k = S r / 4) → C' x k = C x k := fun x k hn => by rw [hC]; exact if_neg hn
  have hCb : C' r (S r / 4) = b := by rw [hC]; exact if_pos ⟨rfl, rfl⟩
  have hold : ∀ x k, x < 48 → k < q_nb (q_u S r (S r + 1) x) → ¬ (x = r ∧ k = S r / 4) → k < q_nb (S x) := by
    intro x k hx hk hn
    by_cases hxr : x = r
    · subst hxr
      rw [hSs] at hk
      have : k ≠ S x / 4 := fun q => hn ⟨rfl, q⟩
      unfold q_nb at *
      omega
    · rw [hSx x hxr] at hk; exact hk
  refine ⟨?_, ?_, ?_, ?_, ?_, ?_, ?_, ?_, ?_⟩
  · intro x hx
    by_cases hxr : x = r
    · subst hxr; rw [hSs, g9, if_pos rfl]; exact ⟨rfl, hS⟩
    · rw [hSx x hxr, g9, if_neg hxr]; exact h1 x hx
  · intro x hx h0
    by_cases hxr : x = r
    · subst hxr
      rw [g8r]
      by_cases hz : S x = 0
      · rw [if_pos hz]
        have : S x / 4 = 0 := by omega
        rw [this] at hCb
        rw [hCb]
      · rw [if_neg hz, h2 x hx (by omega)]
        by_cases hz4 : S x / 4 = 0
        · have e1 := hb1 (by omega)
          rw [hz4] at e1 hCb
          rw [hCb, e1]
        · rw [hCo x 0 (fun q => hz4 q.2.symm)]
    · rw [hSx x hxr] at h0
      rw [g8 x hxr, hCo x 0 (fun q => hxr q.1), h2 x hx h0]
  · intro x k hx hk
    by_cases hn : x = r ∧ k = S r / 4
    · rw [hn.1, hn.2, hCb]; exact hb
    · rw [hCo x k hn]; exact h3 x k hx (hold x k hx hk hn)
  · intro x k hx hk
    by_cases hn : x = r ∧ k = S r / 4
    · rw [hn.1, hn.2, hCb, hSs, g2, if_pos rfl]
      congr 1
      omega
    · have ho := hold x k hx hk hn
      rw [hCo x k hn, g2, if_neg (hne x k hx ho hn), h4 x k hx ho]
      by_cases hxr : x = r
      · subst hxr
        rw [hSs]
        have : k ≠ S x / 4 := fun q => hn ⟨rfl, q⟩
        rw [hSs] at hk
        unfold q_nb at *
        congr 1
        omega
      · rw [hSx x hxr]
  · intro x k hx hk
    by_cases hxr : x = r
    · subst hxr
      rw [hSs] at hk
      have hk1 : k < S x / 4 := by unfold q_nb at hk; omega
      have hn : ¬ (x = x ∧ k = S x / 4) := fun q => by omega
      have hko : k < q_nb (S x) := by unfold q_nb; omega
      rw [hCo x k hn]
      by_cases hl : S x % 4 = 0 ∧ k + 1 = S x / 4
      · have e1 : k = S x / 4 - 1 := by omega
        rw [hl.2, hCb, e1]
        exact g3r hl.1 (by omega)
      · have hk2 : k + 1 < q_nb (S x) := by unfold q_nb at *; omega
        have e2 : C' x (k + 1) = C x (k + 1) := by
          by_cases hq : k + 1 = S x / 4
          · rw [hq, hCb]; exact hb1 (by omega)
          · exact hCo x (k + 1) (fun q => hq q.2)
        rw [e2, g3 _ (hne x k hx hko hn) (fun hm h0 e => by
          have := (h8 x k x (S x / 4 - 1) hx hko hx (by unfold q_nb; omega) e).2
          omega)]
        exact h5 x k hx hk2
    · rw [hSx x hxr] at hk
      have hko : k < q_nb (S x) := by omega
      rw [hCo x k (fun q => hxr q.1), hCo x (k + 1) (fun q => hxr q.1), g3 _ (hne x k hx hko (fun q => hxr q.1)) (fun hm h0 e => hxr (h8 x k r (S r / 4 - 1) hx hko hr (by unfold q_nb; omega) e).1)]
      exact h5 x k hx hk
  · intro x i hx hi
    by_cases hn : x = r ∧ i = S r
    · obtain ⟨rfl, rfl⟩ := hn
      have : q_at C' x (S x) = 4 * b + S x % 4 := by unfold q_at; rw [hCb]
      rw [this, g4, g5, if_pos rfl, if_pos rfl, z_up_s]
      exact ⟨rfl, rfl⟩
    · have hio : i < S x := by
        by_cases hxr : x = r
        · subst hxr; rw [hSs] at hi; have : i ≠ S x := fun q => hn ⟨rfl, q⟩; omega
        · rw [hSx x hxr] at hi; exact hi
      have hat : q_at C' x i = q_at C x i ∧ q_at C x i ≠ 4 * b + S r % 4 := by
        unfold q_at
        by_cases hq : x = r ∧ i / 4 = S r / 4
        · obtain ⟨rfl, e1⟩ := hq
          have hm : S x % 4 ≠ 0 := by omega
          rw [e1, hCb, ← hb1 hm]
          exact ⟨rfl, by omega⟩
        · rw [hCo x (i / 4) hq]
          have := hne x (i / 4) hx (by unfold q_nb; omega) hq
          exact ⟨rfl, by omega⟩
      have hE : z_up E r (S r) (0, bits) x i = E x i := by rw [z_up_e]; exact if_neg hn
      rw [hat.1, g4, g5, if_neg hat.2, if_neg hat.2, hE]
      exact h6 x i hx hio
  · intro x i hx hi
    by_cases hn : x = r ∧ i = S r
    · rw [z_up_e, if_pos hn]; exact ⟨0, by omega, rfl⟩
    · rw [z_up_e, if_neg hn]
      have hio : i < S x := by
        by_cases hxr : x = r
        · subst hxr; rw [hSs] at hi; have : i ≠ S x := fun q => hn ⟨rfl, q⟩; omega
        · rw [hSx x hxr] at hi; exact hi
      exact h7 x i hx hio
  · intro x k x' k' hx hk hx' hk' e
    by_cases hn : x = r ∧ k = S r / 4
    · by_cases hn' : x' = r ∧ k' = S r / 4
      · exact ⟨hn.1.trans hn'.1.symm, hn.2.trans hn'.2.symm⟩
      · rw [hn.1, hn.2, hCb, hCo x' k' hn'] at e
        exact absurd e.symm (hne x' k' hx' (hold x' k' hx' hk' hn') hn')
    · by_cases hn' : x' = r ∧ k' = S r / 4
      · rw [hn'.1, hn'.2, hCb, hCo x k hn] at e
        exact absurd e (hne x k hx (hold x k hx hk hn) hn)
      · rw [hCo x k hn, hCo x' k' hn'] at e
        exact h8 x k x' k' hx (hold x k hx hk hn) hx' (hold x' k' hx' hk' hn') e
  · intro b' hb' hf
    have hbb : b' ≠ b := fun q => hf r (S r / 4) hr (by rw [hSs]; unfold q_nb; omega) (by rw [hCb, q])
    rw [g2, if_neg hbb]
    refine h9 b' hb' (fun x k hx hk e => ?_)
    by_cases hn : x = r ∧ k = S r / 4
    · obtain ⟨rfl, rfl⟩ := hn
      have hm : S x % 4 ≠ 0 := by unfold q_nb at hk; omega
      exact hbb (e.symm.trans (hb1 hm).symm)
    · have hk2 : k < q_nb (q_u S r (S r + 1) x) := by
        by_cases hxr : x = r
        · subst hxr; rw [hSs]; unfold q_nb at *; omega
        · rw [hSx x hxr]; exact hk
      exact hf x k hx hk2 (by rw [hCo x k hn]; exact e)
theorem q_append {post : z_Md → Prop} {N : Nat} {M : z_Md} {S : Nat → Nat} {C : Nat → Nat → Nat} {E : Nat → Nat → Int32 × Int32} {r fb : Nat} {bits : Int32} (hP : q_P N M S C E) (hN : N ≤ 64) (hr : r < 48) (hS : S r < N) (hfb : S r % 4 = 0 → fb < 40 ∧ M 2 fb = 0 ∧ q_first (q_fr M) 40 = nI fb)
    (kk : ∀ (M' : z_Md) (b : Nat), b < 40 → (S r % 4 = 0 → b = fb) → (S r % 4 ≠ 0 → b = C r (S r / 4)) → (∀ f, f ≠ 2 → f ≠ 3 → f ≠ 4 → f ≠ 5 → f ≠ 8 → f ≠ 9 → M' f = M f) → (∀ x, M' 2 x = if x = b then nI (S r % 4 + 1) else M 2 x) → q_P N M' (q_u S r (S r + 1)) (z_up C r (S r / 4) b) (z_up E r (S r) (0, bits)) → post M') : w_X7_append post M (nI r) bits := by
  have hP0 := hP
  obtain ⟨h1, h2, h3, h4, h5, h6, h7, h8, h9⟩ := hP
  have hSr := (h1 r hr)
  refine ⟨vp_in_nI hr (by omega), ?_⟩
  intro n en
  rw [q_c (by omega), hSr.1] at en
  rw [en, q_rem4 (by omega)]
  refine ⟨fun hm => ?_, fun hm => ?_⟩
  · -- the last block has room
    have hm' : S r % 4 ≠ 0 := fun q => hm (by rw [q]; rfl)
    have hb : C r (S r / 4) < 40 := h3 r _ hr (by unfold q_nb; omega)
    have hsub : nI (S r) - 1 = nI (S r - 1) := pk_sub (b := 1) (by omega)
    rw [hsub]
    have hd : (S r - 1) / 4 = S r / 4 := by omega
    refine q_entryAt hr (by omega) (C r) (h2 r hr (by omega)) (fun k hk => ⟨h3 r k hr (by unfold q_nb; omega), h5 r k hr (by unfold q_nb; omega)⟩) ?_
    rw [hd, q_div4 (by omega)]
    have hd2 : (4 * C r (S r / 4) + (S r - 1) % 4) / 4 = C r (S r / 4) := by omega
    rw [hd2, q_c (by omega)]
    refine ⟨vp_in_nI hb (by omega), vp_in_nI hb (by omega), ?_⟩
    unfold w_X7_append_89
    rw [q_c (by omega)]
    refine ⟨vp_in_nI hr (by omega), vp_in_nI hr (by omega), ?_⟩
    refine q_entryAt hr (by omega) (C r) (h2 r hr (by omega)) (fun k hk => ⟨h3 r k hr (by unfold q_nb; omega), h5 r k hr (by unfold q_nb; omega)⟩) ?_
    rw [q_c (by omega)]
    refine ⟨vp_in_nI (by omega) (by omega), vp_in_nI (by omega) (by omega), ?_⟩
    have hc2 : M 2 (C r (S r / 4)) = nI (S r % 4) := by
      rw [h4 r _ hr (by unfold q_nb; omega)]
      congr 1; omega
    have hcnt : M 2 (C r (S r / 4)) + 1 = nI (S r % 4 + 1) := by rw [hc2, nI_1]
    have hsz : M 9 r + 1 = nI (S r + 1) := by rw [hSr.1, nI_1]
    refine kk _ (C r (S r / 4)) hb (fun q => absurd q hm') (fun _ => rfl) (fun f f2 f3 f4 f5 f8 f9 => ?_) (fun x => ?_) (q_append_P (b := C r (S r / 4)) (bits := bits) hP0 hN hr hS hb (fun x k => ?_) (fun _ => rfl) (fun q => absurd q hm') (fun x => ?_) (fun x => ?_) (fun x hx => ?_) ?_ (fun x hx _ => ?_) (fun q => absurd q hm') (fun x => ?_) (fun x => ?_))
    · funext j; simp [z_up, f2, f4, f5, f9]
    · simp only [z_up, hcnt]; simp
    · rw [z_up_e]
    · simp only [z_up, hcnt]; simp
    · simp [z_up, hsz]
    · simp [z_up]
    · have : S r ≠ 0 := by omega
      simp [z_up, this]
    · simp [z_up]
    · simp [z_up]
    · simp [z_up]
  · -- a new block
    have hm' : S r % 4 = 0 := by
      apply Decidable.byContradiction
      intro q
      exact nI_ne0 (n := S r % 4) (by omega) (by omega) hm
    obtain ⟨f1, f2, f3⟩ := hfb hm'
    refine q_freeBlock ?_
    rw [f3]
    have hfc : ∀ x k, x < 48 → k < q_nb (S x) → C x k ≠ fb := fun x k hx hk e => by
      have e2 := h4 x k hx hk
      rw [e, f2] at e2
      have hx2 := (h1 x hx).2
      unfold q_nb at hk
      exact nI_ne0 (n := min 4 (S x - 4 * k)) (by omega) (by omega) e2.symm
    refine ⟨vp_in_nI f1 (by omega), fun h0 => ?_, fun h0 => ?_⟩
    · have h0' : 0 < S r := by
        rcases Nat.eq_zero_or_pos (S r) with q | q
        · exact absurd (by rw [q]; rfl) h0
        · exact q
      have hsub : nI (S r) - 1 = nI (S r - 1) := pk_sub (b := 1) (by omega)
      rw [hsub, q_c (by omega)]
      have hb : C r (S r / 4 - 1) < 40 := h3 r _ hr (by unfold q_nb; omega)
      have hd : (S r - 1) / 4 = S r / 4 - 1 := by omega
      refine q_entryAt hr (by omega) (C r) (by simp [z_up]; exact h2 r hr h0') (fun k hk => ⟨h3 r k hr (by unfold q_nb; omega), ?_⟩) ?_
      · have := hfc r k hr (by unfold q_nb; omega)
        simp [z_up, this]
        exact h5 r k hr (by unfold q_nb; omega)
      · rw [hd, q_div4 (by omega)]
        have hd2 : (4 * C r (S r / 4 - 1) + (S r - 1) % 4) / 4 = C r (S r / 4 - 1) := by omega
        rw [hd2, q_c (by omega)]
        refine ⟨vp_in_nI hb (by omega), vp_in_nI f1 (by omega), ?_⟩
        unfold w_X7_append_89
        rw [q_c (n := r) (by omega), q_c (n := fb) (by omega)]
        refine ⟨vp_in_nI hr (by omega), vp_in_nI hr (by omega), ?_⟩
        refine q_entryAt hr (by omega) (fun k => if k = S r / 4 then fb else C r k) (by
          have : ¬ 0 = S r / 4 := by omega
          simp [z_up, this]; exact h2 r hr h0') (fun k hk => ?_) ?_
        · have hk1 : ¬ k = S r / 4 := by omega
          have hnf := hfc r k hr (by unfold q_nb; omega)
          refine ⟨by simp [hk1]; exact h3 r k hr (by unfold q_nb; omega), ?_⟩
          by_cases hk2 : k + 1 = S r / 4
          · have : k = S r / 4 - 1 := by omega
            subst this
            simp [z_up, hk1, hk2]
          · have hkn : C r k ≠ C r (S r / 4 - 1) := fun e => by
              have := (h8 r k r (S r / 4 - 1) hr (by unfold q_nb; omega) hr (by unfold q_nb; omega) e).2
              omega
            simp [z_up, hk1, hk2, hkn, hnf]
            exact h5 r k hr (by unfold q_nb; omega)
        · have e1 : (4 * (fun k => if k = S r / 4 then fb else C r k) (S r / 4) + S r % 4) = 4 * fb + S r % 4 := by simp
          rw [e1, q_c (by omega)]
          refine ⟨vp_in_nI (by omega) (by omega), vp_in_nI (by omega) (by omega), ?_⟩
          have hsz : M 9 r + 1 = nI (S r + 1) := by rw [hSr.1, nI_1]
          have h1m : (1 : Int32) = nI (S r % 4 + 1) := by rw [hm']; rfl
          refine kk _ fb f1 (fun _ => rfl) (fun q => absurd hm' q) (fun f a2 a3 a4 a5 a8 a9 => ?_) (fun x => ?_) (q_append_P (b := fb) (bits := bits) hP0 hN hr hS f1 (fun x k => ?_) (fun q => absurd hm' q) (fun _ => f2) (fun x => ?_) (fun x => ?_) (fun x hx => ?_) ?_ (fun x hx hx2 => ?_) (fun _ _ => ?_) (fun x => ?_) (fun x => ?_))
          · funext j; simp [z_up, a2, a3, a4, a5, a9]
          · simp only [z_up, ← h1m]; simp
          · rw [z_up_e]
          · simp only [z_up, ← h1m]; simp
          · simp [z_up, hsz]
          · simp [z_up]
          · have : S r ≠ 0 := by omega
            simp [z_up, this]
          · simp [z_up, hx, hx2 hm' h0']
          · simp [z_up]
          · simp [z_up]
          · simp [z_up]
    · have h0' : S r = 0 := by
        apply Decidable.byContradiction
        intro q
        exact nI_ne0 (n := S r) (by omega) (by omega) h0
      rw [q_c (n := fb) (by omega), q_c (n := r) (by omega)]
      refine ⟨vp_in_nI hr (by omega), vp_in_nI f1 (by omega), ?_⟩
      unfold w_X7_append_89
      rw [q_c (n := fb) (by omega), q_c (n := r) (by omega), h0']
      refine ⟨vp_in_nI hr (by omega), vp_in_nI hr (by omega), ?_⟩
      refine q_entryAt hr (by omega) (fun _ => fb) (by simp [z_up]) (fun k hk => by omega) ?_
      rw [q_c (by omega)]
      refine ⟨vp_in_nI (by omega) (by omega), vp_in_nI (by omega) (by omega), ?_⟩
      have hsz : M 9 r + 1 = nI (S r + 1) := by rw [hSr.1, nI_1]
      have h1m : (1 : Int32) = nI (S r % 4 + 1) := by rw [hm']; rfl
      refine kk _ fb f1 (fun _ => rfl) (fun q => absurd hm' q) (fun f a2 a3 a4 a5 a8 a9 => ?_) (fun x => ?_) (q_append_P (b := fb) (bits := bits) hP0 hN hr hS f1 (fun x k => ?_) (fun q => absurd hm' q) (fun _ => f2) (fun x => ?_) (fun x => ?_) (fun x hx => ?_) ?_ (fun x hx hx2 => ?_) (fun _ q => absurd q (by omega)) (fun x => ?_) (fun x => ?_))
      · funext j; simp [z_up, a2, a3, a4, a5, a8, a9]
      · simp only [z_up, ← h1m]; simp
      · rw [z_up_e]
      · simp only [z_up, ← h1m]; simp
      · simp [z_up, hsz]
      · simp [z_up, hx]
      · simp [z_up, h0']
      · simp [z_up, hx]
      · simp [z_up, h0']
      · simp [z_up, h0']
