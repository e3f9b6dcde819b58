/-! the bank's start -/
def q_fx (P : Nat → Prop) (u v : z_St) : Prop := ∀ x, z_kd x u ≠ 0 → z_kd x v = z_kd x u ∧ z_ln x v = z_ln x u ∧ (¬ P x → (∀ f, z_gI f x v = z_gI f x u ∧ z_gR f x v = z_gR f x u) ∧ ∀ j, z_aI x j v = z_aI x j u ∧ z_aR x j v = z_aR x j u)
theorem q_fx.rf (P : Nat → Prop) (u : z_St) : q_fx P u u := fun _ _ => ⟨rfl, rfl, fun _ => ⟨fun _ => ⟨rfl, rfl⟩, fun _ => ⟨rfl, rfl⟩⟩⟩
theorem q_fx.tr {P : Nat → Prop} {u v w : z_St} (h : q_fx P u v) (h2 : q_fx P v w) : q_fx P u w := fun x hx => by
  obtain ⟨a1, a2, a3⟩ := h x hx
  obtain ⟨b1, b2, b3⟩ := h2 x (by rw [a1]; exact hx)
  refine ⟨b1.trans a1, b2.trans a2, fun hp => ?_⟩
  obtain ⟨c1, c2⟩ := a3 hp
  obtain ⟨d1, d2⟩ := b3 hp
  exact ⟨fun f => ⟨(d1 f).1.trans (c1 f).1, (d1 f).2.trans (c1 f).2⟩, fun j => ⟨(d2 j).1.trans (c2 j).1, (d2 j).2.trans (c2 j).2⟩⟩
theorem q_fx.nz {P : Nat → Prop} {u v : z_St} (h : q_fx P u v) {x : Nat} (hx : z_kd x u ≠ 0) : z_kd x v ≠ 0 := by rw [(h x hx).1]; exact hx
section OT
variable {t0 mi : Nat} {u0 : z_St}
def q_iBI (i : Nat) (X Y Z : Nat → Nat) (B : Nat) (u0 u : z_St) : Prop :=
  q_fx (fun x => x = B) u0 u ∧ (∀ j, j < i → z_kd (X j) u = 2 ∧ z_kd (Y j) u = 10 ∧ z_ln (Y j) u = 4 ∧ z_kd (Z j) u = 10 ∧ z_ln (Z j) u = 32 ∧ z_gR 0 (X j) u = some (Y j) ∧ z_gR 1 (X j) u = some (Z j) ∧ z_gR 3 (X j) u = none ∧ z_gI 2 (X j) u = 0 ∧ z_aR B j u = some (X j)) ∧
  (∀ j j', j < i → j' < i → (X j = X j' → j = j') ∧ (Y j = Y j' → j = j') ∧ (Z j = Z j' → j = j'))
theorem q_iB {post : z_St → Prop} {B s : Nat} (hB : z_kd B u0 = 11) (hl : z_ln B u0 = 40) (hs : z_kd s u0 ≠ 0) (hsB : s ≠ B) (h26 : z_gR 26 s u0 = some B) (kk : ∀ v X Y Z, q_iBI 40 X Y Z B u0 v → post v) : ∃ n0, n0 ≤ 41 ∧ w_X5_init_15 post t0 mi s n0 u0 0 := by
  have key : ∀ d i u X Y Z, i + d = 40 → q_iBI i X Y Z B u0 u → w_X5_init_15 post t0 mi s (d + 1) u (nI i) := by
    intro d
    induction d with
    | zero =>
      intro i u X Y Z hi hI
      have : i = 40 := by omega
      subst this
      exact ⟨fun _ => kk u X Y Z hI, fun q => absurd (by decide) q⟩
    | succ d ih =>
      intro i u X Y Z hi hI
      obtain ⟨hF, hJ, hN⟩ := hI
      have hBn : z_kd B u0 ≠ 0 := by rw [hB]; decide
      refine ⟨fun q => absurd q (nI_ge (a := i) (b := 40) (by omega) (by omega)), fun _ => ?_⟩
      intro b hb a1 ha1 a2 ha2
      have k1 : z_kd a1 (z_nO 2 b u) = if a1 = b then 2 else z_kd a1 u := by simp [z_kd, z_nO, va_up]
      have n1 : a1 ≠ b ∧ z_kd a1 u = 0 := by
        rw [k1] at ha1
        by_cases q : a1 = b
        · rw [if_pos q] at ha1; omega
        · rw [if_neg q] at ha1; exact ⟨q, ha1⟩
      have k2 : z_kd a2 (z_pR 0 b (some a1) (z_nA 10 a1 4 (z_nO 2 b u))) = if a2 = a1 then 10 else if a2 = b then 2 else z_kd a2 u := by simp [z_kd, z_nO, z_nA, z_pR, va_up]
      have n2 : a2 ≠ a1 ∧ a2 ≠ b ∧ z_kd a2 u = 0 := by
        rw [k2] at ha2
        by_cases q : a2 = a1
        · rw [if_pos q] at ha2; omega
        · rw [if_neg q] at ha2
          by_cases q2 : a2 = b
          · rw [if_pos q2] at ha2; omega
          · rw [if_neg q2] at ha2; exact ⟨q, q2, ha2⟩
      have per : ∀ x, z_kd x u ≠ 0 → x ≠ b ∧ x ≠ a1 ∧ x ≠ a2 := fun x hx => ⟨fun e => hx (by rw [e]; exact hb), fun e => hx (by rw [e]; exact n1.2), fun e => hx (by rw [e]; exact n2.2.2)⟩
      have e26 : z_gR 26 s u = some B := by rw [(((hF s hs).2.2 hsB).1 26).2]; exact h26
      obtain ⟨pb, pa1, pa2⟩ := per B (hF.nz hBn)
      refine ⟨B, e26, ?_, ?_, ?_⟩
      · simp [z_kd, z_nO, z_nA, z_pR, z_pI, va_up, pb, pa1, pa2]
        exact ((hF B hBn).1).trans hB
      · have : z_ln B (z_pR 3 b none (z_pI 2 b 0 (z_pR 1 b (some a2) (z_nA 10 a2 32 (z_pR 0 b (some a1) (z_nA 10 a1 4 (z_nO 2 b u))))))) = z_ln B u := by simp [z_ln, z_nO, z_nA, z_pR, z_pI, va_up, pa1, pa2]
        rw [this, (hF B hBn).2.1, hl]
        exact vp_in_nI (n := i) (N := 40) (by omega) (by omega)
      · rw [q_c (n := i) (by omega), nI_1]
        generalize hv : z_sR B i (some b) (z_pR 3 b none (z_pI 2 b 0 (z_pR 1 b (some a2) (z_nA 10 a2 32 (z_pR 0 b (some a1) (z_nA 10 a1 4 (z_nO 2 b u))))))) = v
        have old : ∀ x, z_kd x u ≠ 0 → z_kd x v = z_kd x u ∧ z_ln x v = z_ln x u ∧ (∀ f, z_gI f x v = z_gI f x u ∧ z_gR f x v = z_gR f x u) ∧ (∀ j, z_aI x j v = z_aI x j u ∧ ((x ≠ B ∨ j ≠ i) → z_aR x j v = z_aR x j u)) := fun x hx => by
          obtain ⟨x1, x2, x3⟩ := per x hx
          rw [← hv]
          refine ⟨?_, ?_, fun f => ⟨?_, ?_⟩, fun j => ⟨?_, fun hh => ?_⟩⟩
          · simp [z_kd, z_sR, z_nO, z_nA, z_pR, z_pI, va_up, x1, x2, x3]
          · simp [z_ln, z_sR, z_nO, z_nA, z_pR, z_pI, va_up, x2, x3]
          · simp [z_gI, z_sR, z_nO, z_nA, z_pR, z_pI, z_up, x1]
          · simp [z_gR, z_sR, z_nO, z_nA, z_pR, z_pI, z_up, x1]
          · simp [z_aI, z_sR, z_nO, z_nA, z_pR, z_pI, x2, x3]
          · rcases hh with w | w <;> simp [z_aR, z_sR, z_nO, z_nA, z_pR, z_pI, z_up, x2, x3, w]
        have nb : b ≠ a1 := fun e => n1.1 e.symm
        have nb2 : b ≠ a2 := fun e => n2.2.1 e.symm
        have n12 : a1 ≠ a2 := fun e => n2.1 e.symm
        refine ih (i + 1) v (fun j => if j = i then b else X j) (fun j => if j = i then a1 else Y j) (fun j => if j = i then a2 else Z j) (by omega) ⟨?_, fun j hj => ?_, fun j j' hj hj' => ?_⟩
        · refine hF.tr (fun x hx => ?_)
          obtain ⟨c1, c2, c3, c4⟩ := old x hx
          exact ⟨c1, c2, fun hp => ⟨c3, fun j => ⟨(c4 j).1, (c4 j).2 (Or.inl hp)⟩⟩⟩
        · dsimp only
          by_cases q : j = i
          · rw [if_pos q, if_pos q, if_pos q, q, ← hv]
            refine ⟨?_, ?_, ?_, ?_, ?_, ?_, ?_, ?_, ?_, ?_⟩
            · simp [z_kd, z_sR, z_nO, z_nA, z_pR, z_pI, va_up, nb, nb2]
            · simp [z_kd, z_sR, z_nO, z_nA, z_pR, z_pI, va_up, n12]
            · simp [z_ln, z_sR, z_nO, z_nA, z_pR, z_pI, va_up, n12]
            · simp [z_kd, z_sR, z_nO, z_nA, z_pR, z_pI, va_up]
            · simp [z_ln, z_sR, z_nO, z_nA, z_pR, z_pI, va_up]
            · simp [z_gR, z_sR, z_nO, z_nA, z_pR, z_pI, z_up]
            · simp [z_gR, z_sR, z_nO, z_nA, z_pR, z_pI, z_up]
            · simp [z_gR, z_sR, z_nO, z_nA, z_pR, z_pI, z_up]
            · simp [z_gI, z_sR, z_nO, z_nA, z_pR, z_pI, z_up]
            · simp [z_aR, z_sR, z_up]
          · rw [if_neg q, if_neg q, if_neg q]
            obtain ⟨d1, d2, d3, d4, d5, d6, d7, d8, d9, d10⟩ := hJ j (by omega)
            obtain ⟨x1, x2, x3, x4⟩ := old (X j) (by rw [d1]; decide)
            obtain ⟨y1, y2, -⟩ := old (Y j) (by rw [d2]; decide)
            obtain ⟨w1, w2, -⟩ := old (Z j) (by rw [d4]; decide)
            exact ⟨x1.trans d1, y1.trans d2, y2.trans d3, w1.trans d4, w2.trans d5, (x3 0).2.trans d6, (x3 1).2.trans d7, (x3 3).2.trans d8, (x3 2).1.trans d9, (((old B (hF.nz hBn)).2.2.2 j).2 (Or.inr q)).trans d10⟩
        · dsimp only
          have fr : ∀ j, j < i → X j ≠ b ∧ Y j ≠ a1 ∧ Z j ≠ a2 := fun j hj => by
            obtain ⟨d1, d2, d3, d4, -⟩ := hJ j hj
            exact ⟨(per _ (by rw [d1]; decide)).1, (per _ (by rw [d2]; decide)).2.1, (per _ (by rw [d4]; decide)).2.2⟩
          by_cases q : j = i <;> by_cases q' : j' = i
          · exact ⟨fun _ => by omega, fun _ => by omega, fun _ => by omega⟩
          · rw [if_pos q, if_neg q', if_pos q, if_neg q', if_pos q, if_neg q']
            obtain ⟨f1, f2, f3⟩ := fr j' (by omega)
            exact ⟨fun e => absurd e.symm f1, fun e => absurd e.symm f2, fun e => absurd e.symm f3⟩
          · rw [if_neg q, if_pos q', if_neg q, if_pos q', if_neg q, if_pos q']
            obtain ⟨f1, f2, f3⟩ := fr j (by omega)
            exact ⟨fun e => absurd e f1, fun e => absurd e f2, fun e => absurd e f3⟩
          · rw [if_neg q, if_neg q', if_neg q, if_neg q', if_neg q, if_neg q']
            exact hN j j' (by omega) (by omega)
  have := key 40 0 u0 (fun _ => 0) (fun _ => 0) (fun _ => 0) (by omega) ⟨q_fx.rf _ _, fun j hj => by omega, fun j j' hj => by omega⟩
  exact ⟨41, Nat.le_refl _, this⟩
/-- boxes and lines: X j in the row, Y j in its first field -/
def q_iXI (κ n fR i : Nat) (κ2 : Nat) (X Y : Nat → Nat) (B : Nat) (u0 u : z_St) : Prop :=
  q_fx (fun x => x = B) u0 u ∧ (∀ j, j < i → z_kd (X j) u = κ ∧ z_kd (Y j) u = κ2 ∧ z_ln (Y j) u = n ∧ z_gR fR (X j) u = some (Y j) ∧ (∀ w, z_aR (Y j) w u = none) ∧ z_gI 8 (X j) u = 0 ∧ z_aR B j u = some (X j)) ∧
  (∀ j j', j < i → j' < i → (X j = X j' → j = j') ∧ (Y j = Y j' → j = j'))
/-- one more of them -/
theorem q_iXI.s {κ n fR i κ2 b a B : Nat} {X Y : Nat → Nat} {u v : z_St} (h : q_iXI κ n fR i κ2 X Y B u0 u) (hκ : κ ≠ 0) (hκ2 : κ2 ≠ 0) (hB : z_kd B u0 ≠ 0) (hb : z_kd b u = 0) (ha : z_kd a u = 0)
    (old : ∀ x, z_kd x u ≠ 0 → z_kd x v = z_kd x u ∧ z_ln x v = z_ln x u ∧ (∀ f, z_gI f x v = z_gI f x u ∧ z_gR f x v = z_gR f x u) ∧ (∀ j, z_aI x j v = z_aI x j u ∧ ((x ≠ B ∨ j ≠ i) → z_aR x j v = z_aR x j u)))
    (new : z_kd b v = κ ∧ z_kd a v = κ2 ∧ z_ln a v = n ∧ z_gR fR b v = some a ∧ (∀ w, z_aR a w v = none) ∧ z_gI 8 b v = 0 ∧ z_aR B i v = some b) : q_iXI κ n fR (i + 1) κ2 (fun j => if j = i then b else X j) (fun j => if j = i then a else Y j) B u0 v := by
  obtain ⟨hF, hJ, hN⟩ := h
  refine ⟨?_, fun j hj => ?_, fun j j' hj hj' => ?_⟩
  · refine hF.tr (fun x hx => ?_)
    obtain ⟨c1, c2, c3, c4⟩ := old x hx
    exact ⟨c1, c2, fun hp => ⟨c3, fun j => ⟨(c4 j).1, (c4 j).2 (Or.inl hp)⟩⟩⟩
  · dsimp only
    by_cases q : j = i
    · rw [if_pos q, if_pos q, q]; exact new
    · rw [if_neg q, if_neg q]
      obtain ⟨d1, d2, d3, d4, d5, d6, d7⟩ := hJ j (by omega)
      obtain ⟨x1, x2, x3, x4⟩ := old (X j) (by rw [d1]; exact hκ)
      obtain ⟨y1, y2, y3, y4⟩ := old (Y j) (by rw [d2]; exact hκ2)
      refine ⟨x1.trans d1, y1.trans d2, y2.trans d3, (x3 fR).2.trans d4, fun w => ?_, (x3 8).1.trans d6, (((old B (hF.nz hB)).2.2.2 j).2 (Or.inr q)).trans d7⟩
      by_cases z : Y j = B ∧ w = i
      · have e := ((old B (hF.nz hB)).2.2.2 j).2 (Or.inr q)
        have := d5 j
        rw [z.1, d7] at this
        cases this
      · exact ((y4 w).2 (by
          by_cases z1 : Y j = B
          · exact Or.inr (fun z2 => z ⟨z1, z2⟩)
          · exact Or.inl z1)).trans (d5 w)
  · dsimp only
    have fr : ∀ j, j < i → X j ≠ b ∧ Y j ≠ a := fun j hj => by
      obtain ⟨d1, d2, -⟩ := hJ j hj
      exact ⟨fun e => hκ (by rw [← d1, e]; exact hb), fun e => hκ2 (by rw [← d2, e]; exact ha)⟩
    by_cases q : j = i <;> by_cases q' : j' = i
    · exact ⟨fun _ => by omega, fun _ => by omega⟩
    · rw [if_pos q, if_neg q', if_pos q, if_neg q']
      obtain ⟨f1, f2⟩ := fr j' (by omega)
      exact ⟨fun e => absurd e.symm f1, fun e => absurd e.symm f2⟩
    · rw [if_neg q, if_pos q', if_neg q, if_pos q']
      obtain ⟨f1, f2⟩ := fr j (by omega)
      exact ⟨fun e => absurd e f1, fun e => absurd e f2⟩
    · rw [if_neg q, if_neg q', if_neg q, if_neg q']
      exact hN j j' (by omega) (by omega)
theorem q_iL {post : z_St → Prop} {B s : Nat} (hB : z_kd B u0 = 13) (hl : z_ln B u0 = 3) (hs : z_kd s u0 ≠ 0) (hsB : s ≠ B) (h30 : z_gR 30 s u0 = some B) (kk : ∀ v X Y, q_iXI 4 8 6 3 10 X Y B u0 v → post v) : ∃ n0, n0 ≤ 4 ∧ w_X6_init_143 post t0 mi s n0 u0 0 := by
  have key : ∀ d i u X Y, i + d = 3 → q_iXI 4 8 6 i 10 X Y B u0 u → w_X6_init_143 post t0 mi s (d + 1) u (nI i) := by
    intro d
    induction d with
    | zero =>
      intro i u X Y hi hI
      have : i = 3 := by omega
      subst this
      exact ⟨fun _ => kk u X Y hI, fun q => absurd (by decide) q⟩
    | succ d ih =>
      intro i u X Y hi hI
      have hI' := hI
      obtain ⟨hF, hJ, hN⟩ := hI
      have hBn : z_kd B u0 ≠ 0 := by rw [hB]; decide
      refine ⟨fun q => absurd q (nI_ge (a := i) (b := 3) (by omega) (by omega)), fun _ => ?_⟩
      intro b hb a1 ha1 a2 ha2
      have k1 : z_kd a1 (z_nO 4 b u) = if a1 = b then 4 else z_kd a1 u := by simp [z_kd, z_nO, va_up]
      have n1 : a1 ≠ b ∧ z_kd a1 u = 0 := by
        rw [k1] at ha1
        by_cases q : a1 = b
        · rw [if_pos q] at ha1; omega
        · rw [if_neg q] at ha1; exact ⟨q, ha1⟩
      have k2 : z_kd a2 (z_pI 11 b 0 (z_pI 10 b 0 (z_pI 9 b 0 (z_pI 8 b 0 (z_pI 7 b 0 (z_pR 6 b (some a1) (z_nA 10 a1 8 (z_nO 4 b u)))))))) = if a2 = a1 then 10 else if a2 = b then 4 else z_kd a2 u := by simp [z_kd, z_nO, z_nA, z_pR, z_pI, va_up]
      have n2 : a2 ≠ a1 ∧ a2 ≠ b ∧ z_kd a2 u = 0 := by
        rw [k2] at ha2
        by_cases q : a2 = a1
        · rw [if_pos q] at ha2; omega
        · rw [if_neg q] at ha2
          by_cases q2 : a2 = b
          · rw [if_pos q2] at ha2; omega
          · rw [if_neg q2] at ha2; exact ⟨q, q2, ha2⟩
      have per : ∀ x, z_kd x u ≠ 0 → x ≠ b ∧ x ≠ a1 ∧ x ≠ a2 := fun x hx => ⟨fun e => hx (by rw [e]; exact hb), fun e => hx (by rw [e]; exact n1.2), fun e => hx (by rw [e]; exact n2.2.2)⟩
      have e30 : z_gR 30 s u = some B := by rw [(((hF s hs).2.2 hsB).1 30).2]; exact h30
      obtain ⟨pb, pa1, pa2⟩ := per B (hF.nz hBn)
      have nb : b ≠ a1 := fun e => n1.1 e.symm
      have nb2 : b ≠ a2 := fun e => n2.2.1 e.symm
      have n12 : a1 ≠ a2 := fun e => n2.1 e.symm
      refine ⟨B, e30, ?_, ?_, ?_⟩
      · simp [z_kd, z_nO, z_nA, z_pR, z_pI, va_up, pb, pa1, pa2]
        exact ((hF B hBn).1).trans hB
      · refine (vp_in_nI (n := i) (N := 3) (by omega) (by omega) : vp_in (nI i) 3) |> fun h => ?_
        have e : z_ln B u = 3 := ((hF B hBn).2.1).trans hl
        rw [← e] at h
        simpa [z_ln, z_nO, z_nA, z_pR, z_pI, va_up, pa1, pa2] using h
      · rw [q_c (n := i) (by omega), nI_1]
        generalize hv : z_sR B i (some b) _ = v
        refine ih (i + 1) v _ _ (by omega) (hI'.s (b := b) (a := a1) (v := v) (by decide) (by decide) hBn hb n1.2 (fun x hx => ?_) ?_)
        · obtain ⟨x1, x2, x3⟩ := per x hx
          rw [← hv]
          refine ⟨?_, ?_, fun f => ⟨?_, ?_⟩, fun j => ⟨?_, fun hh => ?_⟩⟩
          · simp [z_kd, z_sR, z_nO, z_nA, z_pR, z_pI, va_up, x1, x2, x3]
          · simp [z_ln, z_sR, z_nO, z_nA, z_pR, z_pI, va_up, x2]
          · simp [z_gI, z_sR, z_nO, z_nA, z_pR, z_pI, z_up, x1, x3]
          · simp [z_gR, z_sR, z_nO, z_nA, z_pR, z_pI, z_up, x1, x3]
          · simp [z_aI, z_sR, z_nO, z_nA, z_pR, z_pI, x2]
          · rcases hh with w | w <;> simp [z_aR, z_sR, z_nO, z_nA, z_pR, z_pI, z_up, x2, w]
        · rw [← hv]
          have pa1' : a1 ≠ B := fun e => pa1 e.symm
          refine ⟨?_, ?_, ?_, ?_, fun w => ?_, ?_, ?_⟩
          · simp [z_kd, z_sR, z_nO, z_nA, z_pR, z_pI, va_up, nb, nb2]
          · simp [z_kd, z_sR, z_nO, z_nA, z_pR, z_pI, va_up, n12]
          · simp [z_ln, z_sR, z_nO, z_nA, z_pR, z_pI, va_up]
          · simp [z_gR, z_sR, z_nO, z_nA, z_pR, z_pI, z_up, nb2]
          · simp [z_aR, z_sR, z_nO, z_nA, z_pR, z_pI, z_up, pa1']
          · simp [z_gI, z_sR, z_nO, z_nA, z_pR, z_pI, z_up, nb2]
          · simp [z_aR, z_sR, z_up]
  have := key 3 0 u0 (fun _ => 0) (fun _ => 0) (by omega) ⟨q_fx.rf _ _, fun j hj => by omega, fun j j' hj => by omega⟩
  exact ⟨4, Nat.le_refl _, this⟩
theorem q_iX {post : z_St → Prop} {B s : Nat} (hB : z_kd B u0 = 12) (hl : z_ln B u0 = 4) (hs : z_kd s u0 ≠ 0) (hsB : s ≠ B) (h29 : z_gR 29 s u0 = some B) (kk : ∀ v X Y, q_iXI 3 3 4 4 14 X Y B u0 v → ∃ n0, n0 ≤ 4 ∧ w_X6_init_143 post t0 mi s n0 v 0) : ∃ n0, n0 ≤ 5 ∧ w_X6_init_117 post t0 mi s n0 u0 0 := by
  have key : ∀ d i u X Y, i + d = 4 → q_iXI 3 3 4 i 14 X Y B u0 u → w_X6_init_117 post t0 mi s (d + 1) u (nI i) := by
    intro d
    induction d with
    | zero =>
      intro i u X Y hi hI
      have : i = 4 := by omega
      subst this
      exact ⟨fun _ => kk u X Y hI, fun q => absurd (by decide) q⟩
    | succ d ih =>
      intro i u X Y hi hI
      have hI' := hI
      obtain ⟨hF, hJ, hN⟩ := hI
      have hBn : z_kd B u0 ≠ 0 := by rw [hB]; decide
      refine ⟨fun q => absurd q (nI_ge (a := i) (b := 4) (by omega) (by omega)), fun _ => ?_⟩
      intro b hb a1 ha1
      have k1 : z_kd a1 (z_nO 3 b u) = if a1 = b then 3 else z_kd a1 u := by simp [z_kd, z_nO, va_up]
      have n1 : a1 ≠ b ∧ z_kd a1 u = 0 := by
        rw [k1] at ha1
        by_cases q : a1 = b
        · rw [if_pos q] at ha1; omega
        · rw [if_neg q] at ha1; exact ⟨q, ha1⟩
      have per : ∀ x, z_kd x u ≠ 0 → x ≠ b ∧ x ≠ a1 := fun x hx => ⟨fun e => hx (by rw [e]; exact hb), fun e => hx (by rw [e]; exact n1.2)⟩
      have e29 : z_gR 29 s u = some B := by rw [(((hF s hs).2.2 hsB).1 29).2]; exact h29
      obtain ⟨pb, pa1⟩ := per B (hF.nz hBn)
      have nb : b ≠ a1 := fun e => n1.1 e.symm
      refine ⟨B, e29, ?_, ?_, ?_⟩
      · simp [z_kd, z_nO, z_nA, z_pR, z_pI, va_up, pb, pa1]
        exact ((hF B hBn).1).trans hB
      · refine (vp_in_nI (n := i) (N := 4) (by omega) (by omega) : vp_in (nI i) 4) |> fun h => ?_
        have e : z_ln B u = 4 := ((hF B hBn).2.1).trans hl
        rw [← e] at h
        simpa [z_ln, z_nO, z_nA, z_pR, z_pI, va_up, pa1] using h
      · rw [q_c (n := i) (by omega), nI_1]
        generalize hv : z_sR B i (some b) _ = v
        refine ih (i + 1) v _ _ (by omega) (hI'.s (b := b) (a := a1) (v := v) (by decide) (by decide) hBn hb n1.2 (fun x hx => ?_) ?_)
        · obtain ⟨x1, x2⟩ := per x hx
          rw [← hv]
          refine ⟨?_, ?_, fun f => ⟨?_, ?_⟩, fun j => ⟨?_, fun hh => ?_⟩⟩
          · simp [z_kd, z_sR, z_nO, z_nA, z_pR, z_pI, va_up, x1, x2]
          · simp [z_ln, z_sR, z_nO, z_nA, z_pR, z_pI, va_up, x2]
          · simp [z_gI, z_sR, z_nO, z_nA, z_pR, z_pI, z_up, x1]
          · simp [z_gR, z_sR, z_nO, z_nA, z_pR, z_pI, z_up, x1]
          · simp [z_aI, z_sR, z_nO, z_nA, z_pR, z_pI, x2]
          · rcases hh with w | w <;> simp [z_aR, z_sR, z_nO, z_nA, z_pR, z_pI, z_up, x2, w]
        · rw [← hv]
          have pa1' : a1 ≠ B := fun e => pa1 e.symm
          refine ⟨?_, ?_, ?_, ?_, fun w => ?_, ?_, ?_⟩
          · simp [z_kd, z_sR, z_nO, z_nA, z_pR, z_pI, va_up, nb]
          · simp [z_kd, z_sR, z_nO, z_nA, z_pR, z_pI, va_up]
          · simp [z_ln, z_sR, z_nO, z_nA, z_pR, z_pI, va_up]
          · simp [z_gR, z_sR, z_nO, z_nA, z_pR, z_pI, z_up]
          · simp [z_aR, z_sR, z_nO, z_nA, z_pR, z_pI, z_up, pa1']
          · simp [z_gI, z_sR, z_nO, z_nA, z_pR, z_pI, z_up]
          · simp [z_aR, z_sR, z_up]
  have := key 4 0 u0 (fun _ => 0) (fun _ => 0) (by omega) ⟨q_fx.rf _ _, fun j hj => by omega, fun j j' hj => by omega⟩
  exact ⟨5, Nat.le_refl _, this⟩
theorem q_iS {post : z_St → Prop} {B s : Nat} (hB : z_kd B u0 = 10) (hl : z_ln B u0 = 49) (h27 : z_gR 27 s u0 = some B) (h16 : z_aI B 0 u0 = 16) (kk : ∀ v, q_fx (fun x => x = B) u0 v → (∀ x, z_kd x v = z_kd x u0) → (∀ f x, z_gI f x v = z_gI f x u0 ∧ z_gR f x v = z_gR f x u0) → (∀ j, j < 49 → z_aI B j v = z_stp j) → ∃ n0, n0 ≤ 5 ∧ w_X6_init_117 post t0 mi s n0 v 0) : ∃ n0, w_X6_init_75 post t0 mi s n0 u0 1 := by
  have key : ∀ d i u, i + d = 49 → 1 ≤ i → q_fx (fun x => x = B) u0 u → (∀ x, z_kd x u = z_kd x u0) → (∀ x, z_ln x u = z_ln x u0) → (∀ f x, z_gI f x u = z_gI f x u0 ∧ z_gR f x u = z_gR f x u0) → (∀ j, j < i → z_aI B j u = z_stp j) → w_X6_init_75 post t0 mi s (d + 1) u (nI i) := by
    intro d
    induction d with
    | zero =>
      intro i u hi h1 hF hk hln hg hj
      have : i = 49 := by omega
      subst this
      exact ⟨fun _ => kk u hF hk hg hj, fun q => absurd (by decide) q⟩
    | succ d ih =>
      intro i u hi h1 hF hk hln hg hj
      have e1 : nI i - 1 = nI (i - 1) := pk_sub (b := 1) h1
      refine ⟨fun q => absurd q (nI_ge (a := i) (b := 49) (by omega) (by omega)), fun _ => ⟨B, (hg 27 s).2.trans h27, (hk B).trans hB, ?_⟩⟩
      rw [e1, hln, hl, q_c (n := i - 1) (by omega), q_c (n := i) (by omega), hj (i - 1) (by omega), nI_1]
      have es := z_stp_s (i - 1) (by omega)
      have ei : i - 1 + 1 = i := by omega
      rw [ei] at es
      rw [← es]
      refine ⟨vp_in_nI (by omega) (by omega), vp_in_nI (by omega) (by omega), vp_in_nI (by omega) (by omega), ih (i + 1) _ (by omega) (by omega) (hF.tr (fun x hx => ⟨rfl, rfl, fun hp => ⟨fun f => ⟨rfl, rfl⟩, fun j => ⟨?_, rfl⟩⟩⟩)) hk hln hg (fun j hj2 => ?_)⟩
      · simp [z_aI, z_sI, z_up, hp]
      · by_cases q : j = i
        · subst q; simp [z_aI, z_sI, z_up]
        · have := hj j (by omega)
          simpa [z_aI, z_sI, z_up, q] using this
  exact ⟨49, key 48 1 u0 (by omega) (by omega) (q_fx.rf _ _) (fun _ => rfl) (fun _ => rfl) (fun _ _ => ⟨rfl, rfl⟩) (fun j hj => by
    have : j = 0 := by omega
    subst this
    rw [h16, z_stp_0])⟩
end OT
