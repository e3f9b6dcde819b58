/-! call: a line begins, with a record that nobody has -/
def q_slot (M : z_Md) (s : Nat) : Int32 := if s < 16 then M 18 s else if s < 32 then M 19 (s - 16) else if s < 44 then M 12 (s - 32) else M 23 (s - 44)
theorem q_room {S : Nat → Nat} {M : z_Md} {nm : Nat} (hU : q_U S M nm) (hn : nm ≤ 16) : ∃ r, r < 48 ∧ M 6 r = 0 ∧ M 7 r = 0 := by
  apply Decidable.byContradiction
  intro hno
  have hex : ∀ r, r < 48 → ∃ s, s < 47 ∧ q_slot M s = nI r := by
    intro r hr
    by_cases h6 : M 6 r = 0
    · have h7 : ¬ M 7 r = 0 := fun h7 => hno ⟨r, hr, h6, h7⟩
      obtain ⟨l, hl, -, e⟩ := (hU.2.1 r hr).mp h7
      refine ⟨l + 44, by omega, ?_⟩
      unfold q_slot
      rw [if_neg (by omega), if_neg (by omega), if_neg (by omega)]
      have : l + 44 - 44 = l := by omega
      rw [this]; exact e
    · have hp : 0 < q_rfs M nm r := by
        apply Decidable.byContradiction
        intro q
        have : q_rfs M nm r = 0 := by omega
        have e := hU.1 r hr
        rw [this] at e
        exact h6 e
      unfold q_rfs at hp
      by_cases c1 : 0 < fb_ct (fun m => decide (M 18 m = nI r)) nm
      · obtain ⟨m, hm, e⟩ := fb_ct_pos.mp c1
        refine ⟨m, by omega, ?_⟩
        unfold q_slot
        rw [if_pos (by omega)]
        exact of_decide_eq_true e
      · by_cases c2 : 0 < fb_ct (fun m => decide (M 19 m = nI r)) nm
        · obtain ⟨m, hm, e⟩ := fb_ct_pos.mp c2
          refine ⟨m + 16, by omega, ?_⟩
          unfold q_slot
          rw [if_neg (by omega), if_pos (by omega)]
          have : m + 16 - 16 = m := by omega
          rw [this]
          exact of_decide_eq_true e
        · have c3 : 0 < fb_ct (fun s => decide (M 12 s = nI r)) 12 := by omega
          obtain ⟨m, hm, e⟩ := fb_ct_pos.mp c3
          refine ⟨m + 32, by omega, ?_⟩
          unfold q_slot
          rw [if_neg (by omega), if_neg (by omega), if_pos (by omega)]
          have : m + 32 - 32 = m := by omega
          rw [this]
          exact of_decide_eq_true e
  have hch : ∃ f : Nat → Nat, ∀ r, r < 48 → f r < 47 ∧ q_slot M (f r) = nI r := by
    refine ⟨fun r => if h : r < 48 then Classical.choose (hex r h) else 0, fun r hr => ?_⟩
    have := Classical.choose_spec (hex r hr)
    simp only [hr, dif_pos]
    exact this
  obtain ⟨f, hf⟩ := hch
  have := fb_holes 47 48 f (fun i hi => (hf i hi).1) (fun i j hij hj e => by
    have e1 := (hf i (by omega)).2
    have e2 := (hf j hj).2
    rw [e, e2] at e1
    have := (nI_eq (a := j) (b := i) (by omega) (by omega)).mp e1
    omega)
  omega
/-- the reference behind a call -/
def q_cM (M : z_Md) (l r : Nat) (b k : Int32) : z_Md := z_up (z_up (z_up (z_up (z_up (z_up (z_up (z_up (z_up (z_up (z_up M 7 r 1) 9 r 0) 20 l 1) 21 l b) 22 l k) 23 l (nI r)) 24 l 0) 25 l 0) 27 l 0) 28 l 0) 29 l 0
theorem q_call84 {post : z_Md → Prop} {M : z_Md} {l : Nat} {b k : Int32} (hl : l < 3) (hp : ∀ r, r < 48 → M 6 r = 0 ∨ 0 < M 6 r) (hex : ∃ r, r < 48 ∧ M 6 r = 0 ∧ M 7 r = 0) (h : ∀ r, r < 48 → M 6 r = 0 → M 7 r = 0 → post (q_cM M l r b k)) : ∃ n0, w_X7_call_84 post n0 M (nI l) b k 0 := by
  obtain ⟨r0, hr0, h60, h70⟩ := hex
  have hv : vp_in (nI l) 3 := vp_in_nI hl (by omega)
  have key : ∀ d j, j + d = r0 → w_X7_call_84 post (d + 1) M (nI l) b k (nI j) := by
    intro d
    induction d with
    | zero =>
      intro j hj
      have : j = r0 := by omega
      subst this
      have hvr : vp_in (nI j) 48 := vp_in_nI hr0 (by omega)
      refine ⟨hvr, fun z => ?_, fun _ => ⟨hvr, fun _ => ⟨hvr, hvr, hv, hv, hv, hv, hv, hv, hv, hv, hv, ?_⟩, fun z => ?_⟩⟩
      · rw [q_c (n := j) (by omega), h60] at z; exact absurd z (by decide)
      · rw [q_c (n := j) (by omega), q_c (n := l) (by omega)]
        exact h j hr0 h60 h70
      · rw [q_c (n := j) (by omega)] at z; exact absurd h70 z
    | succ d ih =>
      intro j hj
      have hvr : vp_in (nI j) 48 := vp_in_nI (by omega) (by omega)
      have nx : w_X7_call_104 post (w_X7_call_84 post (d + 1)) M (nI l) b k (nI j) := by
        show w_X7_call_84 post (d + 1) M (nI l) b k (nI j + 1)
        rw [nI_1]
        exact ih (j + 1) (by omega)
      refine ⟨hvr, fun _ => nx, fun z => ⟨hvr, fun z2 => ⟨hvr, hvr, hv, hv, hv, hv, hv, hv, hv, hv, hv, ?_⟩, fun _ => nx⟩⟩
      rw [q_c (n := j) (by omega)] at z z2 ⊢
      rw [q_c (n := l) (by omega)]
      rcases hp j (by omega) with c | c
      · exact h j (by omega) c z2
      · exact absurd c z
  exact ⟨r0 + 1, key r0 0 (by omega)⟩
section OC
variable {t0 ti mi nb nm md N : Nat} {M : z_Md} {S : Nat → Nat} {C : Nat → Nat → Nat} {E : Nat → Nat → Int32 × Int32} {K : Nat → Nat → Nat} {u : z_St} {px : String → z_St → Prop}
theorem q_W.begin {u' : z_St} {l r a b k : Nat} (h : q_W t0 N M S C E nb nm md K u) (hl : l < 3) (hbz : M 20 l = 0) (hr : r < 48) (h6 : M 6 r = 0) (h7 : M 7 r = 0) (hb : b < nb) (hk : k < 4) (hroom : k = 0 → nm + fb_ct (q_spk M) 3 < 16) (ha : z_kd a u = 0)
    (g1 : ∀ x, x ≠ a → z_kd x u' = z_kd x u) (g2 : z_kd a u' = 6) (g3 : ∀ x, z_ln x u' = z_ln x u) (g4 : ∀ f x, x ≠ a → x ≠ K 11 l → z_gI f x u' = z_gI f x u) (g5 : ∀ f x, x ≠ a → (f ≠ 12 ∨ x ≠ K 11 l) → z_gR f x u' = z_gR f x u) (g6 : ∀ x j, z_aI x j u' = z_aI x j u) (g7 : ∀ x j, z_aR x j u' = z_aR x j u)
    (l8 : z_gI 8 (K 11 l) u' = 1) (l9 : z_gI 9 (K 11 l) u' = 0) (l10 : z_gI 10 (K 11 l) u' = nI b) (l11 : z_gI 11 (K 11 l) u' = nI k) (l12 : z_gR 12 (K 11 l) u' = some a) (l7 : z_gI 7 (K 11 l) u' = 0) (l13 : z_gI 13 (K 11 l) u' = 0) (l14 : z_gI 14 (K 11 l) u' = 0) (l15 : z_gI 15 (K 11 l) u' = 0)
    (r21 : z_gR 21 a u' = none) (r22 : z_gR 22 a u' = none) (r23 : z_gI 23 a u' = 0) (r24 : z_gI 24 a u' = 0) (r25 : z_gI 25 a u' = 0) : q_W t0 N (q_cM M l r (nI b) (nI k)) S C E nb nm md (z_up K 16 r a) u' := by
  obtain ⟨a1, a2, a3, a4, a5, a6, a7, a8, a9, a10, a11, a12⟩ := h
  have hS0 : S r = 0 := a4.2.2.2.2 r hr h6 h7
  have hnlv : ¬ q_lv M r := fun q => by rcases q with q | q; exact q h6; exact q h7
  have hka : ∀ f j, q_vd M nm f j → K f j ≠ a := fun f j hv e => by
    by_cases q : f = 14
    · subst q
      have hj : j = 0 := by rcases hv with ⟨-, q⟩ | ⟨q, -⟩ | ⟨q, -⟩; exact Nat.lt_one_iff.mp q; omega; omega
      subst hj
      rcases a5.2.2.1 with ⟨z, -⟩ | ⟨z, -⟩ <;> rw [e, ha] at z <;> omega
    · have := a5.1 f j hv q
      rw [e, ha] at this
      rcases hv with ⟨z, -⟩ | ⟨z, -⟩ | ⟨z, -⟩
      · have : ∀ f, f ≤ 14 → q_kk f ≠ 0 := by decide
        exact absurd (by assumption) (Ne.symm (this f z))
      · subst z; exact absurd this (by decide)
      · subst z; exact absurd this (by decide)
  have hka14 : ∀ f j, f ≤ 14 → j < q_fs f → K f j ≠ a := fun f j h1 h2 => hka f j (Or.inl ⟨h1, h2⟩)
  have hkl : ∀ f j, q_vd M nm f j → (f ≠ 11 ∨ j ≠ l) → K f j ≠ K 11 l := fun f j hv hn => a5.ne hv (Or.inl ⟨by omega, hl⟩) hn
  have hlv : ∀ x, q_lv (q_cM M l r (nI b) (nI k)) x ↔ (q_lv M x ∨ x = r) := fun x => by
    unfold q_lv
    show (¬ M 6 x = 0 ∨ ¬ (z_up M 7 r 1) 7 x = 0) ↔ _
    by_cases q : x = r
    · subst q; simp [z_up]
    · simp [z_up, q]
  have hvd : ∀ f j, q_vd (q_cM M l r (nI b) (nI k)) nm f j → (q_vd M nm f j ∧ (f ≠ 16 ∨ j ≠ r)) ∨ (f = 16 ∧ j = r) := fun f j hv => by
    rcases hv with z | z | ⟨z1, z2, z3⟩
    · exact Or.inl ⟨Or.inl z, Or.inl (by omega)⟩
    · exact Or.inl ⟨Or.inr (Or.inl z), Or.inl (by omega)⟩
    · by_cases q : j = r
      · exact Or.inr ⟨z1, q⟩
      · rcases (hlv j).mp z3 with w | w
        · exact Or.inl ⟨Or.inr (Or.inr ⟨z1, z2, w⟩), Or.inr q⟩
        · exact absurd w q
  have hKo : ∀ f j, (f ≠ 16 ∨ j ≠ r) → z_up K 16 r a f j = K f j := fun f j hn => by
    rw [z_up_e, if_neg (fun q => by rcases hn with z | z; exact z q.1; exact z q.2)]
  have hKr : z_up K 16 r a 16 r = a := z_up_s K 16 r a
  have hrf : ∀ x, (x = -1 ∨ ∃ y, y < 48 ∧ x = nI y ∧ q_lv M y) → q_rf (z_up K 16 r a) x = q_rf K x := fun x hx => by
    rcases hx with rfl | ⟨y, hy, rfl, hl2⟩
    · rfl
    · rw [q_rf_s _ hy, q_rf_s _ hy, hKo 16 y (Or.inr (fun q => hnlv (q ▸ hl2)))]
  refine ⟨a1, a2.fr rfl rfl rfl rfl rfl ?_, ?_, ?_, ?_, ?_, ?_, ?_, ?_, ?_, ?_, ?_⟩
  · funext x
    show z_up M 9 r 0 9 x = M 9 x
    by_cases q : x = r
    · subst q
      rw [z_up_s, (a2.1 x hr).1, hS0]; rfl
    · rw [z_up_a _ _ _ _ q]
  · -- Q
    refine ⟨a3.1, a3.2.1, a3.2.2.1, a3.2.2.2.1, a3.2.2.2.2.1, a3.2.2.2.2.2.1, fun l' hl' => ?_, ?_⟩
    · by_cases q : l' = l
      · subst q
        refine ⟨Or.inr (z_up_s M 20 l' 1), fun _ => ⟨⟨b, hb, z_up_s M 21 l' _⟩, ⟨k, hk, z_up_s M 22 l' _⟩, ⟨r, hr, z_up_s M 23 l' _⟩, ⟨0, by omega, z_up_s M 25 l' _⟩, Or.inl (z_up_s M 24 l' _)⟩⟩
      · have e : ∀ f v, z_up M f l v f l' = M f l' := fun f v => z_up_a M f v f q
        have e20 : q_cM M l r (nI b) (nI k) 20 l' = M 20 l' := e 20 1
        have e21 : q_cM M l r (nI b) (nI k) 21 l' = M 21 l' := e 21 _
        have e22 : q_cM M l r (nI b) (nI k) 22 l' = M 22 l' := e 22 _
        have e23 : q_cM M l r (nI b) (nI k) 23 l' = M 23 l' := e 23 _
        have e24 : q_cM M l r (nI b) (nI k) 24 l' = M 24 l' := e 24 _
        have e25 : q_cM M l r (nI b) (nI k) 25 l' = M 25 l' := e 25 _
        rw [e20, e21, e22, e23, e24, e25]
        exact a3.2.2.2.2.2.2.1 l' hl'
    · have hsp : q_spk (q_cM M l r (nI b) (nI k)) = fun x => if x = l then decide (k = 0) else q_spk M x := by
        funext x
        unfold q_spk
        show decide (¬ z_up M 20 l 1 20 x = 0 ∧ z_up M 22 l (nI k) 22 x = 0) = _
        by_cases q : x = l
        · subst q
          rw [z_up_s, z_up_s, if_pos rfl]
          by_cases z : k = 0
          · subst z; decide
          · have := nI_ne0 (n := k) (by omega) (by omega)
            simp [z, this]
        · rw [z_up_a _ _ _ _ q, z_up_a _ _ _ _ q, if_neg q]
      rw [hsp]
      have := fb_ct_upd (q_spk M) (decide (k = 0)) (i := l) (n := 3) hl
      have e0 : q_spk M l = false := by unfold q_spk; simp [hbz]
      rw [e0] at this
      have h16 := a3.2.2.2.2.2.2.2
      by_cases z : k = 0
      · have := hroom z
        simp [z] at *
        omega
      · simp [z] at *
        omega
  · -- U
    have e20 : ∀ x, q_cM M l r (nI b) (nI k) 20 x = if x = l then 1 else M 20 x := fun x => by
      show z_up M 20 l 1 20 x = _
      simp [z_up]
    have e23 : ∀ x, q_cM M l r (nI b) (nI k) 23 x = if x = l then nI r else M 23 x := fun x => by
      show z_up M 23 l (nI r) 23 x = _
      simp [z_up]
    have e7 : ∀ x, q_cM M l r (nI b) (nI k) 7 x = if x = r then 1 else M 7 x := fun x => by
      show z_up M 7 r 1 7 x = _
      simp [z_up]
    have hno : ∀ l', l' < 3 → ¬ M 20 l' = 0 → ¬ M 23 l' = nI r := fun l' hl' z e => a4.l23 hl' hr z e h7
    refine ⟨a4.1, fun x hx => ?_, fun x y hx hy => ?_, fun x hx => ?_, fun x hx z1 z2 => ?_⟩
    · rw [e7]
      by_cases q : x = r
      · subst q
        rw [if_pos rfl]
        refine ⟨fun _ => ⟨l, hl, by rw [e20, if_pos rfl]; decide, by rw [e23, if_pos rfl]⟩, fun _ => by decide⟩
      · rw [if_neg q, a4.2.1 x hx]
        constructor
        · rintro ⟨l', hl', z1, z2⟩
          have hne : l' ≠ l := fun w => z1 (by rw [w]; exact hbz)
          exact ⟨l', hl', by rw [e20, if_neg hne]; exact z1, by rw [e23, if_neg hne]; exact z2⟩
        · rintro ⟨l', hl', z1, z2⟩
          by_cases w : l' = l
          · rw [e23, if_pos w] at z2
            exact absurd ((nI_eq (by omega) (by omega)).mp z2).symm q
          · rw [e20, if_neg w] at z1
            rw [e23, if_neg w] at z2
            exact ⟨l', hl', z1, z2⟩
    · rw [e20, e20, e23, e23]
      by_cases q : x = l
      · by_cases w : y = l
        · intro _ _ _; omega
        · rw [if_pos q, if_neg w, if_pos q, if_neg w]
          intro _ z e
          exact absurd e.symm (hno y hy z)
      · by_cases w : y = l
        · rw [if_neg q, if_pos w, if_neg q, if_pos w]
          intro z _ e
          exact absurd e (hno x hx z)
        · rw [if_neg q, if_neg w, if_neg q, if_neg w]
          exact a4.2.2.1 x y hx hy
    · rw [e7]
      by_cases q : x = r
      · subst q; intro _; exact h6
      · rw [if_neg q]; exact a4.2.2.2.1 x hx
    · rw [e7] at z2
      by_cases q : x = r
      · rw [q]; exact hS0
      · rw [if_neg q] at z2; exact a4.2.2.2.2 x hx z1 z2
  · -- K
    refine ⟨fun f j hv hn => ?_, fun f j h1 h2 h3 => ?_, ?_, fun f j f' j' hv hv' e => ?_⟩
    · rcases hvd f j hv with ⟨z1, z2⟩ | ⟨rfl, rfl⟩
      · rw [hKo f j z2, g1 _ (hka f j z1)]
        exact a5.1 f j z1 hn
      · rw [hKr, g2]; rfl
    · rw [hKo f j (Or.inl (by omega)), g3]
      exact a5.2.1 f j h1 h2 h3
    · rw [hKo 14 0 (Or.inl (by omega)), g1 _ (hka14 14 0 (by omega) (by decide)), g3]
      exact a5.2.2.1
    · rcases hvd f j hv with ⟨z1, z2⟩ | ⟨rfl, rfl⟩
      · rcases hvd f' j' hv' with ⟨w1, w2⟩ | ⟨rfl, rfl⟩
        · rw [hKo f j z2, hKo f' j' w2] at e
          exact a5.2.2.2 f j f' j' z1 w1 e
        · rw [hKo f j z2, hKr] at e
          exact absurd e (hka f j z1)
      · rcases hvd f' j' hv' with ⟨w1, w2⟩ | ⟨rfl, rfl⟩
        · rw [hKr, hKo f' j' w2] at e
          exact absurd e.symm (hka f' j' w1)
        · exact ⟨rfl, rfl⟩
  · -- P
    obtain ⟨p28, p26, p2, p4, p27, p6, p29, p7, p30, p10, p31, p36⟩ := a6
    have gR : ∀ f f' j, f' ≤ 14 → j < q_fs f' → f ≠ 12 → z_gR f (K f' j) u' = z_gR f (K f' j) u := fun f f' j h1 h2 h3 => g5 f _ (hka14 f' j h1 h2) (Or.inl h3)
    refine ⟨(gR 28 0 0 (by omega) (by decide) (by omega)).trans p28, (gR 26 1 0 (by omega) (by decide) (by omega)).trans p26, fun x hx => (g7 _ _).trans (p2 x hx), fun x hx => ⟨(gR 0 3 x (by omega) hx (by omega)).trans (p4 x hx).1, (gR 1 3 x (by omega) hx (by omega)).trans (p4 x hx).2⟩, (gR 27 0 0 (by omega) (by decide) (by omega)).trans p27, fun x hx => (g6 _ _).trans (p6 x hx), (gR 29 0 0 (by omega) (by decide) (by omega)).trans p29, fun x hx => ⟨(g7 _ _).trans (p7 x hx).1, (gR 4 8 x (by omega) hx (by omega)).trans (p7 x hx).2⟩, (gR 30 0 0 (by omega) (by decide) (by omega)).trans p30, fun x hx => ⟨(g7 _ _).trans (p10 x hx).1, (gR 6 11 x (by omega) hx (by omega)).trans (p10 x hx).2⟩, (gR 31 0 0 (by omega) (by decide) (by omega)).trans p31, (gR 36 13 0 (by omega) (by decide) (by omega)).trans p36⟩
  · -- B
    obtain ⟨b1, b2, b3, b4⟩ := a7
    have hbk : ∀ x, x < 40 → K 3 x ≠ a ∧ K 3 x ≠ K 11 l := fun x hx => ⟨hka14 3 x (by omega) hx, hkl 3 x (Or.inl ⟨by omega, hx⟩) (Or.inl (by omega))⟩
    refine ⟨fun x hx => (g4 2 _ (hbk x hx).1 (hbk x hx).2).trans (b1 x hx), fun x hx z => (g5 3 _ (hbk x hx).1 (Or.inl (by omega))).trans (b2 x hx z), fun x j hx hj => (g5 3 _ (hbk _ (a2.2.2.1 x j hx hj)).1 (Or.inl (by omega))).trans (b3 x j hx hj), fun x i hx hi => ?_⟩
    obtain ⟨c1, c2⟩ := b4 x i hx hi
    exact ⟨(g6 _ _).trans c1, fun z j hj => (g6 _ _).trans (c2 z j hj)⟩
  · -- X
    refine ⟨fun i hi => ?_, fun i w hi hw => ?_⟩
    · have h4 : i < 4 := Nat.lt_of_lt_of_le hi a3.1.2
      exact (g4 5 _ (hka14 8 i (by omega) h4) (hkl 8 i (Or.inl ⟨by omega, h4⟩) (Or.inl (by omega)))).trans (a8.1 i hi)
    · exact (g7 _ _).trans ((a8.2 i w hi hw).trans (hrf _ (q_lv12 a3 a4 (by omega : 3 * i + w < 12))).symm)
  · -- M
    refine ⟨(g4 37 _ (hka14 13 0 (by omega) (by decide)) (hkl 13 0 (Or.inl ⟨by omega, by decide⟩) (Or.inl (by omega)))).trans a9.1, fun m hm => (g7 _ _).trans (a9.2.1 m hm), fun m hm => ?_⟩
    obtain ⟨c1, c2, c3, c4, c5⟩ := a9.2.2 m hm
    have hv : q_vd M nm 15 m := Or.inr (Or.inl ⟨rfl, hm⟩)
    have n1 := hka 15 m hv
    have n2 := hkl 15 m hv (Or.inl (by omega))
    refine ⟨(g4 16 _ n1 n2).trans c1, (g4 17 _ n1 n2).trans c2, (g4 20 _ n1 n2).trans c3, (g5 18 _ n1 (Or.inl (by omega))).trans (c4.trans (hrf _ (q_lv18 a3 a4 hm)).symm), (g5 19 _ n1 (Or.inl (by omega))).trans (c5.trans (hrf _ (q_lv19 a3 a4 hm)).symm)⟩
  · -- L
    intro l' hl'
    by_cases q : l' = l
    · subst q
      refine ⟨l8.trans (z_up_s M 20 l' 1).symm, fun _ => ⟨l9.trans (z_up_s M 24 l' _).symm, l10.trans (z_up_s M 21 l' _).symm, l11.trans (z_up_s M 22 l' _).symm, ?_, ⟨l7.trans (z_up_s M 25 l' _).symm, by have e25 : q_cM M l' r (nI b) (nI k) 25 l' = 0 := z_up_s M 25 l' _; rw [e25]; decide⟩, fun j hj => ?_, fun z => absurd (z_up_s M 24 l' (0 : Int32)) z, fun _ => ⟨l14.trans (z_up_s M 28 l' _).symm, l15.trans (z_up_s M 29 l' _).symm, fun r' hr' e => ?_⟩⟩⟩
      · have e23 : q_cM M l' r (nI b) (nI k) 23 l' = nI r := z_up_s M 23 l' _
        rw [e23, q_rf_s _ hr, hKr]
        exact l12
      · have e25 : q_cM M l' r (nI b) (nI k) 25 l' = 0 := z_up_s M 25 l' _
        rw [e25] at hj
        have hz : (0 : Int32).toNatClampNeg = 0 := by decide
        omega
      · have e23 : q_cM M l' r (nI b) (nI k) 23 l' = nI r := z_up_s M 23 l' _
        rw [e23] at e
        have : r = r' := (nI_eq (by omega) (by omega)).mp e
        subst this
        refine ⟨?_, 0, by omega, l13, z_up_s M 27 l' _, fun _ => ⟨by omega, fun j hj => by omega⟩, fun z => by omega⟩
        unfold q_s
        have e28 : q_cM M l' r (nI b) (nI k) 28 l' = 0 := z_up_s M 28 l' _
        have e29 : q_cM M l' r (nI b) (nI k) 29 l' = 0 := z_up_s M 29 l' _
        rw [e28, e29, hS0]
        rfl
    · have e : ∀ f v, z_up M f l v f l' = M f l' := fun f v => z_up_a M f v f q
      have n1 := hka14 11 l' (by omega) hl'
      have n2 := hkl 11 l' (Or.inl ⟨by omega, hl'⟩) (Or.inr q)
      have e20 : q_cM M l r (nI b) (nI k) 20 l' = M 20 l' := e 20 1
      have e21 : q_cM M l r (nI b) (nI k) 21 l' = M 21 l' := e 21 _
      have e22 : q_cM M l r (nI b) (nI k) 22 l' = M 22 l' := e 22 _
      have e23 : q_cM M l r (nI b) (nI k) 23 l' = M 23 l' := e 23 _
      have e24 : q_cM M l r (nI b) (nI k) 24 l' = M 24 l' := e 24 _
      have e25 : q_cM M l r (nI b) (nI k) 25 l' = M 25 l' := e 25 _
      have e27 : q_cM M l r (nI b) (nI k) 27 l' = M 27 l' := e 27 _
      have e28 : q_cM M l r (nI b) (nI k) 28 l' = M 28 l' := e 28 _
      have e29 : q_cM M l r (nI b) (nI k) 29 l' = M 29 l' := e 29 _
      obtain ⟨c1, c2⟩ := a10 l' hl'
      refine ⟨(g4 8 _ n1 n2).trans (c1.trans e20.symm), fun z => ?_⟩
      rw [e20] at z
      obtain ⟨d1, d2, d3, d4, d5, d6, d7, d8⟩ := c2 z
      have h4 : z_gR 12 (K 11 l') u' = q_rf (z_up K 16 r a) (q_cM M l r (nI b) (nI k) 23 l') := by
        rw [e23, hrf _ (q_lv23 a3 a4 hl' z)]
        exact (g5 12 _ n1 (Or.inr n2)).trans d4
      refine ⟨(g4 9 _ n1 n2).trans (d1.trans e24.symm), (g4 10 _ n1 n2).trans (d2.trans e21.symm), (g4 11 _ n1 n2).trans (d3.trans e22.symm), h4, ⟨(g4 7 _ n1 n2).trans (d5.1.trans e25.symm), by rw [e25]; exact d5.2⟩, fun j hj => ?_, fun w => ?_, fun w => ?_⟩
      · rw [e25] at hj
        obtain ⟨f1, f2⟩ := d6 j hj
        exact ⟨(g6 _ _).trans f1, f2⟩
      · rw [e24] at w; rw [e25]; exact d7 w
      · rw [e24] at w
        obtain ⟨f1, f2, f3⟩ := d8 w
        refine ⟨(g4 14 _ n1 n2).trans (f1.trans e28.symm), (g4 15 _ n1 n2).trans (f2.trans e29.symm), fun r' hr' e' => ?_⟩
        rw [e23] at e'
        obtain ⟨k1, qq, k2, k3, k4, k5⟩ := f3 r' hr' e'
        refine ⟨?_, qq, k2, (g4 13 _ n1 n2).trans k3, e27.trans k4, k5⟩
        unfold q_s at k1 ⊢
        rw [e28, e29]; exact k1
  · -- R
    intro x hx hlx
    rcases (hlv x).mp hlx with z | rfl
    · have hne : x ≠ r := fun w => hnlv (w ▸ z)
      have hv : q_vd M nm 16 x := Or.inr (Or.inr ⟨rfl, hx, z⟩)
      have n1 := hka 16 x hv
      have n2 := hkl 16 x hv (Or.inl (by omega))
      obtain ⟨c1, c2, c3, c4, c5⟩ := a11 x hx z
      rw [hKo 16 x (Or.inr hne)]
      exact ⟨(g5 21 _ n1 (Or.inl (by omega))).trans c1, (g5 22 _ n1 (Or.inl (by omega))).trans c2, (g4 24 _ n1 n2).trans c3, (g4 23 _ n1 n2).trans c4, (g4 25 _ n1 n2).trans c5⟩
    · rw [hKr, r21, r22, r23, r24, r25, hS0]
      exact ⟨rfl, rfl, rfl, rfl, h6.symm⟩
  · -- I
    have n1 := hka14 0 0 (by omega) (by decide)
    have n2 := hkl 0 0 (Or.inl ⟨by omega, by decide⟩) (Or.inl (by omega))
    exact ⟨(g4 32 _ n1 n2).trans a12.1, (g4 33 _ n1 n2).trans a12.2.1, (g4 34 _ n1 n2).trans a12.2.2⟩
end OC
