/-! the reference's letting go, in full; the message and its list, in one -/
def q_dm (M : z_Md) (S : Nat → Nat) (C : Nat → Nat → Nat) (r : Nat) : z_Md := if M 6 r = 1 then z_up (q_zr (z_up M 6 r (M 6 r - 1)) C r (q_nb (S r))) 9 r 0 else z_up M 6 r (M 6 r - 1)
theorem q_dm_f {M : z_Md} {S : Nat → Nat} {C : Nat → Nat → Nat} {r f : Nat} (h2 : f ≠ 2) (h6 : f ≠ 6) (h9 : f ≠ 9) : q_dm M S C r f = M f := by
  unfold q_dm
  split
  · rw [z_up_f _ _ _ h9, q_zr_f _ _ _ _ h2, z_up_f _ _ _ h6]
  · rw [z_up_f _ _ _ h6]
theorem q_dm_c {M M' : z_Md} (S : Nat → Nat) (C : Nat → Nat → Nat) {r f : Nat} (hf : f = 2 ∨ f = 6 ∨ f = 9) (e2 : M' 2 = M 2) (e6 : M' 6 = M 6) (e9 : M' 9 = M 9) : q_dm M' S C r f = q_dm M S C r f := by
  have ef : M' f = M f := by
    rcases hf with rfl | rfl | rfl
    · exact e2
    · exact e6
    · exact e9
  unfold q_dm
  rw [e6]
  split <;> (funext x; simp only [z_up_e, q_zr]; rw [ef])
theorem q_dm_dM {N : Nat} {M : z_Md} {S : Nat → Nat} {C : Nat → Nat → Nat} {E : Nat → Nat → Int32 × Int32} {r : Nat} (hP : q_P N M S C E) (hr : r < 48) : q_dM N M S C E r (q_dm M S C r) := by
  have g6 : ∀ x, q_dm M S C r 6 x = if x = r then M 6 r - 1 else M 6 x := fun x => by
    unfold q_dm
    split
    · rw [z_up_f _ _ _ (by omega), q_zr_f _ _ _ _ (by omega)]
      by_cases q : x = r
      · subst q; rw [z_up_s, if_pos rfl]
      · rw [z_up_a _ _ _ _ q, if_neg q]
    · by_cases q : x = r
      · subst q; rw [z_up_s, if_pos rfl]
      · rw [z_up_a _ _ _ _ q, if_neg q]
  refine ⟨fun f h2 h6 h9 => q_dm_f h2 h6 h9, g6, fun hn => ?_, fun hn => ?_, ?_⟩
  · unfold q_dm; rw [if_neg hn, z_up_f _ _ _ (by omega)]
  · unfold q_dm
    rw [if_pos hn, z_up_f _ _ _ (by omega)]
    exact ⟨fun x hx => if_neg (fun q => by obtain ⟨-, j, hj, e⟩ := q; exact hx j hj e), fun k hk => if_pos ⟨rfl, k, hk, rfl⟩⟩
  · unfold q_dS q_dm
    by_cases hn : M 6 r = 1
    · rw [if_pos hn, if_pos hn]
      refine q_free_P hP hr (fun x hx => ?_) (fun k hk => ?_) (fun x => ?_) ?_ ?_ ?_ ?_
      · rw [z_up_f _ _ _ (by omega)]
        exact if_neg (fun q => by obtain ⟨-, j, hj, e⟩ := q; exact hx j hj e)
      · rw [z_up_f _ _ _ (by omega)]
        exact if_pos ⟨rfl, k, hk, rfl⟩
      · rw [z_up_e, q_zr_f _ _ _ _ (by omega), z_up_f _ _ _ (by omega)]; simp
      · rw [z_up_f _ _ _ (by omega), q_zr_f _ _ _ _ (by omega), z_up_f _ _ _ (by omega)]
      · rw [z_up_f _ _ _ (by omega), q_zr_f _ _ _ _ (by omega), z_up_f _ _ _ (by omega)]
      · rw [z_up_f _ _ _ (by omega), q_zr_f _ _ _ _ (by omega), z_up_f _ _ _ (by omega)]
      · rw [z_up_f _ _ _ (by omega), q_zr_f _ _ _ _ (by omega), z_up_f _ _ _ (by omega)]
    · rw [if_neg hn, if_neg hn]
      exact hP.fr rfl rfl rfl rfl rfl rfl
theorem q_releaseX {post : Int32 → z_Md → Prop} {N : Nat} {M : z_Md} {S : Nat → Nat} {C : Nat → Nat → Nat} {E : Nat → Nat → Int32 × Int32} {r : Nat} (hP : q_P N M S C E) (hN : N ≤ 64) (hr : r < 48) (h : post (nI (q_nb (S r))) (z_up (q_zr M C r (q_nb (S r))) 9 r 0)) : w_X7_release post M (nI r) := by
  refine ⟨vp_in_nI hr (by omega), ?_⟩
  intro x3 e3
  refine ⟨q_nb (S r) + 1, ?_⟩
  have := q_release_l (post := post) hP hN hr h (q_nb (S r)) 0 (by omega) x3 (fun hl => by
    rw [e3, q_c (n := r) (by omega)]
    exact hP.2.1 r hr (by unfold q_nb at hl; omega))
  rw [q_zr_0] at this
  exact this
theorem q_letGoX {post : Int32 → z_Md → Prop} {N : Nat} {M : z_Md} {S : Nat → Nat} {C : Nat → Nat → Nat} {E : Nat → Nat → Int32 × Int32} {r : Nat} (hP : q_P N M S C E) (hN : N ≤ 64) (hr : r < 48) (h6 : ∃ n : Nat, 1 ≤ n ∧ n ≤ 60 ∧ M 6 r = nI n) (kk : post (q_dv M S r) (q_dm M S C r)) : w_X7_letGo post M (nI r) := by
  obtain ⟨n, h1, h2, e⟩ := h6
  have hv : vp_in (nI r) 48 := vp_in_nI hr (by omega)
  have hsub : nI n - 1 = nI (n - 1) := pk_sub (b := 1) h1
  have hP1 : q_P N (z_up M 6 r (nI (n - 1))) S C E := hP.fr rfl rfl rfl rfl rfl rfl
  unfold q_dv q_dm at kk
  rw [e, hsub] at kk
  refine ⟨fun _ => ⟨hv, hv, hv, ?_⟩, fun q => absurd (nI_pos' (by omega)) q⟩
  rw [q_c (n := r) (by omega), e, hsub, z_up_s]
  refine ⟨fun z => ?_, fun z => ?_⟩
  · have hn : ¬ nI n = 1 := fun q => by
      have := (nI_eq (a := n) (b := 1) (by omega) (by omega)).mp q
      subst this
      exact z rfl
    rw [if_neg hn, if_neg hn] at kk
    exact kk
  · have hn1 : n = 1 := by
      apply Decidable.byContradiction
      intro q
      exact nI_ne0 (n := n - 1) (by omega) (by omega) z
    subst hn1
    rw [if_pos (show nI 1 = 1 from rfl), if_pos (show nI 1 = 1 from rfl)] at kk
    exact q_releaseX hP1 hN hr kk
/-- the reference's list moved up -/
def q_sh (M : z_Md) (m n : Nat) : z_Md := q_sM (z_up M 13 0 (nI n)) m n
theorem q_sh_f {M : z_Md} {m n f : Nat} (h13 : f ≠ 13) (h : f < 15 ∨ 19 < f) : q_sh M m n f = M f := by
  funext x
  unfold q_sh q_sM
  rw [if_neg (by omega), z_up_f _ _ _ h13]
theorem q_dm_sh (M : z_Md) (S : Nat → Nat) (C : Nat → Nat → Nat) (r m n : Nat) : q_dm (q_sh M m n) S C r = q_sh (q_dm M S C r) m n := by
  funext f x
  by_cases c : f = 2 ∨ f = 6 ∨ f = 9
  · rw [q_dm_c S C c (q_sh_f (by omega) (by omega)) (q_sh_f (by omega) (by omega)) (q_sh_f (by omega) (by omega)), q_sh_f (by omega) (by omega)]
  · have e : ∀ M' : z_Md, q_dm M' S C r f = M' f := fun M' => q_dm_f (by omega) (by omega) (by omega)
    rw [e]
    unfold q_sh q_sM
    simp only [z_up_e]
    rw [e]
section OM2
variable {t0 ti mi nb nm md N N' : Nat} {pn pn' : Nat → Nat} {M M' : z_Md} {S S' : Nat → Nat} {C C' : Nat → Nat → Nat} {E E' : Nat → Nat → Int32 × Int32} {K K' : Nat → Nat → Nat} {u u' : z_St} {px : String → z_St → Prop}
def q_hox (h0 : Nat) (o : Option Nat) (u : z_St) : z_St := match o with
  | none => u
  | some c => q_hold h0 c u
theorem q_holdC {post : z_St → Prop} {h0 : Nat} {o : Option Nat} (hk : ∀ c, o = some c → z_kd c u = 6 ∧ c ≠ h0) (h : post (q_hox h0 o u)) : w_X6_hold post t0 mi h0 u o := by
  cases o with
  | none => exact ⟨fun q => absurd rfl q, fun _ => h⟩
  | some c =>
    obtain ⟨k6, hc⟩ := hk c rfl
    refine ⟨fun _ => ⟨c, rfl, k6, fun z => ⟨c, rfl, k6, ?_⟩, fun z => ⟨c, rfl, k6, ?_⟩⟩, fun q => (by cases q)⟩
    · have : q_hox h0 (some c) u = q_inc 25 c u := if_neg z
      rw [this] at h
      exact h
    · have : q_hox h0 (some c) u = q_inc 25 c (q_inc 34 h0 u) := if_pos z
      rw [this] at h
      exact h
def q_AF (K : Nat → Nat → Nat) (nm md b : Nat) (r1 r2 : Option Nat) (a R' : Nat) (u u' : z_St) : Prop :=
  z_kd a u = 0 ∧ (R' = K 14 0 ∨ z_kd R' u = 0) ∧ R' ≠ a ∧ (∀ x, z_kd x u ≠ 0 → z_kd x u' = z_kd x u ∧ z_ln x u' = z_ln x u) ∧ z_kd a u' = 5 ∧ (z_kd R' u' = 15 ∧ nm + 1 ≤ z_ln R' u' ∧ (z_ln R' u' = 10 ∨ z_ln R' u' = 15 ∨ z_ln R' u' = 22)) ∧
  (∀ f x, x ≠ a → (f ≠ 33 ∨ x ≠ K 0 0) → ((f ≠ 37 ∧ f ≠ 35) ∨ x ≠ K 13 0) → z_gI f x u' = z_gI f x u) ∧ (∀ f x, x ≠ a → (f ≠ 36 ∨ x ≠ K 13 0) → z_gR f x u' = z_gR f x u) ∧ (∀ x i, z_kd x u ≠ 0 → z_aI x i u' = z_aI x i u) ∧ (∀ x i, z_kd x u ≠ 0 → x ≠ K 14 0 → z_aR x i u' = z_aR x i u) ∧
  (∀ m, m < nm → z_aR R' m u' = z_aR (K 14 0) m u) ∧ z_aR R' nm u' = some a ∧ z_gI 16 a u' = nI md ∧ z_gI 17 a u' = nI b ∧ z_gI 20 a u' = 0 ∧ z_gR 18 a u' = r1 ∧ z_gR 19 a u' = r2 ∧ z_gI 33 (K 0 0) u' = nI (md + 1) ∧ z_gI 37 (K 13 0) u' = nI (nm + 1) ∧ z_gR 36 (K 13 0) u' = some R'
theorem q_AF.hold {b a R' c : Nat} {r1 r2 : Option Nat} (h : q_AF K nm md b r1 r2 a R' u u') (hk : z_kd c u = 6) (h0 : z_kd (K 0 0) u = 8) (h13 : z_kd (K 13 0) u = 1) : q_AF K nm md b r1 r2 a R' (q_hold (K 0 0) c u) (q_hold (K 0 0) c u') := by
  obtain ⟨b1, b2, b3, b4, b5, b6, b7, b8, b9, b10, b11, b12, b13, b14, b15, b16, b17, b18, b19, b20⟩ := h
  obtain ⟨o1, o2, o3, o4, o5⟩ := q_hold_o (K 0 0) c u
  obtain ⟨p1, p2, p3, p4, p5⟩ := q_hold_o (K 0 0) c u'
  have ca : c ≠ a := fun q => by rw [q, b1] at hk; omega
  have za : K 0 0 ≠ a := fun q => by rw [q, b1] at h0; omega
  have z13 : K 0 0 ≠ K 13 0 := fun q => by rw [q, h13] at h0; omega
  have c13 : c ≠ K 13 0 := fun q => by rw [q, h13] at hk; omega
  have c0 : c ≠ K 0 0 := fun q => by rw [q, h0] at hk; omega
  have e25 : z_gI 25 c u' = z_gI 25 c u := b7 25 c ca (Or.inl (by omega)) (Or.inl (by omega))
  have e34 : z_gI 34 (K 0 0) u' = z_gI 34 (K 0 0) u := b7 34 _ za (Or.inl (by omega)) (Or.inl (by omega))
  have g := q_hold_g (K 0 0) c
  have nog : ∀ f x w, f ≠ 25 → f ≠ 34 → z_gI f x (q_hold (K 0 0) c w) = z_gI f x w := fun f x w h1 h2 => by rw [g, if_neg (fun q => h1 q.1), if_neg (fun q => h2 q.1)]
  refine ⟨(o1 a).trans b1, ?_, b3, fun x hx => ?_, (p1 a).trans b5, ?_, fun f x h1 h2 h3 => ?_, fun f x h1 h2 => ?_, fun x i hx => ?_, fun x i hx h2 => ?_, fun m hm => ?_, (p5 _ _).trans b12, (nog _ _ _ (by omega) (by omega)).trans b13, (nog _ _ _ (by omega) (by omega)).trans b14, (nog _ _ _ (by omega) (by omega)).trans b15, (p3 _ _).trans b16, (p3 _ _).trans b17, (nog _ _ _ (by omega) (by omega)).trans b18, (nog _ _ _ (by omega) (by omega)).trans b19, (p3 _ _).trans b20⟩
  · rcases b2 with q | q
    · exact Or.inl q
    · exact Or.inr ((o1 R').trans q)
  · rw [o1] at hx
    rw [p1, p2, o1, o2]; exact b4 x hx
  · rw [p1, p2]; exact b6
  · rw [g, g, e25, e34, b7 f x h1 h2 h3]
  · rw [p3, o3]; exact b8 f x h1 h2
  · rw [o1] at hx
    rw [p4, o4]; exact b9 x i hx
  · rw [o1] at hx
    rw [p5, o5]; exact b10 x i hx h2
  · rw [p5, o5]; exact b11 m hm
theorem q_Wp.addf {a R' b r : Nat} {x19 : Int32} (h : q_Wp pn t0 N M S C E nb nm md K u) (hroom : nm + fb_ct (q_spk M) 3 < 16) (hb : b < nb) (hr : r < 48) (hx19 : q_rn x19) (hpn : ∀ x, x < 48 → pn x = pn' x + (if nI r = nI x then 1 else 0) + (if x19 = nI x then 1 else 0)) (hN64 : N ≤ 64) (hmd : md + 1 ≤ N) (hf : q_AF K nm md b (some (K 16 r)) (q_rf K x19) a R' u u') :
    q_Wp pn' t0 N (q_aM M nm md (nI b) (nI r) x19) S C E nb (nm + 1) (md + 1) (z_up (z_up K 15 nm a) 14 0 R') u' := by
  obtain ⟨b1, b2, b3, b4, b5, b6, b7, b8, b9, b10, b11, b12, b13, b14, b15, b16, b17, b18, b19, b20⟩ := hf
  exact h.addm hroom hb hr hx19 hpn b1 b2 b3 hN64 hmd b4 b5 b6 b7 b8 b9 b10 b11 b12 b13 b14 b15 b16 b17 b18 b19 b20
theorem q_addMsg {post : Int32 → z_St → Prop} {b : Nat} {r1 r2 : Option Nat} (hn : nm < 16) (a5 : q_wK t0 nm M K u) (a6 : q_wP K u) (a9 : q_wM nm M K u) (h33 : z_gI 33 (K 0 0) u = nI md) (hr1 : ∀ c, r1 = some c → z_kd c u = 6) (hr2 : ∀ c, r2 = some c → z_kd c u = 6) (kk : ∀ a R' v, q_AF K nm md b r1 r2 a R' u v → post (nI md) (q_hox (K 0 0) r2 (q_hox (K 0 0) r1 v))) : w_X6_addMessage post t0 mi (K 0 0) u (nI b) r1 r2 := by
  obtain ⟨p28, p26, p2, p4, p27, p6, p29, p7, p30, p10, p31, p36⟩ := a6
  intro a ha
  have k0 : z_kd (K 0 0) u = 8 := a5.k 0 0 (by omega) (by decide)
  have k13 : z_kd (K 13 0) u = 1 := a5.k 13 0 (by omega) (by decide)
  have na : ∀ x, z_kd x u ≠ 0 → x ≠ a := fun x hx e => hx (by rw [e]; exact ha)
  have n0a : K 0 0 ≠ a := na _ (by rw [k0]; decide)
  have n13a : K 13 0 ≠ a := na _ (by rw [k13]; decide)
  have n14z : z_kd (K 14 0) u ≠ 0 := by rcases a5.2.2.1 with ⟨z, -⟩ | ⟨z, -⟩ <;> rw [z] <;> decide
  have n14a : K 14 0 ≠ a := na _ n14z
  have n013 : K 0 0 ≠ K 13 0 := fun q => by rw [q, k13] at k0; omega
  have e33 : z_gI 33 (K 0 0) (z_nO 5 a u) = nI md := by rw [← h33]; simp [z_gI, z_nO, n0a]
  rw [e33]
  generalize hw : z_pR 19 a r2 (z_pR 18 a r1 (z_pI 17 a (nI b) (z_pI 16 a (nI md) (z_pI 20 a 0 (z_nO 5 a u))))) = w
  have wk : ∀ x, z_kd x w = if x = a then 5 else z_kd x u := fun x => by rw [← hw]; simp [z_kd, z_pR, z_pI, z_nO, va_up]
  have wl : ∀ x, z_ln x w = z_ln x u := fun x => by rw [← hw]; rfl
  have wI : ∀ f x, x ≠ a → z_gI f x w = z_gI f x u := fun f x hx => by rw [← hw]; simp [z_gI, z_pR, z_pI, z_nO, z_up, hx]
  have wR : ∀ f x, x ≠ a → z_gR f x w = z_gR f x u := fun f x hx => by rw [← hw]; simp [z_gR, z_pR, z_pI, z_nO, z_up, hx]
  have wA : ∀ x i, z_aI x i w = z_aI x i u := fun x i => by rw [← hw]; rfl
  have wB : ∀ x i, z_aR x i w = z_aR x i u := fun x i => by rw [← hw]; rfl
  have w16 : z_gI 16 a w = nI md := by rw [← hw]; simp [z_gI, z_pR, z_pI, z_nO, z_up]
  have w17 : z_gI 17 a w = nI b := by rw [← hw]; simp [z_gI, z_pR, z_pI, z_nO, z_up]
  have w20 : z_gI 20 a w = 0 := by rw [← hw]; simp [z_gI, z_pR, z_pI, z_nO, z_up]
  have w18 : z_gR 18 a w = r1 := by rw [← hw]; simp [z_gR, z_pR, z_pI, z_nO, z_up]
  have w19 : z_gR 19 a w = r2 := by rw [← hw]; simp [z_gR, z_pR, z_pI, z_nO, z_up]
  show ∃ a3, z_gR 31 (K 0 0) (z_pR 19 a r2 (z_pR 18 a r1 (z_pI 17 a (nI b) (z_pI 16 a (nI md) (z_pI 20 a 0 (z_nO 5 a u)))))) = some a3 ∧ _
  rw [hw]
  refine ⟨K 13 0, (wR 31 _ n0a).trans p31, ?_, ?_⟩
  · show z_kd (K 13 0) w = 1
    rw [wk, if_neg n13a]; exact k13
  · rw [wI 33 _ n0a, h33, nI_1]
    generalize hw2 : z_pI 33 (K 0 0) (nI (md + 1)) w = w2
    have xk : ∀ x, z_kd x w2 = if x = a then 5 else z_kd x u := fun x => by rw [← hw2]; exact wk x
    have xl : ∀ x, z_ln x w2 = z_ln x u := fun x => by rw [← hw2]; exact wl x
    have xI : ∀ f x, z_gI f x w2 = if f = 33 ∧ x = K 0 0 then nI (md + 1) else z_gI f x w := fun f x => by rw [← hw2]; rfl
    have xR : ∀ f x, z_gR f x w2 = z_gR f x w := fun f x => by rw [← hw2]; rfl
    have xA : ∀ x i, z_aI x i w2 = z_aI x i u := fun x i => by rw [← hw2]; exact wA x i
    have xB : ∀ x i, z_aR x i w2 = z_aR x i u := fun x i => by rw [← hw2]; exact wB x i
    have xo : ∀ x, x ≠ a → z_kd x w2 = z_kd x u := fun x hx => by rw [xk, if_neg hx]
    refine q_add (R := K 14 0) (x := a) (nm := nm) hn ?_ ?_ ?_ ?_ (fun m hm => ⟨K 15 m, ?_, ?_⟩) (fun v R' hv => ?_)
    · rw [xR, wR 36 _ n13a]; exact p36
    · rw [xI, if_neg (by omega), wI 37 _ n13a]; exact a9.1
    · rw [xk, if_pos rfl]
    · rw [xo _ n14a, xl]; exact a5.2.2.1
    · rw [xB]; exact a9.2.1 m hm
    · have := a5.m hm
      rw [xo _ (na _ (by rw [this]; decide))]; exact this
    · obtain ⟨c1, c2, c3, c4, c5, c6, c7, c8, c9, c10, c11, c12⟩ := hv
      have nR'a : R' ≠ a := fun q => by
        rcases c1 with w | w
        · exact n14a (w.symm.trans q)
        · rw [q, xk, if_pos rfl] at w; omega
      have hR'0 : R' = K 14 0 ∨ z_kd R' u = 0 := by
        rcases c1 with w | w
        · exact Or.inl w
        · right; rw [xo R' nR'a] at w; exact w
      have kz : ∀ x, z_kd x u ≠ 0 → z_kd x w2 ≠ 0 := fun x hx => by rw [xo x (na x hx)]; exact hx
      have kc : ∀ c, z_kd c u = 6 → z_kd c v = 6 ∧ c ≠ K 0 0 := fun c hc => ⟨by rw [(c4 c (kz c (by rw [hc]; decide))).1, xo c (na c (by rw [hc]; decide))]; exact hc, fun q => by rw [q, k0] at hc; omega⟩
      have hAF : q_AF K nm md b r1 r2 a R' u v := by
        have ka : z_kd a w2 ≠ 0 := by rw [xk, if_pos rfl]; decide
        refine ⟨ha, hR'0, nR'a, fun x hx => ?_, ?_, ⟨c2, c3⟩, fun f x h1 h2 h3 => ?_, fun f x h1 h2 => ?_, fun x i hx => ?_, fun x i hx h2 => ?_, fun m hm => ?_, c8, ?_, ?_, ?_, ?_, ?_, ?_, c10, c12⟩
        · rw [(c4 x (kz x hx)).1, (c4 x (kz x hx)).2, xo x (na x hx), xl]; exact ⟨rfl, rfl⟩
        · rw [(c4 a ka).1, xk, if_pos rfl]
        · rw [c9 f x h3, xI, if_neg (fun q => by rcases h2 with w | w; exact w q.1; exact w q.2), wI f x h1]
        · rw [c11 f x h2, xR, wR f x h1]
        · rw [c5 x i (kz x hx), xA]
        · rw [c6 x i (kz x hx) h2, xB]
        · rw [c7 m hm, xB]
        · rw [c9 16 a (Or.inl (by omega)), xI, if_neg (by omega), w16]
        · rw [c9 17 a (Or.inl (by omega)), xI, if_neg (by omega), w17]
        · rw [c9 20 a (Or.inl (by omega)), xI, if_neg (by omega), w20]
        · rw [c11 18 a (Or.inl (by omega)), xR, w18]
        · rw [c11 19 a (Or.inl (by omega)), xR, w19]
        · rw [c9 33 _ (Or.inl (by omega)), xI, if_pos ⟨rfl, rfl⟩]
      refine q_holdC (fun c hc => kc c (hr1 c hc)) (q_holdC (fun c hc => ?_) ?_)
      · obtain ⟨d1, d2⟩ := kc c (hr2 c hc)
        refine ⟨?_, d2⟩
        cases r1 with
        | none => exact d1
        | some c1 => exact ((q_hold_o (K 0 0) c1 v).1 c).trans d1
      · have e16 : z_gI 16 a (q_hox (K 0 0) r2 (q_hox (K 0 0) r1 v)) = nI md := by
          have h16 : z_gI 16 a v = nI md := hAF.2.2.2.2.2.2.2.2.2.2.2.2.1
          have st : ∀ (o : Option Nat) (w : z_St), z_gI 16 a (q_hox (K 0 0) o w) = z_gI 16 a w := fun o w => by
            cases o with
            | none => rfl
            | some c => exact (q_hold_g (K 0 0) c w 16 a).trans (by rw [if_neg (by omega), if_neg (by omega)])
          rw [st, st, h16]
        rw [e16]
        exact kk a R' v hAF
end OM2
