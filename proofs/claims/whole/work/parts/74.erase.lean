/-! erase, both sides -/
section ON
variable {t0 ti mi nb nm md N N' : Nat} {pn pn' : Nat → Nat} {M M' : z_Md} {S S' : Nat → Nat} {C C' : Nat → Nat → Nat} {E E' : Nat → Nat → Int32 × Int32} {K K' : Nat → Nat → Nat} {u u' : z_St} {px : String → z_St → Prop}
def q_KR (K : Nat → Nat → Nat) (m : Nat) : Nat → Nat → Nat := fun f j => if f = 15 then K 15 (q_sk m j) else K f j
theorem q_KR_0 (K : Nat → Nat → Nat) (m j : Nat) : q_KR K m 0 j = K 0 j := rfl
theorem q_KR_16 (K : Nat → Nat → Nat) (m j : Nat) : q_KR K m 16 j = K 16 j := rfl
theorem q_dU_19 {K : Nat → Nat → Nat} {r : Nat} {a : Nat} (h : q_dU K C S M r u u') : z_gR 19 a u' = z_gR 19 a u := h.2.2.2.2.2.1 19 a (by omega) (by omega) (by omega)
/-- one or two hands opened -/
theorem q_rel2 {post : Int32 → z_St → Prop} {r : Nat} {x19 : Int32} {a4 h0 : Nat} (hV : q_Wp pn t0 N M S C E nb nm md K u) (e0 : K 0 0 = h0) (hr : r < 48) (hx : q_rn x19) (hpn : ∀ x, x < 48 → pn x = (if nI r = nI x then 1 else 0) + (if x19 = nI x then 1 else 0))
    (h18 : z_gR 18 a4 u = some (K 16 r)) (h19 : z_gR 19 a4 u = q_rf K x19)
    (kk : ∀ u' S' v1 v2 M2, q_W t0 N M2 S' C E nb nm md K u' → (∀ M0 : z_Md, M0 2 = M 2 → M0 3 = M 3 → M0 4 = M 4 → M0 5 = M 5 → M0 6 = M 6 → M0 8 = M 8 → M0 9 = M 9 → ∀ (p1 p2 : Int32 → z_Md → Prop), ((∀ f, f ≠ 2 → f ≠ 6 → f ≠ 9 → q_dm M0 S C r f = M0 f) → w_X7_letGo p2 (q_dm M0 S C r) x19 → p1 v1 (q_dm M0 S C r)) → (∀ M1 : z_Md, (∀ f, f ≠ 2 → f ≠ 6 → f ≠ 9 → M1 f = M0 f) → (∀ f, f = 2 ∨ f = 6 ∨ f = 9 → M1 f = M2 f) → p2 v2 M1) → w_X7_letGo p1 M0 (nI r)) → (∀ f, f ≠ 2 → f ≠ 6 → f ≠ 9 → M2 f = M f) → post (v1 + v2) u') (hN : N ≤ 64) :
    w_X6_release (fun r7 u7 => w_X6_release (fun r8 u8 => post (r7 + r8) u8) t0 mi h0 u7 (z_gR 19 a4 u7)) t0 mi h0 u (z_gR 18 a4 u) := by
  subst e0
  rw [h18]
  have hpr : 0 < pn r := by rw [hpn r hr, if_pos rfl]; omega
  refine q_relC hV hr hpr (fun u1 hu1 => ?_)
  have h19' : z_gR 19 a4 u1 = q_rf K x19 := (q_dU_19 hu1).trans h19
  rw [h19']
  have hP := hV.2.1
  have hdM := q_dm_dM (E := E) hP hr
  have V1 := hV.rel hr hpr hdM hu1
  have hn1 := q_users1 hV hr hpr
  rcases hx with rfl | ⟨r', hr', rfl⟩
  · refine q_relC_n ?_
    have W1 := V1.w (fun x hx => by
      have := hpn x hx
      have hne : ¬ (-1 : Int32) = nI x := fun q => nI_pos (n := x) (by omega) (by rw [← q]; decide)
      rw [if_neg hne] at this
      by_cases q : x = r
      · rw [if_pos q]
        subst q
        rw [if_pos rfl] at this
        omega
      · rw [if_neg q, this, if_neg (fun z => q ((nI_eq (by omega) (by omega)).mp z).symm)])
    refine kk u1 _ (q_dv M S r) 0 _ W1 (fun M0 e2 e3 e4 e5 e6 e8 e9 p1 p2 g1 g2 => ?_) (fun f f2 f6 f9 => q_dm_f f2 f6 f9)
    have e6r : M0 6 r = M 6 r := by rw [e6]
    have hdv : q_dv M S r = q_dv M0 S r := by unfold q_dv; rw [e6r]
    have hP0 : q_P N M0 S C E := hP.fr e2 e3 e4 e5 e8 e9
    refine q_letGoX hP0 hN hr (by rw [e6r]; exact hn1) ?_
    rw [← hdv]
    exact g1 (fun f f2 f6 f9 => q_dm_f f2 f6 f9) (q_letGo_n (g2 _ (fun f f2 f6 f9 => q_dm_f f2 f6 f9) (fun f hf => q_dm_c S C hf e2 e6 e9)))
  · rw [q_rf_s K hr']
    have hpr' : 0 < (fun x => if x = r then pn x - 1 else pn x) r' := by
      have := hpn r' hr'
      dsimp only
      rw [if_pos rfl] at this
      by_cases q : r' = r
      · subst q; rw [if_pos rfl] at this; rw [if_pos rfl]; omega
      · rw [if_neg q]; omega
    refine q_relC V1 hr' hpr' (fun u2 hu2 => ?_)
    have hP1 := V1.2.1
    have hdM2 := q_dm_dM (E := E) hP1 hr'
    have V2 := V1.rel hr' hpr' hdM2 hu2
    have hn2 := q_users1 V1 hr' hpr'
    have W2 := V2.w (fun x hx => by
      have := hpn x hx
      have i1 : nI r = nI x ↔ x = r := by rw [nI_eq (by omega) (by omega)]; exact eq_comm
      have i2 : nI r' = nI x ↔ x = r' := by rw [nI_eq (by omega) (by omega)]; exact eq_comm
      simp only [i1, i2] at this
      by_cases q : x = r <;> by_cases q' : x = r' <;> simp only [q, q', if_true, if_false] at this ⊢ <;> (try omega)
      all_goals (by_cases z : r = r' <;> simp_all <;> omega))
    refine kk u2 _ (q_dv M S r) (q_dv (q_dm M S C r) (q_dS M S r) r') _ W2 (fun M0 e2 e3 e4 e5 e6 e8 e9 p1 p2 g1 g2 => ?_) (fun f f2 f6 f9 => by rw [q_dm_f f2 f6 f9, q_dm_f f2 f6 f9])
    have e6r : M0 6 r = M 6 r := by rw [e6]
    have hdv : q_dv M S r = q_dv M0 S r := by unfold q_dv; rw [e6r]
    have hdS : q_dS M S r = q_dS M0 S r := by unfold q_dS; rw [e6r]
    have hP0 : q_P N M0 S C E := hP.fr e2 e3 e4 e5 e8 e9
    have d2 : q_dm M0 S C r 2 = q_dm M S C r 2 := q_dm_c S C (by omega) e2 e6 e9
    have d6 : q_dm M0 S C r 6 = q_dm M S C r 6 := q_dm_c S C (by omega) e2 e6 e9
    have d9 : q_dm M0 S C r 9 = q_dm M S C r 9 := q_dm_c S C (by omega) e2 e6 e9
    have d6r : q_dm M0 S C r 6 r' = q_dm M S C r 6 r' := by rw [d6]
    have hdv2 : q_dv (q_dm M S C r) (q_dS M S r) r' = q_dv (q_dm M0 S C r) (q_dS M S r) r' := by unfold q_dv; rw [d6r]
    have hP10 : q_P N (q_dm M0 S C r) (q_dS M S r) C E := by
      rw [hdS]; exact (q_dm_dM (E := E) hP0 hr).2.2.2.2
    refine q_letGoX hP0 hN hr (by rw [e6r]; exact hn1) ?_
    rw [← hdv]
    refine g1 (fun f f2 f6 f9 => q_dm_f f2 f6 f9) (q_letGoX hP10 hN hr' (by rw [d6r]; exact hn2) ?_)
    rw [← hdv2]
    refine g2 _ (fun f f2 f6 f9 => by rw [q_dm_f f2 f6 f9, q_dm_f f2 f6 f9]) (fun f hf => q_dm_c _ C hf d2 d6 d9)
theorem q_op_erase {x : Int32} (hN : N ≤ 64) (h : q_W t0 N M S C E nb nm md K u) : w_X6_erase (q_ok1 t0 (N + 1) (K 0 0) (fun post => w_X7_erase post M x)) (q_okx t0 (N + 1) (K 0 0) (fun post => w_X7_erase post M x) [("java/util/NoSuchElementException", 1)]) t0 mi (K 0 0) u x := by
  have h' := h
  obtain ⟨a1, a2, a3, a4, a5, a6, a7, a8, a9, a10, a11, a12⟩ := h
  have p31 := a6.2.2.2.2.2.2.2.2.2.2.1
  have p36 := a6.2.2.2.2.2.2.2.2.2.2.2
  have k13 : z_kd (K 13 0) u = 1 := a5.k 13 0 (by omega) (by decide)
  have hn16 := a3.2.1.2
  refine q_placeOf a3 a5 a6 a9 (fun m hm em => ?_) (fun hn => ?_)
  · have hk14 : z_kd (K 14 0) u = 15 ∧ nm ≤ z_ln (K 14 0) u ∧ z_ln (K 14 0) u ≤ 22 := by
      rcases a5.2.2.1 with ⟨z1, z2, z3⟩ | ⟨z1, z2, -⟩
      · exact ⟨z1, z2, by omega⟩
      · omega
    refine ⟨_, p31, k13, q_get hn16 a5 a6 a9 hm ⟨_, rfl, a5.m hm, _, p31, k13, ?_⟩⟩
    refine q_remove (R := K 14 0) (n := nm) hn16 hm p36 a9.1 hk14.1 hk14.2 (fun j hj => ⟨K 15 j, a9.2.1 j hj, a5.m hj⟩) (fun v hv => ?_)
    obtain ⟨⟨bm, hbm, ebm⟩, ⟨r, hr, er⟩, hx, -⟩ := a3.2.2.2.1 m hm
    have hb2 : ∀ x : Nat, (if M 18 m = nI x then 1 else 0) + (if M 19 m = nI x then 1 else 0) ≤ 3 := fun x => by split <;> split <;> omega
    have hW0 := h'.up0 0
    have V : q_Wp (fun x => (if nI r = nI x then 1 else 0) + (if M 19 m = nI x then 1 else 0)) t0 N (q_sh (z_up M 0 0 0) m (nm - 1)) S C E nb (nm - 1) md (q_KR K m) v := by
      refine q_Wp.remm hW0.p hm (fun x _ => ?_) (fun x _ => ?_) (fun f f13 f15 f16 f17 f18 f19 => q_sh_f f13 (by omega)) ?_ (fun f j h1 h2 hj => ?_) hv
      · rw [← er, Nat.zero_add]; rfl
      · have := hb2 x
        rw [er] at this
        exact this
      · unfold q_sh q_sM
        rw [if_neg (by omega), z_up_s]
      · unfold q_sh q_sM q_sk
        have ez : ∀ y, z_up (z_up M 0 0 0) 13 0 (nI (nm - 1)) f y = z_up M 0 0 0 f y := fun y => by rw [z_up_f _ _ _ (by omega)]
        rw [ez, ez]
        by_cases q : j < m
        · rw [if_pos q, if_neg (by omega)]
        · rw [if_neg q, if_pos (by omega)]
    obtain ⟨m16, m17, m20, m18, m19⟩ := a9.2.2 m hm
    have w4 := hv.2.2.2.1
    refine q_rel2 (K := q_KR K m) V rfl hr hx (fun x _ => rfl) ?_ ?_ (fun u2 S2 v1 v2 M2 W2 hlg hMf => ?_) hN
    · rw [w4, m18, er, q_rf_s K hr]; rfl
    · rw [w4, m19]; rfl
    · dsimp only [q_ok1]
      refine q_findM a3 (fun m2 hm2 em2 => ?_) (fun q => absurd em (q m hm))
      obtain rfl := q_one a3 hm2 hm (em2.trans em.symm)
      intro y3 e3
      have hy : y3 = 0 := by rw [e3, if_pos (nI_pos' (by omega))]
      have hvm : vp_in (nI m2) 16 := vp_in_nI (by omega) (by omega)
      have hcm : (nI m2).toNatClampNeg = m2 := q_c (by omega)
      rw [hy, q_up0, hcm]
      refine ⟨fun _ => ⟨hvm, ?_⟩, fun q => absurd q_le0 q⟩
      have e18 : z_up M 0 0 0 18 m2 = nI r := er
      rw [e18]
      refine hlg (z_up M 0 0 0) rfl rfl rfl rfl rfl rfl rfl _ (fun r8 M7 => ∃ n0, w_X7_erase_63 (fun r' M' => M' 0 0 = 0 ∧ r' = v1 + v2 ∧ q_WW t0 (N + 1) (K 0 0) M' u2) n0 (z_up M7 13 0 (M7 13 0 - 1)) (v1 + r8) (nI m2)) (fun hf0 hlet => ⟨hvm, ?_⟩) (fun M1 f1 f2 => ?_)
      · have e19 : q_dm (z_up M 0 0 0) S C r 19 m2 = M 19 m2 := by rw [hf0 19 (by omega) (by omega) (by omega)]; rfl
        rw [e19]
        exact hlet
      · have e13 : M1 13 0 = nI nm := by rw [f1 13 (by omega) (by omega) (by omega)]; exact a3.2.1.1
        have e13' : M1 13 0 - 1 = nI (nm - 1) := by rw [e13]; exact pk_sub (b := 1) (by omega)
        rw [e13']
        refine q_shiftM (n := nm - 1) (by omega) (z_up_s _ _ _ _) (by omega) ?_
        have eM : q_sM (z_up M1 13 0 (nI (nm - 1))) m2 (nm - 1) = M2 := by
          funext f y
          by_cases c : f = 2 ∨ f = 6 ∨ f = 9
          · rw [← f2 f c]
            exact congrFun (q_sh_f (M := M1) (m := m2) (n := nm - 1) (f := f) (by omega) (by omega)) y
          · rw [hMf f (by omega) (by omega) (by omega)]
            unfold q_sh q_sM
            simp only [z_up_e]
            rw [f1 f (by omega) (by omega) (by omega)]
            rfl
        rw [eM]
        refine ⟨?_, rfl, ?_⟩
        · rw [hMf 0 (by omega) (by omega) (by omega), q_sh_f (by omega) (by omega)]; rfl
        · exact W2.ww' rfl
  · refine ⟨1, by simp, ?_⟩
    refine q_findM a3 (fun m2 hm2 em2 => absurd em2 (hn m2 hm2)) (fun _ => ?_)
    intro y3 e3
    have hy : y3 = 1 := by rw [e3, if_neg (show ¬ (0 : Int32) ≤ -1 by decide)]
    rw [hy, q_up0]
    exact ⟨fun q => absurd q q_n1, fun _ => ⟨q_up0 _ _, (h'.up0 1).ww⟩⟩
end ON
