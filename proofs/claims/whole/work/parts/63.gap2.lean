/-! a gap begun, a gap grown: the relation goes on -/
section OJ
variable {t0 ti mi nb nm md N : Nat} {M : z_Md} {S : Nat → Nat} {C : Nat → Nat → Nat} {E : Nat → Nat → Int32 × Int32} {K : Nat → Nat → Nat} {u : z_St} {px : String → z_St → Prop}
theorem q_gap2_W {l r : Nat} {y : Int32} {M1 : z_Md} {v : z_St} (h : q_W t0 N (z_up M 25 l 0) S C E nb nm md K u) (hN : N + 1 ≤ 64) (hl : l < 3) (hbz : ¬ M 20 l = 0) (hr : r < 48) (hlr : M 23 l = nI r) (h24 : M 24 l = 0) (h2 : 2 ≤ S r) (hq2z : ∀ j, j < 2 → (E r (S r - 1 - j)).1 = 0) (hN2 : 2 ≤ N)
    (hf : ∀ f, f ≠ 2 → f ≠ 3 → f ≠ 4 → f ≠ 9 → f ≠ 28 → f ≠ 29 → M1 f = M f) (m2 : ∀ x, M1 2 x = if x = C r ((S r - 1) / 4) then nI ((S r - 1) % 4) else M 2 x) (m28 : M1 28 = q_u (M 28) l 0) (m29 : M1 29 = q_u (M 29) l 0)
    (hP1 : q_P (N + 1) M1 (q_u S r (S r - 1)) C (z_up E r (S r - 2) (3, (E r (S r - 2)).2))) (hD : q_G2 K l r (S r) C u v) (hy : y = 3) :
    q_W t0 (N + 1) (z_up (z_up M1 27 l (nI (min 3 3))) 25 l 0) (q_u S r (S r - 1)) C (z_up E r (S r - 2) (3, (E r (S r - 2)).2)) nb nm md K (z_pI 23 (K 16 r) (z_gI 23 (K 16 r) v + 8) (z_pI 24 (K 16 r) (z_gI 24 (K 16 r) v + (-1)) (z_pI 13 (K 11 l) y v))) := by
  have h' := h
  obtain ⟨a1, a2, a3, a4, a5, a6, a7, a8, a9, a10, a11, a12⟩ := h
  have hlv : q_lv (z_up M 25 l 0) r := Or.inr (a4.l23 hl hr hbz hlr)
  have hSN := (a2.1 r hr).2
  obtain ⟨c1, c2, c3, c4, c5, c6, c7, c8⟩ := (a10 l hl).2 hbz
  obtain ⟨r21, r22, r24, r23, r25⟩ := a11 r hr hlv
  rw [if_neg (by omega)] at r21 r22
  have hvr : q_vd (z_up M 25 l 0) nm 16 r := Or.inr (Or.inr ⟨rfl, hr, hlv⟩)
  have v00 : ∀ f j, f ≤ 14 → j < q_fs f → q_vd (z_up M 25 l 0) nm f j := fun f j h1 h2 => Or.inl ⟨h1, h2⟩
  obtain ⟨d1, d2, d3, d4, d5, d6, d7, d8, d9, d10, d11, d12, d13, d14⟩ := hD
  have gI : ∀ f a, f ≠ 13 → f ≠ 23 → f ≠ 24 → z_gI f a (z_pI 23 (K 16 r) (z_gI 23 (K 16 r) v + 8) (z_pI 24 (K 16 r) (z_gI 24 (K 16 r) v + (-1)) (z_pI 13 (K 11 l) y v))) = z_gI f a v := fun f a h1 h2 h3 => by simp [z_gI, z_pI, z_up, h1, h2, h3]
  have hSs : q_u S r (S r - 1) r = S r - 1 := q_u_s S r _
  have hSx : ∀ z, z ≠ r → q_u S r (S r - 1) z = S z := fun z hz => q_u_n S _ hz
  have hEo : ∀ z i, ¬ (z = r ∧ i = S r - 2) → z_up E r (S r - 2) (3, (E r (S r - 2)).2) z i = E z i := fun z i hn => by rw [z_up_e]; exact if_neg hn
  have hEn : z_up E r (S r - 2) (3, (E r (S r - 2)).2) r (S r - 2) = (3, (E r (S r - 2)).2) := z_up_s E r _ _
  have hEr : ∀ i, i < S r - 2 → z_up E r (S r - 2) (3, (E r (S r - 2)).2) r i = E r i := fun i hi => hEo r i (fun q => by omega)
  have hcc := a2.2.2.2.2.2.2.2.1
  have hcnt := a2.2.2.2.1
  have hC40 := a2.2.2.1
  have hkb : (S r - 1) / 4 < q_nb (S r) := by unfold q_nb; omega
  have hkb2 : (S r - 2) / 4 < q_nb (S r) := by unfold q_nb; omega
  have hB := hC40 r _ hr hkb
  have hB2 := hC40 r _ hr hkb2
  have hK3 : ∀ f z k z' k', (f = 3 ∨ f = 4) → z < 48 → k < q_nb (S z) → z' < 48 → k' < q_nb (S z') → K f (C z k) = K f (C z' k') → z = z' ∧ k = k' := fun f z k z' k' hf3 h1 h2 h3 h4 e => by
    rcases hf3 with rfl | rfl
    · exact hcc z k z' k' h1 h2 h3 h4 (a5.2.2.2 _ _ _ _ (v00 3 _ (by omega) (hC40 z k h1 h2)) (v00 3 _ (by omega) (hC40 z' k' h3 h4)) e).2
    · exact hcc z k z' k' h1 h2 h3 h4 (a5.2.2.2 _ _ _ _ (v00 4 _ (by omega) (hC40 z k h1 h2)) (v00 4 _ (by omega) (hC40 z' k' h3 h4)) e).2
  refine h'.frame (r := r) (by omega) hl hbz hr hlr (fun f f0 f2 f3 f4 f5 f8 f9 f24 f25 f26 f27 f28 f29 f30 f31 => ?_) (fun z hz => ?_) (fun z hz => ?_) (fun z j _ _ => ?_) (fun z hz => ?_) (fun z hz => ?_) (fun z hz => ?_) (Or.inl ?_) ⟨0, by omega, ?_⟩ (hP1.fr ?_ ?_ ?_ ?_ ?_ ?_) hSx (fun z hz => funext fun i => hEo z i (fun q => hz q.1)) (fun z hz => rfl) d1 d2 (fun f a h2 h3 h4 => ?_) (fun f a h3 h4 => d8 f a h3 (by rcases h4 with w | w; exact Or.inl w.2; exact Or.inr w)) d12 (fun a j h5 _ => ?_) ?_ ?_ ?_
  · rw [z_up_f _ _ _ f25, z_up_f _ _ _ f27, hf f f2 f3 f4 f9 f28 f29, z_up_f _ _ _ f25]
  · show M1 24 z = M 24 z
    rw [hf 24 (by omega) (by omega) (by omega) (by omega) (by omega) (by omega)]
  · have e := hf 25 (by omega) (by omega) (by omega) (by omega) (by omega) (by omega)
    simp [z_up, hz, e]
  · show M1 26 _ = M 26 _
    rw [hf 26 (by omega) (by omega) (by omega) (by omega) (by omega) (by omega)]
  · have e := hf 27 (by omega) (by omega) (by omega) (by omega) (by omega) (by omega)
    simp [z_up, hz, e]
  · show M1 28 z = M 28 z
    rw [m28]; exact q_u_n _ _ hz
  · show M1 29 z = M 29 z
    rw [m29]; exact q_u_n _ _ hz
  · show M1 24 l = 0
    rw [hf 24 (by omega) (by omega) (by omega) (by omega) (by omega) (by omega)]; exact h24
  · simp [z_up]; rfl
  · funext z; simp [z_up]
  · funext z; simp [z_up]
  · funext z; simp [z_up]
  · funext z; simp [z_up]
  · funext z; simp [z_up]
  · funext z; simp [z_up]
  · have e : z_gI f a (z_pI 23 (K 16 r) (z_gI 23 (K 16 r) v + 8) (z_pI 24 (K 16 r) (z_gI 24 (K 16 r) v + (-1)) (z_pI 13 (K 11 l) y v))) = z_gI f a v := by
      rcases h3 with w | w
      · rcases h4 with w2 | w2
        · exact gI f a w.2.2.1 w2.1 w2.2
        · simp [z_gI, z_pI, z_up, w, w2]
      · rcases h4 with w2 | w2
        · simp [z_gI, z_pI, z_up, w, w2]
        · simp [z_gI, z_pI, z_up, w, w2]
    rw [e]
    refine d3 f a h2 ?_
    rcases h3 with w | w
    · exact Or.inl ⟨w.2.2.2.1, w.2.2.2.2⟩
    · exact Or.inr w
  · exact d13 a j (fun q => (h5 _ hB2).1 q.1)
  · obtain ⟨b1, b2, b3, b4⟩ := a7
    refine ⟨fun z hz => ?_, fun z hz hzz => ?_, fun z k hz hk => ?_, fun z i hz hi => ?_⟩
    · rw [gI 2 _ (by omega) (by omega) (by omega)]
      have e : z_up (z_up M1 27 l (nI (min 3 3))) 25 l 0 2 z = M1 2 z := by simp [z_up]
      rw [e, m2]
      by_cases w : z = C r ((S r - 1) / 4)
      · rw [if_pos w, w]; exact d5
      · have hn : K 3 z ≠ K 3 (C r ((S r - 1) / 4)) := a5.ne (v00 3 z (by omega) hz) (v00 3 _ (by omega) hB) (Or.inr w)
        rw [if_neg w, d4 _ hn]
        exact b1 z hz
    · have e : z_up (z_up M1 27 l (nI (min 3 3))) 25 l 0 2 z = M1 2 z := by simp [z_up]
      rw [e, m2] at hzz
      show z_gR 3 (K 3 z) v = none
      by_cases w : z = C r ((S r - 1) / 4)
      · rw [if_pos w] at hzz
        have hm : (S r - 1) % 4 = 0 := by
          apply Decidable.byContradiction
          intro q
          exact nI_ne0 (n := (S r - 1) % 4) (by omega) (by omega) hzz
        rw [w, d10 _ (fun m0 e2 => by
          have := (hK3 3 r _ r _ (Or.inl rfl) hr hkb hr (by omega) e2).2
          omega), b3 r _ hr hkb, if_neg (by unfold q_nb; omega)]
      · rw [if_neg w] at hzz
        rw [d10 _ (fun m0 e2 => by
          have e3 := (a5.2.2.2 _ _ _ _ (v00 3 z (by omega) hz) (v00 3 _ (by omega) (hC40 r ((S r - 1) / 4 - 1) hr (by omega))) e2).2
          have e4 := hcnt r ((S r - 1) / 4 - 1) hr (by omega)
          rw [← e3] at e4
          have e5 : z_up M 25 l 0 2 z = 0 := hzz
          rw [e5] at e4
          exact nI_ne0 (n := min 4 (S r - 4 * ((S r - 1) / 4 - 1))) (by omega) (by omega) e4.symm)]
        exact b2 z hz hzz
    · show z_gR 3 (K 3 (C z k)) v = _
      by_cases hzr : z = r
      · subst hzr
        rw [hSs] at hk ⊢
        have hko : k < q_nb (S z) := by unfold q_nb at *; omega
        by_cases hlast : (S z - 1) % 4 = 0 ∧ k = (S z - 1) / 4 - 1
        · rw [hlast.2, d11 hlast.1, if_neg (by unfold q_nb; omega)]
        · rw [d10 _ (fun m0 e2 => by
            have := (hK3 3 z _ z _ (Or.inl rfl) hz hko hz (by omega) e2).2
            exact hlast ⟨m0, this⟩), b3 z k hz hko]
          by_cases w : k + 1 < q_nb (S z)
          · rw [if_pos w, if_pos (by unfold q_nb at *; omega)]
          · rw [if_neg w, if_neg (by unfold q_nb at *; omega)]
      · rw [hSx z hzr] at hk ⊢
        rw [d10 _ (fun m0 e2 => hzr (hK3 3 z _ r _ (Or.inl rfl) hz hk hr (by omega) e2).1)]
        exact b3 z k hz hk
    · show z_aI (K 4 (C z (i / 4))) (i % 4) v = _ ∧ (_ → ∀ j, j < 8 → z_aI (K 5 (C z (i / 4))) (8 * (i % 4) + j) v = _)
      have hio : i < S z := by
        by_cases hzr : z = r
        · subst hzr; rw [hSs] at hi; omega
        · rw [hSx z hzr] at hi; exact hi
      have hk : i / 4 < q_nb (S z) := by unfold q_nb; omega
      obtain ⟨g1, g2⟩ := b4 z i hz hio
      by_cases hn : z = r ∧ i = S r - 2
      · obtain ⟨rfl, rfl⟩ := hn
        rw [hEn]
        exact ⟨d14, fun w => absurd w (show ¬ (3 : Int32) = 0 by decide)⟩
      · have hEz := hEo z i hn
        have hsnd : ∀ j, q_snd (z_up E r (S r - 2) (3, (E r (S r - 2)).2) z) i j = q_snd (E z) i j := fun j => q_snd_cong (fun k hk => hEo z k (fun q => by
          by_cases hzr : z = r
          · subst hzr; rw [hSs] at hi; exact hn ⟨rfl, by omega⟩
          · exact hzr q.1)) j
        rw [hEz]
        have hne : ¬ (K 4 (C z (i / 4)) = K 4 (C r ((S r - 2) / 4)) ∧ i % 4 = (S r - 2) % 4) := fun q => by
          obtain ⟨e1, e2⟩ := hK3 4 z _ r _ (Or.inr rfl) hz hk hr hkb2 q.1
          exact hn ⟨e1, by omega⟩
        refine ⟨(d13 _ _ hne).trans g1, fun w j hj => ?_⟩
        rw [hsnd, d13 _ _ (fun q => absurd q.1 (a5.ne (v00 5 _ (by omega) (hC40 z _ hz hk)) (v00 4 _ (by omega) hB2) (Or.inl (by omega))))]
        exact g2 w j hj
  · have e20 : z_up (z_up M1 27 l (nI (min 3 3))) 25 l 0 20 l = M 20 l := congrFun (hf 20 (by omega) (by omega) (by omega) (by omega) (by omega) (by omega)) l
    have e21 : z_up (z_up M1 27 l (nI (min 3 3))) 25 l 0 21 l = M 21 l := congrFun (hf 21 (by omega) (by omega) (by omega) (by omega) (by omega) (by omega)) l
    have e22 : z_up (z_up M1 27 l (nI (min 3 3))) 25 l 0 22 l = M 22 l := congrFun (hf 22 (by omega) (by omega) (by omega) (by omega) (by omega) (by omega)) l
    have e23 : z_up (z_up M1 27 l (nI (min 3 3))) 25 l 0 23 l = M 23 l := congrFun (hf 23 (by omega) (by omega) (by omega) (by omega) (by omega) (by omega)) l
    have e24 : z_up (z_up M1 27 l (nI (min 3 3))) 25 l 0 24 l = M 24 l := congrFun (hf 24 (by omega) (by omega) (by omega) (by omega) (by omega) (by omega)) l
    have e25 : z_up (z_up M1 27 l (nI (min 3 3))) 25 l 0 25 l = 0 := by simp [z_up]
    have e27 : z_up (z_up M1 27 l (nI (min 3 3))) 25 l 0 27 l = nI (min 3 3) := by simp [z_up]
    have e28 : z_up (z_up M1 27 l (nI (min 3 3))) 25 l 0 28 l = 0 := by show M1 28 l = _; rw [m28]; exact q_u_s _ _ _
    have e29 : z_up (z_up M1 27 l (nI (min 3 3))) 25 l 0 29 l = 0 := by show M1 29 l = _; rw [m29]; exact q_u_s _ _ _
    have eqs : q_s (z_up (z_up M1 27 l (nI (min 3 3))) 25 l 0) l = (0, 0) := by
      show (z_up (z_up M1 27 l (nI (min 3 3))) 25 l 0 28 l, z_up (z_up M1 27 l (nI (min 3 3))) 25 l 0 29 l) = _
      rw [e28, e29]
    unfold q_wl q_wG
    rw [eqs, e20, e21, e22, e23, e24, e25, e27, e28, e29]
    refine ⟨?_, fun _ => ⟨?_, ?_, ?_, ?_, ⟨?_, by decide⟩, fun j hj => ?_, fun _ => rfl, fun _ => ⟨?_, ?_, fun r' hr' er => ?_⟩⟩⟩
    · rw [gI 8 _ (by omega) (by omega) (by omega), d3 8 _ (by omega) (Or.inl (by omega))]; exact (a10 l hl).1
    · rw [gI 9 _ (by omega) (by omega) (by omega), d3 9 _ (by omega) (Or.inl (by omega))]; exact c1
    · rw [gI 10 _ (by omega) (by omega) (by omega), d3 10 _ (by omega) (Or.inl (by omega))]; exact c2
    · rw [gI 11 _ (by omega) (by omega) (by omega), d3 11 _ (by omega) (Or.inl (by omega))]; exact c3
    · exact (d8 12 _ (by omega) (Or.inl (by omega))).trans c4
    · rw [gI 7 _ (by omega) (by omega) (by omega), d3 7 _ (by omega) (Or.inl (by omega))]
      have := c5.1
      rw [z_up_s] at this
      exact this
    · have hz : (0 : Int32).toNatClampNeg = 0 := by decide
      omega
    · rw [gI 14 _ (by omega) (by omega) (by omega)]; exact d6
    · rw [gI 15 _ (by omega) (by omega) (by omega)]; exact d7
    · rw [hlr] at er
      have : r = r' := (nI_eq (by omega) (by omega)).mp er
      subst this
      rw [hSs]
      have e1 : S r - 1 = (S r - 2) + 1 := by omega
      refine ⟨?_, 3, by omega, ?_, rfl, fun w => by omega, fun _ => ⟨by omega, ?_⟩⟩
      · rw [e1]
        show (0, 0) = if (z_up E r (S r - 2) (3, (E r (S r - 2)).2) r (S r - 2)).1 = 0 then _ else _
        rw [hEn, if_neg (show ¬ (3 : Int32) = 0 by decide)]
      · simp [z_gI, z_pI, z_up, hy]; rfl
      · have e2 : S r - 1 - 1 = S r - 2 := by omega
        rw [e2, hEn]; rfl
  · have e23 : z_gI 23 (K 16 r) v = 8 * q_fm (E r) (S r) := (d3 23 _ (by omega) (Or.inl (by omega))).trans r23
    have e24 : z_gI 24 (K 16 r) v = q_cs (E r) (S r) := (d3 24 _ (by omega) (Or.inl (by omega))).trans r24
    have g24 : z_gI 24 (K 16 r) (z_pI 23 (K 16 r) (z_gI 23 (K 16 r) v + 8) (z_pI 24 (K 16 r) (z_gI 24 (K 16 r) v + (-1)) (z_pI 13 (K 11 l) y v))) = z_gI 24 (K 16 r) v + (-1) := by simp [z_gI, z_pI, z_up]
    have g23 : z_gI 23 (K 16 r) (z_pI 23 (K 16 r) (z_gI 23 (K 16 r) v + 8) (z_pI 24 (K 16 r) (z_gI 24 (K 16 r) v + (-1)) (z_pI 13 (K 11 l) y v))) = z_gI 23 (K 16 r) v + 8 := by simp [z_gI, z_pI, z_up]
    have g25 := gI 25 (K 16 r) (by omega) (by omega) (by omega)
    have e1 : S r - 1 = (S r - 2) + 1 := by omega
    have e2 : S r = (S r - 2) + 1 + 1 := by omega
    have z1 := hq2z 0 (by omega)
    have z2 := hq2z 1 (by omega)
    have i1 : S r - 1 - 0 = (S r - 2) + 1 := by omega
    have i2 : S r - 1 - 1 = S r - 2 := by omega
    rw [i1] at z1
    rw [i2] at z2
    have hcs : q_cs (z_up E r (S r - 2) (3, (E r (S r - 2)).2) r) (S r - 2) = q_cs (E r) (S r - 2) := q_cs_cong (fun i hi => by rw [hEr i hi])
    have hfm : q_fm (z_up E r (S r - 2) (3, (E r (S r - 2)).2) r) (S r - 2) = q_fm (E r) (S r - 2) := q_fm_cong (fun i hi => by rw [hEr i hi])
    have o1 : q_cs (E r) (S r) = q_cs (E r) (S r - 2) + 1 + 1 := by
      have : q_cs (E r) ((S r - 2) + 1 + 1) = q_cs (E r) (S r - 2) + (if (E r (S r - 2)).1 = 0 then 1 else ((E r (S r - 2)).1 + 3) / 4) + (if (E r ((S r - 2) + 1)).1 = 0 then 1 else ((E r ((S r - 2) + 1)).1 + 3) / 4) := rfl
      rw [← e2, z1, z2, if_pos rfl] at this
      exact this
    have o2 : q_fm (E r) (S r) = q_fm (E r) (S r - 2) + 1 + 1 := by
      have : q_fm (E r) ((S r - 2) + 1 + 1) = q_fm (E r) (S r - 2) + (if (E r (S r - 2)).1 = 0 then 1 else (E r (S r - 2)).1) + (if (E r ((S r - 2) + 1)).1 = 0 then 1 else (E r ((S r - 2) + 1)).1) := rfl
      rw [← e2, z1, z2, if_pos rfl] at this
      exact this
    have w1 : q_cs (z_up E r (S r - 2) (3, (E r (S r - 2)).2) r) (S r - 1) = q_cs (E r) (S r - 2) + 1 := by
      rw [e1]
      show q_cs _ (S r - 2) + (if (z_up E r (S r - 2) (3, (E r (S r - 2)).2) r (S r - 2)).1 = 0 then 1 else ((z_up E r (S r - 2) (3, (E r (S r - 2)).2) r (S r - 2)).1 + 3) / 4) = _
      rw [hEn, hcs, if_neg (show ¬ (3 : Int32) = 0 by decide)]
      have e34 : ((3 : Int32) + 3) / 4 = 1 := by decide
      show q_cs (E r) (S r - 2) + ((3 : Int32) + 3) / 4 = _
      rw [e34]
    have w2 : q_fm (z_up E r (S r - 2) (3, (E r (S r - 2)).2) r) (S r - 1) = q_fm (E r) (S r - 2) + 3 := by
      rw [e1]
      show q_fm _ (S r - 2) + (if (z_up E r (S r - 2) (3, (E r (S r - 2)).2) r (S r - 2)).1 = 0 then 1 else (z_up E r (S r - 2) (3, (E r (S r - 2)).2) r (S r - 2)).1) = _
      rw [hEn, hfm, if_neg (show ¬ (3 : Int32) = 0 by decide)]
    rw [g25, hSs, g24, g23, e23, e24, w1, w2, o1, o2]
    refine ⟨?_, ?_, ?_, ?_, ?_⟩
    · rw [if_neg (show ¬ S r - 1 = 0 by omega)]
      exact (d8 21 _ (by omega) (Or.inl (by omega))).trans r21
    · have e3 : (S r - 1 - 1) / 4 = (S r - 2) / 4 := by omega
      rw [if_neg (show ¬ S r - 1 = 0 by omega), e3]
      exact d9
    · rw [Int32.add_assoc, Int32.add_assoc]
      rfl
    · rw [Int32.add_assoc, Int32.mul_add, Int32.mul_add, Int32.add_assoc, Int32.mul_add]
      rfl
    · rw [d3 25 _ (by omega) (Or.inl (by omega))]; exact r25
end OJ
