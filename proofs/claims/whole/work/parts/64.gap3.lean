/-! a gap grown -/
section OK3
variable {t0 ti mi nb nm md N : Nat} {M : z_Md} {S : Nat → Nat} {C : Nat → Nat → Nat} {E : Nat → Nat → Int32 × Int32} {K : Nat → Nat → Nat} {u : z_St} {px : String → z_St → Prop}
theorem q_gap3_W {l r q : Nat} {y : Int32} {M1 : z_Md} {v : z_St} (h : q_W t0 N (z_up M 25 l 0) S C E nb nm md K u) (hN : N + 1 ≤ 64) (hl : l < 3) (hbz : ¬ M 20 l = 0) (hr : r < 48) (hlr : M 23 l = nI r) (h24 : M 24 l = 0) (h1 : 1 ≤ S r) (hq3 : 3 ≤ q) (hqN : q ≤ N) (hEq : (E r (S r - 1)).1 = nI q)
    (hf : ∀ f, f ≠ 4 → f ≠ 28 → f ≠ 29 → M1 f = M f) (m28 : M1 28 = q_u (M 28) l 0) (m29 : M1 29 = q_u (M 29) l 0)
    (hP1 : q_P (N + 1) M1 S C (z_up E r (S r - 1) (nI (q + 1), (E r (S r - 1)).2))) (hD : q_G3 K l r (S r) q C u v) (hy : y = nI (q + 1)) :
    q_W t0 (N + 1) (z_up (z_up M1 27 l (nI (min (q + 1) 3))) 25 l 0) S C (z_up E r (S r - 1) (nI (q + 1), (E r (S r - 1)).2)) nb nm md K (z_pI 23 (K 16 r) (z_gI 23 (K 16 r) v + 8) (z_pI 24 (K 16 r) (z_gI 24 (K 16 r) v + q_more q) (z_pI 13 (K 11 l) y v))) := by
  have h' := h
  obtain ⟨a1, a2, a3, a4, a5, a6, a7, a8, a9, a10, a11, a12⟩ := h
  have hlv : q_lv (z_up M 25 l 0) r := Or.inr (a4.l23 hl hr hbz hlr)
  have hSN := (a2.1 r hr).2
  obtain ⟨c1, c2, c3, c4, c5, c6, c7, c8⟩ := (a10 l hl).2 hbz
  obtain ⟨r21, r22, r24, r23, r25⟩ := a11 r hr hlv
  have v00 : ∀ f j, f ≤ 14 → j < q_fs f → q_vd (z_up M 25 l 0) nm f j := fun f j h1 h2 => Or.inl ⟨h1, h2⟩
  obtain ⟨d1, d2, d3, d6, d7, d8, d12, d13, d14⟩ := hD
  have gI : ∀ f a, f ≠ 13 → f ≠ 23 → f ≠ 24 → z_gI f a (z_pI 23 (K 16 r) (z_gI 23 (K 16 r) v + 8) (z_pI 24 (K 16 r) (z_gI 24 (K 16 r) v + q_more q) (z_pI 13 (K 11 l) y v))) = z_gI f a v := fun f a h1 h2 h3 => by simp [z_gI, z_pI, z_up, h1, h2, h3]
  have hEo : ∀ z i, ¬ (z = r ∧ i = S r - 1) → z_up E r (S r - 1) (nI (q + 1), (E r (S r - 1)).2) z i = E z i := fun z i hn => by rw [z_up_e]; exact if_neg hn
  have hEn : z_up E r (S r - 1) (nI (q + 1), (E r (S r - 1)).2) r (S r - 1) = (nI (q + 1), (E r (S r - 1)).2) := z_up_s E r _ _
  have hEr : ∀ i, i < S r - 1 → z_up E r (S r - 1) (nI (q + 1), (E r (S r - 1)).2) r i = E r i := fun i hi => hEo r i (fun q => by omega)
  have hcc := a2.2.2.2.2.2.2.2.1
  have hC40 := a2.2.2.1
  have hkb : (S r - 1) / 4 < q_nb (S r) := by unfold q_nb; omega
  have hB := hC40 r _ hr hkb
  have qn : ¬ nI (q + 1) = 0 := nI_ne0 (by omega) (by omega)
  have qn0 : ¬ nI q = 0 := nI_ne0 (by omega) (by omega)
  refine h'.frame (r := r) (by omega) hl hbz hr hlr (fun f f0 f2 f3 f4 f5 f8 f9 f24 f25 f26 f27 f28 f29 f30 f31 => ?_) (fun z hz => ?_) (fun z hz => ?_) (fun z j _ _ => ?_) (fun z hz => ?_) (fun z hz => ?_) (fun z hz => ?_) (Or.inl ?_) ⟨0, by omega, ?_⟩ (hP1.fr ?_ ?_ ?_ ?_ ?_ ?_) (fun z hz => rfl) (fun z hz => funext fun i => hEo z i (fun q => hz q.1)) (fun z hz => rfl) d1 d2 (fun f a h2 h3 h4 => ?_) (fun f a _ _ => d8 f a) d12 (fun a j h5 _ => ?_) ?_ ?_ ?_
  · rw [z_up_f _ _ _ f25, z_up_f _ _ _ f27, hf f f4 f28 f29, z_up_f _ _ _ f25]
  · show M1 24 z = M 24 z
    rw [hf 24 (by omega) (by omega) (by omega)]
  · have e := hf 25 (by omega) (by omega) (by omega)
    simp [z_up, hz, e]
  · show M1 26 _ = M 26 _
    rw [hf 26 (by omega) (by omega) (by omega)]
  · have e := hf 27 (by omega) (by omega) (by omega)
    simp [z_up, hz, e]
  · show M1 28 z = M 28 z
    rw [m28]; exact q_u_n _ _ hz
  · show M1 29 z = M 29 z
    rw [m29]; exact q_u_n _ _ hz
  · show M1 24 l = 0
    rw [hf 24 (by omega) (by omega) (by omega)]; exact h24
  · simp [z_up]; rfl
  · funext z; simp [z_up]
  · funext z; simp [z_up]
  · funext z; simp [z_up]
  · funext z; simp [z_up]
  · funext z; simp [z_up]
  · funext z; simp [z_up]
  · have e : z_gI f a (z_pI 23 (K 16 r) (z_gI 23 (K 16 r) v + 8) (z_pI 24 (K 16 r) (z_gI 24 (K 16 r) v + q_more q) (z_pI 13 (K 11 l) y v))) = z_gI f a v := by
      rcases h3 with w | w
      · rcases h4 with w2 | w2
        · exact gI f a w.2.2.1 w2.1 w2.2
        · simp [z_gI, z_pI, z_up, w, w2]
      · rcases h4 with w2 | w2
        · simp [z_gI, z_pI, z_up, w, w2]
        · simp [z_gI, z_pI, z_up, w, w2]
    rw [e]
    refine d3 f a ?_
    rcases h3 with w | w
    · exact Or.inl ⟨w.2.2.2.1, w.2.2.2.2⟩
    · exact Or.inr w
  · exact d13 a j (fun q => (h5 _ hB).1 q.1)
  · obtain ⟨b1, b2, b3, b4⟩ := a7
    have e2 : ∀ z, z_up (z_up M1 27 l (nI (min (q + 1) 3))) 25 l 0 2 z = M 2 z := fun z => by
      have := hf 2 (by omega) (by omega) (by omega)
      simp [z_up, this]
    refine ⟨fun z hz => ?_, fun z hz hzz => ?_, fun z k hz hk => ?_, fun z i hz hi => ?_⟩
    · rw [gI 2 _ (by omega) (by omega) (by omega), e2, d3 2 _ (Or.inl (by omega))]
      exact b1 z hz
    · rw [e2] at hzz
      exact (d8 3 _).trans (b2 z hz hzz)
    · exact (d8 3 _).trans (b3 z k hz hk)
    · show z_aI (K 4 (C z (i / 4))) (i % 4) v = _ ∧ (_ → ∀ j, j < 8 → z_aI (K 5 (C z (i / 4))) (8 * (i % 4) + j) v = _)
      have hk : i / 4 < q_nb (S z) := by unfold q_nb; omega
      obtain ⟨g1, g2⟩ := b4 z i hz hi
      by_cases hn : z = r ∧ i = S r - 1
      · obtain ⟨rfl, rfl⟩ := hn
        rw [hEn]
        exact ⟨d14, fun w => absurd w qn⟩
      · have hEz := hEo z i hn
        have hsnd : ∀ j, q_snd (z_up E r (S r - 1) (nI (q + 1), (E r (S r - 1)).2) z) i j = q_snd (E z) i j := fun j => q_snd_cong (fun k hk => hEo z k (fun q => by
          by_cases hzr : z = r
          · subst hzr; exact hn ⟨rfl, by omega⟩
          · exact hzr q.1)) j
        rw [hEz]
        have hne : ¬ (K 4 (C z (i / 4)) = K 4 (C r ((S r - 1) / 4)) ∧ i % 4 = (S r - 1) % 4) := fun q => by
          have e3 := (a5.2.2.2 _ _ _ _ (v00 4 _ (by omega) (hC40 z _ hz hk)) (v00 4 _ (by omega) hB) q.1).2
          obtain ⟨e4, e5⟩ := hcc z _ r _ hz hk hr hkb e3
          exact hn ⟨e4, by omega⟩
        refine ⟨(d13 _ _ hne).trans g1, fun w j hj => ?_⟩
        rw [hsnd, d13 _ _ (fun q => absurd q.1 (a5.ne (v00 5 _ (by omega) (hC40 z _ hz hk)) (v00 4 _ (by omega) hB) (Or.inl (by omega))))]
        exact g2 w j hj
  · have e20 : z_up (z_up M1 27 l (nI (min (q + 1) 3))) 25 l 0 20 l = M 20 l := congrFun (hf 20 (by omega) (by omega) (by omega)) l
    have e21 : z_up (z_up M1 27 l (nI (min (q + 1) 3))) 25 l 0 21 l = M 21 l := congrFun (hf 21 (by omega) (by omega) (by omega)) l
    have e22 : z_up (z_up M1 27 l (nI (min (q + 1) 3))) 25 l 0 22 l = M 22 l := congrFun (hf 22 (by omega) (by omega) (by omega)) l
    have e23 : z_up (z_up M1 27 l (nI (min (q + 1) 3))) 25 l 0 23 l = M 23 l := congrFun (hf 23 (by omega) (by omega) (by omega)) l
    have e24 : z_up (z_up M1 27 l (nI (min (q + 1) 3))) 25 l 0 24 l = M 24 l := congrFun (hf 24 (by omega) (by omega) (by omega)) l
    have e25 : z_up (z_up M1 27 l (nI (min (q + 1) 3))) 25 l 0 25 l = 0 := by simp [z_up]
    have e27 : z_up (z_up M1 27 l (nI (min (q + 1) 3))) 25 l 0 27 l = nI (min (q + 1) 3) := by simp [z_up]
    have e28 : z_up (z_up M1 27 l (nI (min (q + 1) 3))) 25 l 0 28 l = 0 := by show M1 28 l = _; rw [m28]; exact q_u_s _ _ _
    have e29 : z_up (z_up M1 27 l (nI (min (q + 1) 3))) 25 l 0 29 l = 0 := by show M1 29 l = _; rw [m29]; exact q_u_s _ _ _
    have eqs : q_s (z_up (z_up M1 27 l (nI (min (q + 1) 3))) 25 l 0) l = (0, 0) := by
      show (z_up (z_up M1 27 l (nI (min (q + 1) 3))) 25 l 0 28 l, z_up (z_up M1 27 l (nI (min (q + 1) 3))) 25 l 0 29 l) = _
      rw [e28, e29]
    unfold q_wl q_wG
    rw [eqs, e20, e21, e22, e23, e24, e25, e27, e28, e29]
    refine ⟨?_, fun _ => ⟨?_, ?_, ?_, ?_, ⟨?_, by decide⟩, fun j hj => ?_, fun _ => rfl, fun _ => ⟨?_, ?_, fun r' hr' er => ?_⟩⟩⟩
    · rw [gI 8 _ (by omega) (by omega) (by omega), d3 8 _ (Or.inl (by omega))]; exact (a10 l hl).1
    · rw [gI 9 _ (by omega) (by omega) (by omega), d3 9 _ (Or.inl (by omega))]; exact c1
    · rw [gI 10 _ (by omega) (by omega) (by omega), d3 10 _ (Or.inl (by omega))]; exact c2
    · rw [gI 11 _ (by omega) (by omega) (by omega), d3 11 _ (Or.inl (by omega))]; exact c3
    · exact (d8 12 _).trans c4
    · rw [gI 7 _ (by omega) (by omega) (by omega), d3 7 _ (Or.inl (by omega))]
      have := c5.1
      rw [z_up_s] at this
      exact this
    · have hz : (0 : Int32).toNatClampNeg = 0 := by decide
      omega
    · rw [gI 14 _ (by omega) (by omega) (by omega)]; exact d6
    · rw [gI 15 _ (by omega) (by omega) (by omega)]; exact d7
    · rw [hlr] at er
      have : r = r' := (nI_eq (by omega) (by omega)).mp er
      subst this
      have e1 : S r = (S r - 1) + 1 := by omega
      refine ⟨?_, q + 1, by omega, ?_, rfl, fun w => by omega, fun _ => ⟨h1, by rw [hEn]⟩⟩
      · rw [e1]
        have e3 : S r - 1 + 1 - 1 = S r - 1 := by omega
        rw [e3]
        show (0, 0) = if (z_up E r (S r - 1) (nI (q + 1), (E r (S r - 1)).2) r (S r - 1)).1 = 0 then _ else _
        rw [hEn, if_neg qn]
      · simp [z_gI, z_pI, z_up, hy]
  · have e23 : z_gI 23 (K 16 r) v = 8 * q_fm (E r) (S r) := (d3 23 _ (Or.inl (by omega))).trans r23
    have e24 : z_gI 24 (K 16 r) v = q_cs (E r) (S r) := (d3 24 _ (Or.inl (by omega))).trans r24
    have g24 : z_gI 24 (K 16 r) (z_pI 23 (K 16 r) (z_gI 23 (K 16 r) v + 8) (z_pI 24 (K 16 r) (z_gI 24 (K 16 r) v + q_more q) (z_pI 13 (K 11 l) y v))) = z_gI 24 (K 16 r) v + q_more q := by simp [z_gI, z_pI, z_up]
    have g23 : z_gI 23 (K 16 r) (z_pI 23 (K 16 r) (z_gI 23 (K 16 r) v + 8) (z_pI 24 (K 16 r) (z_gI 24 (K 16 r) v + q_more q) (z_pI 13 (K 11 l) y v))) = z_gI 23 (K 16 r) v + 8 := by simp [z_gI, z_pI, z_up]
    have g25 := gI 25 (K 16 r) (by omega) (by omega) (by omega)
    have e1 : S r - 1 + 1 = S r := by omega
    have step : ∀ e : Nat → Int32 × Int32, q_cs e (S r) = q_cs e (S r - 1) + (if (e (S r - 1)).1 = 0 then 1 else ((e (S r - 1)).1 + 3) / 4) := fun e => by
      have : q_cs e ((S r - 1) + 1) = q_cs e (S r - 1) + (if (e (S r - 1)).1 = 0 then 1 else ((e (S r - 1)).1 + 3) / 4) := rfl
      rw [e1] at this
      exact this
    have stepf : ∀ e : Nat → Int32 × Int32, q_fm e (S r) = q_fm e (S r - 1) + (if (e (S r - 1)).1 = 0 then 1 else (e (S r - 1)).1) := fun e => by
      have : q_fm e ((S r - 1) + 1) = q_fm e (S r - 1) + (if (e (S r - 1)).1 = 0 then 1 else (e (S r - 1)).1) := rfl
      rw [e1] at this
      exact this
    have hcs : q_cs (z_up E r (S r - 1) (nI (q + 1), (E r (S r - 1)).2) r) (S r - 1) = q_cs (E r) (S r - 1) := q_cs_cong (fun i hi => by rw [hEr i hi])
    have hfm : q_fm (z_up E r (S r - 1) (nI (q + 1), (E r (S r - 1)).2) r) (S r - 1) = q_fm (E r) (S r - 1) := q_fm_cong (fun i hi => by rw [hEr i hi])
    rw [g25, g24, g23, e23, e24, step (E r), stepf (E r), step (z_up E r (S r - 1) (nI (q + 1), (E r (S r - 1)).2) r), stepf (z_up E r (S r - 1) (nI (q + 1), (E r (S r - 1)).2) r), hcs, hfm, hEn, hEq, if_neg qn0, if_neg qn0, if_neg qn, if_neg qn]
    refine ⟨(d8 21 _).trans r21, (d8 22 _).trans r22, ?_, ?_, ?_⟩
    · unfold q_more
      rw [Int32.add_assoc, Int32.add_comm ((nI q + 3) / 4), Int32.sub_add_cancel]
    · rw [← nI_1, ← Int32.add_assoc, Int32.mul_add (b := q_fm (E r) (S r - 1) + nI q) (c := 1)]
      rfl
    · rw [d3 25 _ (Or.inl (by omega))]; exact r25
end OK3
