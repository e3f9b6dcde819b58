/-! the start: what the tables and the statement give -/
section OV
variable {t0 mi : Nat}
theorem q_initM {post : z_St → Prop} {h0 : Nat} {u : z_St} (k0 : z_kd h0 u = 8) (k14 : z_kd t0 u = 16 ∧ z_ln t0 u = 0) (kk : ∀ v, (∀ M : z_Md, (∀ j, j < 49 → M 1 j = z_stp j) → (∀ s, s < 12 → M 12 s = -1) → (∀ f j, f ≠ 1 → f ≠ 12 → M f j = 0) → q_WW t0 0 h0 M v) → post v) : w_X6_init post t0 mi h0 u := by
  have h0z : z_kd h0 u ≠ 0 := by rw [k0]; decide
  have t0z : z_kd t0 u ≠ 0 := by rw [k14.1]; decide
  intro a1 ha1 a2 ha2
  have n1 : h0 ≠ a1 := fun e => h0z (by rw [e]; exact ha1)
  have t1 : t0 ≠ a1 := fun e => t0z (by rw [e]; exact ha1)
  have e2 : z_kd a2 (z_pR 27 h0 (some a1) (z_nA 10 a1 49 u)) = if a2 = a1 then 10 else z_kd a2 u := by simp [z_kd, z_pR, z_nA, va_up]
  have n2 : a2 ≠ a1 ∧ z_kd a2 u = 0 := by
    rw [e2] at ha2
    by_cases q : a2 = a1
    · rw [if_pos q] at ha2; omega
    · rw [if_neg q] at ha2; exact ⟨q, ha2⟩
  have n20 : h0 ≠ a2 := fun e => h0z (by rw [e]; exact n2.2)
  have t2 : t0 ≠ a2 := fun e => t0z (by rw [e]; exact n2.2)
  intro b1 hb1
  have eb : z_kd b1 (z_nO 7 a2 (z_pR 27 h0 (some a1) (z_nA 10 a1 49 u))) = if b1 = a2 then 7 else if b1 = a1 then 10 else z_kd b1 u := by simp [z_kd, z_nO, z_pR, z_nA, va_up]
  have n3 : b1 ≠ a2 ∧ b1 ≠ a1 ∧ z_kd b1 u = 0 := by
    rw [eb] at hb1
    by_cases q : b1 = a2
    · rw [if_pos q] at hb1; omega
    · rw [if_neg q] at hb1
      by_cases q2 : b1 = a1
      · rw [if_pos q2] at hb1; omega
      · rw [if_neg q2] at hb1; exact ⟨q, q2, hb1⟩
  have n30 : h0 ≠ b1 := fun e => h0z (by rw [e]; exact n3.2.2)
  have t3 : t0 ≠ b1 := fun e => t0z (by rw [e]; exact n3.2.2)
  have na12 : a1 ≠ a2 := fun e => n2.1 e.symm
  have na1b : a1 ≠ b1 := fun e => n3.2.1 e.symm
  have na2b : a2 ≠ b1 := fun e => n3.1 e.symm
  generalize hu1 : z_pR 26 a2 (some b1) (z_nA 11 b1 40 (z_nO 7 a2 (z_pR 27 h0 (some a1) (z_nA 10 a1 49 u)))) = u1
  have f1 : z_kd h0 u1 = 8 ∧ z_kd t0 u1 = 16 ∧ z_ln t0 u1 = 0 ∧ z_kd a1 u1 = 10 ∧ z_ln a1 u1 = 49 ∧ z_kd a2 u1 = 7 ∧ z_kd b1 u1 = 11 ∧ z_ln b1 u1 = 40 ∧ z_gR 26 a2 u1 = some b1 ∧ z_gR 27 h0 u1 = some a1 := by
    rw [← hu1]
    refine ⟨?_, ?_, ?_, ?_, ?_, ?_, ?_, ?_, ?_, ?_⟩
    · simp [z_kd, z_nO, z_pR, z_nA, va_up, n1, n20, n30]; exact k0
    · simp [z_kd, z_nO, z_pR, z_nA, va_up, t1, t2, t3]; exact k14.1
    · simp [z_ln, z_nO, z_pR, z_nA, va_up, t1, t2, t3]; exact k14.2
    · simp [z_kd, z_nO, z_pR, z_nA, va_up, na12, na1b]
    · simp [z_ln, z_nO, z_pR, z_nA, va_up, na12, na1b]
    · simp [z_kd, z_nO, z_pR, z_nA, va_up, na2b]
    · simp [z_kd, z_nO, z_pR, z_nA, va_up]
    · simp [z_ln, z_nO, z_pR, z_nA, va_up]
    · simp [z_gR, z_nO, z_pR, z_nA, z_up]
    · simp [z_gR, z_nO, z_pR, z_nA, z_up, n20]
  clear hu1 hb1 eb ha2 e2 ha1
  obtain ⟨f10, f1t, f1tl, f1a1, f1a1l, f1a2, f1b, f1bl, f126, f127⟩ := f1
  refine q_iB (s := a2) f1b f1bl (by rw [f1a2]; decide) na2b f126 (fun u3 X Y Z hB => ?_)
  obtain ⟨hF3, hJ3, hN3⟩ := hB
  have z10 : z_kd h0 u1 ≠ 0 := by rw [f10]; decide
  have z1t : z_kd t0 u1 ≠ 0 := by rw [f1t]; decide
  have z1a1 : z_kd a1 u1 ≠ 0 := by rw [f1a1]; decide
  have z1a2 : z_kd a2 u1 ≠ 0 := by rw [f1a2]; decide
  have z1b : z_kd b1 u1 ≠ 0 := by rw [f1b]; decide
  have f30 : z_kd h0 u3 = 8 := (hF3 h0 z10).1.trans f10
  have f3t : z_kd t0 u3 = 16 ∧ z_ln t0 u3 = 0 := ⟨(hF3 t0 z1t).1.trans f1t, (hF3 t0 z1t).2.1.trans f1tl⟩
  have f3a1 : z_kd a1 u3 = 10 ∧ z_ln a1 u3 = 49 := ⟨(hF3 a1 z1a1).1.trans f1a1, (hF3 a1 z1a1).2.1.trans f1a1l⟩
  have f3a2 : z_kd a2 u3 = 7 ∧ z_gR 26 a2 u3 = some b1 := ⟨(hF3 a2 z1a2).1.trans f1a2, (((hF3 a2 z1a2).2.2 na2b).1 26).2.trans f126⟩
  have f3b : z_kd b1 u3 = 11 ∧ z_ln b1 u3 = 40 := ⟨(hF3 b1 z1b).1.trans f1b, (hF3 b1 z1b).2.1.trans f1bl⟩
  have f327 : z_gR 27 h0 u3 = some a1 := (((hF3 h0 z10).2.2 n30).1 27).2.trans f127
  clear hF3
  intro a4 ha4 a5 ha5 a6 ha6
  have k4 : z_kd a4 u3 = 0 := ha4
  have e5 : z_kd a5 (z_pR 29 h0 (some a4) (z_nA 12 a4 4 (z_pR 28 h0 (some a2) u3))) = if a5 = a4 then 12 else z_kd a5 u3 := by simp [z_kd, z_pR, z_nA, va_up]
  have n5 : a5 ≠ a4 ∧ z_kd a5 u3 = 0 := by
    rw [e5] at ha5
    by_cases q : a5 = a4
    · rw [if_pos q] at ha5; omega
    · rw [if_neg q] at ha5; exact ⟨q, ha5⟩
  have e6 : z_kd a6 (z_pR 30 h0 (some a5) (z_nA 13 a5 3 (z_pR 29 h0 (some a4) (z_nA 12 a4 4 (z_pR 28 h0 (some a2) u3))))) = if a6 = a5 then 13 else if a6 = a4 then 12 else z_kd a6 u3 := by simp [z_kd, z_pR, z_nA, va_up]
  have n6 : a6 ≠ a5 ∧ a6 ≠ a4 ∧ z_kd a6 u3 = 0 := by
    rw [e6] at ha6
    by_cases q : a6 = a5
    · rw [if_pos q] at ha6; omega
    · rw [if_neg q] at ha6
      by_cases q2 : a6 = a4
      · rw [if_pos q2] at ha6; omega
      · rw [if_neg q2] at ha6; exact ⟨q, q2, ha6⟩
  have per : ∀ x, z_kd x u3 ≠ 0 → x ≠ a4 ∧ x ≠ a5 ∧ x ≠ a6 := fun x hx => ⟨fun e => hx (by rw [e]; exact k4), fun e => hx (by rw [e]; exact n5.2), fun e => hx (by rw [e]; exact n6.2.2)⟩
  have na45 : a4 ≠ a5 := fun e => n5.1 e.symm
  have na46 : a4 ≠ a6 := fun e => n6.2.1 e.symm
  have na56 : a5 ≠ a6 := fun e => n6.1 e.symm
  obtain ⟨m1, m2, m3⟩ := per h0 (by rw [f30]; decide)
  obtain ⟨s1, s2, s3⟩ := per a1 (by rw [f3a1.1]; decide)
  have h0a1 : h0 ≠ a1 := fun e => by rw [e, f3a1.1] at f30; omega
  refine ⟨a1, ?_, ?_, ?_, ?_⟩
  · simp [z_gR, z_nO, z_pR, z_pI, z_nA, z_up, m1, m2, m3]
    exact f327
  · simp [z_kd, z_nO, z_pR, z_pI, z_nA, va_up, s1, s2, s3]
    exact f3a1.1
  · have : z_ln a1 (z_pR 36 a6 (some t0) (z_pI 35 a6 0 (z_nO 1 a6 (z_pR 30 h0 (some a5) (z_nA 13 a5 3 (z_pR 29 h0 (some a4) (z_nA 12 a4 4 (z_pR 28 h0 (some a2) u3)))))))) = z_ln a1 u3 := by
      simp [z_ln, z_nO, z_pR, z_pI, z_nA, va_up, s1, s2]
    show vp_in 0 (z_ln a1 (z_pR 36 a6 (some t0) (z_pI 35 a6 0 (z_nO 1 a6 (z_pR 30 h0 (some a5) (z_nA 13 a5 3 (z_pR 29 h0 (some a4) (z_nA 12 a4 4 (z_pR 28 h0 (some a2) u3)))))))))
    rw [this, f3a1.2]
    exact vp_in_nI (n := 0) (N := 49) (by omega) (by omega)
  · have c0 : (0 : Int32).toNatClampNeg = 0 := rfl
    rw [c0]
    generalize hu8 : z_sI a1 0 16 _ = u8
    have old : ∀ x, z_kd x u3 ≠ 0 → z_kd x u8 = z_kd x u3 ∧ z_ln x u8 = z_ln x u3 ∧ (x ≠ h0 → x ≠ a1 → (∀ f, z_gI f x u8 = z_gI f x u3 ∧ z_gR f x u8 = z_gR f x u3) ∧ ∀ j, z_aI x j u8 = z_aI x j u3 ∧ z_aR x j u8 = z_aR x j u3) := fun x hx => by
      obtain ⟨x1, x2, x3⟩ := per x hx
      rw [← hu8]
      refine ⟨?_, ?_, fun w1 w2 => ⟨fun f => ⟨?_, ?_⟩, fun j => ⟨?_, ?_⟩⟩⟩
      · simp [z_kd, z_sI, z_nO, z_pR, z_pI, z_nA, va_up, x1, x2, x3]
      · simp [z_ln, z_sI, z_nO, z_pR, z_pI, z_nA, va_up, x1, x2]
      · simp [z_gI, z_sI, z_nO, z_pR, z_pI, z_nA, z_up, x3, w1]
      · simp [z_gR, z_sI, z_nO, z_pR, z_pI, z_nA, z_up, x3, w1]
      · simp [z_aI, z_sI, z_nO, z_pR, z_pI, z_nA, z_up, x1, x2, w2]
      · simp [z_aR, z_sI, z_nO, z_pR, z_pI, z_nA, z_up, x1, x2]
    have g8 : z_kd a4 u8 = 12 ∧ z_ln a4 u8 = 4 ∧ z_kd a5 u8 = 13 ∧ z_ln a5 u8 = 3 ∧ z_kd a6 u8 = 1 ∧ z_gR 36 a6 u8 = some t0 ∧ z_gI 37 a6 u8 = 0 ∧ z_gR 27 h0 u8 = some a1 ∧ z_gR 28 h0 u8 = some a2 ∧ z_gR 29 h0 u8 = some a4 ∧ z_gR 30 h0 u8 = some a5 ∧ z_gR 31 h0 u8 = some a6 ∧ z_gI 32 h0 u8 = 0 ∧ z_gI 33 h0 u8 = 0 ∧ z_gI 34 h0 u8 = 0 ∧ z_aI a1 0 u8 = 16 := by
      have m3' : a6 ≠ h0 := fun e => m3 e.symm
      rw [← hu8]
      refine ⟨?_, ?_, ?_, ?_, ?_, ?_, ?_, ?_, ?_, ?_, ?_, ?_, ?_, ?_, ?_, ?_⟩
      · simp [z_kd, z_sI, z_nO, z_pR, z_pI, z_nA, va_up, na45, na46]
      · simp [z_ln, z_sI, z_nO, z_pR, z_pI, z_nA, va_up, na45]
      · simp [z_kd, z_sI, z_nO, z_pR, z_pI, z_nA, va_up, na56]
      · simp [z_ln, z_sI, z_nO, z_pR, z_pI, z_nA, va_up]
      · simp [z_kd, z_sI, z_nO, z_pR, z_pI, z_nA, va_up]
      · simp [z_gR, z_sI, z_nO, z_pR, z_pI, z_nA, z_up]
      · simp [z_gI, z_sI, z_nO, z_pR, z_pI, z_nA, z_up]
      · simp [z_gR, z_sI, z_nO, z_pR, z_pI, z_nA, z_up, m3]; exact f327
      · simp [z_gR, z_sI, z_nO, z_pR, z_pI, z_nA, z_up, m3]
      · simp [z_gR, z_sI, z_nO, z_pR, z_pI, z_nA, z_up, m3]
      · simp [z_gR, z_sI, z_nO, z_pR, z_pI, z_nA, z_up, m3]
      · simp [z_gR, z_sI, z_nO, z_pR, z_pI, z_nA, z_up]
      · simp [z_gI, z_sI, z_nO, z_pR, z_pI, z_nA, z_up]
      · simp [z_gI, z_sI, z_nO, z_pR, z_pI, z_nA, z_up]
      · simp [z_gI, z_sI, z_nO, z_pR, z_pI, z_nA, z_up]
      · simp [z_aI, z_sI, z_nO, z_pR, z_pI, z_nA, z_up]
    clear hu8
    obtain ⟨g4, g4l, g5, g5l, g6, g36, g37, g27, g28, g29, g30, g31, g32, g33, g34, g16⟩ := g8
    obtain ⟨o0, -, -⟩ := old h0 (by rw [f30]; decide)
    obtain ⟨o1, o1l, -⟩ := old a1 (by rw [f3a1.1]; decide)
    have k80 : z_kd h0 u8 = 8 := o0.trans f30
    have z80 : z_kd h0 u8 ≠ 0 := by rw [k80]; decide
    refine q_iS (s := h0) (o1.trans f3a1.1) (o1l.trans f3a1.2) g27 g16 (fun u9 hF9 hk9 hg9 hj9 => ?_)
    have k90 : z_kd h0 u9 = 8 := (hk9 h0).trans k80
    have z90 : z_kd h0 u9 ≠ 0 := by rw [k90]; decide
    have z84 : z_kd a4 u8 ≠ 0 := by rw [g4]; decide
    have z85 : z_kd a5 u8 ≠ 0 := by rw [g5]; decide
    have z86 : z_kd a6 u8 ≠ 0 := by rw [g6]; decide
    refine q_iX (s := h0) ((hk9 a4).trans g4) ((hF9 a4 z84).2.1.trans g4l) z90 m1 ((hg9 29 h0).2.trans g29) (fun u10 X2 Y2 hI10 => ?_)
    obtain ⟨hF10, hJ10, hN10⟩ := hI10
    have z94 : z_kd a4 u9 ≠ 0 := by rw [hk9]; exact z84
    have z95 : z_kd a5 u9 ≠ 0 := by rw [hk9]; exact z85
    have z96 : z_kd a6 u9 ≠ 0 := by rw [hk9]; exact z86
    have z100 : z_kd h0 u10 ≠ 0 := hF10.nz z90
    have k105 : z_kd a5 u10 = 13 := (hF10 a5 z95).1.trans ((hk9 a5).trans g5)
    refine q_iL (s := h0) k105 ((hF10 a5 z95).2.1.trans ((hF9 a5 z85).2.1.trans g5l)) z100 m2 (((((hF10 h0 z90).2.2 m1).1 30).2).trans ((hg9 30 h0).2.trans g30)) (fun v X3 Y3 hI11 => kk v ?_)
    obtain ⟨hF11, hJ11, hN11⟩ := hI11
    -- what stays from the ninth on
    have c9 : ∀ x, z_kd x u9 ≠ 0 → x ≠ a4 → x ≠ a5 → z_kd x v = z_kd x u9 ∧ z_ln x v = z_ln x u9 ∧ (∀ f, z_gI f x v = z_gI f x u9 ∧ z_gR f x v = z_gR f x u9) ∧ ∀ j, z_aI x j v = z_aI x j u9 ∧ z_aR x j v = z_aR x j u9 := fun x hx w4 w5 => by
      obtain ⟨p1, p2, p3⟩ := hF10 x hx
      obtain ⟨q1, q2, q3⟩ := hF11 x (hF10.nz hx)
      obtain ⟨p4, p5⟩ := p3 w4
      obtain ⟨q4, q5⟩ := q3 w5
      exact ⟨q1.trans p1, q2.trans p2, fun f => ⟨(q4 f).1.trans (p4 f).1, (q4 f).2.trans (p4 f).2⟩, fun j => ⟨(q5 j).1.trans (p5 j).1, (q5 j).2.trans (p5 j).2⟩⟩
    have c8 : ∀ x, z_kd x u8 ≠ 0 → x ≠ a1 → x ≠ a4 → x ≠ a5 → z_kd x v = z_kd x u8 ∧ z_ln x v = z_ln x u8 ∧ (∀ f, z_gI f x v = z_gI f x u8 ∧ z_gR f x v = z_gR f x u8) ∧ ∀ j, z_aI x j v = z_aI x j u8 ∧ z_aR x j v = z_aR x j u8 := fun x hx w1 w4 w5 => by
      obtain ⟨p1, p2, p3⟩ := hF9 x hx
      obtain ⟨q1, q2, q3, q4⟩ := c9 x (hF9.nz hx) w4 w5
      obtain ⟨p4, p5⟩ := p3 w1
      exact ⟨q1.trans p1, q2.trans p2, fun f => ⟨(q3 f).1.trans (p4 f).1, (q3 f).2.trans (p4 f).2⟩, fun j => ⟨(q4 j).1.trans (p5 j).1, (q4 j).2.trans (p5 j).2⟩⟩
    have c3 : ∀ x, z_kd x u3 ≠ 0 → x ≠ h0 → x ≠ a1 → z_kd x v = z_kd x u3 ∧ z_ln x v = z_ln x u3 ∧ (∀ f, z_gI f x v = z_gI f x u3 ∧ z_gR f x v = z_gR f x u3) ∧ ∀ j, z_aI x j v = z_aI x j u3 ∧ z_aR x j v = z_aR x j u3 := fun x hx w0 w1 => by
      obtain ⟨w4, w5, -⟩ := per x hx
      obtain ⟨p1, p2, p3⟩ := old x hx
      obtain ⟨p4, p5⟩ := p3 w0 w1
      obtain ⟨q1, q2, q3, q4⟩ := c8 x (by rw [p1]; exact hx) w1 w4 w5
      exact ⟨q1.trans p1, q2.trans p2, fun f => ⟨(q3 f).1.trans (p4 f).1, (q3 f).2.trans (p4 f).2⟩, fun j => ⟨(q4 j).1.trans (p5 j).1, (q4 j).2.trans (p5 j).2⟩⟩
    obtain ⟨v0, -, v0f, -⟩ := c8 h0 z80 h0a1 m1 m2
    obtain ⟨v6, -, v6f, -⟩ := c8 a6 z86 (fun e => s3 e.symm) n6.2.1 n6.1
    have z91 : z_kd a1 u9 ≠ 0 := by rw [hk9, o1, f3a1.1]; decide
    obtain ⟨v1, v1l, -, v1f⟩ := c9 a1 z91 s1 s2
    have ne : ∀ x κ, z_kd x u3 = κ → κ ≠ 0 → κ ≠ 8 → (κ ≠ 10 ∨ z_ln x u3 ≠ 49) → z_kd x u3 ≠ 0 ∧ x ≠ h0 ∧ x ≠ a1 := fun x κ hx hκ h8 h10 => ⟨by rw [hx]; exact hκ, fun e => h8 (by rw [← hx, e]; exact f30), fun e => by
      rcases h10 with w | w
      · exact w (by rw [← hx, e]; exact f3a1.1)
      · exact w (by rw [e]; exact f3a1.2)⟩
    have at3 : ∀ x κ, z_kd x u3 = κ → κ ≠ 0 → κ ≠ 8 → (κ ≠ 10 ∨ z_ln x u3 ≠ 49) → z_kd x v = z_kd x u3 ∧ z_ln x v = z_ln x u3 ∧ (∀ f, z_gI f x v = z_gI f x u3 ∧ z_gR f x v = z_gR f x u3) ∧ ∀ j, z_aI x j v = z_aI x j u3 ∧ z_aR x j v = z_aR x j u3 := fun x κ hx hκ h8 h10 => by
      obtain ⟨d1, d2, d3⟩ := ne x κ hx hκ h8 h10
      exact c3 x d1 d2 d3
    obtain ⟨vt, vtl, -⟩ := at3 t0 16 f3t.1 (by decide) (by decide) (Or.inl (by decide))
    obtain ⟨v2, -, v2f, -⟩ := at3 a2 7 f3a2.1 (by decide) (by decide) (Or.inl (by decide))
    obtain ⟨vb, vbl, -, vbf⟩ := at3 b1 11 f3b.1 (by decide) (by decide) (Or.inl (by decide))
    have k104 : z_kd a4 u10 = 12 ∧ z_ln a4 u10 = 4 := ⟨(hF10 a4 z94).1.trans ((hk9 a4).trans g4), (hF10 a4 z94).2.1.trans ((hF9 a4 z84).2.1.trans g4l)⟩
    have z104 : z_kd a4 u10 ≠ 0 := by rw [k104.1]; decide
    obtain ⟨w4, w4l, w4f⟩ := hF11 a4 z104
    obtain ⟨-, w4a⟩ := w4f na45
    have z105 : z_kd a5 u10 ≠ 0 := by rw [k105]; decide
    obtain ⟨w5, w5l, -⟩ := hF11 a5 z105
    intro M hM1 hM12 hM
    refine ⟨_, _, _, 0, 0, 0, _, rfl, q_empty (h0 := h0) (a2 := a2) (b1 := b1) (a1 := a1) (a4 := a4) (a5 := a5) (a6 := a6) (X := X) (Y := Y) (Z := Z) (X2 := X2) (Y2 := Y2) (X3 := X3) (Y3 := Y3) hM1 hM12 hM (v0.trans k80) (v2.trans f3a2.1) ⟨vb.trans f3b.1, vbl.trans f3b.2⟩ ⟨v1.trans ((hk9 a1).trans (o1.trans f3a1.1)), v1l.trans ((hF9 a1 (by rw [o1, f3a1.1]; decide)).2.1.trans (o1l.trans f3a1.2))⟩ ⟨w4.trans k104.1, w4l.trans k104.2⟩ ⟨w5.trans k105, w5l.trans ((hF10 a5 z95).2.1.trans ((hF9 a5 z85).2.1.trans g5l))⟩ (v6.trans g6) ⟨vt.trans f3t.1, vtl.trans f3t.2⟩ ((v0f 28).2.trans g28) ((v2f 26).2.trans f3a2.2) ((v0f 27).2.trans g27) (fun j hj => (v1f j).1.trans (hj9 j hj)) ((v0f 29).2.trans g29) ((v0f 30).2.trans g30) ((v0f 31).2.trans g31) ((v6f 36).2.trans g36) ((v6f 37).1.trans g37) ((v0f 32).1.trans g32) ((v0f 33).1.trans g33) ((v0f 34).1.trans g34) ⟨fun j hj => ?_, hN3⟩ ⟨fun j hj => ?_, fun j j' hj hj' => hN10 j j' hj hj'⟩ ⟨fun j hj => ?_, fun j j' hj hj' => hN11 j j' hj hj'⟩⟩
    · obtain ⟨d1, d2, d3, d4, d5, d6, d7, d8, d9, d10⟩ := hJ3 j hj
      obtain ⟨x1, -, x3, -⟩ := at3 (X j) 2 d1 (by decide) (by decide) (Or.inl (by decide))
      obtain ⟨y1, y2, -⟩ := at3 (Y j) 10 d2 (by decide) (by decide) (Or.inr (by rw [d3]; decide))
      obtain ⟨r1, r2, -⟩ := at3 (Z j) 10 d4 (by decide) (by decide) (Or.inr (by rw [d5]; decide))
      exact ⟨x1.trans d1, y1.trans d2, y2.trans d3, r1.trans d4, r2.trans d5, (x3 0).2.trans d6, (x3 1).2.trans d7, (x3 3).2.trans d8, (x3 2).1.trans d9, (vbf j).2.trans d10⟩
    · obtain ⟨d1, d2, d3, d4, d5, d6, d7⟩ := hJ10 j hj
      have nx : X2 j ≠ a5 := fun e => by rw [e, k105] at d1; omega
      have ny : Y2 j ≠ a5 := fun e => by rw [e, k105] at d2; omega
      obtain ⟨x1, -, x3⟩ := hF11 (X2 j) (by rw [d1]; decide)
      obtain ⟨y1, y2, y3⟩ := hF11 (Y2 j) (by rw [d2]; decide)
      obtain ⟨x4, -⟩ := x3 nx
      obtain ⟨-, y5⟩ := y3 ny
      exact ⟨x1.trans d1, y1.trans d2, y2.trans d3, (x4 4).2.trans d4, fun w => (y5 w).2.trans (d5 w), (w4a j).2.trans d7⟩
    · obtain ⟨d1, d2, d3, d4, d5, d6, d7⟩ := hJ11 j hj
      exact ⟨d1, d2, d3, d4, d6, d7⟩
end OV
theorem st_in {w : Cond} (h : w ∈ z_T) : w ∈ lw_tbl := (List.mem_filter.mp h).1
theorem st_arr {s : State} {args : Array Value} {ty : FieldType} (h : (Cond.arrayClass ty).before args s = true) : ∃ cA, ArrOfT s cA ty ∧ s.vm.findClass ("[" ++ ty.toString) = some cA := by
  obtain ⟨c, k, comp, h1, h2, h3⟩ := Cond.arrayClass_spec h
  exact ⟨c, fun n z => ⟨fun k h => (by cases h), k, h2, comp, h3⟩, h1⟩
theorem st_arO {s : State} {C : String} (h : va_AO C s) : ∃ cA, ArrOfT s cA (.object C) ∧ va_RA s cA (.object C) := by
  obtain ⟨comp, c, k, h1, h2, h3, h4, h5⟩ := Cond.arrayOver_spec h
  exact ⟨c, fun n z => ⟨fun k h => (by cases h), k, h3, comp, h4⟩, k, comp, h3, h4, h1, h5⟩
theorem st_K {s : State} {args : Array Value} (hts : ∀ w ∈ lw_tbl, w.before args s = true) : ∃ (D : va_G) (cy : Nat → ClassId), va_K D vwCl (z_tys cy) s := by
  obtain ⟨c0, i0, k0⟩ := u_known (C := RJx4a65c) (T := TJx4a65c) (N := 3) (n := 3) hts (fun w hw => st_in (z_inJx4a65c w hw)) (hts (.instantiable RJx4a65c 3) (by decide +kernel))
  obtain ⟨c1, i1, k1⟩ := u_known (C := RX0) (T := TX0) (N := 4) (n := 4) hts (fun w hw => st_in (z_inX0 w hw)) (hts (.instantiable RX0 4) (by decide +kernel))
  obtain ⟨c2, i2, k2⟩ := u_known (C := RX1) (T := TX1) (N := 2) (n := 2) hts (fun w hw => st_in (z_inX1 w hw)) (hts (.instantiable RX1 2) (by decide +kernel))
  obtain ⟨c3, i3, k3⟩ := u_known (C := RX2) (T := TX2) (N := 10) (n := 10) hts (fun w hw => st_in (z_inX2 w hw)) (hts (.instantiable RX2 10) (by decide +kernel))
  obtain ⟨c4, i4, k4⟩ := u_known (C := RX3) (T := TX3) (N := 5) (n := 5) hts (fun w hw => st_in (z_inX3 w hw)) (hts (.instantiable RX3 5) (by decide +kernel))
  obtain ⟨c5, i5, k5⟩ := u_known (C := RX4) (T := TX4) (N := 5) (n := 5) hts (fun w hw => st_in (z_inX4 w hw)) (hts (.instantiable RX4 5) (by decide +kernel))
  obtain ⟨c6, i6, k6⟩ := u_known (C := RX5) (T := TX5) (N := 1) (n := 1) hts (fun w hw => st_in (z_inX5 w hw)) (hts (.instantiable RX5 1) (by decide +kernel))
  obtain ⟨c7, i7, k7⟩ := u_known (C := RX6) (T := TX6) (N := 8) (n := 8) hts (fun w hw => st_in (z_inX6 w hw)) (hts (.instantiable RX6 8) (by decide +kernel))
  obtain ⟨c8, i8, k8⟩ := u_known (C := RX7) (T := TX7) (N := 32) (n := 32) hts (fun w hw => st_in (z_wsM w hw)) (hts (.instantiable RX7 32) (by decide +kernel))
  obtain ⟨a0, g0, f0⟩ := st_arr (hts (.arrayClass .int) (by decide +kernel))
  obtain ⟨a1, g1, f1⟩ := st_arr (hts (.arrayClass .boolean) (by decide +kernel))
  obtain ⟨a2, g2, f2⟩ := st_arO (va_AO.of (hts (.arrayOver (.object "MessageBank$Block")) (by decide +kernel)))
  obtain ⟨a3, g3, f3⟩ := st_arO (va_AO.of (hts (.arrayOver (.object "MessageBank$Box")) (by decide +kernel)))
  obtain ⟨a4, g4, f4⟩ := st_arO (va_AO.of (hts (.arrayOver (.object "MessageBank$Line")) (by decide +kernel)))
  obtain ⟨a5, g5, f5⟩ := st_arO (va_AO.of (hts (.arrayOver (.object "MessageBank$Recording")) (by decide +kernel)))
  obtain ⟨a6, g6, f6⟩ := st_arO (va_AO.of (hts (.arrayOver (.object "java/lang/Object")) (by decide +kernel)))
  obtain ⟨a7, g7, f7⟩ := st_arr (hts (.arrayClass .long) (by decide +kernel))
  refine ⟨(fun k => match k with | 0 => c0 | 1 => c1 | 2 => c2 | 3 => c3 | 4 => c4 | 5 => c5 | 6 => c6 | 7 => c7 | _ => c8, fun k => match k with | 0 => i0 | 1 => i1 | 2 => i2 | 3 => i3 | 4 => i4 | 5 => i5 | 6 => i6 | 7 => i7 | _ => i8), fun k => match k with | 0 => a0 | 1 => a1 | 2 => a2 | 3 => a3 | 4 => a4 | 5 => a5 | 6 => a6 | _ => a7, ?_, ?_⟩
  · intro k q hq
    match k, hq with
    | 0, hq => cases hq; exact k0
    | 1, hq => cases hq; exact k1
    | 2, hq => cases hq; exact k2
    | 3, hq => cases hq; exact k3
    | 4, hq => cases hq; exact k4
    | 5, hq => cases hq; exact k5
    | 6, hq => cases hq; exact k6
    | 7, hq => cases hq; exact k7
    | 8, hq => cases hq; exact k8
    | k + 9, hq => simp [vwCl] at hq
  · intro k q hq
    match k, hq with
    | 0, hq => cases hq; exact ⟨g0, f0⟩
    | 1, hq => cases hq; exact ⟨g1, f1⟩
    | 2, hq => cases hq; exact ⟨g2, f2⟩
    | 3, hq => cases hq; exact ⟨g3, f3⟩
    | 4, hq => cases hq; exact ⟨g4, f4⟩
    | 5, hq => cases hq; exact ⟨g5, f5⟩
    | 6, hq => cases hq; exact ⟨g6, f6⟩
    | 7, hq => cases hq; exact ⟨g7, f7⟩
    | k + 8, hq => simp [z_tys] at hq
theorem st_NW {s : State} {args : Array Value} (hts : ∀ w ∈ lw_tbl, w.before args s = true) : z_NW s := ⟨va_Nw.of rfl (hts _ (by decide +kernel)), va_Nw.of rfl (hts _ (by decide +kernel)), va_Nw.of rfl (hts _ (by decide +kernel)), va_Nw.of rfl (hts _ (by decide +kernel)), va_Nw.of rfl (hts _ (by decide +kernel)), va_Nw.of rfl (hts _ (by decide +kernel)), va_Nw.of rfl (hts _ (by decide +kernel)), va_Nw.of rfl (hts _ (by decide +kernel)), va_Nw.of rfl (hts _ (by decide +kernel)), va_Nw.of rfl (hts _ (by decide +kernel)), va_Nw.of rfl (hts _ (by decide +kernel)), va_Nw.of rfl (hts _ (by decide +kernel)), va_Nw.of rfl (hts _ (by decide +kernel)), va_Nw.of rfl (hts _ (by decide +kernel)), va_AO.of (hts _ (by decide +kernel)), va_AO.of (hts _ (by decide +kernel)), va_AO.of (hts _ (by decide +kernel)), va_AO.of (hts _ (by decide +kernel)), va_AO.of (hts _ (by decide +kernel))⟩
theorem st_str1 : ∀ q ∈ z_strs, Cond.stringRef "MessageBank" q.1 q.2 ∈ lw_tbl := by decide +kernel
theorem st_str2 : ∀ q ∈ z_strs, Cond.exactly (.string "MessageBank" q.1) "java/lang/String" ∈ flatC (Jvm.Cond.and given_1 narrow_1) := by decide +kernel
theorem st_NC {s : State} {args : Array Value} (hs : ∀ w ∈ flatC (Jvm.Cond.and given_1 narrow_1), w.before args s = true) : z_NC s := ⟨va_Nc.of (hs _ (by decide +kernel)), va_Nc.of (hs _ (by decide +kernel)), va_Nc.of (hs _ (by decide +kernel)), va_Nc.of (hs _ (by decide +kernel)), va_Nc.of (hs _ (by decide +kernel))⟩
theorem st_EC {s : State} {args : Array Value} {D : va_G} {cy : Nat → ClassId} (hts : ∀ w ∈ lw_tbl, w.before args s = true) (hs : ∀ w ∈ flatC (Jvm.Cond.and given_1 narrow_1), w.before args s = true) (hK : va_K D vwCl (z_tys cy) s) : ∃ t0 mi, z_EC D cy (fun q => s.heap.size ≤ q) t0 mi s := by
  have hA : ∀ a : Nat, a < s.heap.size → ¬ (fun q => s.heap.size ≤ q) a := fun a h => Nat.not_le.mpr h
  obtain ⟨mi, hmi⟩ := va_Mi.of (hs (.isRef (.mirror "[Ljava/lang/Object;")) (by decide +kernel))
  obtain ⟨t0, e0, T0⟩ := va_Tof (tm := .static "java/util/ArrayList" "DEFAULTCAPACITY_EMPTY_ELEMENTDATA" "[Ljava/lang/Object;") (ty := .object "java/lang/Object") (N := 0) (f := fun _ => .null) (A := fun q => s.heap.size ≤ q) (by decide) (hs _ (by decide +kernel)) (va_eqt (hs (.eq (.length (.static "java/util/ArrayList" "DEFAULTCAPACITY_EMPTY_ELEMENTDATA" "[Ljava/lang/Object;")) (.int (Int32.ofNat 0))) (by decide +kernel))) (fun j hj => absurd hj (Nat.not_lt_zero j)) hA
  obtain ⟨t1, e1, T1⟩ := va_Tof (tm := .static "MessageBank" "INDEX_CHANGES" "[I") (ty := .int) (N := 8) (f := fun j => .int (z_ichI j)) (A := fun q => s.heap.size ≤ q) (by decide) (hs _ (by decide +kernel)) (va_eqt (hs (.eq (.length (.static "MessageBank" "INDEX_CHANGES" "[I")) (.int (Int32.ofNat 8))) (by decide +kernel))) (fun j hj => by
    rcases (show j = 0 ∨ j = 1 ∨ j = 2 ∨ j = 3 ∨ j = 4 ∨ j = 5 ∨ j = 6 ∨ j = 7 by omega) with h | h | h | h | h | h | h | h <;> subst h <;> exact va_eqt (hs _ (by decide +kernel))) hA
  refine ⟨t0, mi, hK, fun q h => h, vx_Zqof (hts _ (by decide +kernel)) (hts _ (by decide +kernel)) (hs _ (by decide +kernel)) hA, vx_Zqof (hts _ (by decide +kernel)) (hts _ (by decide +kernel)) (hs _ (by decide +kernel)) hA, fun q hq => ?_, ⟨t1, va_Zof (hts _ (by decide +kernel)) (hts _ (by decide +kernel)) e1 hA, T1⟩, va_Zof (hts _ (by decide +kernel)) (hts _ (by decide +kernel)) e0 hA, T0, st_NW hts, hmi, va_Dc.of (hts _ (by decide +kernel))⟩
  obtain ⟨a, c, cell, k, q1, -⟩ := Cond.exactly_spec (hs _ (st_str2 q hq))
  exact ⟨a, vk_R.of (hts _ (st_str1 q hq)) q1⟩
