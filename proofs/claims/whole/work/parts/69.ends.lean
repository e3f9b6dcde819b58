/-! a line ends; hands take a record up, let go of it; a greeting takes the place of another -/
def q_inc (f a : Nat) (u : z_St) : z_St := z_pI f a (z_gI f a u + 1) u
theorem q_inc_g (f a g b : Nat) (u : z_St) : z_gI g b (q_inc f a u) = if g = f ∧ b = a then z_gI f a u + 1 else z_gI g b u := rfl
def q_hold (h0 a : Nat) (u : z_St) : z_St := if z_gI 25 a u = 0 then q_inc 25 a (q_inc 34 h0 u) else q_inc 25 a u
theorem q_hold_o (h0 a : Nat) (u : z_St) : (∀ x, z_kd x (q_hold h0 a u) = z_kd x u) ∧ (∀ x, z_ln x (q_hold h0 a u) = z_ln x u) ∧ (∀ f x, z_gR f x (q_hold h0 a u) = z_gR f x u) ∧ (∀ x j, z_aI x j (q_hold h0 a u) = z_aI x j u) ∧ (∀ x j, z_aR x j (q_hold h0 a u) = z_aR x j u) := by
  unfold q_hold
  split <;> exact ⟨fun _ => rfl, fun _ => rfl, fun _ _ => rfl, fun _ _ => rfl, fun _ _ => rfl⟩
theorem q_hold_g (h0 a : Nat) (u : z_St) (g b : Nat) : z_gI g b (q_hold h0 a u) = if g = 25 ∧ b = a then z_gI 25 a u + 1 else if g = 34 ∧ b = h0 ∧ z_gI 25 a u = 0 then z_gI 34 h0 u + 1 else z_gI g b u := by
  unfold q_hold
  by_cases h : z_gI 25 a u = 0
  · rw [if_pos h, q_inc_g]
    have e : z_gI 25 a (q_inc 34 h0 u) = z_gI 25 a u := by rw [q_inc_g, if_neg (by omega)]
    rw [e]
    by_cases c : g = 25 ∧ b = a
    · rw [if_pos c, if_pos c]
    · rw [if_neg c, if_neg c, q_inc_g]
      by_cases d : g = 34 ∧ b = h0
      · rw [if_pos d, if_pos ⟨d.1, d.2, h⟩]
      · rw [if_neg d, if_neg (fun q => d ⟨q.1, q.2.1⟩)]
  · rw [if_neg h, q_inc_g]
    by_cases c : g = 25 ∧ b = a
    · rw [if_pos c, if_pos c]
    · rw [if_neg c, if_neg c, if_neg (fun q => h q.2.2)]
section OI
variable {t0 ti mi nb nm md N N' : Nat} {pn pn' : Nat → Nat} {M M' : z_Md} {S S' : Nat → Nat} {C C' : Nat → Nat → Nat} {E E' : Nat → Nat → Int32 × Int32} {K K' : Nat → Nat → Nat} {u u' : z_St}
theorem q_hd_up {r : Nat} {v : Int32} (hr : r < 48) (g : ∀ x, M' 6 x = if x = r then v else M 6 x) : q_hd M' + (if M 6 r = 0 then 0 else 1) = q_hd M + (if v = 0 then 0 else 1) := by
  have e : (fun x => decide (¬ M' 6 x = 0)) = fun k => if k = r then decide (¬ v = 0) else decide (¬ M 6 k = 0) := by
    funext x
    rw [g]
    by_cases q : x = r
    · rw [if_pos q, if_pos q]
    · rw [if_neg q, if_neg q]
  have := fb_ct_upd (fun k => decide (¬ M 6 k = 0)) (decide (¬ v = 0)) (i := r) (n := 48) hr
  unfold q_hd
  rw [e]
  by_cases a : M 6 r = 0 <;> by_cases b : v = 0 <;> simp [a, b] at this ⊢ <;> omega
theorem q_rfs_0 (h : q_U S M nm) (hn : nm ≤ 16) {r : Nat} (hr : r < 48) (h6 : M 6 r = 0) : q_rfs M nm r = 0 := by
  apply Decidable.byContradiction
  intro q
  have hle := q_rfs_le (M := M) (nm := nm) (r := r) hn
  have := h.1 r hr
  rw [h6] at this
  exact nI_ne0 (n := q_rfs M nm r) (by omega) (by omega) this.symm
theorem q_U.endl {l r : Nat} (a4 : q_U S M nm) (hn : nm ≤ 16) (hl : l < 3) (hbz : ¬ M 20 l = 0) (hr : r < 48) (hlr : M 23 l = nI r) (g20 : ∀ x, M' 20 x = if x = l then 0 else M 20 x) (g7 : ∀ x, M' 7 x = if x = r then 0 else M 7 x) (g6 : ∀ x, x ≠ r → M' 6 x = M 6 x)
    (g23 : M' 23 = M 23) (g12 : M' 12 = M 12) (g18 : M' 18 = M 18) (g19 : M' 19 = M 19) (hp : M' 6 r = nI (pn r) ∧ pn r ≤ 3) (hpx : ∀ x, x ≠ r → pn x = 0) (h0 : M' 6 r = 0 → S r = 0) : q_Up pn S M' nm := by
  have h7 := a4.l23 hl hr hbz hlr
  have h6 := a4.2.2.2.1 r hr h7
  have hz := q_rfs_0 a4 hn hr h6
  have erf : ∀ x, q_rfs M' nm x = q_rfs M nm x := fun x => by unfold q_rfs; rw [g12, g18, g19]
  have k20 : ∀ x, ¬ M' 20 x = 0 → x ≠ l ∧ ¬ M 20 x = 0 := fun x z => by
    rw [g20] at z
    by_cases q : x = l
    · rw [if_pos q] at z; exact absurd rfl z
    · rw [if_neg q] at z; exact ⟨q, z⟩
  refine ⟨fun x hx => ?_, fun x hx => ?_, fun x y hx hy zx zy e => ?_, fun x hx z => ?_, fun x hx z1 z2 => ?_⟩
  · rw [erf]
    by_cases q : x = r
    · subst q; rw [hz, Nat.zero_add]; exact hp
    · rw [g6 x q, hpx x q]; exact ⟨a4.1 x hx, by omega⟩
  · rw [g7]
    by_cases q : x = r
    · subst q
      rw [if_pos rfl]
      refine ⟨fun w => absurd rfl w, ?_⟩
      rintro ⟨l', hl', z1, z2⟩
      obtain ⟨w1, w2⟩ := k20 l' z1
      rw [g23] at z2
      exact absurd (a4.2.2.1 l' l hl' hl w2 hbz (z2.trans hlr.symm)) w1
    · rw [if_neg q, a4.2.1 x hx]
      constructor
      · rintro ⟨l', hl', z1, z2⟩
        have hne : l' ≠ l := fun w => by
          rw [w, hlr] at z2
          exact q ((nI_eq (by omega) (by omega)).mp z2).symm
        exact ⟨l', hl', by rw [g20, if_neg hne]; exact z1, by rw [g23]; exact z2⟩
      · rintro ⟨l', hl', z1, z2⟩
        rw [g23] at z2
        exact ⟨l', hl', (k20 l' z1).2, z2⟩
  · rw [g23] at e
    exact a4.2.2.1 x y hx hy (k20 x zx).2 (k20 y zy).2 e
  · rw [g7] at z
    by_cases q : x = r
    · rw [if_pos q] at z; exact absurd rfl z
    · rw [if_neg q] at z
      rw [g6 x q]
      exact a4.2.2.2.1 x hx z
  · rw [g7] at z2
    by_cases q : x = r
    · subst q; exact h0 z1
    · rw [if_neg q] at z2
      rw [g6 x q] at z1
      exact a4.2.2.2.2 x hx z1 z2
/-- the line ends, nothing was recorded -/
theorem q_W.endl0 {l r : Nat} (h : q_W t0 N M S C E nb nm md K u) (hl : l < 3) (hbz : ¬ M 20 l = 0) (hr : r < 48) (hlr : M 23 l = nI r) (hS0 : S r = 0) : q_W t0 N (z_up (z_up M 20 l 0) 7 r 0) S C E nb nm md K (z_pI 8 (K 11 l) 0 u) := by
  have hp := h.p
  obtain ⟨a1, a2, a3, a4, a5, a6, a7, a8, a9, a10, a11, a12⟩ := h
  have h7 := a4.l23 hl hr hbz hlr
  have h6 := a4.2.2.2.1 r hr h7
  refine q_Wp.w (pn := fun _ => 0) ?_ (fun _ _ => rfl)
  refine q_Wp.core hp (fun f _ _ f7 _ f20 => ?_) (fun x _ => ?_) (fun _ => rfl) (fun _ => rfl) (fun f x _ f8 _ _ => ?_) (fun _ _ _ _ _ => rfl) (fun _ _ => rfl) (fun _ _ => rfl) (a2.fr rfl rfl rfl rfl rfl rfl) (q_U.endl a4 a3.2.1.2 hl hbz hr hlr (fun x => ?_) (fun x => ?_) (fun _ _ => rfl) rfl rfl rfl rfl ⟨h6, by omega⟩ (fun _ _ => rfl) (fun _ => hS0)) (fun x hx w => ?_) (a7.fr rfl a2.2.2.1 (fun _ _ => rfl) (fun _ _ => rfl) (fun _ _ _ => ⟨rfl, rfl⟩)) (fun x hx => ?_) (fun _ _ _ _ _ _ => rfl) (fun x hx w => ?_) a12.2.2
  · rw [z_up_f _ _ _ f7, z_up_f _ _ _ f20]
  · by_cases q : x = l
    · right; subst q; simp [z_up]
    · left; simp [z_up, q]
  · simp [z_gI, z_pI, z_up, f8]
  · simp [z_up]
  · simp [z_up]
  · rcases w with w | w
    · exact Or.inl w
    · refine Or.inr (fun z => w ?_)
      by_cases q : x = r
      · subst q; simp [z_up]
      · simp [z_up, q]; exact z
  · by_cases q : x = l
    · subst q; simp [z_gI, z_pI, z_up]
    · have hne := a5.ne (Or.inl ⟨by omega, hx⟩) (Or.inl ⟨by omega, hl⟩) (Or.inr q : (11 : Nat) ≠ 11 ∨ x ≠ l)
      have e1 : z_gI 8 (K 11 x) (z_pI 8 (K 11 l) 0 u) = z_gI 8 (K 11 x) u := by simp [z_gI, z_pI, z_up, hne]
      have e2 : z_up (z_up M 20 l 0) 7 r 0 20 x = M 20 x := by simp [z_up, q]
      rw [e1, e2]
      exact (a10 x hx).1
  · refine a11 x hx ?_
    rcases w with w | w
    · exact Or.inl w
    · refine Or.inr (fun z => w ?_)
      by_cases q : x = r
      · subst q; simp [z_up]
      · simp [z_up, q]; exact z
/-- the line ends, hands hold what was recorded -/
theorem q_W.endl {l r : Nat} (h : q_W t0 N M S C E nb nm md K u) (hl : l < 3) (hbz : ¬ M 20 l = 0) (hr : r < 48) (hlr : M 23 l = nI r) : q_Wp (fun x => if x = r then 1 else 0) t0 N (z_up (z_up (z_up M 20 l 0) 7 r 0) 6 r 1) S C E nb nm md K (q_hold (K 0 0) (K 16 r) (z_pI 8 (K 11 l) 0 u)) := by
  have hp := h.p
  obtain ⟨a1, a2, a3, a4, a5, a6, a7, a8, a9, a10, a11, a12⟩ := h
  have h7 := a4.l23 hl hr hbz hlr
  have h6 := a4.2.2.2.1 r hr h7
  have hlv : q_lv M r := Or.inr h7
  have g25 : z_gI 25 (K 16 r) (z_pI 8 (K 11 l) 0 u) = 0 := ((a11 r hr hlv).2.2.2.2).trans h6
  obtain ⟨o1, o2, o3, o4, o5⟩ := q_hold_o (K 0 0) (K 16 r) (z_pI 8 (K 11 l) 0 u)
  have og := q_hold_g (K 0 0) (K 16 r) (z_pI 8 (K 11 l) 0 u)
  have hlvx : ∀ x, x < 48 → q_lv (z_up (z_up (z_up M 20 l 0) 7 r 0) 6 r 1) x → q_lv M x := fun x hx w => by
    by_cases q : x = r
    · rw [q]; exact hlv
    · rcases w with w | w
      · left; simpa [z_up, q] using w
      · right; simpa [z_up, q] using w
  refine q_Wp.core hp (fun f _ f6 f7 _ f20 => ?_) (fun x _ => ?_) o1 o2 (fun f x _ f8 f25 f34 => ?_) (fun f x _ _ _ => o3 f x) o4 o5 (a2.fr rfl rfl rfl rfl rfl rfl) (q_U.endl a4 a3.2.1.2 hl hbz hr hlr (fun x => ?_) (fun x => ?_) (fun x q => ?_) rfl rfl rfl rfl ⟨?_, by rw [if_pos rfl]; omega⟩ (fun x q => if_neg q) (fun z => ?_)) hlvx (a7.fr rfl a2.2.2.1 (fun b hb => ?_) (fun b hb => o3 _ _) (fun b j hb => ⟨o4 _ _, o4 _ _⟩)) (fun x hx => ?_) (fun _ _ _ _ _ _ => rfl) (fun x hx w => ?_) ?_
  · rw [z_up_f _ _ _ f6, z_up_f _ _ _ f7, z_up_f _ _ _ f20]
  · by_cases q : x = l
    · right; subst q; simp [z_up]
    · left; simp [z_up, q]
  · rw [og, if_neg (fun q => f25 q.1), if_neg (fun q => f34 q.1)]
    simp [z_gI, z_pI, z_up, f8]
  · simp [z_up]
  · simp [z_up]
  · simp [z_up, q]
  · rw [if_pos rfl]; simp [z_up]; rfl
  · exact absurd z (by simp [z_up])
  · rw [og, if_neg (by omega), if_neg (by omega)]
    simp [z_gI, z_pI, z_up]
  · rw [og, if_neg (by omega), if_neg (by omega)]
    by_cases q : x = l
    · subst q; simp [z_gI, z_pI, z_up]
    · have hne := a5.ne (Or.inl ⟨by omega, hx⟩) (Or.inl ⟨by omega, hl⟩) (Or.inr q : (11 : Nat) ≠ 11 ∨ x ≠ l)
      have e1 : z_gI 8 (K 11 x) (z_pI 8 (K 11 l) 0 u) = z_gI 8 (K 11 x) u := by simp [z_gI, z_pI, z_up, hne]
      have e2 : z_up (z_up (z_up M 20 l 0) 7 r 0) 6 r 1 20 x = M 20 x := by simp [z_up, q]
      rw [e1, e2]
      exact (a10 x hx).1
  · obtain ⟨c1, c2, c3, c4, c5⟩ := a11 x hx (hlvx x hx w)
    refine ⟨(o3 _ _).trans c1, (o3 _ _).trans c2, ?_, ?_, ?_⟩
    · rw [og, if_neg (by omega), if_neg (by omega)]; exact c3
    · rw [og, if_neg (by omega), if_neg (by omega)]; exact c4
    · rw [og]
      by_cases q : x = r
      · subst q
        rw [if_pos ⟨rfl, rfl⟩, g25]; simp [z_up]
      · have hne := a5.ne (Or.inr (Or.inr ⟨rfl, hx, hlvx x hx w⟩)) (Or.inr (Or.inr ⟨rfl, hr, hlv⟩)) (Or.inr q : (16 : Nat) ≠ 16 ∨ x ≠ r)
        rw [if_neg (fun z => hne z.2), if_neg (by omega)]
        have e2 : z_up (z_up (z_up M 20 l 0) 7 r 0) 6 r 1 6 x = M 6 x := by simp [z_up, q]
        rw [e2]; exact c5
  · rw [og, if_neg (by omega), if_pos ⟨rfl, rfl, g25⟩]
    have e := q_hd_up (M := M) (M' := z_up (z_up (z_up M 20 l 0) 7 r 0) 6 r 1) (v := 1) hr (fun x => by simp [z_up])
    rw [if_pos h6, if_neg (by decide)] at e
    have e1 : z_gI 34 (K 0 0) (z_pI 8 (K 11 l) 0 u) = nI (q_hd M) := a12.2.2
    rw [e1, nI_1]
    congr 1; omega
/-- hands take up what somebody has -/
theorem q_Wp.take {r : Nat} (h : q_Wp pn t0 N M S C E nb nm md K u) (hr : r < 48) (h6 : ¬ M 6 r = 0) (hb : pn r ≤ 2) : q_Wp (fun x => if x = r then pn x + 1 else pn x) t0 N (z_up M 6 r (M 6 r + 1)) S C E nb nm md K (q_hold (K 0 0) (K 16 r) u) := by
  have hp := h
  obtain ⟨a1, a2, a3, a4, a5, a6, a7, a8, a9, a10, a11, a12⟩ := h
  have hlv : q_lv M r := Or.inl h6
  have g25 : z_gI 25 (K 16 r) u = M 6 r := (a11 r hr hlv).2.2.2.2
  obtain ⟨o1, o2, o3, o4, o5⟩ := q_hold_o (K 0 0) (K 16 r) u
  have og := q_hold_g (K 0 0) (K 16 r) u
  have hle := q_rfs_le (M := M) (nm := nm) (r := r) a3.2.1.2
  have e6 : M 6 r + 1 = nI (q_rfs M nm r + (pn r + 1)) := by rw [(a4.1 r hr).1, nI_1]; rfl
  have n6 : ¬ M 6 r + 1 = 0 := by rw [e6]; exact nI_ne0 (by omega) (by omega)
  have hlvx : ∀ x, x < 48 → q_lv (z_up M 6 r (M 6 r + 1)) x → q_lv M x := fun x hx w => by
    by_cases q : x = r
    · rw [q]; exact hlv
    · rcases w with w | w
      · left; simpa [z_up, q] using w
      · right; exact w
  refine q_Wp.core hp (fun f _ f6 _ _ _ => ?_) (fun x _ => Or.inl rfl) o1 o2 (fun f x _ f8 f25 f34 => ?_) (fun f x _ _ _ => o3 f x) o4 o5 (a2.fr rfl rfl rfl rfl rfl rfl) ⟨fun x hx => ?_, a4.2.1, a4.2.2.1, fun x hx z => ?_, fun x hx z1 z2 => ?_⟩ hlvx (a7.fr rfl a2.2.2.1 (fun b hb => ?_) (fun b hb => o3 _ _) (fun b j hb => ⟨o4 _ _, o4 _ _⟩)) (fun x hx => ?_) (fun _ _ _ _ _ _ => rfl) (fun x hx w => ?_) ?_
  · rw [z_up_f _ _ _ f6]
  · rw [og, if_neg (fun q => f25 q.1), if_neg (fun q => f34 q.1)]
  · have erf : q_rfs (z_up M 6 r (M 6 r + 1)) nm x = q_rfs M nm x := rfl
    rw [erf]
    dsimp only
    by_cases q : x = r
    · subst q
      rw [if_pos rfl, z_up_s]
      exact ⟨e6, by omega⟩
    · rw [if_neg q, z_up_a _ _ _ _ q]
      exact a4.1 x hx
  · have z' : ¬ M 7 x = 0 := z
    have := a4.2.2.2.1 x hx z'
    by_cases q : x = r
    · rw [q] at this; exact absurd this h6
    · rw [z_up_a _ _ _ _ q]; exact this
  · by_cases q : x = r
    · rw [q, z_up_s] at z1; exact absurd z1 n6
    · rw [z_up_a _ _ _ _ q] at z1
      exact a4.2.2.2.2 x hx z1 z2
  · rw [og, if_neg (by omega), if_neg (by omega)]
  · rw [og, if_neg (by omega), if_neg (by omega)]
    exact (a10 x hx).1
  · obtain ⟨c1, c2, c3, c4, c5⟩ := a11 x hx (hlvx x hx w)
    refine ⟨(o3 _ _).trans c1, (o3 _ _).trans c2, ?_, ?_, ?_⟩
    · rw [og, if_neg (by omega), if_neg (by omega)]; exact c3
    · rw [og, if_neg (by omega), if_neg (by omega)]; exact c4
    · rw [og]
      by_cases q : x = r
      · subst q
        rw [if_pos ⟨rfl, rfl⟩, g25, z_up_s]
      · have hne := a5.ne (Or.inr (Or.inr ⟨rfl, hx, hlvx x hx w⟩)) (Or.inr (Or.inr ⟨rfl, hr, hlv⟩)) (Or.inr q : (16 : Nat) ≠ 16 ∨ x ≠ r)
        rw [if_neg (fun z => hne z.2), if_neg (by omega), z_up_a _ _ _ _ q]
        exact c5
  · rw [og, if_neg (by omega), if_neg (fun z => h6 (g25.symm.trans z.2.2))]
    have e := q_hd_up (M := M) (M' := z_up M 6 r (M 6 r + 1)) (v := M 6 r + 1) hr (fun x => by
      by_cases q : x = r
      · subst q; rw [z_up_s, if_pos rfl]
      · rw [z_up_a _ _ _ _ q, if_neg q])
    rw [if_neg h6, if_neg n6] at e
    have e2 : q_hd (z_up M 6 r (M 6 r + 1)) = q_hd M := by omega
    rw [e2]; exact a12.2.2
/-- a greeting's place: what hands hold goes in, hands hold what was there -/
theorem q_Wp.own {i w r : Nat} (h : q_Wp pn t0 N M S C E nb nm md K u) (hi : i < 4) (hw : w < 3) (hr : r < 48) (ho : ∀ x, x < 48 → pn x + (if M 12 (3 * i + w) = nI x then 1 else 0) = pn' x + (if nI r = nI x then 1 else 0)) (hb : ∀ x, x < 48 → pn' x ≤ 3) : q_Wp pn' t0 N (z_up M 12 (3 * i + w) (nI r)) S C E nb nm md K (z_sR (K 9 i) w (some (K 16 r)) u) := by
  obtain ⟨a1, a2, a3, a4, a5, a6, a7, a8, a9, a10, a11, a12⟩ := h
  have v0 : ∀ f j, f ≤ 14 → j < q_fs f → q_vd M nm f j := fun f j h1 h2 => Or.inl ⟨h1, h2⟩
  have v9 := v0 9 i (by omega) hi
  have hsR : ∀ x j, x ≠ K 9 i → z_aR x j (z_sR (K 9 i) w (some (K 16 r)) u) = z_aR x j u := fun x j hx => by simp [z_aR, z_sR, z_up, hx]
  have g12 : ∀ s, z_up M 12 (3 * i + w) (nI r) 12 s = if s = 3 * i + w then nI r else M 12 s := fun s => by simp [z_up]
  refine ⟨a1, a2.fr rfl rfl rfl rfl rfl rfl, ⟨a3.1, a3.2.1, a3.2.2.1, a3.2.2.2.1, a3.2.2.2.2.1, fun s hs => ?_, a3.2.2.2.2.2.2⟩, ⟨fun x hx => ?_, a4.2⟩, a5, a6.fr (fun _ _ _ _ _ _ _ _ => rfl) (fun x j hx => hsR x j ?_) (fun _ => rfl), a7, ⟨a8.1, fun i' w' hi' hw' => ?_⟩, a9.fr rfl rfl rfl rfl rfl rfl (fun m => hsR _ _ ?_) (fun _ _ _ _ => rfl) (fun _ _ _ _ => rfl), a10, a11, a12⟩
  · rw [g12]
    by_cases q : s = 3 * i + w
    · rw [if_pos q]; exact Or.inr ⟨r, hr, rfl⟩
    · rw [if_neg q]; exact a3.2.2.2.2.2.1 s hs
  · refine ⟨?_, hb x hx⟩
    have e6 : z_up M 12 (3 * i + w) (nI r) 6 x = M 6 x := rfl
    rw [e6, (a4.1 x hx).1]
    have hk : 3 * i + w < 12 := by omega
    have e := fb_ct_upd (fun s => decide (M 12 s = nI x)) (decide (nI r = nI x)) (i := 3 * i + w) (n := 12) hk
    have ef : (fun s => decide (z_up M 12 (3 * i + w) (nI r) 12 s = nI x)) = fun k => if k = 3 * i + w then decide (nI r = nI x) else decide (M 12 k = nI x) := by
      funext s
      rw [g12]
      by_cases q : s = 3 * i + w
      · rw [if_pos q, if_pos q]
      · rw [if_neg q, if_neg q]
    have := ho x hx
    have er : q_rfs (z_up M 12 (3 * i + w) (nI r)) nm x = fb_ct (fun m => decide (M 18 m = nI x)) nm + fb_ct (fun m => decide (M 19 m = nI x)) nm + fb_ct (fun s => decide (z_up M 12 (3 * i + w) (nI r) 12 s = nI x)) 12 := rfl
    rw [er, ef]
    unfold q_rfs
    congr 1
    simp only [decide_eq_true_eq] at e
    omega
  · rcases hx with rfl | rfl | rfl
    · exact a5.ne (v0 2 0 (by omega) (by decide)) v9 (Or.inl (by omega))
    · exact a5.ne (v0 7 0 (by omega) (by decide)) v9 (Or.inl (by omega))
    · exact a5.ne (v0 10 0 (by omega) (by decide)) v9 (Or.inl (by omega))
  · rw [g12]
    by_cases q : i' = i ∧ w' = w
    · obtain ⟨rfl, rfl⟩ := q
      rw [if_pos rfl, q_rf_s K hr]
      simp [z_aR, z_sR, z_up]
    · rw [if_neg (fun z => q (by omega))]
      refine Eq.trans ?_ (a8.2 i' w' hi' hw')
      by_cases q2 : i' = i
      · have : w' ≠ w := fun z => q ⟨q2, z⟩
        simp [z_aR, z_sR, z_up, this]
      · exact hsR _ _ (a5.ne (v0 9 i' (by omega) hi') v9 (Or.inr q2))
  · exact a5.ne (v0 14 0 (by omega) (by decide)) v9 (Or.inl (by omega))
end OI
