/-! operations that change little: the class's and the reference's, side by side -/
theorem q_ub_cong {M M' : z_Md} (S : Nat → Nat) (E : Nat → Nat → Int32 × Int32) (nm : Nat) (x : Int32) (h : ∀ f, f ≠ 0 → M' f = M f) : q_ub M' S E nm x = q_ub M S E nm x := by
  have e1 : ∀ k, q_um M' S E x k = q_um M S E x k := by
    intro k
    induction k with
    | zero => rfl
    | succ k ih => unfold q_um; rw [ih, h 16 (by omega), h 18 (by omega), h 19 (by omega)]
  have e2 : ∀ i k, q_ul M' S E x i k = q_ul M S E x i k := by
    intro i k
    induction k with
    | zero => rfl
    | succ k ih => unfold q_ul q_spk; rw [ih, h 20 (by omega), h 21 (by omega), h 22 (by omega), h 23 (by omega)]
  unfold q_ub
  rw [e1, e2]
section OP
variable {t0 ti mi nb nm md N : Nat} {M : z_Md} {S : Nat → Nat} {C : Nat → Nat → Nat} {E : Nat → Nat → Int32 × Int32} {K : Nat → Nat → Nat} {u : z_St} {px : String → z_St → Prop}
theorem q_up0 (M : z_Md) (y : Int32) : z_up M 0 0 y 0 0 = y := z_up_s M 0 0 y
theorem q_W.up0 (h : q_W t0 N M S C E nb nm md K u) (y : Int32) : q_W t0 N (z_up M 0 0 y) S C E nb nm md K u := h.fr0 (fun f h0 _ _ => z_up_f M 0 y h0)
theorem q_W.ww (h : q_W t0 N M S C E nb nm md K u) : q_WW t0 (N + 1) (K 0 0) M u := ⟨S, C, E, nb, nm, md, K, rfl, h.mo (by omega)⟩
theorem q_requireBox {post : z_St → Prop} {x : Int32} (hQ : q_Q N M nb nm md) (hI : q_wI M K u) (h1 : q_ib nb x → post u) (h0 : ¬ q_ib nb x → px "java/util/NoSuchElementException" u) : w_X6_requireBox post px ti mi (K 0 0) u x := by
  have hi := q_ib_iff hQ.1.2 x
  refine ⟨fun a => h0 (fun q => (hi.mp q).1 a), fun a => ?_⟩
  rw [hI.1, hQ.1.1]
  refine ⟨fun b => h1 (hi.mpr ⟨a, fun q => ?_⟩), fun b => h0 (fun q => b ?_)⟩
  · have := (fa_of_lt b).2.1
    exact this q
  · have := (hi.mp q).2
    exact fa_of_nle this
theorem q_require3 {x : Int32} {A B : Prop} (h1 : q_ib 3 x → A) (h0 : ¬ q_ib 3 x → B) : ((x < 0 → B) ∧ (¬ x < 0 → ((x < 3 → A) ∧ (¬ x < 3 → B)))) := by
  have hi := q_ib_iff (nb := 3) (by omega) x
  refine ⟨fun a => h0 (fun q => (hi.mp q).1 a), fun a => ⟨fun b => h1 (hi.mpr ⟨a, fun q => (fa_of_lt b).2.1 q⟩), fun b => h0 (fun q => b (fa_of_nle (hi.mp q).2))⟩⟩
/-- the reference's way to say that a list or a recording has such a number -/
theorem q_is3 {x : Int32} {y r : Int32} (e : y = if r = 0 then 1 else (if x < 0 then 2 else (if x ≤ 2 then 0 else 2))) : (r = 0 → y = 1) ∧ (¬ r = 0 → (q_ib 3 x → y = 0) ∧ (¬ q_ib 3 x → y = 2)) := by
  have hi := q_ib_iff (nb := 3) (by omega) x
  refine ⟨fun h => by rw [e, if_pos h], fun h => ⟨fun q => ?_, fun q => ?_⟩⟩
  · obtain ⟨a, b⟩ := hi.mp q
    obtain ⟨j, hj, rfl⟩ := q
    have : nI j ≤ 2 := nI_le (a := j) (b := 2) (by omega) (by omega)
    rw [e, if_neg h, if_neg a, if_pos this]
  · rw [e, if_neg h]
    by_cases a : x < 0
    · rw [if_pos a]
    · have : ¬ x ≤ 2 := fun b => q (hi.mpr ⟨a, fun c => by
        rw [fa_le] at b c
        have e3 : (nI 3).toInt = 3 := by decide
        have e2 : (2 : Int32).toInt = 2 := by decide
        omega⟩)
      rw [if_neg a, if_neg this]
theorem q_le0 : (0 : Int32) ≤ 0 := by decide
theorem q_n1 : ¬ (1 : Int32) ≤ 0 := by decide
theorem q_n2 : ¬ (2 : Int32) ≤ 0 := by decide
theorem q_n3 : ¬ (3 : Int32) ≤ 0 := by decide
/-- the operation's two sides agree -/
def q_ok1 (t0 N h0 : Nat) (w : (Int32 → z_Md → Prop) → Prop) (r : Int32) (u' : z_St) : Prop := w (fun r' M' => M' 0 0 = 0 ∧ r' = r ∧ q_WW t0 N h0 M' u')
def q_okx (t0 N h0 : Nat) (w : (Int32 → z_Md → Prop) → Prop) (l : List (String × Int32)) (Ex : String) (u' : z_St) : Prop := ∃ c, (Ex, c) ∈ l ∧ w (fun _ M' => M' 0 0 = c ∧ q_WW t0 N h0 M' u')
theorem q_op_used {x : Int32} (hN : N ≤ 64) (h : q_W t0 N M S C E nb nm md K u) : w_X6_used (q_ok1 t0 (N + 1) (K 0 0) (fun post => w_X7_used post M x)) (q_okx t0 (N + 1) (K 0 0) (fun post => w_X7_used post M x) [("java/util/NoSuchElementException", 1)]) ti mi (K 0 0) u x := by
  have h' := h
  obtain ⟨a1, a2, a3, a4, a5, a6, a7, a8, a9, a10, a11, a12⟩ := h
  refine q_requireBox a3 a12 (fun hb => ?_) (fun hb => ?_)
  · refine q_usedBy a3 a4 a5 a6 a9 a11 (fun l hl => ⟨(a10 l hl).1, fun z => ⟨((a10 l hl).2 z).2.2.1, ((a10 l hl).2 z).2.1, ((a10 l hl).2 z).2.2.2.1⟩⟩) ?_
    dsimp only [q_ok1]
    refine q_isBoxM a3 (fun _ => ?_) (fun q => absurd hb q)
    intro y3 e3
    have hy : y3 = 0 := by rw [e3]; decide
    have hW := h'.up0 y3
    have hW' := hW
    obtain ⟨b1, b2, b3, -⟩ := hW'
    rw [q_up0]
    refine ⟨fun _ => q_usedByM b2 hN b3 ⟨by rw [q_up0]; exact hy, ?_, hW.ww⟩, fun q => absurd (by rw [hy]; exact q_le0) q⟩
    exact q_ub_cong S E nm x (fun f h0 => z_up_f M 0 y3 h0)
  · refine ⟨1, by simp, ?_⟩
    refine q_isBoxM a3 (fun q => absurd q hb) (fun _ => ?_)
    intro y3 e3
    have hy : y3 = 1 := by rw [e3]; decide
    rw [q_up0]
    exact ⟨fun q => absurd (by rw [hy] at q; exact q) q_n1, fun _ => ⟨by rw [q_up0]; exact hy, (h'.up0 y3).ww⟩⟩
theorem q_op_quota {x : Int32} (h : q_W t0 N M S C E nb nm md K u) : w_X6_quota (q_ok1 t0 (N + 1) (K 0 0) (fun post => w_X7_quota post M x)) (q_okx t0 (N + 1) (K 0 0) (fun post => w_X7_quota post M x) [("java/util/NoSuchElementException", 1)]) ti mi (K 0 0) u x := by
  have h' := h
  obtain ⟨a1, a2, a3, a4, a5, a6, a7, a8, a9, a10, a11, a12⟩ := h
  obtain ⟨-, -, -, -, -, -, p29, p7, -⟩ := a6
  refine q_requireBox a3 a12 (fun hb => ?_) (fun hb => ?_)
  · obtain ⟨b, hb', rfl⟩ := hb
    have hb4 : b < 4 := Nat.lt_of_lt_of_le hb' a3.1.2
    refine ⟨_, p29, a5.k 7 0 (by omega) (by decide), by rw [a5.l 7 0 (by omega) (by decide) (by decide)]; exact vp_in_nI (n := b) (N := 4) hb4 (by omega), ?_⟩
    rw [q_c (n := b) (by omega), (p7 b hb4).1]
    refine ⟨_, rfl, a5.k 8 b (by omega) (show b < 4 from hb4), ?_⟩
    dsimp only [q_ok1]
    refine q_isBoxM a3 (fun _ => ?_) (fun q => absurd ⟨b, hb', rfl⟩ q)
    intro y3 e3
    have hy : y3 = 0 := by rw [e3]; decide
    rw [q_up0]
    refine ⟨fun _ => vp_in_nI hb4 (by omega), ?_⟩
    intro y4 e4
    refine ⟨by rw [q_up0]; exact hy, ?_, (h'.up0 y3).ww⟩
    rw [e4, hy, if_pos q_le0, q_c (n := b) (by omega), a8.1 b hb']
    simp [z_up]
  · refine ⟨1, by simp, ?_⟩
    refine q_isBoxM a3 (fun q => absurd q hb) (fun _ => ?_)
    intro y3 e3
    have hy : y3 = 1 := by rw [e3]; decide
    rw [q_up0]
    refine ⟨fun q => absurd (by rw [hy] at q; exact q) q_n1, ?_⟩
    intro y4 e4
    exact ⟨by rw [q_up0]; exact hy, (h'.up0 y3).ww⟩
theorem q_op_block {x : Int32} (h : q_W t0 N M S C E nb nm md K u) : w_X6_block (q_ok1 t0 (N + 1) (K 0 0) (fun post => w_X7_block post M x)) (q_okx t0 (N + 1) (K 0 0) (fun post => w_X7_block post M x) [("java/lang/IndexOutOfBoundsException", 1)]) ti mi (K 0 0) u x := by
  have h' := h
  obtain ⟨a1, a2, a3, a4, a5, a6, a7, a8, a9, a10, a11, a12⟩ := h
  obtain ⟨p28, p26, p2, -⟩ := a6
  have bad : ∀ z : Int32, (x < 0 ∨ ¬ x < 40) → q_okx t0 (N + 1) (K 0 0) (fun post => w_X7_block post M x) [("java/lang/IndexOutOfBoundsException", 1)] "java/lang/IndexOutOfBoundsException" u := fun z hx => by
    refine ⟨1, by simp, ?_⟩
    intro y1 e1
    have hy : y1 = 1 := by
      rw [e1]
      by_cases q : x < 0
      · rw [if_pos q]
      · have : 40 ≤ x := by rcases hx with a | a; exact absurd a q; exact fa_of_nlt a
        rw [if_neg q, if_pos this]
    rw [q_up0]
    refine ⟨fun q => absurd (by rw [hy] at q; exact q) q_n1, ?_⟩
    intro y2 e2
    exact ⟨by rw [q_up0]; exact hy, (h'.up0 y1).ww⟩
  refine ⟨fun q => bad 0 (Or.inl q), fun q => ⟨fun q2 => ?_, fun q2 => bad 0 (Or.inr q2)⟩⟩
  have hge : ¬ (40 : Int32) ≤ x := fun z => (fa_of_lt q2).2.1 z
  rcases pk_ix x (n := 40) (by omega) with a | a | ⟨b, hb, rfl⟩
  · exact absurd a q
  · exact absurd a hge
  · refine ⟨_, p28, a5.k 1 0 (by omega) (by decide), _, p26, a5.k 2 0 (by omega) (by decide), by rw [a5.l 2 0 (by omega) (by decide) (by decide)]; exact vp_in_nI (n := b) (N := 40) hb (by omega), ?_⟩
    rw [q_c (n := b) (by omega), p2 b hb]
    refine ⟨_, rfl, a5.k 3 b (by omega) (show b < 40 from hb), ?_⟩
    intro y1 e1
    have hy : y1 = 0 := by rw [e1, if_neg q, if_neg hge]
    rw [q_up0]
    refine ⟨fun _ => vp_in_nI hb (by omega), ?_⟩
    intro y2 e2
    refine ⟨by rw [q_up0]; exact hy, ?_, (h'.up0 y1).ww⟩
    rw [e2, hy, if_pos q_le0, q_c (n := b) (by omega), a7.1 b hb]
    simp [z_up]
theorem q_op_step {x : Int32} (h : q_W t0 N M S C E nb nm md K u) : w_X6_step (q_ok1 t0 (N + 1) (K 0 0) (fun post => w_X7_step post M x)) (q_okx t0 (N + 1) (K 0 0) (fun post => w_X7_step post M x) [("java/lang/IndexOutOfBoundsException", 1)]) ti mi (K 0 0) u x := by
  have h' := h
  obtain ⟨a1, a2, a3, a4, a5, a6, a7, a8, a9, a10, a11, a12⟩ := h
  obtain ⟨-, -, -, -, p27, p6, -⟩ := a6
  have bad : ∀ z : Int32, (x < 0 ∨ ¬ x < 49) → q_okx t0 (N + 1) (K 0 0) (fun post => w_X7_step post M x) [("java/lang/IndexOutOfBoundsException", 1)] "java/lang/IndexOutOfBoundsException" u := fun z hx => by
    refine ⟨1, by simp, ?_⟩
    intro y1 e1
    have hy : y1 = 1 := by
      rw [e1]
      by_cases q : x < 0
      · rw [if_pos q]
      · have : 49 ≤ x := by rcases hx with a | a; exact absurd a q; exact fa_of_nlt a
        rw [if_neg q, if_pos this]
    rw [q_up0]
    refine ⟨fun q => absurd (by rw [hy] at q; exact q) q_n1, ?_⟩
    intro y2 e2
    exact ⟨by rw [q_up0]; exact hy, (h'.up0 y1).ww⟩
  refine ⟨fun q => bad 0 (Or.inl q), fun q => ⟨fun q2 => ?_, fun q2 => bad 0 (Or.inr q2)⟩⟩
  have hge : ¬ (49 : Int32) ≤ x := fun z => (fa_of_lt q2).2.1 z
  rcases pk_ix x (n := 49) (by omega) with a | a | ⟨b, hb, rfl⟩
  · exact absurd a q
  · exact absurd a hge
  · refine ⟨_, p27, a5.k 6 0 (by omega) (by decide), by rw [a5.l 6 0 (by omega) (by decide) (by decide)]; exact vp_in_nI (n := b) (N := 49) hb (by omega), ?_⟩
    rw [q_c (n := b) (by omega), p6 b hb]
    intro y1 e1
    have hy : y1 = 0 := by rw [e1, if_neg q, if_neg hge]
    rw [q_up0]
    refine ⟨fun _ => vp_in_nI hb (by omega), ?_⟩
    intro y2 e2
    refine ⟨by rw [q_up0]; exact hy, ?_, (h'.up0 y1).ww⟩
    rw [e2, hy, if_pos q_le0, q_c (n := b) (by omega), ← a1 b hb]
    simp [z_up]
theorem q_op_next {x l k : Int32} (hN : N ≤ 64) (h : q_W t0 N M S C E nb nm md K u) : w_X6_next (q_ok1 t0 (N + 1) (K 0 0) (fun post => w_X7_next post M x l k)) (q_okx t0 (N + 1) (K 0 0) (fun post => w_X7_next post M x l k) [("java/util/NoSuchElementException", 1), ("java/lang/IllegalArgumentException", 2), ("java/lang/IndexOutOfBoundsException", 3)]) ti mi (K 0 0) u x l k := by
  have h' := h
  obtain ⟨a1, a2, a3, a4, a5, a6, a7, a8, a9, a10, a11, a12⟩ := h
  refine q_requireBox a3 a12 (fun hb => ?_) (fun hb => ?_)
  · refine q_require3 (fun hl => ?_) (fun hl => ?_)
    · refine q_numberInList a3 a5 a6 a9 ?_
      have go : ∀ post : Int32 → z_Md → Prop, (∀ v, q_nl M x l k nm 0 0 = some v → post v (z_up M 0 0 0)) → (q_nl M x l k nm 0 0 = none → post 0 (z_up (z_up M 0 0 0) 0 0 3)) → w_X7_next post M x l k := fun post g1 g2 => by
        refine q_isBoxM a3 (fun _ => ?_) (fun q => absurd hb q)
        intro y3 e3
        have hy : y3 = 0 := ((q_is3 e3).2 (by decide)).1 hl
        rw [hy, q_up0]
        refine ⟨fun _ => ?_, fun q => absurd q_le0 q⟩
        have b3 := (h'.up0 0).2.2.1
        have e : q_nl (z_up M 0 0 0) x l k nm 0 0 = q_nl M x l k nm 0 0 := by
          have : ∀ d m s, q_nl (z_up M 0 0 0) x l k d m s = q_nl M x l k d m s := by
            intro d
            induction d with
            | zero => intro m s; rfl
            | succ d ih => intro m s; unfold q_nl; rw [ih, ih]; rfl
          exact this nm 0 0
        exact q_nextM b3 (fun v hv => g1 v (by rw [← e]; exact hv)) (fun hv => g2 (by rw [← e]; exact hv))
      cases hv : q_nl M x l k nm 0 0 with
      | none =>
        refine ⟨fun q => absurd rfl q, fun _ => ⟨3, by simp, go _ (fun v q => by rw [hv] at q; cases q) (fun _ => ⟨q_up0 _ _, ((h'.up0 0).up0 3).ww⟩)⟩⟩
      | some v =>
        obtain ⟨j, -, hj, ev⟩ := q_nl_some hv
        obtain ⟨i, hi, ei⟩ := (a3.2.2.2.1 j (by omega)).2.2.2
        have hne : ¬ v = -1 := by
          rw [ev, ei]
          intro q
          have hp := nI_pos (n := i) (by have := a3.2.2.1.2; omega)
          rw [q] at hp
          exact hp q_m1
        refine ⟨fun _ => go _ (fun w q => ?_) (fun q => by rw [hv] at q; cases q), fun q => absurd q hne⟩
        rw [hv] at q
        cases q
        exact ⟨q_up0 _ _, rfl, (h'.up0 0).ww⟩
    · refine ⟨2, by simp, ?_⟩
      refine q_isBoxM a3 (fun _ => ?_) (fun q => absurd hb q)
      intro y3 e3
      have hy : y3 = 2 := ((q_is3 e3).2 (by decide)).2 hl
      rw [q_up0]
      exact ⟨fun q => absurd (by rw [hy] at q; exact q) q_n2, fun _ => ⟨by rw [q_up0]; exact hy, (h'.up0 y3).ww⟩⟩
  · refine ⟨1, by simp, ?_⟩
    refine q_isBoxM a3 (fun q => absurd q hb) (fun _ => ?_)
    intro y3 e3
    have hy : y3 = 1 := (q_is3 e3).1 rfl
    rw [q_up0]
    exact ⟨fun q => absurd (by rw [hy] at q; exact q) q_n1, fun _ => ⟨by rw [q_up0]; exact hy, (h'.up0 y3).ww⟩⟩
end OP
