/-! box and total -/
section OT
variable {t0 ti mi nb nm md N : Nat} {M : z_Md} {S : Nat → Nat} {C : Nat → Nat → Nat} {E : Nat → Nat → Int32 × Int32} {K : Nat → Nat → Nat} {u : z_St} {px : String → z_St → Prop}
theorem q_W.box {x : Int32} (h : q_W t0 N M S C E nb nm md K u) (hb : nb < 4) : q_W t0 N (z_up (z_up M 11 nb x) 10 0 (nI (nb + 1))) S C E (nb + 1) nm md K (z_pI 32 (K 0 0) (nI (nb + 1)) (z_pI 5 (K 8 nb) x u)) := by
  obtain ⟨a1, a2, a3, a4, a5, a6, a7, a8, a9, a10, a11, a12⟩ := h
  refine ⟨a1, a2, ⟨⟨rfl, by omega⟩, a3.2.1, a3.2.2.1, fun m hm => ?_, a3.2.2.2.2.1, a3.2.2.2.2.2.1, fun l hl => ?_, a3.2.2.2.2.2.2.2⟩, a4, a5, a6, a7, ⟨fun i hi => ?_, a8.2⟩, a9, a10, a11, ⟨?_, a12.2⟩⟩
  · obtain ⟨⟨b, hb', e⟩, r⟩ := a3.2.2.2.1 m hm
    exact ⟨⟨b, by omega, e⟩, r⟩
  · obtain ⟨e1, e2⟩ := a3.2.2.2.2.2.2.1 l hl
    refine ⟨e1, fun z => ?_⟩
    obtain ⟨⟨b, hb', e⟩, r⟩ := e2 z
    exact ⟨⟨b, by omega, e⟩, r⟩
  · by_cases q : i = nb
    · subst q
      show z_up _ 5 (K 8 i) x 5 (K 8 i) = z_up M 11 i x 11 i
      rw [z_up_s, z_up_s]
    · have hne := a5.ne (f := 8) (j := i) (f' := 8) (j' := nb) (Or.inl ⟨by omega, show i < 4 by omega⟩) (Or.inl ⟨by omega, hb⟩) (Or.inr q)
      show z_up _ 5 (K 8 nb) x 5 (K 8 i) = z_up M 11 nb x 11 i
      rw [z_up_a _ _ _ _ hne, z_up_a _ _ _ _ q]
      exact a8.1 i (by omega)
  · show z_up _ 32 (K 0 0) _ 32 (K 0 0) = z_up _ 10 0 _ 10 0
    rw [z_up_s, z_up_s]
theorem q_op_box {x : Int32} (h : q_W t0 N M S C E nb nm md K u) : w_X6_box (q_ok1 t0 (N + 1) (K 0 0) (fun post => w_X7_box post M x)) (q_okx t0 (N + 1) (K 0 0) (fun post => w_X7_box post M x) [("java/lang/IllegalArgumentException", 1), ("java/lang/IllegalStateException", 2)]) ti mi (K 0 0) u x := by
  have h' := h
  obtain ⟨a1, a2, a3, a4, a5, a6, a7, a8, a9, a10, a11, a12⟩ := h
  obtain ⟨-, -, -, -, -, -, p29, p7, -⟩ := a6
  have bad1 : (x < 0 ∨ ¬ x ≤ 500) → q_okx t0 (N + 1) (K 0 0) (fun post => w_X7_box post M x) [("java/lang/IllegalArgumentException", 1), ("java/lang/IllegalStateException", 2)] "java/lang/IllegalArgumentException" u := fun hx => by
    refine ⟨1, by simp, ?_⟩
    intro y1 e1
    have hy : y1 = 1 := by
      rw [e1]
      by_cases q : x < 0
      · rw [if_pos q]
      · rw [if_neg q, if_neg (by rcases hx with a | a; exact absurd a q; exact a)]
    rw [hy, q_up0]
    exact ⟨fun q => absurd q q_n1, fun _ => ⟨q_up0 _ _, (h'.up0 1).ww⟩⟩
  refine ⟨fun q => bad1 (Or.inl q), fun q => ⟨fun q2 => ?_, fun q2 => bad1 (Or.inr q2)⟩⟩
  rw [a12.1, a3.1.1]
  refine ⟨fun q3 => ?_, fun q3 => ?_⟩
  · have hb : nb < 4 := (nI_ltI (a := nb) (b := 4) (by have := a3.1.2; omega) (by omega)).mp q3
    refine ⟨_, p29, a5.k 7 0 (by omega) (by decide), by rw [a5.l 7 0 (by omega) (by decide) (by decide)]; exact vp_in_nI (n := nb) (N := 4) hb (by omega), ?_⟩
    rw [q_c (n := nb) (by omega), (p7 nb hb).1]
    refine ⟨_, rfl, a5.k 8 nb (by omega) (show nb < 4 from hb), ?_⟩
    dsimp only [q_ok1]
    intro y1 e1
    have hne : ¬ M 10 0 = 4 := by
      rw [a3.1.1]
      intro z
      have := (nI_eq (a := nb) (b := 4) (by omega) (by omega)).mp z
      omega
    have hy : y1 = 0 := by rw [e1, if_neg q, if_pos q2, if_neg hne]
    have e10 : z_up M 0 0 0 10 0 = nI nb := a3.1.1
    rw [hy, q_up0, e10]
    refine ⟨fun _ => ⟨vp_in_nI hb (by omega), ?_⟩, fun z => absurd q_le0 z⟩
    rw [q_c (n := nb) (by omega)]
    have e10' : z_up (z_up M 0 0 0) 11 nb x 10 0 = nI nb := a3.1.1
    rw [e10', nI_1]
    refine ⟨rfl, ?_, ?_⟩
    · show z_up _ 10 0 (nI (nb + 1)) 10 0 - 1 = z_up _ 32 (K 0 0) (nI (nb + 1)) 32 (K 0 0) - 1
      rw [z_up_s, z_up_s]
    · exact ((h'.up0 0).box hb).ww
  · have hb : nb = 4 := by
      have := a3.1.2
      apply Decidable.byContradiction
      intro z
      exact q3 (nI_lt (a := nb) (b := 4) (by omega) (by omega))
    refine ⟨2, by simp, ?_⟩
    intro y1 e1
    have hy : y1 = 2 := by rw [e1, if_neg q, if_pos q2, if_pos (by rw [a3.1.1, hb]; rfl)]
    rw [hy, q_up0]
    exact ⟨fun q => absurd q q_n2, fun _ => ⟨q_up0 _ _, (h'.up0 2).ww⟩⟩
def q_bz (M : z_Md) : Int32 := ((if M 20 0 = 0 then 0 else 1) + (if M 20 1 = 0 then 0 else 2)) + (if M 20 2 = 0 then 0 else 4)
theorem q_busyBits {post : Int32 → z_St → Prop} (hK : q_wK t0 nm M K u) (hP : q_wP K u) (hL : ∀ l, l < 3 → z_gI 8 (K 11 l) u = M 20 l) (h : post (q_bz M) u) : w_X6_busyBits post ti mi (K 0 0) u := by
  obtain ⟨-, -, -, -, -, -, -, -, p30, p10, -⟩ := hP
  have step : ∀ k, k < 3 → ∀ y : Int32, ∀ n, w_X6_busyBits_4 post ti mi (K 0 0) n u (if M 20 k = 0 then y else y ||| (1 <<< (nI k &&& 31))) (nI (k + 1)) → w_X6_busyBits_4 post ti mi (K 0 0) (n + 1) u y (nI k) := fun k hk y n g => by
    refine ⟨fun hh => absurd hh (nI_ge (a := k) (b := 3) hk (by omega)), fun _ => ⟨_, p30, hK.k 10 0 (by omega) (by decide), ?_, ?_⟩⟩
    · rw [hK.l 10 0 (by omega) (by decide) (by decide)]
      exact vp_in_nI (n := k) (N := 3) hk (by omega)
    · rw [q_c (n := k) (by omega), (p10 k hk).1]
      refine ⟨_, rfl, hK.k 11 k (by omega) (show k < 3 from hk), ?_⟩
      intro y3 e3
      rw [hL k hk] at e3
      rw [nI_1, e3]
      exact g
  refine ⟨4, step 0 (by omega) 0 3 (step 1 (by omega) _ 2 (step 2 (by omega) _ 1 ⟨fun _ => ?_, fun hh => absurd (by decide) hh⟩))⟩
  have : q_bz M = (if M 20 2 = 0 then (if M 20 1 = 0 then (if M 20 0 = 0 then 0 else (0 : Int32) ||| ((1 : Int32) <<< (nI 0 &&& 31))) else (if M 20 0 = 0 then 0 else (0 : Int32) ||| ((1 : Int32) <<< (nI 0 &&& 31))) ||| ((1 : Int32) <<< (nI 1 &&& 31))) else (if M 20 1 = 0 then (if M 20 0 = 0 then 0 else (0 : Int32) ||| ((1 : Int32) <<< (nI 0 &&& 31))) else (if M 20 0 = 0 then 0 else (0 : Int32) ||| ((1 : Int32) <<< (nI 0 &&& 31))) ||| ((1 : Int32) <<< (nI 1 &&& 31))) ||| ((1 : Int32) <<< (nI 2 &&& 31))) := by
    unfold q_bz
    by_cases a : M 20 0 = 0 <;> by_cases b : M 20 1 = 0 <;> by_cases c : M 20 2 = 0 <;> simp only [a, b, c, if_true, if_false] <;> decide
  rw [← this]
  exact h
theorem q_totalM {post : Int32 → z_Md → Prop} {x : Int32} (hQ : q_Q N M nb nm md) (h : ∀ v, (x = 0 → v = M 10 0) → (x = 1 → v = M 13 0) → (x = 2 → v = nI (fb_ct (fun r => decide (¬ M 6 r ≤ 0)) 48)) → (x = 3 → v = nI (fb_ct (q_fr M) 40)) → (x = 4 → v = q_last (q_us M) 40) → (x = 5 → v = q_bz M) → (¬ x = 0 → ¬ x = 1 → ¬ x = 2 → ¬ x = 3 → ¬ x = 4 → ¬ x = 5 → v = -1) → post v M) : ∃ n0, w_X7_total_9 post n0 M x 0 0 := by
  have blk : ∀ rec, rec = nI (fb_ct (fun r => decide (¬ M 6 r ≤ 0)) 48) → ∀ d k, k + d = 40 → w_X7_total_43 post (d + 1) M x rec (nI (fb_ct (q_fr M) k)) (nI k) := by
    intro rec hrec d
    induction d with
    | zero =>
      intro k hk
      have : k = 40 := by omega
      subst this
      refine ⟨fun _ => ?_, fun hh => absurd (by decide) hh⟩
      intro y2 e2 y3 e3 y4 e4 x5 e5
      have hbz : x5 = q_bz M := by rw [e5, e2, e3, e4]; rfl
      refine ⟨fun n0 => ⟨fun n1 => ⟨fun n2 => ⟨fun n3 => ⟨fun n4 => ?_, fun z => q_lastBlock (h _ (fun q => absurd q n0) (fun q => absurd q n1) (fun q => absurd q n2) (fun q => absurd q n3) (fun _ => rfl) (fun q => absurd (z.symm.trans q) (by decide)) (fun _ _ _ _ q => absurd z q))⟩, fun z => h _ (fun q => absurd q n0) (fun q => absurd q n1) (fun q => absurd q n2) (fun _ => rfl) (fun q => absurd (z.symm.trans q) (by decide)) (fun q => absurd (z.symm.trans q) (by decide)) (fun _ _ _ q => absurd z q)⟩, fun z => h _ (fun q => absurd q n0) (fun q => absurd q n1) (fun _ => hrec) (fun q => absurd (z.symm.trans q) (by decide)) (fun q => absurd (z.symm.trans q) (by decide)) (fun q => absurd (z.symm.trans q) (by decide)) (fun _ _ q => absurd z q)⟩, fun z => h _ (fun q => absurd q n0) (fun _ => rfl) (fun q => absurd (z.symm.trans q) (by decide)) (fun q => absurd (z.symm.trans q) (by decide)) (fun q => absurd (z.symm.trans q) (by decide)) (fun q => absurd (z.symm.trans q) (by decide)) (fun _ q => absurd z q)⟩, fun z => h _ (fun _ => rfl) (fun q => absurd (z.symm.trans q) (by decide)) (fun q => absurd (z.symm.trans q) (by decide)) (fun q => absurd (z.symm.trans q) (by decide)) (fun q => absurd (z.symm.trans q) (by decide)) (fun q => absurd (z.symm.trans q) (by decide)) (fun q => absurd z q)⟩
      intro y11 e11
      refine h _ (fun q => absurd q n0) (fun q => absurd q n1) (fun q => absurd q n2) (fun q => absurd q n3) (fun q => absurd q n4) (fun q => ?_) (fun _ _ _ _ _ q => ?_)
      · rw [e11, if_pos q, hbz]
      · rw [e11, if_neg q]
    | succ d ih =>
      intro k hk
      refine ⟨fun hh => absurd hh (nI_ge (a := k) (b := 40) (by omega) (by omega)), fun _ => ⟨vp_in_nI (by omega) (by omega), ?_⟩⟩
      intro y e
      rw [q_c (n := k) (by omega)] at e
      have : y = nI (fb_ct (q_fr M) (k + 1)) := by
        rw [e, fb_ct_succ]
        unfold q_fr
        by_cases z : M 2 k = 0
        · simp [z, nI_1]
        · simp [z]
      rw [this, nI_1]
      exact ih (k + 1) (by omega)
  have key : ∀ d k, k + d = 48 → w_X7_total_9 post (d + 1) M x (nI (fb_ct (fun r => decide (¬ M 6 r ≤ 0)) k)) (nI k) := by
    intro d
    induction d with
    | zero =>
      intro k hk
      have : k = 48 := by omega
      subst this
      exact ⟨fun _ => ⟨41, blk _ rfl 40 0 (by omega)⟩, fun hh => absurd (by decide) hh⟩
    | succ d ih =>
      intro k hk
      refine ⟨fun hh => absurd hh (nI_ge (a := k) (b := 48) (by omega) (by omega)), fun _ => ⟨vp_in_nI (by omega) (by omega), ?_⟩⟩
      intro y e
      rw [q_c (n := k) (by omega)] at e
      have : y = nI (fb_ct (fun r => decide (¬ M 6 r ≤ 0)) (k + 1)) := by
        rw [e, fb_ct_succ]
        by_cases z : M 6 k ≤ 0
        · simp [z]
        · simp [z, nI_1]
      rw [this, nI_1]
      exact ih (k + 1) (by omega)
  exact ⟨49, key 48 0 (by omega)⟩
theorem q_op_total {x : Int32} (h : q_W t0 N M S C E nb nm md K u) : w_X6_total (q_ok1 t0 (N + 1) (K 0 0) (fun post => w_X7_total post M x)) ti mi (K 0 0) u x := by
  have h' := h
  obtain ⟨a1, a2, a3, a4, a5, a6, a7, a8, a9, a10, a11, a12⟩ := h
  have hW0 := h'.up0 0
  have b3 := hW0.2.2.1
  have fin : ∀ v : Int32, (∀ w : Int32, (x = 0 → w = M 10 0) → (x = 1 → w = M 13 0) → (x = 2 → w = nI (fb_ct (fun r => decide (¬ M 6 r ≤ 0)) 48)) → (x = 3 → w = nI (fb_ct (q_fr M) 40)) → (x = 4 → w = q_last (q_us M) 40) → (x = 5 → w = q_bz M) → (¬ x = 0 → ¬ x = 1 → ¬ x = 2 → ¬ x = 3 → ¬ x = 4 → ¬ x = 5 → w = -1) → w = v) → q_ok1 t0 (N + 1) (K 0 0) (fun post => w_X7_total post M x) v u := fun v g => by
    refine q_totalM b3 (fun w c0 c1 c2 c3 c4 c5 c6 => ⟨rfl, ?_, hW0.ww⟩)
    exact g w c0 c1 c2 c3 c4 c5 c6
  have p28 := a6.1
  have p31 := a6.2.2.2.2.2.2.2.2.2.2.1
  refine ⟨fun z => fin _ (fun w c _ _ _ _ _ _ => (c z).trans a12.1.symm), fun z => ⟨_, p31, a5.k 13 0 (by omega) (by decide), fin _ (fun w _ c _ _ _ _ _ => ?_)⟩, fun z => fin _ (fun w _ _ c _ _ _ _ => ?_), fun z => ⟨_, p28, a5.k 1 0 (by omega) (by decide), q_countFree a5 a6 a7.1 (fin _ (fun w _ _ _ c _ _ _ => c z))⟩, fun z => ⟨_, p28, a5.k 1 0 (by omega) (by decide), q_greatestUsed a5 a6 a7.1 (fin _ (fun w _ _ _ _ c _ _ => c z))⟩, fun z => q_busyBits a5 a6 (fun l hl => (a10 l hl).1) (fin _ (fun w _ _ _ _ _ c _ => c z)), fun n0 n1 n2 n3 n4 n5 => fin _ (fun w _ _ _ _ _ _ c => c n0 n1 n2 n3 n4 n5)⟩
  · rw [c z, a9.1, a3.2.1.1]
  · rw [c z, a12.2.2]
    unfold q_hd
    congr 1
    refine fb_ct_cong (fun r hr => ?_)
    have := a4.1 r hr
    have hle := q_rfs_le (M := M) (nm := nm) (r := r) a3.2.1.2
    rw [this]
    by_cases q : q_rfs M nm r = 0
    · rw [q]; decide
    · have e1 := nI_nle (n := q_rfs M nm r) (by omega) (by omega)
      have e2 := nI_ne0 (n := q_rfs M nm r) (by omega) (by omega)
      simp [e1, e2]
end OT
