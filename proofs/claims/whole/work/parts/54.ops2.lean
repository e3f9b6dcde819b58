/-! mark, duration, play, length, greeting, box -/
theorem q_fm_nat {e : Nat → Int32 × Int32} : ∀ {n : Nat}, (∀ i, i < n → ∃ g : Nat, g ≤ 64 ∧ (e i).1 = nI g) → ∃ F : Nat, F ≤ 64 * n ∧ q_fm e n = nI F
  | 0, _ => ⟨0, by omega, rfl⟩
  | n + 1, h => by
    obtain ⟨F, hF, eF⟩ := q_fm_nat (n := n) (fun i hi => h i (by omega))
    obtain ⟨g, hg, eg⟩ := h n (by omega)
    unfold q_fm
    rw [eF, eg]
    by_cases g0 : g = 0
    · subst g0
      exact ⟨F + 1, by omega, by rw [if_pos (show nI 0 = 0 from rfl), nI_1]⟩
    · exact ⟨F + g, by omega, by rw [if_neg (nI_ne0 (by omega) (by omega)), nI_add]⟩
section OQ
variable {t0 ti mi nb nm md N : Nat} {M : z_Md} {S : Nat → Nat} {C : Nat → Nat → Nat} {E : Nat → Nat → Int32 × Int32} {K : Nat → Nat → Nat} {u : z_St} {px : String → z_St → Prop}
theorem q_frames_nat (hP : q_P N M S C E) (hN : N ≤ 64) {x : Int32} (hx : q_rn x) : ∃ F : Nat, F ≤ 4096 ∧ q_frames S E x = nI F := by
  rcases hx with rfl | ⟨r, hr, rfl⟩
  · exact ⟨0, by omega, rfl⟩
  · unfold q_frames
    rw [if_neg (nI_pos (by omega)), q_c (by omega)]
    have hS := (hP.1 r hr).2
    obtain ⟨F, hF, e⟩ := q_fm_nat (e := E r) (n := S r) (fun i hi => by
      obtain ⟨g, hg, eg⟩ := hP.2.2.2.2.2.2.1 r i hr hi
      exact ⟨g, by omega, eg⟩)
    exact ⟨F, by omega, e⟩
theorem q_rn18 (hQ : q_Q N M nb nm md) {m : Nat} (hm : m < nm) : q_rn (M 18 m) := Or.inr ((hQ.2.2.2.1 m hm).2.1)
theorem q_W.mark {m : Nat} {x : Int32} (h : q_W t0 N M S C E nb nm md K u) (hm : m < nm) : q_W t0 N (z_up M 17 m x) S C E nb nm md K (z_pI 20 (K 15 m) x u) := by
  obtain ⟨a1, a2, a3, a4, a5, a6, a7, a8, a9, a10, a11, a12⟩ := h
  refine ⟨a1, a2, a3, a4, a5, a6, a7, a8, ⟨a9.1, a9.2.1, fun j hj => ?_⟩, a10, a11, a12⟩
  obtain ⟨b1, b2, b3, b4, b5⟩ := a9.2.2 j hj
  refine ⟨b1, b2, ?_, b4, b5⟩
  by_cases q : j = m
  · subst q
    show z_up _ 20 (K 15 j) x 20 (K 15 j) = z_up M 17 j x 17 j
    rw [z_up_s, z_up_s]
  · have hne := a5.ne (Or.inr (Or.inl ⟨rfl, hj⟩)) (Or.inr (Or.inl ⟨rfl, hm⟩)) (Or.inr q)
    show z_up _ 20 (K 15 m) x 20 (K 15 j) = z_up M 17 m x 17 j
    rw [z_up_a _ _ _ _ hne, z_up_a _ _ _ _ q]
    exact b3
theorem q_op_mark {x l : Int32} (h : q_W t0 N M S C E nb nm md K u) : w_X6_mark (q_ok1 t0 (N + 1) (K 0 0) (fun post => w_X7_mark post M x l)) (q_okx t0 (N + 1) (K 0 0) (fun post => w_X7_mark post M x l) [("java/util/NoSuchElementException", 1), ("java/lang/IllegalArgumentException", 2)]) ti mi (K 0 0) u x l := by
  have h' := h
  obtain ⟨a1, a2, a3, a4, a5, a6, a7, a8, a9, a10, a11, a12⟩ := h
  refine q_placeOf a3 a5 a6 a9 (fun m hm em => ?_) (fun hn => ?_)
  · refine ⟨_, a6.2.2.2.2.2.2.2.2.2.2.1, a5.k 13 0 (by omega) (by decide), q_get a3.2.1.2 a5 a6 a9 hm ⟨_, rfl, a5.m hm, q_require3 (fun hl => ?_) (fun hl => ?_)⟩⟩
    · intro x4 e4
      dsimp only [q_ok1]
      refine q_findM a3 (fun m2 hm2 em2 => ?_) (fun q => absurd em (q m hm))
      obtain rfl := q_one a3 hm2 hm (em2.trans em.symm)
      intro y3 e3
      have hy : y3 = 0 := ((q_is3 (r := 1) (e3.trans (by rw [if_pos (show (0 : Int32) ≤ nI m2 from nI_pos' (by have := a3.2.1.2; omega)), if_neg (show ¬ (1 : Int32) = 0 by decide)]))).2 (by decide)).1 hl
      have hv : vp_in (nI m2) 16 := vp_in_nI (by have := a3.2.1.2; omega) (by omega)
      rw [hy, q_up0]
      refine ⟨fun _ => ⟨hv, ?_⟩, fun q => absurd q_le0 q⟩
      intro x5 e5
      refine ⟨hv, ?_⟩
      rw [q_c (by have := a3.2.1.2; omega)] at e5 ⊢
      refine ⟨rfl, ?_, ((h'.up0 0).mark hm).ww⟩
      rw [e5, e4, (a9.2.2 m2 hm).2.2.1]
      rfl
    · refine ⟨2, by simp, ?_⟩
      refine q_findM a3 (fun m2 hm2 em2 => ?_) (fun q => absurd em (q m hm))
      intro y3 e3
      have hy : y3 = 2 := ((q_is3 (r := 1) (e3.trans (by rw [if_pos (show (0 : Int32) ≤ nI m2 from nI_pos' (by have := a3.2.1.2; omega)), if_neg (show ¬ (1 : Int32) = 0 by decide)]))).2 (by decide)).2 hl
      rw [hy, q_up0]
      exact ⟨fun q => absurd q q_n2, fun _ => ⟨q_up0 _ _, (h'.up0 2).ww⟩⟩
  · refine ⟨1, by simp, ?_⟩
    refine q_findM a3 (fun m2 hm2 em2 => absurd em2 (hn m2 hm2)) (fun _ => ?_)
    intro y3 e3
    have hy : y3 = 1 := by rw [e3, if_neg (show ¬ (0 : Int32) ≤ -1 by decide)]
    rw [hy, q_up0]
    exact ⟨fun q => absurd q q_n1, fun _ => ⟨q_up0 _ _, (h'.up0 1).ww⟩⟩
theorem q_op_duration {x : Int32} (hN : N ≤ 64) (h : q_W t0 N M S C E nb nm md K u) : w_X6_duration (q_ok1 t0 (N + 1) (K 0 0) (fun post => w_X7_duration post M x)) (q_okx t0 (N + 1) (K 0 0) (fun post => w_X7_duration post M x) [("java/util/NoSuchElementException", 1)]) ti mi (K 0 0) u x := by
  have h' := h
  obtain ⟨a1, a2, a3, a4, a5, a6, a7, a8, a9, a10, a11, a12⟩ := h
  refine q_placeOf a3 a5 a6 a9 (fun m hm em => ?_) (fun hn => ?_)
  · obtain ⟨-, -, -, b18, b19⟩ := a9.2.2 m hm
    refine ⟨_, a6.2.2.2.2.2.2.2.2.2.2.1, a5.k 13 0 (by omega) (by decide), q_get a3.2.1.2 a5 a6 a9 hm ⟨_, rfl, a5.m hm, ?_⟩⟩
    rw [b19]
    refine q_samplesOf a5 a11 (q_lv19 a3 a4 hm) ?_
    rw [b18]
    refine q_samplesOf a5 a11 (q_lv18 a3 a4 hm) ?_
    dsimp only [q_ok1]
    refine q_findM a3 (fun m2 hm2 em2 => ?_) (fun q => absurd em (q m hm))
    obtain rfl := q_one a3 hm2 hm (em2.trans em.symm)
    intro y3 e3
    have hp : (0 : Int32) ≤ nI m2 := nI_pos' (by have := a3.2.1.2; omega)
    have hy : y3 = 0 := by rw [e3, if_pos hp]
    have hv : vp_in (nI m2) 16 := vp_in_nI (by have := a3.2.1.2; omega) (by omega)
    obtain ⟨-, b2, -⟩ := h'.up0 0
    rw [hy]
    refine ⟨fun _ => ⟨hv, ?_⟩, fun q => absurd hp q⟩
    rw [q_c (by have := a3.2.1.2; omega)]
    refine q_framesM b2 hN (q_rn18 a3 hm) ⟨hv, q_framesM b2 hN (a3.2.2.2.1 m2 hm).2.2.1 ⟨rfl, ?_, (h'.up0 0).ww⟩⟩
    show 8 * (q_frames S E (M 18 m2) + q_frames S E (M 19 m2)) = 8 * q_frames S E (M 19 m2) + 8 * q_frames S E (M 18 m2)
    rw [Int32.mul_add, Int32.add_comm]
  · refine ⟨1, by simp, ?_⟩
    refine q_findM a3 (fun m2 hm2 em2 => absurd em2 (hn m2 hm2)) (fun _ => ?_)
    intro y3 e3
    have hy : y3 = 1 := by rw [e3]; decide
    rw [hy]
    exact ⟨fun q => absurd q (by decide), fun _ => ⟨q_up0 _ _, (h'.up0 1).ww⟩⟩
theorem q_gi_W (h : q_W t0 N M S C E nb nm md K u) (t : Int32 × Int32) : q_W t0 N (q_gi M t) S C E nb nm md K u := h.fr0 (fun f _ h1 h2 => q_gi_f M t h1 h2)
theorem q_op_play {x i : Int32} (hN : N ≤ 64) (h : q_W t0 N M S C E nb nm md K u) : w_X6_play (q_ok1 t0 (N + 1) (K 0 0) (fun post => w_X7_play post M x i)) (q_okx t0 (N + 1) (K 0 0) (fun post => w_X7_play post M x i) [("java/util/NoSuchElementException", 1), ("java/lang/IndexOutOfBoundsException", 2)]) ti mi (K 0 0) u x i := by
  have h' := h
  obtain ⟨a1, a2, a3, a4, a5, a6, a7, a8, a9, a10, a11, a12⟩ := h
  refine q_placeOf a3 a5 a6 a9 (fun m hm em => ?_) (fun hn => ?_)
  · have hn16 := a3.2.1.2
    obtain ⟨-, -, -, b18, b19⟩ := a9.2.2 m hm
    obtain ⟨F, hF, eF⟩ := q_frames_nat a2 hN (q_rn18 a3 hm)
    obtain ⟨G, hG, eG⟩ := q_frames_nat a2 hN (a3.2.2.2.1 m hm).2.2.1
    have hv : vp_in (nI m) 16 := vp_in_nI (by omega) (by omega)
    have hp : (0 : Int32) ≤ nI m := nI_pos' (by omega)
    have hc : (nI m).toNatClampNeg = m := q_c (by omega)
    -- the reference
    have ref : ∀ post : Int32 → z_Md → Prop, w_X7_play_53 post M i (nI m) (nI (8 * G)) (nI (8 * G + 8 * F)) → w_X7_play post M x i := fun post g => by
      refine q_findM a3 (fun m2 hm2 em2 => ?_) (fun q => absurd em (q m hm))
      obtain rfl := q_one a3 hm2 hm (em2.trans em.symm)
      refine ⟨fun _ => ⟨hv, ?_⟩, fun q => absurd hp q⟩
      rw [hc]
      refine q_framesM a2 hN (a3.2.2.2.1 m2 hm).2.2.1 ⟨fun _ => ⟨hv, ?_⟩, fun q => absurd hp q⟩
      rw [hc]
      refine q_framesM a2 hN (q_rn18 a3 hm) ?_
      rw [eG, eF, q_mul8, q_mul8, nI_add]
      exact g
    have bad : (i < 0 ∨ ¬ i < nI (8 * G + 8 * F)) → q_okx t0 (N + 1) (K 0 0) (fun post => w_X7_play post M x i) [("java/util/NoSuchElementException", 1), ("java/lang/IndexOutOfBoundsException", 2)] "java/lang/IndexOutOfBoundsException" u := fun hi => by
      refine ⟨2, by simp, ref _ ?_⟩
      intro y1 e1
      have hy : y1 = 2 := by
        rw [e1, if_pos hp]
        by_cases q : i < 0
        · rw [if_pos q]
        · rw [if_neg q, if_neg (by rcases hi with a | a; exact absurd a q; exact a)]
      rw [hy, q_up0]
      exact ⟨fun q => absurd q q_n2, fun _ => ⟨q_up0 _ _, (h'.up0 2).ww⟩⟩
    refine ⟨_, a6.2.2.2.2.2.2.2.2.2.2.1, a5.k 13 0 (by omega) (by decide), q_get hn16 a5 a6 a9 hm ⟨_, rfl, a5.m hm, ?_⟩⟩
    rw [b19]
    refine q_samplesOf a5 a11 (q_lv19 a3 a4 hm) ⟨fun q => bad (Or.inl q), fun q => ?_⟩
    rw [b18]
    refine q_samplesOf a5 a11 (q_lv18 a3 a4 hm) ?_
    rw [eG, eF, q_mul8, q_mul8, nI_add]
    refine ⟨fun hlt => ?_, fun q2 => bad (Or.inr q2)⟩
    obtain ⟨j, hj, rfl⟩ := nI_of q
    have hjl : j < 8 * G + 8 * F := (nI_ltI (by omega) (by omega)).mp hlt
    have ref2 : ∀ post : Int32 → z_Md → Prop, (8 * G ≤ j → w_X7_sound post (z_up M 0 0 0) (M 18 m) (nI (j - 8 * G))) → (j < 8 * G → w_X7_sound post (z_up M 0 0 0) (M 19 m) (nI j)) → w_X7_play post M x (nI j) := fun post g1 g2 => ref _ (by
      intro y1 e1
      have hy : y1 = 0 := by rw [e1, if_pos hp, if_neg q, if_pos hlt]
      rw [hy, q_up0, hc]
      refine ⟨fun _ => ⟨fun z => ⟨hv, ?_⟩, fun z => ⟨hv, ?_⟩⟩, fun z => absurd q_le0 z⟩
      · have hle : 8 * G ≤ j := (nI_leI (by omega) (by omega)).mp z
        rw [pk_sub hle]
        exact g1 hle
      · have hlt2 : j < 8 * G := by
          apply Decidable.byContradiction
          intro w
          exact z (nI_le (by omega) (by omega))
        exact g2 hlt2)
    obtain ⟨c1, c2, -⟩ := h'.up0 0
    refine ⟨fun z => ?_, fun z => ?_⟩
    · have hle : 8 * G ≤ j := (nI_leI (by omega) (by omega)).mp z
      rw [pk_sub hle]
      obtain ⟨r, hr, er⟩ := (a3.2.2.2.1 m hm).2.1
      rw [b18, er]
      refine q_soundOf a2 hN a5 a6 a7 a11 hr (Or.inl (a4.l18 hn16 hm hr er)) (by omega) ?_
      dsimp only [q_ok1]
      refine ref2 _ (fun _ => ?_) (fun w => by omega)
      rw [er]
      exact q_soundM c1 c2 hN hr (by omega) (fun t => ⟨rfl, rfl, (q_gi_W (h'.up0 0) t).ww⟩)
    · have hlt2 : j < 8 * G := by
        apply Decidable.byContradiction
        intro w
        exact z (nI_le (by omega) (by omega))
      rcases (a3.2.2.2.1 m hm).2.2.1 with er | ⟨r, hr, er⟩
      · rw [er] at eG
        have : G = 0 := by
          have : q_frames S E (-1) = nI 0 := rfl
          rw [this] at eG
          exact ((nI_eq (by omega) (by omega)).mp eG).symm
        omega
      · rw [b19, er]
        refine q_soundOf a2 hN a5 a6 a7 a11 hr (Or.inl (a4.l19 hn16 hm hr er)) (by omega) ?_
        dsimp only [q_ok1]
        refine ref2 _ (fun w => by omega) (fun _ => ?_)
        rw [er]
        exact q_soundM c1 c2 hN hr (by omega) (fun t => ⟨rfl, rfl, (q_gi_W (h'.up0 0) t).ww⟩)
  · refine ⟨1, by simp, ?_⟩
    refine q_findM a3 (fun m2 hm2 em2 => absurd em2 (hn m2 hm2)) (fun _ => ?_)
    refine ⟨fun q => absurd q (by decide), fun _ => ⟨fun q => absurd q (by decide), fun _ => ?_⟩⟩
    intro y1 e1
    have hy : y1 = 1 := by rw [e1, if_neg (show ¬ (0 : Int32) ≤ -1 by decide)]
    rw [hy, q_up0]
    exact ⟨fun q => absurd q q_n1, fun _ => ⟨q_up0 _ _, (h'.up0 1).ww⟩⟩
theorem q_3bw {b w : Nat} : (3 : Int32) * nI b + nI w = nI (3 * b + w) := by
  have : (3 : Int32) * nI b = nI (3 * b) := pk_mul 3 b
  rw [this, nI_add]
theorem q_op_length {x w : Int32} (hN : N ≤ 64) (h : q_W t0 N M S C E nb nm md K u) : w_X6_length (q_ok1 t0 (N + 1) (K 0 0) (fun post => w_X7_length post M x w)) (q_okx t0 (N + 1) (K 0 0) (fun post => w_X7_length post M x w) [("java/util/NoSuchElementException", 1), ("java/lang/IllegalArgumentException", 2)]) ti mi (K 0 0) u x w := by
  have h' := h
  obtain ⟨a1, a2, a3, a4, a5, a6, a7, a8, a9, a10, a11, a12⟩ := h
  obtain ⟨-, -, -, -, -, -, p29, p7, -⟩ := a6
  refine q_requireBox a3 a12 (fun hb => ?_) (fun hb => ?_)
  · have hb2 := hb
    refine q_require3 (fun hw => ?_) (fun hw => ?_)
    · have hw2 := hw
      obtain ⟨b, hb', rfl⟩ := hb
      obtain ⟨v, hv', rfl⟩ := hw
      have hb4 : b < 4 := Nat.lt_of_lt_of_le hb' a3.1.2
      refine ⟨_, p29, a5.k 7 0 (by omega) (by decide), by rw [a5.l 7 0 (by omega) (by decide) (by decide)]; exact vp_in_nI (n := b) (N := 4) hb4 (by omega), ?_⟩
      rw [q_c (n := b) (by omega), (p7 b hb4).1]
      refine ⟨_, rfl, a5.k 8 b (by omega) (show b < 4 from hb4), _, (p7 b hb4).2, a5.k 9 b (by omega) (show b < 4 from hb4), by rw [a5.l 9 b (by omega) (show b < 4 from hb4) (by decide)]; exact vp_in_nI (n := v) (N := 3) hv' (by omega), ?_⟩
      rw [q_c (n := v) (by omega), a8.2 b v hb4 hv']
      refine q_samplesOf a5 a11 (q_lv12 a3 a4 (by omega)) ?_
      dsimp only [q_ok1]
      refine q_isBoxM a3 (fun _ => ?_) (fun q => absurd hb2 q)
      intro y3 e3
      have hy : y3 = 0 := ((q_is3 e3).2 (by decide)).1 hw2
      obtain ⟨-, b2, -⟩ := h'.up0 0
      rw [hy, q_up0]
      refine ⟨fun _ => ?_, fun q => absurd q_le0 q⟩
      rw [q_3bw, q_c (by omega)]
      exact ⟨vp_in_nI (by omega) (by omega), q_framesM b2 hN (a3.2.2.2.2.2.1 (3 * b + v) (by omega)) ⟨rfl, rfl, (h'.up0 0).ww⟩⟩
    · refine ⟨2, by simp, ?_⟩
      refine q_isBoxM a3 (fun _ => ?_) (fun q => absurd hb q)
      intro y3 e3
      have hy : y3 = 2 := ((q_is3 e3).2 (by decide)).2 hw
      rw [hy, q_up0]
      exact ⟨fun q => absurd q q_n2, fun _ => ⟨q_up0 _ _, (h'.up0 2).ww⟩⟩
  · refine ⟨1, by simp, ?_⟩
    refine q_isBoxM a3 (fun q => absurd q hb) (fun _ => ?_)
    intro y3 e3
    have hy : y3 = 1 := (q_is3 e3).1 rfl
    rw [hy, q_up0]
    exact ⟨fun q => absurd q q_n1, fun _ => ⟨q_up0 _ _, (h'.up0 1).ww⟩⟩
theorem q_op_greeting {x w i : Int32} (hN : N ≤ 64) (h : q_W t0 N M S C E nb nm md K u) : w_X6_greeting (q_ok1 t0 (N + 1) (K 0 0) (fun post => w_X7_greeting post M x w i)) (q_okx t0 (N + 1) (K 0 0) (fun post => w_X7_greeting post M x w i) [("java/util/NoSuchElementException", 1), ("java/lang/IllegalArgumentException", 2), ("java/lang/IndexOutOfBoundsException", 3)]) ti mi (K 0 0) u x w i := by
  have h' := h
  obtain ⟨a1, a2, a3, a4, a5, a6, a7, a8, a9, a10, a11, a12⟩ := h
  have a6' := a6
  obtain ⟨-, -, -, -, -, -, p29, p7, -⟩ := a6
  refine q_requireBox a3 a12 (fun hb => ?_) (fun hb => ?_)
  · have hb2 := hb
    refine q_require3 (fun hw => ?_) (fun hw => ?_)
    · have hw2 := hw
      obtain ⟨b, hb', rfl⟩ := hb
      obtain ⟨v, hv', rfl⟩ := hw
      have hb4 : b < 4 := Nat.lt_of_lt_of_le hb' a3.1.2
      have hrn := a3.2.2.2.2.2.1 (3 * b + v) (by omega)
      obtain ⟨b1, b2, -⟩ := h'.up0 0
      obtain ⟨F, hF, eF⟩ := q_frames_nat a2 hN hrn
      have ref : ∀ post : Int32 → z_Md → Prop, ((i < 0 ∨ ¬ i < nI (8 * F)) → post 0 (z_up (z_up M 0 0 0) 0 0 3)) → (¬ i < 0 → i < nI (8 * F) → w_X7_sound post (z_up (z_up M 0 0 0) 0 0 0) (M 12 (3 * b + v)) i) → w_X7_greeting post M (nI b) (nI v) i := fun post g1 g2 => by
        refine q_isBoxM a3 (fun _ => ?_) (fun q => absurd hb2 q)
        intro y3 e3
        have hy : y3 = 0 := ((q_is3 e3).2 (by decide)).1 hw2
        rw [hy, q_up0]
        refine ⟨fun _ => ?_, fun q => absurd q_le0 q⟩
        rw [q_3bw, q_c (by omega)]
        refine ⟨vp_in_nI (by omega) (by omega), ?_⟩
        intro x4 e4
        have e4' : x4 = M 12 (3 * b + v) := e4
        have b69 : (i < 0 ∨ ¬ i < nI (8 * F)) → w_X7_greeting_69 post (z_up M 0 0 0) i x4 := fun q => by
          unfold w_X7_greeting_69 w_X7_greeting_74
          rw [q_up0]
          exact ⟨fun z => absurd z q_n3, fun _ => g1 q⟩
        refine ⟨fun q => b69 (Or.inl q), fun q => ?_⟩
        rw [e4'] at *
        refine q_framesM b2 hN hrn ?_
        rw [eF, q_mul8]
        refine ⟨fun z => ?_, fun z => b69 (Or.inr z)⟩
        unfold w_X7_greeting_74
        rw [q_up0]
        exact ⟨fun _ => g2 q z, fun z2 => absurd q_le0 z2⟩
      have bad : (i < 0 ∨ ¬ i < nI (8 * F)) → q_okx t0 (N + 1) (K 0 0) (fun post => w_X7_greeting post M (nI b) (nI v) i) [("java/util/NoSuchElementException", 1), ("java/lang/IllegalArgumentException", 2), ("java/lang/IndexOutOfBoundsException", 3)] "java/lang/IndexOutOfBoundsException" u := fun hi =>
        ⟨3, by simp, ref _ (fun _ => ⟨rfl, ((h'.up0 0).up0 3).ww⟩) (fun z1 z2 => by rcases hi with a | a; exact absurd a z1; exact absurd z2 a)⟩
      refine ⟨_, p29, a5.k 7 0 (by omega) (by decide), by rw [a5.l 7 0 (by omega) (by decide) (by decide)]; exact vp_in_nI (n := b) (N := 4) hb4 (by omega), ?_⟩
      rw [q_c (n := b) (by omega), (p7 b hb4).1]
      refine ⟨_, rfl, a5.k 8 b (by omega) (show b < 4 from hb4), _, (p7 b hb4).2, a5.k 9 b (by omega) (show b < 4 from hb4), by rw [a5.l 9 b (by omega) (show b < 4 from hb4) (by decide)]; exact vp_in_nI (n := v) (N := 3) hv' (by omega), fun q => bad (Or.inl q), fun q => ?_⟩
      rw [q_c (n := v) (by omega), a8.2 b v hb4 hv']
      refine q_samplesOf a5 a11 (q_lv12 a3 a4 (by omega)) ?_
      rw [eF, q_mul8]
      refine ⟨fun hlt => ?_, fun z => bad (Or.inr z)⟩
      obtain ⟨j, hj, rfl⟩ := nI_of q
      have hjl : j < 8 * F := (nI_ltI (by omega) (by omega)).mp hlt
      rcases hrn with er | ⟨r, hr, er⟩
      · rw [er] at eF
        have : F = 0 := by
          have : q_frames S E (-1) = nI 0 := rfl
          rw [this] at eF
          exact ((nI_eq (by omega) (by omega)).mp eF).symm
        omega
      · rw [er]
        refine q_soundOf a2 hN a5 a6' a7 a11 hr (Or.inl (a4.l12 a3.2.1.2 (by omega) hr er)) (by omega) ?_
        dsimp only [q_ok1]
        obtain ⟨c1, c2, -⟩ := (h'.up0 0).up0 0
        refine ref _ (fun z => by rcases z with a | a; exact absurd a q; exact absurd hlt a) (fun _ _ => ?_)
        rw [er]
        exact q_soundM c1 c2 hN hr (by omega) (fun t => ⟨rfl, rfl, (q_gi_W ((h'.up0 0).up0 0) t).ww⟩)
    · refine ⟨2, by simp, ?_⟩
      refine q_isBoxM a3 (fun _ => ?_) (fun q => absurd hb q)
      intro y3 e3
      have hy : y3 = 2 := ((q_is3 e3).2 (by decide)).2 hw
      rw [hy, q_up0]
      exact ⟨fun q => absurd q q_n2, fun _ => ⟨q_up0 _ _, (h'.up0 2).ww⟩⟩
  · refine ⟨1, by simp, ?_⟩
    refine q_isBoxM a3 (fun q => absurd q hb) (fun _ => ?_)
    intro y3 e3
    have hy : y3 = 1 := (q_is3 e3).1 rfl
    rw [hy, q_up0]
    exact ⟨fun q => absurd q q_n1, fun _ => ⟨q_up0 _ _, (h'.up0 1).ww⟩⟩
end OQ
