/-! more of what is read: places of messages, lists, sounds -/
section QS
variable {t0 ti mi nb nm md N : Nat} {M : z_Md} {S : Nat → Nat} {C : Nat → Nat → Nat} {E : Nat → Nat → Int32 × Int32} {K : Nat → Nat → Nat} {u : z_St} {px : String → z_St → Prop}
theorem q_W.fr0 {M' : z_Md} (h : q_W t0 N M S C E nb nm md K u) (hf : ∀ f, f ≠ 0 → f ≠ 30 → f ≠ 31 → M' f = M f) : q_W t0 N M' S C E nb nm md K u := by
  have e1 := hf 1 (by omega) (by omega) (by omega)
  have e2 := hf 2 (by omega) (by omega) (by omega)
  have e3 := hf 3 (by omega) (by omega) (by omega)
  have e4 := hf 4 (by omega) (by omega) (by omega)
  have e5 := hf 5 (by omega) (by omega) (by omega)
  have e6 := hf 6 (by omega) (by omega) (by omega)
  have e7 := hf 7 (by omega) (by omega) (by omega)
  have e8 := hf 8 (by omega) (by omega) (by omega)
  have e9 := hf 9 (by omega) (by omega) (by omega)
  have e10 := hf 10 (by omega) (by omega) (by omega)
  have e11 := hf 11 (by omega) (by omega) (by omega)
  have e12 := hf 12 (by omega) (by omega) (by omega)
  have e13 := hf 13 (by omega) (by omega) (by omega)
  have e14 := hf 14 (by omega) (by omega) (by omega)
  have e15 := hf 15 (by omega) (by omega) (by omega)
  have e16 := hf 16 (by omega) (by omega) (by omega)
  have e17 := hf 17 (by omega) (by omega) (by omega)
  have e18 := hf 18 (by omega) (by omega) (by omega)
  have e19 := hf 19 (by omega) (by omega) (by omega)
  have e20 := hf 20 (by omega) (by omega) (by omega)
  have e21 := hf 21 (by omega) (by omega) (by omega)
  have e22 := hf 22 (by omega) (by omega) (by omega)
  have e23 := hf 23 (by omega) (by omega) (by omega)
  have e24 := hf 24 (by omega) (by omega) (by omega)
  have e25 := hf 25 (by omega) (by omega) (by omega)
  have e26 := hf 26 (by omega) (by omega) (by omega)
  have e27 := hf 27 (by omega) (by omega) (by omega)
  have e28 := hf 28 (by omega) (by omega) (by omega)
  have e29 := hf 29 (by omega) (by omega) (by omega)
  obtain ⟨a1, a2, a3, a4, a5, a6, a7, a8, a9, a10, a11, a12⟩ := h
  refine ⟨?_, a2.fr e2 e3 e4 e5 e8 e9, a3.fr e10 e12 e13 e14 e15 e16 e18 e19 e20 e21 e22 e23 e24 e25, ?_, ?_, a6, ?_, ?_, ?_, ?_, ?_, ?_⟩
  · unfold q_stp; rw [e1]; exact a1
  · unfold q_U q_rfs; rw [e6, e7, e12, e18, e19, e20, e23]; exact a4
  · unfold q_wK q_vd q_lv; rw [e6, e7]; exact a5
  · unfold q_wB; rw [e2]; exact a7
  · unfold q_wX; rw [e11, e12]; exact a8
  · unfold q_wM; rw [e15, e16, e17, e18, e19]; exact a9
  · unfold q_wl q_wG q_s; rw [e20, e21, e22, e23, e24, e25, e26, e27, e28, e29]; exact a10
  · unfold q_wR q_lv; rw [e6, e7]; exact a11
  · unfold q_wI q_hd; rw [e6, e10, e14]; exact a12
theorem q_W.mo {N' : Nat} (h : q_W t0 N M S C E nb nm md K u) (hN : N ≤ N') : q_W t0 N' M S C E nb nm md K u := by
  obtain ⟨a1, a2, a3, a4, a5, a6, a7, a8, a9, a10, a11, a12⟩ := h
  refine ⟨a1, a2.mo hN, a3.mo hN, a4, a5, a6, a7, a8, a9, fun l hl => ?_, a11, a12⟩
  obtain ⟨b1, b2⟩ := a10 l hl
  refine ⟨b1, fun hb => ?_⟩
  obtain ⟨c1, c2, c3, c4, c5, c6, c7, c8⟩ := b2 hb
  refine ⟨c1, c2, c3, c4, c5, c6, c7, fun he => ?_⟩
  obtain ⟨d1, d2, d3⟩ := c8 he
  refine ⟨d1, d2, fun r hr e => ?_⟩
  obtain ⟨f1, q, f2, f3⟩ := d3 r hr e
  exact ⟨f1, q, Nat.le_trans f2 hN, f3⟩
def q_WW (t0 N h0 : Nat) (M : z_Md) (u : z_St) : Prop := ∃ S C E nb nm md K, K 0 0 = h0 ∧ q_W t0 N M S C E nb nm md K u
theorem q_one (hQ : q_Q N M nb nm md) {m m' : Nat} (hm : m < nm) (hm' : m' < nm) (e : M 15 m = M 15 m') : m = m' := by
  have h := hQ.2.2.2.2.1
  rcases Nat.lt_trichotomy m m' with q | q | q
  · have := h m m' q hm'
    rw [e, fa_lt] at this
    exact absurd this (Int.lt_irrefl _)
  · exact q
  · have := h m' m q hm
    rw [e, fa_lt] at this
    exact absurd this (Int.lt_irrefl _)
theorem q_findM {post : Int32 → z_Md → Prop} {x : Int32} (hQ : q_Q N M nb nm md) (kf : ∀ m, m < nm → M 15 m = x → post (nI m) M) (kn : (∀ m, m < nm → ¬ M 15 m = x) → post (-1) M) : w_X7_find post M x := by
  have hn := hQ.2.1
  have key : ∀ d k, k + d = nm → ∀ y : Int32, ((y = -1 ∧ ∀ m, m < k → ¬ M 15 m = x) ∨ ∃ m, m < k ∧ y = nI m ∧ M 15 m = x) → w_X7_find_4 post (d + 1) M x y (nI k) := by
    intro d
    induction d with
    | zero =>
      intro k hk y hy
      have hkk : k = nm := by omega
      refine ⟨fun _ => ?_, fun hh => ?_⟩
      · rcases hy with ⟨rfl, a⟩ | ⟨m, hm, rfl, e⟩
        · exact kn (fun m hm => a m (by omega))
        · exact kf m (by omega) e
      · rw [hn.1] at hh
        exact absurd (nI_le (by omega) (by omega)) hh
    | succ d ih =>
      intro k hk y hy
      refine ⟨fun hh => ?_, fun _ => ⟨vp_in_nI (by omega) (by omega), ?_⟩⟩
      · rw [hn.1] at hh
        exact absurd hh (nI_ge (by omega) (by omega))
      · intro y2 e2
        rw [q_c (n := k) (by omega)] at e2
        rw [nI_1]
        refine ih (k + 1) (by omega) y2 ?_
        by_cases c : M 15 k = x
        · rw [if_pos c] at e2
          exact Or.inr ⟨k, by omega, e2, c⟩
        · rw [if_neg c] at e2
          rcases hy with ⟨a, b⟩ | ⟨m, hm, a, b⟩
          · refine Or.inl ⟨e2.trans a, fun m hm => ?_⟩
            by_cases q : m = k
            · rw [q]; exact c
            · exact b m (by omega)
          · exact Or.inr ⟨m, by omega, e2.trans a, b⟩
  exact ⟨nm + 1, key nm 0 (by omega) (-1) (Or.inl ⟨rfl, fun m hm => by omega⟩)⟩
theorem q_placeOf {post : Int32 → z_St → Prop} {x : Int32} (hQ : q_Q N M nb nm md) (hK : q_wK t0 nm M K u) (hP : q_wP K u) (hM : q_wM nm M K u) (kf : ∀ m, m < nm → M 15 m = x → post (nI m) u) (kn : (∀ m, m < nm → ¬ M 15 m = x) → px "java/util/NoSuchElementException" u) : w_X6_placeOf post px ti mi (K 0 0) u x := by
  have hP0 := hP
  obtain ⟨-, -, -, -, -, -, -, -, p30, p10, p31, -⟩ := hP
  have hn := hQ.2.1.2
  have key : ∀ d k, k + d = nm → (∀ m, m < k → ¬ M 15 m = x) → w_X6_placeOf_2 post px ti mi (K 0 0) (d + 1) u x (nI k) := by
    intro d
    induction d with
    | zero =>
      intro k hk hj
      refine ⟨_, p31, hK.k 13 0 (by omega) (by decide), ?_⟩
      show (_ → _) ∧ _
      rw [hM.1]
      exact ⟨fun _ => kn (fun m hm => hj m (by omega)), fun hh => absurd (nI_le (by omega) (by omega)) hh⟩
    | succ d ih =>
      intro k hk hj
      refine ⟨_, p31, hK.k 13 0 (by omega) (by decide), ?_⟩
      show (_ → _) ∧ _
      rw [hM.1]
      refine ⟨fun hh => absurd hh (nI_ge (by omega) (by omega)), fun _ => ⟨_, p31, hK.k 13 0 (by omega) (by decide), q_get hn hK hP0 hM (by omega) ⟨_, rfl, hK.m (by omega), ?_⟩⟩⟩
      rw [(hM.2.2 k (by omega)).1]
      refine ⟨fun c => ?_, fun c => kf k (by omega) c⟩
      rw [nI_1]
      refine ih (k + 1) (by omega) (fun m hm => ?_)
      by_cases q : m = k
      · rw [q]; exact c
      · exact hj m (by omega)
  exact ⟨nm + 1, key nm 0 (by omega) (fun m hm => by omega)⟩
/-- the k-th message of a list, from message m on, d before the end -/
def q_nl (M : z_Md) (b l k : Int32) : Nat → Nat → Int32 → Option Int32
  | 0, _, _ => none
  | d + 1, m, seen => if M 16 m = b ∧ M 17 m = l then (if seen = k then some (M 15 m) else q_nl M b l k d (m + 1) (seen + 1)) else q_nl M b l k d (m + 1) seen
theorem q_nl_some {b l k : Int32} : ∀ {d m : Nat} {seen v : Int32}, q_nl M b l k d m seen = some v → ∃ j, m ≤ j ∧ j < m + d ∧ v = M 15 j
  | 0, _, _, _, h => by cases h
  | d + 1, m, seen, v, h => by
    unfold q_nl at h
    split at h
    · split at h
      · cases h; exact ⟨m, by omega, by omega, rfl⟩
      · obtain ⟨j, a, b, c⟩ := q_nl_some h; exact ⟨j, by omega, by omega, c⟩
    · obtain ⟨j, a, b, c⟩ := q_nl_some h; exact ⟨j, by omega, by omega, c⟩
theorem q_numberInList {post : Int32 → z_St → Prop} {x1 x2 x3 : Int32} (hQ : q_Q N M nb nm md) (hK : q_wK t0 nm M K u) (hP : q_wP K u) (hM : q_wM nm M K u) (h : post ((q_nl M x1 x2 x3 nm 0 0).getD (-1)) u) : w_X6_numberInList post ti mi (K 0 0) u x1 x2 x3 := by
  have hP0 := hP
  obtain ⟨-, -, -, -, -, -, -, -, p30, p10, p31, -⟩ := hP
  have hn := hQ.2.1.2
  have key : ∀ d k seen, k + d = nm → post ((q_nl M x1 x2 x3 d k seen).getD (-1)) u → w_X6_numberInList_6 post ti mi (K 0 0) (d + 1) u x1 x2 x3 seen (nI k) := by
    intro d
    induction d with
    | zero =>
      intro k seen hk h
      refine ⟨_, p31, hK.k 13 0 (by omega) (by decide), ?_⟩
      show (_ → _) ∧ _
      rw [hM.1]
      exact ⟨fun _ => h, fun hh => absurd (nI_le (by omega) (by omega)) hh⟩
    | succ d ih =>
      intro k seen hk h
      have hs : q_nl M x1 x2 x3 (d + 1) k seen = if M 16 k = x1 ∧ M 17 k = x2 then (if seen = x3 then some (M 15 k) else q_nl M x1 x2 x3 d (k + 1) (seen + 1)) else q_nl M x1 x2 x3 d (k + 1) seen := rfl
      rw [hs] at h
      obtain ⟨a16, a17, a20, -⟩ := hM.2.2 k (by omega)
      refine ⟨_, p31, hK.k 13 0 (by omega) (by decide), ?_⟩
      show (_ → _) ∧ _
      rw [hM.1]
      refine ⟨fun hh => absurd hh (nI_ge (by omega) (by omega)), fun _ => ⟨_, p31, hK.k 13 0 (by omega) (by decide), q_get hn hK hP0 hM (by omega) ⟨_, rfl, hK.m (by omega), ?_⟩⟩⟩
      rw [a16, a17, a20]
      refine ⟨fun c => ?_, fun c => ⟨fun c2 => ?_, fun c2 => ⟨fun c3 => ?_, fun c3 => ?_⟩⟩⟩
      · show w_X6_numberInList_6 post ti mi (K 0 0) (d + 1) u x1 x2 x3 seen (nI k + 1)
        rw [nI_1]
        rw [if_neg (fun q => c q.1)] at h
        exact ih (k + 1) seen (by omega) h
      · show w_X6_numberInList_6 post ti mi (K 0 0) (d + 1) u x1 x2 x3 seen (nI k + 1)
        rw [nI_1]
        rw [if_neg (fun q => c2 q.2)] at h
        exact ih (k + 1) seen (by omega) h
      · show w_X6_numberInList_6 post ti mi (K 0 0) (d + 1) u x1 x2 x3 (seen + 1) (nI k + 1)
        rw [nI_1]
        rw [if_pos ⟨c, c2⟩, if_neg c3] at h
        exact ih (k + 1) (seen + 1) (by omega) h
      · rw [if_pos ⟨c, c2⟩, if_pos c3] at h
        exact h
  exact ⟨nm + 1, key nm 0 0 (by omega) h⟩
theorem q_nextM {post : Int32 → z_Md → Prop} {x1 x2 x3 : Int32} (hQ : q_Q N M nb nm md) (h : ∀ v, q_nl M x1 x2 x3 nm 0 0 = some v → post v M) (h0 : q_nl M x1 x2 x3 nm 0 0 = none → post 0 (z_up M 0 0 3)) : ∃ n0 : Nat, w_X7_next_45 post n0 M x1 x2 x3 0 0 := by
  have hn := hQ.2.1
  have key : ∀ d k seen, k + d = nm → (∀ v, q_nl M x1 x2 x3 d k seen = some v → post v M) → (q_nl M x1 x2 x3 d k seen = none → post 0 (z_up M 0 0 3)) → w_X7_next_45 post (d + 1) M x1 x2 x3 seen (nI k) := by
    intro d
    induction d with
    | zero =>
      intro k seen hk h h0
      refine ⟨fun _ => h0 rfl, fun hh => ?_⟩
      rw [hn.1] at hh
      exact absurd (nI_le (by omega) (by omega)) hh
    | succ d ih =>
      intro k seen hk h h0
      have hs : q_nl M x1 x2 x3 (d + 1) k seen = if M 16 k = x1 ∧ M 17 k = x2 then (if seen = x3 then some (M 15 k) else q_nl M x1 x2 x3 d (k + 1) (seen + 1)) else q_nl M x1 x2 x3 d (k + 1) seen := rfl
      rw [hs] at h h0
      have hv : vp_in (nI k) 16 := vp_in_nI (by omega) (by omega)
      refine ⟨fun hh => ?_, fun _ => ⟨hv, ?_⟩⟩
      · rw [hn.1] at hh
        exact absurd hh (nI_ge (by omega) (by omega))
      · rw [q_c (n := k) (by omega)]
        refine ⟨fun c => ?_, fun c => ⟨hv, fun c2 => ?_, fun c2 => ⟨fun c3 => ?_, fun c3 => ⟨hv, ?_⟩⟩⟩⟩
        · show w_X7_next_45 post (d + 1) M x1 x2 x3 seen (nI k + 1)
          rw [nI_1]
          rw [if_neg (fun q => c q.1)] at h h0
          exact ih (k + 1) seen (by omega) h h0
        · show w_X7_next_45 post (d + 1) M x1 x2 x3 seen (nI k + 1)
          rw [nI_1]
          rw [if_neg (fun q => c2 q.2)] at h h0
          exact ih (k + 1) seen (by omega) h h0
        · show w_X7_next_45 post (d + 1) M x1 x2 x3 (seen + 1) (nI k + 1)
          rw [nI_1]
          rw [if_pos ⟨c, c2⟩, if_neg c3] at h h0
          exact ih (k + 1) (seen + 1) (by omega) h h0
        · rw [if_pos ⟨c, c2⟩, if_pos c3] at h
          exact h _ rfl
  exact ⟨nm + 1, key nm 0 0 (by omega) h h0⟩
theorem q_soundOf {post : Int32 → z_St → Prop} {r left : Nat} (hP0 : q_P N M S C E) (hN : N ≤ 64) (hK : q_wK t0 nm M K u) (hP : q_wP K u) (hB : q_wB M S C E K u) (hR : q_wR M S C E K u) (hr : r < 48) (hlv : q_lv M r) (hl : left < 100000) (h : post (q_sd (E r) (S r) 0 left) u) : w_X6_soundOf post ti mi u (q_rf K (nI r)) (nI left) := by
  have hSr := hP0.1 r hr
  have hCb := hP0.2.2.1
  have hCn := hP0.2.2.2.1
  have hEg := hP0.2.2.2.2.2.2.1
  obtain ⟨-, -, -, p4, -⟩ := hP
  obtain ⟨b1, b2, b3, b4⟩ := hB
  have outer : ∀ m k, k + m = q_nb (S r) → ∀ left, left < 100000 → post (q_sd (E r) (S r - 4 * k) (4 * k) left) u → w_X4_soundAt_7 post ti mi (K 16 r) (m + 1) u (nI left) (if k < q_nb (S r) then some (K 3 (C r k)) else none) := by
    intro m
    induction m with
    | zero =>
      intro k hk left hl h
      rw [if_neg (by omega)]
      have : S r - 4 * k = 0 := by unfold q_nb at hk; omega
      rw [this] at h
      exact ⟨fun _ => h, fun hh => absurd rfl hh⟩
    | succ m ihm =>
      intro k hk left hl h
      have hkn : k < q_nb (S r) := by omega
      rw [if_pos hkn]
      refine ⟨fun hh => (by cases hh), fun _ => ⟨5, ?_⟩⟩
      have hb := hCb r k hr hkn
      have hk3 := hK.k 3 (C r k) (by omega) (show C r k < 40 from hb)
      have hcnt : z_gI 2 (K 3 (C r k)) u = nI (min 4 (S r - 4 * k)) := by rw [b1 _ hb, hCn r k hr hkn]
      have inner : ∀ d i, i + d = 4 → i ≤ min 4 (S r - 4 * k) → ∀ left, left < 100000 → post (q_sd (E r) (S r - (4 * k + i)) (4 * k + i) left) u → w_X4_soundAt_14 post (w_X4_soundAt_7 post ti mi (K 16 r) (m + 1)) ti mi (K 16 r) (d + 1) u (nI left) (some (K 3 (C r k))) (nI i) := by
        intro d
        induction d with
        | zero =>
          intro i hi hic left hl h
          refine ⟨_, rfl, hk3, ?_⟩
          rw [hcnt]
          refine ⟨fun _ => ?_, fun hh => absurd (nI_le (by omega) (by omega)) hh⟩
          rw [b3 r k hr hkn]
          refine ihm (k + 1) (by omega) left hl ?_
          have e1 : 4 * k + i = 4 * (k + 1) := by omega
          rw [e1] at h
          exact h
        | succ d ih =>
          intro i hi hic left hl h
          refine ⟨_, rfl, hk3, ?_⟩
          rw [hcnt]
          by_cases hlast : min 4 (S r - 4 * k) ≤ i
          · refine ⟨fun _ => ?_, fun hh => absurd (nI_le hlast (by omega)) hh⟩
            rw [b3 r k hr hkn]
            refine ihm (k + 1) (by omega) left hl ?_
            have e1 : S r - (4 * k + i) = 0 := by omega
            have e2 : S r - 4 * (k + 1) = 0 := by omega
            rw [e1] at h
            rw [e2]
            exact h
          · have hlt : 4 * k + i < S r := by omega
            have hd4 : (4 * k + i) / 4 = k := by omega
            have hm4 : (4 * k + i) % 4 = i := by omega
            obtain ⟨f1, f2⟩ := b4 r (4 * k + i) hr hlt
            obtain ⟨g, hg, eg⟩ := hEg r (4 * k + i) hr hlt
            rw [hd4, hm4] at f1 f2
            rw [eg] at f1
            have hsd : S r - (4 * k + i) = (S r - (4 * k + (i + 1))) + 1 := by omega
            have hstep : q_sd (E r) ((S r - (4 * k + (i + 1))) + 1) (4 * k + i) left = if (E r (4 * k + i)).1 = 0 then (if left < 8 then q_snd (E r) (4 * k + i) left else q_sd (E r) (S r - (4 * k + (i + 1))) (4 * k + i + 1) (left - 8)) else (if left < 8 * (E r (4 * k + i)).1.toNatClampNeg then 0 else q_sd (E r) (S r - (4 * k + (i + 1))) (4 * k + i + 1) (left - 8 * (E r (4 * k + i)).1.toNatClampNeg)) := rfl
            rw [hsd, hstep, eg, q_c (n := g) (by omega)] at h
            have hk4 := hK.k 4 (C r k) (by omega) (show C r k < 40 from hb)
            have hk5 := hK.k 5 (C r k) (by omega) (show C r k < 40 from hb)
            have hl4 : z_ln (K 4 (C r k)) u = 4 := hK.l 4 (C r k) (by omega) (show C r k < 40 from hb) (by decide)
            have hl5 : z_ln (K 5 (C r k)) u = 32 := hK.l 5 (C r k) (by omega) (show C r k < 40 from hb) (by decide)
            have hv4 : vp_in (nI i) (z_ln (K 4 (C r k)) u) := by rw [hl4]; exact vp_in_nI (by omega) (by omega)
            refine ⟨fun hh => absurd hh (nI_ge (by omega) (by omega)), fun _ => ⟨_, (p4 _ hb).1, hk4, hv4, fun _ => hv4, ?_⟩⟩
            intro y2 e2
            rw [q_c (n := i) (by omega), f1] at e2
            have e88 : (nI g * 8 : Int32) = nI (g * 8) := pk_mul g 8
            have e18 : (nI i * 8 : Int32) = nI (i * 8) := pk_mul i 8
            by_cases g0 : g = 0
            · subst g0
              have hy : y2 = 8 := e2
              rw [if_pos (show nI 0 = 0 from rfl)] at h
              refine ⟨fun hh => ?_, fun hh => ?_⟩
              · have h8 : 8 ≤ left := by
                  rw [hy] at hh
                  exact (nI_leI (a := 8) (b := left) (by omega) (by omega)).mp hh
                have es : nI left - y2 = nI (left - 8) := by rw [hy]; exact pk_sub (b := 8) h8
                rw [es, nI_1]
                refine ih (i + 1) (by omega) (by omega) (left - 8) (by omega) ?_
                rw [if_neg (by omega)] at h
                exact h
              · have h8 : left < 8 := by
                  apply Decidable.byContradiction
                  intro q
                  rw [hy] at hh
                  exact hh (nI_le (a := 8) (b := left) (by omega) (by omega))
                rw [if_pos h8] at h
                refine ⟨_, (p4 _ hb).1, hk4, hv4, _, (p4 _ hb).2, hk5, fun _ => ?_, ?_⟩
                · rw [hl5, e18, nI_add]
                  exact vp_in_nI (by omega) (by omega)
                · intro y3 e3
                  have : y3 = q_snd (E r) (4 * k + i) left := by
                    have e9 : i * 8 + left = 8 * i + left := by omega
                    rw [e3, q_c (n := i) (by omega), f1, e18, nI_add, q_c (n := i * 8 + left) (by omega), if_pos (by decide), e9]
                    exact f2 eg left h8
                  rw [this]
                  exact h
            · have gn : ¬ nI g ≤ 0 := nI_nle (by omega) (by omega)
              have gz : ¬ nI g = 0 := nI_ne0 (by omega) (by omega)
              rw [if_neg gn, e88] at e2
              rw [if_neg gz] at h
              refine ⟨fun hh => ?_, fun hh => ?_⟩
              · rw [e2] at hh
                have h8 : g * 8 ≤ left := (nI_leI (by omega) (by omega)).mp hh
                have es : nI left - y2 = nI (left - g * 8) := by rw [e2]; exact pk_sub h8
                rw [es, nI_1]
                refine ih (i + 1) (by omega) (by omega) (left - g * 8) (by omega) ?_
                rw [if_neg (by omega)] at h
                have e9 : left - g * 8 = left - 8 * g := by omega
                rw [e9]
                exact h
              · have h8 : left < g * 8 := by
                  apply Decidable.byContradiction
                  intro q
                  rw [e2] at hh
                  exact hh (nI_le (by omega) (by omega))
                rw [if_pos (by omega)] at h
                refine ⟨_, (p4 _ hb).1, hk4, hv4, _, (p4 _ hb).2, hk5, fun hz => ?_, ?_⟩
                · rw [q_c (n := i) (by omega), f1] at hz
                  exact absurd hz gn
                · intro y3 e3
                  rw [q_c (n := i) (by omega), f1, if_neg gn] at e3
                  rw [e3]
                  exact h
      exact inner 4 0 (by omega) (by omega) left hl (by exact h)
  rw [q_rf_s K hr]
  refine ⟨fun _ => ⟨_, rfl, hK.r hr hlv, q_nb (S r) + 1, ?_⟩, fun hh => by cases hh⟩
  have := outer (q_nb (S r)) 0 (by omega) left hl (by exact h)
  rw [(hR r hr hlv).1]
  by_cases hz : S r = 0
  · rw [if_pos hz]
    rw [if_neg (by unfold q_nb; omega)] at this
    exact this
  · rw [if_neg hz]
    rw [if_pos (by unfold q_nb; omega)] at this
    exact this
end QS
