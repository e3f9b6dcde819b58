/-! call, both sides -/
section OD
variable {t0 ti mi nb nm md N : Nat} {M : z_Md} {S : Nat → Nat} {C : Nat → Nat → Nat} {E : Nat → Nat → Int32 × Int32} {K : Nat → Nat → Nat} {u : z_St} {px : String → z_St → Prop}
theorem q_W.ww' {h0 : Nat} (h : q_W t0 N M S C E nb nm md K u) (e : K 0 0 = h0) : q_WW t0 (N + 1) h0 M u := ⟨S, C, E, nb, nm, md, K, e, h.mo (by omega)⟩
def q_ok0 (t0 N h0 : Nat) (w : (z_Md → Prop) → Prop) (u' : z_St) : Prop := w (fun M' => M' 0 0 = 0 ∧ q_WW t0 N h0 M' u')
def q_okx0 (t0 N h0 : Nat) (w : (z_Md → Prop) → Prop) (l : List (String × Int32)) (Ex : String) (u' : z_St) : Prop := ∃ c, (Ex, c) ∈ l ∧ w (fun M' => M' 0 0 = c ∧ q_WW t0 N h0 M' u')
theorem q_users (hQ : q_Q N M nb nm md) (hU : q_U S M nm) {r : Nat} (hr : r < 48) : M 6 r = 0 ∨ 0 < M 6 r := by
  have hle := q_rfs_le (M := M) (nm := nm) (r := r) hQ.2.1.2
  rw [hU.1 r hr]
  by_cases q : q_rfs M nm r = 0
  · rw [q]; exact Or.inl rfl
  · exact Or.inr (nI_lt (a := 0) (b := q_rfs M nm r) (by omega) (by omega))
theorem q_op_call {l x k : Int32} (h : q_W t0 N M S C E nb nm md K u) : w_X6_call (q_ok0 t0 (N + 1) (K 0 0) (fun post => w_X7_call post M l x k)) (q_okx0 t0 (N + 1) (K 0 0) (fun post => w_X7_call post M l x k) [("java/util/NoSuchElementException", 1), ("java/lang/IllegalArgumentException", 2), ("java/lang/IllegalStateException", 3)]) ti mi (K 0 0) u l x k := by
  have h' := h
  obtain ⟨a1, a2, a3, a4, a5, a6, a7, a8, a9, a10, a11, a12⟩ := h
  have a6' := a6
  obtain ⟨-, -, -, -, -, -, -, -, p30, p10, -⟩ := a6
  have thr : ∀ (c : Int32) (post : z_Md → Prop), ¬ c ≤ 0 → post (z_up M 0 0 c) → w_X7_call_70 post M l x k c := fun c post hc g => by
    unfold w_X7_call_70
    rw [q_up0]
    exact ⟨fun q => absurd q hc, fun _ => g⟩
  refine q_requireBox a3 a12 (fun hb => ?_) (fun hb => ?_)
  · refine q_require3 (fun hl => ?_) (fun hl => ?_)
    · -- the line is one
      have y3l : ∀ y3 : Int32, y3 = (if (1 : Int32) = 0 then 0 else (if k < 0 then 0 else (if 3 < k then 0 else 1))) → y3 = (if k < 0 then 0 else (if 3 < k then 0 else 1)) := fun y e => by rw [e, if_neg (by decide)]
      have badk : (k < 0 ∨ 3 < k) → q_okx0 t0 (N + 1) (K 0 0) (fun post => w_X7_call post M l x k) [("java/util/NoSuchElementException", 1), ("java/lang/IllegalArgumentException", 2), ("java/lang/IllegalStateException", 3)] "java/lang/IllegalArgumentException" u := fun hk => by
        refine ⟨2, by simp, ?_⟩
        refine q_isLineM (fun _ => ?_) (fun q => absurd hl q)
        intro y3 e3
        have hy : y3 = 0 := by
          rw [y3l y3 e3]
          by_cases q : k < 0
          · rw [if_pos q]
          · rw [if_neg q, if_pos (by rcases hk with a | a; exact absurd a q; exact a)]
        refine q_isBoxM a3 (fun _ => ⟨fun _ => ⟨fun q => absurd hy q, fun _ => ?_⟩, fun q => absurd q (by decide)⟩) (fun q => absurd hb q)
        exact thr 2 _ q_n2 ⟨q_up0 _ _, (h'.up0 2).ww⟩
      refine ⟨fun q => badk (Or.inl q), fun q => ⟨fun q2 => ?_, fun q2 => badk (Or.inr ?_)⟩⟩
      · obtain ⟨kk, hkk, rfl⟩ : ∃ kk, kk < 4 ∧ k = nI kk := by
          rcases pk_ix k (n := 4) (by omega) with a | a | a
          · exact absurd a q
          · exact absurd a (fa_of_lt q2).2.1
          · exact a
        obtain ⟨ll, hll, rfl⟩ := hl
        have hb2 := hb
        obtain ⟨b, hb', rfl⟩ := hb
        have hlb : q_ib 3 (nI ll) := ⟨ll, hll, rfl⟩
        have hvl : vp_in (nI ll) 3 := vp_in_nI hll (by omega)
        have hcl : (nI ll).toNatClampNeg = ll := q_c (by omega)
        have h3k : ¬ (3 : Int32) < nI kk := nI_nlt (a := 3) (b := kk) (by omega) (by omega)
        have ref : ∀ post : z_Md → Prop, (¬ M 20 ll = 0 → post (z_up M 0 0 3)) → (M 20 ll = 0 → kk = 0 → ¬ nm + fb_ct (q_spk M) 3 < 16 → post (z_up M 0 0 3)) → (M 20 ll = 0 → (kk = 0 → nm + fb_ct (q_spk M) 3 < 16) → w_X7_call_69 post M (nI ll) (nI b) (nI kk)) → w_X7_call post M (nI ll) (nI b) (nI kk) := fun post g1 g2 g3 => by
          refine q_isLineM (fun _ => ?_) (fun q => absurd hlb q)
          intro y3 e3
          have hy : y3 = 1 := by rw [y3l y3 e3, if_neg q, if_neg h3k]
          refine q_isBoxM a3 (fun _ => ⟨fun _ => ⟨fun _ => ⟨hvl, ?_⟩, fun z => absurd (hy.symm.trans z) (by decide)⟩, fun z => absurd z (by decide)⟩) (fun z => absurd hb2 z)
          rw [hcl]
          refine ⟨fun z => thr 3 post q_n3 (g1 z), fun z => ⟨fun z2 => g3 z (fun w => absurd (by rw [w]; rfl) z2), fun z2 => q_isFullM a3 ?_⟩⟩
          have hk0 : kk = 0 := by
            apply Decidable.byContradiction
            intro w
            exact nI_ne0 (n := kk) (by omega) (by omega) z2
          by_cases w : nm + fb_ct (q_spk M) 3 < 16
          · rw [if_pos w]
            exact ⟨fun _ => g3 z (fun _ => w), fun q => absurd rfl q⟩
          · rw [if_neg w]
            exact ⟨fun q => absurd q (by decide), fun _ => thr 3 post q_n3 (g2 z hk0 w)⟩
        have bad3 : (¬ M 20 ll = 0 ∨ (kk = 0 ∧ ¬ nm + fb_ct (q_spk M) 3 < 16)) → q_okx0 t0 (N + 1) (K 0 0) (fun post => w_X7_call post M (nI ll) (nI b) (nI kk)) [("java/util/NoSuchElementException", 1), ("java/lang/IllegalArgumentException", 2), ("java/lang/IllegalStateException", 3)] "java/lang/IllegalStateException" u := fun hd =>
          ⟨3, by simp, ref _ (fun _ => ⟨q_up0 _ _, (h'.up0 3).ww⟩) (fun _ _ _ => ⟨q_up0 _ _, (h'.up0 3).ww⟩) (fun z1 z2 => by rcases hd with w | ⟨w1, w2⟩; exact absurd z1 w; exact absurd (z2 w1) w2)⟩
        have hln : z_aR (K 10 0) ll u = some (K 11 ll) := (p10 ll hll).1
        have hvu : vp_in (nI ll) (z_ln (K 10 0) u) := by rw [a5.l 10 0 (by omega) (by decide) (by decide)]; exact vp_in_nI (n := ll) (N := 3) hll (by omega)
        have hk11 := a5.k 11 ll (by omega) (show ll < 3 from hll)
        have go : M 20 ll = 0 → (kk = 0 → nm + fb_ct (q_spk M) 3 < 16) → w_X6_call_72 (q_ok0 t0 (N + 1) (K 0 0) (fun post => w_X7_call post M (nI ll) (nI b) (nI kk))) (q_okx0 t0 (N + 1) (K 0 0) (fun post => w_X7_call post M (nI ll) (nI b) (nI kk)) [("java/util/NoSuchElementException", 1), ("java/lang/IllegalArgumentException", 2), ("java/lang/IllegalStateException", 3)]) ti mi (K 0 0) u (nI ll) (nI b) (nI kk) := fun z1 z2 => by
          refine ⟨_, p30, a5.k 10 0 (by omega) (by decide), hvu, ?_⟩
          rw [hcl, hln]
          refine ⟨_, rfl, hk11, ?_⟩
          intro a ha
          have ha' : z_kd a u = 0 := ha
          dsimp only [w_X4_init, w_X2_forgetGuess, q_ok0]
          refine ref _ (fun q => absurd z1 q) (fun _ w1 w2 => absurd (z2 w1) w2) (fun _ _ => ?_)
          unfold w_X7_call_69 w_X7_call_70
          rw [q_up0]
          refine ⟨fun _ => ?_, fun q => absurd q_le0 q⟩
          have hW0 := h'.up0 0
          refine q_call84 hll (fun r hr => q_users a3 a4 hr) (q_room a4 a3.2.1.2) (fun r hr h6 h7 => ?_)
          have hla : K 11 ll ≠ a := fun e => by rw [e, ha'] at hk11; exact absurd hk11 (by decide)
          refine ⟨rfl, q_W.ww' (K := z_up K 16 r a) (hW0.begin (a := a) hll z1 hr h6 h7 hb' hkk z2 ha' (fun y hy => ?_) ?_ (fun y => rfl) (fun f y hy1 hy2 => ?_) (fun f y hy1 hy2 => ?_) (fun y j => rfl) (fun y j => rfl) ?_ ?_ ?_ ?_ ?_ ?_ ?_ ?_ ?_ ?_ ?_ ?_ ?_ ?_) (by simp [z_up])⟩
          · exact va_up_ne _ _ hy
          · exact va_up_self _ _ _
          · simp [z_gI, z_pI, z_pR, z_nO, z_up, hy1, hy2]
          · rcases hy2 with w | w <;> simp [z_gR, z_pI, z_pR, z_nO, z_up, hy1, w]
          · simp [z_gI, z_pI, z_pR, z_nO, z_up, hla]
          · simp [z_gI, z_pI, z_pR, z_nO, z_up, hla]
          · simp [z_gI, z_pI, z_pR, z_nO, z_up, hla]
          · simp [z_gI, z_pI, z_pR, z_nO, z_up, hla]
          · simp [z_gR, z_pI, z_pR, z_nO, z_up, hla]
          · simp [z_gI, z_pI, z_pR, z_nO, z_up, hla]
          · simp [z_gI, z_pI, z_pR, z_nO, z_up, hla]
          · simp [z_gI, z_pI, z_pR, z_nO, z_up, hla]
          · simp [z_gI, z_pI, z_pR, z_nO, z_up, hla]
          · simp [z_gR, z_pI, z_pR, z_nO, z_up, hla]
          · simp [z_gR, z_pI, z_pR, z_nO, z_up, hla]
          · simp [z_gI, z_pI, z_pR, z_nO, z_up, hla]
          · simp [z_gI, z_pI, z_pR, z_nO, z_up, hla]
          · simp [z_gI, z_pI, z_pR, z_nO, z_up, hla]
        refine ⟨_, p30, a5.k 10 0 (by omega) (by decide), hvu, ?_⟩
        rw [hcl, hln]
        refine ⟨_, rfl, hk11, ?_⟩
        rw [(a10 ll hll).1]
        refine ⟨fun z => ⟨fun z2 => go z (fun w => absurd (by rw [w]; rfl) z2), fun z2 => q_hasRoom a3 a5 a6' a9 (fun l hl => ⟨(a10 l hl).1, fun w => ((a10 l hl).2 w).2.2.1⟩) ?_⟩, fun z => bad3 (Or.inl z)⟩
        have hk0 : kk = 0 := by
          apply Decidable.byContradiction
          intro w
          exact nI_ne0 (n := kk) (by omega) (by omega) z2
        by_cases w : nm + fb_ct (q_spk M) 3 < 16
        · rw [if_pos w]
          exact ⟨fun _ => go z (fun _ => w), fun q => absurd q (by decide)⟩
        · rw [if_neg w]
          exact ⟨fun q => absurd rfl q, fun _ => bad3 (Or.inr ⟨hk0, w⟩)⟩
      · have := fa_of_nlt q2
        rw [fa_le] at this
        rw [fa_lt]
        have e4 : (4 : Int32).toInt = 4 := by decide
        have e3 : (3 : Int32).toInt = 3 := by decide
        omega
    · refine ⟨2, by simp, ?_⟩
      refine q_isLineM (fun q => absurd q hl) (fun _ => ?_)
      intro y3 e3
      have hy : y3 = 0 := by rw [e3, if_pos rfl]
      refine q_isBoxM a3 (fun _ => ⟨fun _ => ⟨fun q => absurd hy q, fun _ => ?_⟩, fun q => absurd q (by decide)⟩) (fun q => absurd hb q)
      exact thr 2 _ q_n2 ⟨q_up0 _ _, (h'.up0 2).ww⟩
  · refine ⟨1, by simp, ?_⟩
    have fin : ∀ r2 : Int32, ∀ y3 : Int32, y3 = (if r2 = 0 then 0 else (if k < 0 then 0 else (if 3 < k then 0 else 1))) → w_X7_isBox (fun r5 M4 => ((¬ r5 = 0 → ((¬ y3 = 0 → (vp_in l 3 ∧ ((¬ (M4 20 l.toNatClampNeg) = 0 → (w_X7_call_65 (fun M' => M' 0 0 = 1 ∧ q_WW t0 (N + 1) (K 0 0) M' u) M4 l x k)) ∧ ((M4 20 l.toNatClampNeg) = 0 → ((¬ k = 0 → (w_X7_call_69 (fun M' => M' 0 0 = 1 ∧ q_WW t0 (N + 1) (K 0 0) M' u) M4 l x k)) ∧ (k = 0 → (w_X7_isFull (fun r11 M10 => ((r11 = 0 → (w_X7_call_69 (fun M' => M' 0 0 = 1 ∧ q_WW t0 (N + 1) (K 0 0) M' u) M10 l x k)) ∧ (¬ r11 = 0 → (w_X7_call_65 (fun M' => M' 0 0 = 1 ∧ q_WW t0 (N + 1) (K 0 0) M' u) M10 l x k)))) M4 ))))))) ∧ (y3 = 0 → (w_X7_call_70 (fun M' => M' 0 0 = 1 ∧ q_WW t0 (N + 1) (K 0 0) M' u) M4 l x k 2)))) ∧ (r5 = 0 → (w_X7_call_70 (fun M' => M' 0 0 = 1 ∧ q_WW t0 (N + 1) (K 0 0) M' u) M4 l x k 1)))) M x := fun r2 y3 e3 => by
      refine q_isBoxM a3 (fun q => absurd q hb) (fun _ => ⟨fun q => absurd rfl q, fun _ => ?_⟩)
      exact thr 1 _ q_n1 ⟨q_up0 _ _, (h'.up0 1).ww⟩
    exact q_isLineM (fun _ => fin 1) (fun _ => fin 0)
end OD
