/-! THE BANK's world against the reference's: K f j is where the bank's things lie (0 the bank, 1 its store, 2 the row of blocks, 3 block j, 4 its gaps, 5 its sounds, 6 the steps, 7 the row of boxes, 8 box j, 9 its own recordings, 10 the row of lines, 11 line j, 12 its frame, 13 the list, 14 its row, 15 message j, 16 recording j) -/
def q_rf (K : Nat → Nat → Nat) (x : Int32) : Option Nat := if x < 0 then none else some (K 16 x.toNatClampNeg)
theorem q_rf_n (K : Nat → Nat → Nat) : q_rf K (-1) = none := if_pos q_m1
theorem q_rf_s (K : Nat → Nat → Nat) {r : Nat} (h : r < 48) : q_rf K (nI r) = some (K 16 r) := by
  unfold q_rf
  rw [if_neg (nI_pos (by omega)), q_c (by omega)]
def q_lv (M : z_Md) (r : Nat) : Prop := ¬ M 6 r = 0 ∨ ¬ M 7 r = 0
def q_fs : Nat → Nat
  | 3 => 40
  | 4 => 40
  | 5 => 40
  | 8 => 4
  | 9 => 4
  | 11 => 3
  | 12 => 3
  | _ => 1
def q_vd (M : z_Md) (nm f j : Nat) : Prop := (f ≤ 14 ∧ j < q_fs f) ∨ (f = 15 ∧ j < nm) ∨ (f = 16 ∧ j < 48 ∧ q_lv M j)
def q_kk : Nat → Nat
  | 0 => 8
  | 1 => 7
  | 2 => 11
  | 3 => 2
  | 4 => 10
  | 5 => 10
  | 6 => 10
  | 7 => 12
  | 8 => 3
  | 9 => 14
  | 10 => 13
  | 11 => 4
  | 12 => 10
  | 13 => 1
  | 14 => 15
  | 15 => 5
  | _ => 6
def q_ll : Nat → Nat
  | 2 => 40
  | 4 => 4
  | 5 => 32
  | 6 => 49
  | 7 => 4
  | 9 => 3
  | 10 => 3
  | 12 => 8
  | _ => 0
def q_wK (t0 nm : Nat) (M : z_Md) (K : Nat → Nat → Nat) (u : z_St) : Prop :=
  (∀ f j, q_vd M nm f j → f ≠ 14 → z_kd (K f j) u = q_kk f) ∧
  (∀ f j, f ≤ 12 → j < q_fs f → q_ll f ≠ 0 → z_ln (K f j) u = q_ll f) ∧
  ((z_kd (K 14 0) u = 15 ∧ nm ≤ z_ln (K 14 0) u ∧ (z_ln (K 14 0) u = 10 ∨ z_ln (K 14 0) u = 15 ∨ z_ln (K 14 0) u = 22)) ∨ (z_kd (K 14 0) u = 16 ∧ nm = 0 ∧ K 14 0 = t0 ∧ z_ln (K 14 0) u = 0)) ∧
  (∀ f j f' j', q_vd M nm f j → q_vd M nm f' j' → K f j = K f' j' → f = f' ∧ j = j')
def q_wP (K : Nat → Nat → Nat) (u : z_St) : Prop :=
  z_gR 28 (K 0 0) u = some (K 1 0) ∧ z_gR 26 (K 1 0) u = some (K 2 0) ∧ (∀ b, b < 40 → z_aR (K 2 0) b u = some (K 3 b)) ∧ (∀ b, b < 40 → z_gR 0 (K 3 b) u = some (K 4 b) ∧ z_gR 1 (K 3 b) u = some (K 5 b)) ∧
  z_gR 27 (K 0 0) u = some (K 6 0) ∧ (∀ j, j < 49 → z_aI (K 6 0) j u = z_stp j) ∧ z_gR 29 (K 0 0) u = some (K 7 0) ∧ (∀ i, i < 4 → z_aR (K 7 0) i u = some (K 8 i) ∧ z_gR 4 (K 8 i) u = some (K 9 i)) ∧
  z_gR 30 (K 0 0) u = some (K 10 0) ∧ (∀ l, l < 3 → z_aR (K 10 0) l u = some (K 11 l) ∧ z_gR 6 (K 11 l) u = some (K 12 l)) ∧ z_gR 31 (K 0 0) u = some (K 13 0) ∧ z_gR 36 (K 13 0) u = some (K 14 0)
def q_wB (M : z_Md) (S : Nat → Nat) (C : Nat → Nat → Nat) (E : Nat → Nat → Int32 × Int32) (K : Nat → Nat → Nat) (u : z_St) : Prop :=
  (∀ b, b < 40 → z_gI 2 (K 3 b) u = M 2 b) ∧ (∀ b, b < 40 → M 2 b = 0 → z_gR 3 (K 3 b) u = none) ∧
  (∀ r k, r < 48 → k < q_nb (S r) → z_gR 3 (K 3 (C r k)) u = if k + 1 < q_nb (S r) then some (K 3 (C r (k + 1))) else none) ∧
  (∀ r i, r < 48 → i < S r → z_aI (K 4 (C r (i / 4))) (i % 4) u = (E r i).1 ∧ ((E r i).1 = 0 → ∀ j, j < 8 → z_aI (K 5 (C r (i / 4))) (8 * (i % 4) + j) u = q_snd (E r) i j))
def q_wX (nb : Nat) (M : z_Md) (K : Nat → Nat → Nat) (u : z_St) : Prop :=
  (∀ i, i < nb → z_gI 5 (K 8 i) u = M 11 i) ∧ (∀ i w, i < 4 → w < 3 → z_aR (K 9 i) w u = q_rf K (M 12 (3 * i + w)))
def q_wM (nm : Nat) (M : z_Md) (K : Nat → Nat → Nat) (u : z_St) : Prop :=
  z_gI 37 (K 13 0) u = nI nm ∧ (∀ m, m < nm → z_aR (K 14 0) m u = some (K 15 m)) ∧ (∀ m, m < nm → z_gI 16 (K 15 m) u = M 15 m ∧ z_gI 17 (K 15 m) u = M 16 m ∧ z_gI 20 (K 15 m) u = M 17 m ∧ z_gR 18 (K 15 m) u = q_rf K (M 18 m) ∧ z_gR 19 (K 15 m) u = q_rf K (M 19 m))
/-- one line's coder, and its quiet frames -/
def q_wG (N : Nat) (S : Nat → Nat) (E : Nat → Nat → Int32 × Int32) (M : z_Md) (K : Nat → Nat → Nat) (u : z_St) (l : Nat) : Prop :=
  z_gI 14 (K 11 l) u = M 28 l ∧ z_gI 15 (K 11 l) u = M 29 l ∧ ∀ r, r < 48 → M 23 l = nI r → q_s M l = q_st (E r) (S r) ∧ ∃ q : Nat, q ≤ N ∧ z_gI 13 (K 11 l) u = nI q ∧ M 27 l = nI (min q 3) ∧ (q ≤ 2 → q ≤ S r ∧ ∀ j, j < q → (E r (S r - 1 - j)).1 = 0) ∧ (3 ≤ q → 1 ≤ S r ∧ (E r (S r - 1)).1 = nI q)
def q_wl (N : Nat) (S : Nat → Nat) (E : Nat → Nat → Int32 × Int32) (M : z_Md) (K : Nat → Nat → Nat) (u : z_St) (l : Nat) : Prop :=
  z_gI 8 (K 11 l) u = M 20 l ∧ (¬ M 20 l = 0 → z_gI 9 (K 11 l) u = M 24 l ∧ z_gI 10 (K 11 l) u = M 21 l ∧ z_gI 11 (K 11 l) u = M 22 l ∧ z_gR 12 (K 11 l) u = q_rf K (M 23 l) ∧ (z_gI 7 (K 11 l) u = M 25 l ∧ (M 25 l).toNatClampNeg < 8) ∧
    (∀ j, j < (M 25 l).toNatClampNeg → z_aI (K 12 l) j u = M 26 (8 * l + j) ∧ -32768 ≤ (M 26 (8 * l + j)).toInt ∧ (M 26 (8 * l + j)).toInt ≤ 32767) ∧ (¬ M 24 l = 0 → M 25 l = 0) ∧ (M 24 l = 0 → q_wG N S E M K u l))
def q_wR (M : z_Md) (S : Nat → Nat) (C : Nat → Nat → Nat) (E : Nat → Nat → Int32 × Int32) (K : Nat → Nat → Nat) (u : z_St) : Prop :=
  ∀ r, r < 48 → q_lv M r → z_gR 21 (K 16 r) u = (if S r = 0 then none else some (K 3 (C r 0))) ∧ z_gR 22 (K 16 r) u = (if S r = 0 then none else some (K 3 (C r ((S r - 1) / 4)))) ∧
    z_gI 24 (K 16 r) u = q_cs (E r) (S r) ∧ z_gI 23 (K 16 r) u = 8 * q_fm (E r) (S r) ∧ z_gI 25 (K 16 r) u = M 6 r
def q_hd (M : z_Md) : Nat := fb_ct (fun r => decide (¬ M 6 r = 0)) 48
def q_wI (M : z_Md) (K : Nat → Nat → Nat) (u : z_St) : Prop := z_gI 32 (K 0 0) u = M 10 0 ∧ z_gI 33 (K 0 0) u = M 14 0 ∧ z_gI 34 (K 0 0) u = nI (q_hd M)
/-- who has which record -/
def q_rfs (M : z_Md) (nm r : Nat) : Nat := fb_ct (fun m => decide (M 18 m = nI r)) nm + fb_ct (fun m => decide (M 19 m = nI r)) nm + fb_ct (fun s => decide (M 12 s = nI r)) 12
def q_U (S : Nat → Nat) (M : z_Md) (nm : Nat) : Prop :=
  (∀ r, r < 48 → M 6 r = nI (q_rfs M nm r)) ∧ (∀ r, r < 48 → (¬ M 7 r = 0 ↔ ∃ l, l < 3 ∧ ¬ M 20 l = 0 ∧ M 23 l = nI r)) ∧
  (∀ l l', l < 3 → l' < 3 → ¬ M 20 l = 0 → ¬ M 20 l' = 0 → M 23 l = M 23 l' → l = l') ∧ (∀ r, r < 48 → ¬ M 7 r = 0 → M 6 r = 0) ∧ (∀ r, r < 48 → M 6 r = 0 → M 7 r = 0 → S r = 0)
/-- everything -/
def q_W (t0 N : Nat) (M : z_Md) (S : Nat → Nat) (C : Nat → Nat → Nat) (E : Nat → Nat → Int32 × Int32) (nb nm md : Nat) (K : Nat → Nat → Nat) (u : z_St) : Prop :=
  q_stp M ∧ q_P N M S C E ∧ q_Q N M nb nm md ∧ q_U S M nm ∧ q_wK t0 nm M K u ∧ q_wP K u ∧ q_wB M S C E K u ∧ q_wX nb M K u ∧ q_wM nm M K u ∧ (∀ l, l < 3 → q_wl N S E M K u l) ∧ q_wR M S C E K u ∧ q_wI M K u
theorem q_rfs_le {M : z_Md} {nm r : Nat} (h : nm ≤ 16) : q_rfs M nm r ≤ 44 := by
  unfold q_rfs
  have h1 := fb_ct_le (fun m => decide (M 18 m = nI r)) nm
  have h2 := fb_ct_le (fun m => decide (M 19 m = nI r)) nm
  have h3 := fb_ct_le (fun s => decide (M 12 s = nI r)) 12
  omega
theorem q_U.l18 {S : Nat → Nat} {M : z_Md} {nm m r : Nat} (h : q_U S M nm) (hn : nm ≤ 16) (hm : m < nm) (hr : r < 48) (e : M 18 m = nI r) : ¬ M 6 r = 0 := by
  rw [h.1 r hr]
  have := (fb_ct_pos (p := fun m => decide (M 18 m = nI r)) (n := nm)).mpr ⟨m, hm, decide_eq_true e⟩
  have hle := q_rfs_le (M := M) (nm := nm) (r := r) hn
  exact nI_ne0 (by unfold q_rfs; omega) (by omega)
theorem q_U.l19 {S : Nat → Nat} {M : z_Md} {nm m r : Nat} (h : q_U S M nm) (hn : nm ≤ 16) (hm : m < nm) (hr : r < 48) (e : M 19 m = nI r) : ¬ M 6 r = 0 := by
  rw [h.1 r hr]
  have := (fb_ct_pos (p := fun m => decide (M 19 m = nI r)) (n := nm)).mpr ⟨m, hm, decide_eq_true e⟩
  have hle := q_rfs_le (M := M) (nm := nm) (r := r) hn
  exact nI_ne0 (by unfold q_rfs; omega) (by omega)
theorem q_U.l12 {S : Nat → Nat} {M : z_Md} {nm s r : Nat} (h : q_U S M nm) (hn : nm ≤ 16) (hs : s < 12) (hr : r < 48) (e : M 12 s = nI r) : ¬ M 6 r = 0 := by
  rw [h.1 r hr]
  have := (fb_ct_pos (p := fun s => decide (M 12 s = nI r)) (n := 12)).mpr ⟨s, hs, decide_eq_true e⟩
  have hle := q_rfs_le (M := M) (nm := nm) (r := r) hn
  exact nI_ne0 (by unfold q_rfs; omega) (by omega)
theorem q_U.l23 {S : Nat → Nat} {M : z_Md} {nm l r : Nat} (h : q_U S M nm) (hl : l < 3) (hr : r < 48) (hb : ¬ M 20 l = 0) (e : M 23 l = nI r) : ¬ M 7 r = 0 := (h.2.1 r hr).mpr ⟨l, hl, hb, e⟩
