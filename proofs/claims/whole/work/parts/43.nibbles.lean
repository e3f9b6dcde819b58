/-! eight samples in one entry, and what an entry sounds like -/
def q_nyb (c : Int32) (j : Nat) : Int32 := (c >>> ((4 * nI j) &&& 31)) &&& 15
def q_nx (s : Int32 × Int32) (c : Int32) : Int32 × Int32 := (q_hg s.1 s.2 c, q_hi s.2 c)
/-- the guess and the index behind j of an entry's samples -/
def q_nib (s : Int32 × Int32) (c : Int32) : Nat → Int32 × Int32
  | 0 => s
  | j + 1 => q_nx (q_nib s c j) (q_nyb c j)
/-- .. behind n entries -/
def q_st (e : Nat → Int32 × Int32) : Nat → Int32 × Int32
  | 0 => (0, 0)
  | n + 1 => if (e n).1 = 0 then q_nib (q_st e n) (e n).2 8 else (0, 0)
def q_snd (e : Nat → Int32 × Int32) (n j : Nat) : Int32 := (q_nib (q_st e n) (e n).2 (j + 1)).1
/-- a state of the coder that can be -/
def q_gd (s : Int32 × Int32) : Prop := (-32768 ≤ s.1.toInt ∧ s.1.toInt ≤ 32767) ∧ ∃ n, n < 49 ∧ s.2 = nI n
theorem q_gd_0 : q_gd (0, 0) := ⟨by decide, 0, by decide, by decide⟩
theorem q_gd_nx (s : Int32 × Int32) (c : Int32) : q_gd (q_nx s c) := ⟨q_cl_rng _, q_ci_rng _⟩
theorem q_gd_nib {s : Int32 × Int32} (h : q_gd s) (c : Int32) : ∀ j, q_gd (q_nib s c j)
  | 0 => h
  | _ + 1 => q_gd_nx _ _
theorem q_gd_st (e : Nat → Int32 × Int32) : ∀ n, q_gd (q_st e n)
  | 0 => q_gd_0
  | n + 1 => by
    unfold q_st
    split
    · exact q_gd_nib (q_gd_st e n) _ 8
    · exact q_gd_0
theorem q_st_cong {e e' : Nat → Int32 × Int32} : ∀ {n : Nat}, (∀ i, i < n → e i = e' i) → q_st e n = q_st e' n
  | 0, _ => rfl
  | n + 1, h => by
    unfold q_st
    rw [h n (by omega), q_st_cong (n := n) (fun i hi => h i (by omega))]
theorem q_snd_cong {e e' : Nat → Int32 × Int32} {n : Nat} (h : ∀ i, i < n + 1 → e i = e' i) (j : Nat) : q_snd e n j = q_snd e' n j := by
  unfold q_snd
  rw [h n (by omega), q_st_cong (n := n) (fun i hi => h i (by omega))]
/-- the coder's way over samples -/
def q_run (s : Int32 × Int32) (x : Nat → Int32) : Nat → Int32 × Int32
  | 0 => s
  | j + 1 => q_nx (q_run s x j) (q_code (q_run s x j).1 (q_run s x j).2 (x j))
def q_cj (s : Int32 × Int32) (x : Nat → Int32) (j : Nat) : Int32 := q_code (q_run s x j).1 (q_run s x j).2 (x j)
def q_bt (s : Int32 × Int32) (x : Nat → Int32) : Nat → Int32
  | 0 => 0
  | j + 1 => q_bt s x j ||| (q_cj s x j <<< ((4 * nI j) &&& 31))
theorem q_run_cong {s : Int32 × Int32} {x y : Nat → Int32} : ∀ {n : Nat}, (∀ i, i < n → x i = y i) → q_run s x n = q_run s y n
  | 0, _ => rfl
  | n + 1, h => by
    unfold q_run
    rw [q_run_cong (n := n) (fun i hi => h i (by omega)), h n (by omega)]
theorem q_bt_cong {s : Int32 × Int32} {x y : Nat → Int32} : ∀ {n : Nat}, (∀ i, i < n → x i = y i) → q_bt s x n = q_bt s y n
  | 0, _ => rfl
  | n + 1, h => by
    unfold q_bt q_cj
    rw [q_bt_cong (n := n) (fun i hi => h i (by omega)), q_run_cong (n := n) (fun i hi => h i (by omega)), h n (by omega)]
theorem q_gd_run {s : Int32 × Int32} (h : q_gd s) (x : Nat → Int32) : ∀ j, q_gd (q_run s x j)
  | 0 => h
  | _ + 1 => q_gd_nx _ _
theorem q_b4 : ∀ c, c < 16 → ∀ i, i < 32 → 4 ≤ i → bt (nI c) i = false := by decide +kernel
theorem q_b15 : ∀ i, i < 32 → bt 15 i = decide (i < 4) := by decide +kernel
theorem q_cj4 (s : Int32 × Int32) (x : Nat → Int32) (j : Nat) {i : Nat} (hi : i < 32) (h4 : 4 ≤ i) : bt (q_cj s x j) i = false := by
  obtain ⟨c, hc, e⟩ := q_code_rng (q_run s x j).1 (q_run s x j).2 (x j)
  unfold q_cj
  rw [e]
  exact q_b4 c hc i hi h4
theorem q_4n (j : Nat) : (4 * nI j) &&& (31 : Int32) = nI (4 * j) &&& 31 := by
  have : (4 : Int32) * nI j = nI (4 * j) := pk_mul 4 j
  rw [this]
theorem q_bt_bits (s : Int32 × Int32) (x : Nat → Int32) : ∀ k, k ≤ 8 → ∀ i, i < 32 → bt (q_bt s x k) i = (decide (i < 4 * k) && bt (q_cj s x (i / 4)) (i % 4)) := by
  intro k
  induction k with
  | zero => intro _ i _; unfold q_bt; rw [b_0]; simp
  | succ k ih =>
    intro hk i hi
    unfold q_bt
    rw [b_or, ih (by omega) i hi, q_4n, b_shl (4 * k) (by omega) _ hi]
    by_cases h1 : i < 4 * k
    · have h2 : i < 4 * (k + 1) := by omega
      have h3 : ¬ 4 * k ≤ i := by omega
      simp [h1, h2, h3]
    · by_cases h2 : i < 4 * (k + 1)
      · have h3 : 4 * k ≤ i := by omega
        have h4 : i / 4 = k := by omega
        have h5 : i - 4 * k = i % 4 := by omega
        simp [h1, h2, h3, h4, h5]
      · have h3 : 4 * k ≤ i := by omega
        rw [q_cj4 s x k (by omega) (by omega)]
        simp [h1, h2]
/-- each sample's four bits come out again -/
theorem q_nyb_bt (s : Int32 × Int32) (x : Nat → Int32) {j : Nat} (hj : j < 8) : q_nyb (q_bt s x 8) j = q_cj s x j := by
  apply b_ext
  intro i hi
  unfold q_nyb
  rw [b_and, q_b15 i hi, q_4n, b_sshr (4 * j) (by omega) _ hi]
  by_cases h4 : i < 4
  · rw [if_pos (by omega), q_bt_bits s x 8 (by omega) _ (by omega)]
    have h1 : (4 * j + i) / 4 = j := by omega
    have h2 : (4 * j + i) % 4 = i := by omega
    have h3 : 4 * j + i < 4 * 8 := by omega
    simp [h1, h2, h3, h4]
  · rw [q_cj4 s x j hi (by omega)]
    simp [h4]
theorem q_nib_run (s : Int32 × Int32) (x : Nat → Int32) : ∀ j, j ≤ 8 → q_nib s (q_bt s x 8) j = q_run s x j
  | 0, _ => rfl
  | j + 1, h => by
    unfold q_nib q_run
    rw [q_nib_run s x j (by omega), q_nyb_bt s x (by omega)]
    rfl
