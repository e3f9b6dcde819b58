/-! THE CODING OF SOUND: one sample's four bits, and what they make of the guess and the index -/
def q_steps : List Int32 := [16, 18, 20, 23, 26, 29, 32, 36, 40, 45, 50, 56, 62, 69, 76, 84, 93, 103, 114, 126, 139, 153, 169, 186, 205, 226, 249, 274, 302, 333, 367, 404, 445, 490, 540, 595, 655, 721, 794, 874, 962, 1059, 1165, 1282, 1411, 1553, 1709, 1880, 2069]
def z_stp (n : Nat) : Int32 := q_steps.getD n 0
theorem z_stp_0 : z_stp 0 = 16 := by decide +kernel
theorem z_stp_s : ∀ n, n < 48 → z_stp (n + 1) = z_stp n + z_stp n / 10 + 1 := by decide +kernel
def q_stepsN : List Nat := [16, 18, 20, 23, 26, 29, 32, 36, 40, 45, 50, 56, 62, 69, 76, 84, 93, 103, 114, 126, 139, 153, 169, 186, 205, 226, 249, 274, 302, 333, 367, 404, 445, 490, 540, 595, 655, 721, 794, 874, 962, 1059, 1165, 1282, 1411, 1553, 1709, 1880, 2069]
def q_sN (n : Nat) : Nat := q_stepsN.getD n 0
theorem q_sN_nI : ∀ n, n < 49 → z_stp n = nI (q_sN n) := by decide +kernel
theorem q_sN_rng : ∀ n, n < 49 → 16 ≤ q_sN n ∧ q_sN n ≤ 2069 := by decide +kernel
def q_cl (x : Int32) : Int32 := if (-32768) ≤ x then (if x ≤ 32767 then x else 32767) else (-32768)
def q_ci (x : Int32) : Int32 := if 0 ≤ x then (if x ≤ 48 then x else 48) else 0
def q_ch (s x : Int32) : Int32 := (s / 8 + (if (x &&& 4) ≤ 0 then 0 else s)) + (if (x &&& 2) ≤ 0 then 0 else s / 2) + (if (x &&& 1) ≤ 0 then 0 else s / 4)
def q_hg (g i x : Int32) : Int32 := q_cl (if (x &&& 8) ≤ 0 then g + q_ch (z_stp i.toNatClampNeg) x else g - q_ch (z_stp i.toNatClampNeg) x)
def q_hi (i x : Int32) : Int32 := q_ci (if 4 ≤ (x &&& 7) then i + (2 * ((x &&& 7) - 3)) else i - 1)
/-- the steps stand in the reference's array -/
def q_stp (M : z_Md) : Prop := ∀ j, j < 49 → M 1 j = z_stp j
theorem q_hear {post : z_Md → Prop} {M : z_Md} {x : Int32} (hs : q_stp M) {n : Nat} (hn : n < 49) (hi : M 31 0 = nI n) (h : post (z_up (z_up M 30 0 (q_hg (M 30 0) (M 31 0) x)) 31 0 (q_hi (M 31 0) x))) : w_X7_hear post M x := by
  have hc : (M 31 0).toNatClampNeg = n := by rw [hi]; exact nI_clamp (by omega)
  unfold w_X7_hear
  refine ⟨by rw [hi]; exact vp_in_nI hn (by omega), ?_⟩
  intro x2 e2 y2 ey2 x3 e3 y4 e4 y5 e5 x6 e6 y7 e7 y8 e8 y9 e9 y10 e10
  have hx2 : x2 = z_stp n := by rw [e2, hc]; exact hs n hn
  have h8 : y8 = q_hg (M 30 0) (M 31 0) x := by
    rw [e8, e7, e6, e3, ey2, e4, e5]
    unfold q_hg q_ch q_cl
    rw [hc, ← hx2]
  have h10 : y10 = q_hi (M 31 0) x := by
    rw [e10, e9]
    rfl
  rw [h8, h10]
  exact h
theorem q_ci_rng (x : Int32) : ∃ n, n < 49 ∧ q_ci x = nI n := by
  unfold q_ci
  split
  · split
    · rename_i h1 h2
      obtain ⟨j, hj, e⟩ := nI_of2 (M := 48) (n := 48) (by decide) (by rw [Int32.not_lt]; exact h1) h2
      exact ⟨j, by omega, e⟩
    · exact ⟨48, by omega, by decide⟩
  · exact ⟨0, by omega, by decide⟩
theorem q_cl_rng (x : Int32) : -32768 ≤ (q_cl x).toInt ∧ (q_cl x).toInt ≤ 32767 := by
  unfold q_cl
  split
  · split
    · rename_i h1 h2
      rw [fa_le] at h1 h2
      exact ⟨h1, h2⟩
    · decide
  · decide
/-- the four bits of a sample -/
def q_d (g x : Int32) : Int32 := if 0 ≤ x - g then x - g else -(x - g)
def q_cd (s d b : Int32) : Int32 :=
  let b1 := if d < s then b else b ||| 4
  let d1 := if d < s then d else d - s
  let b2 := if d1 < s / 2 then b1 else b1 ||| 2
  let d2 := if d1 < s / 2 then d1 else d1 - s / 2
  if d2 < s / 4 then b2 else b2 ||| 1
def q_code (g i x : Int32) : Int32 := q_cd (z_stp i.toNatClampNeg) (q_d g x) (if 0 ≤ x - g then 0 else 8)
theorem q_code_m {post : Int32 → z_Md → Prop} {M : z_Md} {x : Int32} (hs : q_stp M) {n : Nat} (hn : n < 49) (hi : M 31 0 = nI n) (h : post (q_code (M 30 0) (M 31 0) x) (z_up (z_up M 30 0 (q_hg (M 30 0) (M 31 0) (q_code (M 30 0) (M 31 0) x))) 31 0 (q_hi (M 31 0) (q_code (M 30 0) (M 31 0) x)))) : w_X7_code post M x := by
  have hc : (M 31 0).toNatClampNeg = n := by rw [hi]; exact nI_clamp (by omega)
  unfold w_X7_code
  refine ⟨by rw [hi]; exact vp_in_nI hn (by omega), ?_⟩
  intro x2 e2 x3 e3 y3 ey3 y4 e4
  have hx2 : x2 = z_stp n := by rw [e2, hc]; exact hs n hn
  obtain ⟨r1, r2⟩ := q_sN_rng n hn
  have hsN := q_sN_nI n hn
  have s0 : x2 >>> ((0 : Int32) &&& 31) = x2 := by
    rw [hx2, hsN, pk_shrN (by omega) ((0 : Int32) &&& 31) 0 (by decide)]
    simp
  have s1 : x2 >>> (((0 : Int32) + 1) &&& 31) = x2 / 2 := by
    rw [hx2, hsN, pk_shrN (by omega) (((0 : Int32) + 1) &&& 31) 1 (by decide)]
    exact (pk_div (a := q_sN n) (d := 2) (by omega) (by omega) (by omega)).symm
  have s2 : x2 >>> (((0 : Int32) + 1 + 1) &&& 31) = x2 / 4 := by
    rw [hx2, hsN, pk_shrN (by omega) (((0 : Int32) + 1 + 1) &&& 31) 2 (by decide)]
    exact (pk_div (a := q_sN n) (d := 4) (by omega) (by omega) (by omega)).symm
  refine ⟨4, ⟨fun hh => absurd hh (by decide), fun _ => ?_⟩⟩
  intro a1 ea1 b1 eb1 c1 ec1
  refine ⟨fun hh => absurd hh (by decide), fun _ => ?_⟩
  intro a2 ea2 b2 eb2 c2 ec2
  refine ⟨fun hh => absurd hh (by decide), fun _ => ?_⟩
  intro a3 ea3 b3 eb3 c3 ec3
  refine ⟨fun _ => ?_, fun hh => absurd (by decide) hh⟩
  rw [s0] at ea1
  rw [s1] at ea2
  rw [s2] at ea3
  have ec : c3 = q_code (M 30 0) (M 31 0) x := by
    unfold q_code q_cd q_d
    rw [hc, ← hx2]
    rw [ec3, eb2, ec2, eb1, ec1, ea3, ea2, ea1, e4, ey3, e3]
    rfl
  rw [ec]
  exact q_hear hs hn hi h
