/-! the class's telling is the reference's coding and hearing -/
theorem q_bits {b : Int32} (hb : b = 0 ∨ b = 8) (s : Int32) (p1 p2 p3 : Prop) [Decidable p1] [Decidable p2] [Decidable p3] :
    q_ch s (if p3 then (if p2 then (if p1 then b else b ||| 4) else (if p1 then b else b ||| 4) ||| 2) else (if p2 then (if p1 then b else b ||| 4) else (if p1 then b else b ||| 4) ||| 2) ||| 1)
      = (if p3 then (if p2 then (if p1 then s / 8 else s / 8 + s) else (if p1 then s / 8 else s / 8 + s) + s / 2) else (if p2 then (if p1 then s / 8 else s / 8 + s) else (if p1 then s / 8 else s / 8 + s) + s / 2) + s / 4) ∧
    (((if p3 then (if p2 then (if p1 then b else b ||| 4) else (if p1 then b else b ||| 4) ||| 2) else (if p2 then (if p1 then b else b ||| 4) else (if p1 then b else b ||| 4) ||| 2) ||| 1) &&& 8) ≤ 0 ↔ b = 0) ∧
    ((if p3 then (if p2 then (if p1 then b else b ||| 4) else (if p1 then b else b ||| 4) ||| 2) else (if p2 then (if p1 then b else b ||| 4) else (if p1 then b else b ||| 4) ||| 2) ||| 1) &&& 7)
      = (if p3 then (if p2 then (if p1 then 0 else 0 + 4) else (if p1 then 0 else 0 + 4) + 4 / 2) else (if p2 then (if p1 then 0 else 0 + 4) else (if p1 then 0 else 0 + 4) + 4 / 2) + 4 / 2 / 2) ∧
    vp_in (if p3 then (if p2 then (if p1 then 0 else 0 + 4) else (if p1 then 0 else 0 + 4) + 4 / 2) else (if p2 then (if p1 then 0 else 0 + 4) else (if p1 then 0 else 0 + 4) + 4 / 2) + 4 / 2 / 2) 8 ∧
    ∃ c : Nat, c < 16 ∧ (if p3 then (if p2 then (if p1 then b else b ||| 4) else (if p1 then b else b ||| 4) ||| 2) else (if p2 then (if p1 then b else b ||| 4) else (if p1 then b else b ||| 4) ||| 2) ||| 1) = nI c := by
  have z : ∀ y : Int32, y + 0 = y := Int32.add_zero
  rcases hb with rfl | rfl <;> by_cases h1 : p1 <;> by_cases h2 : p2 <;> by_cases h3 : p3 <;> simp only [h1, h2, h3, if_true, if_false, q_ch]
  · exact ⟨by rw [if_pos (by decide), if_pos (by decide), if_pos (by decide), z, z, z], by decide, by decide, by unfold vp_in; decide, 0, by decide, by decide⟩
  · exact ⟨by rw [if_pos (by decide), if_pos (by decide), if_neg (by decide), z, z], by decide, by decide, by unfold vp_in; decide, 1, by decide, by decide⟩
  · exact ⟨by rw [if_pos (by decide), if_neg (by decide), if_pos (by decide), z, z], by decide, by decide, by unfold vp_in; decide, 2, by decide, by decide⟩
  · exact ⟨by rw [if_pos (by decide), if_neg (by decide), if_neg (by decide), z], by decide, by decide, by unfold vp_in; decide, 3, by decide, by decide⟩
  · exact ⟨by rw [if_neg (by decide), if_pos (by decide), if_pos (by decide), z, z], by decide, by decide, by unfold vp_in; decide, 4, by decide, by decide⟩
  · exact ⟨by rw [if_neg (by decide), if_pos (by decide), if_neg (by decide), z], by decide, by decide, by unfold vp_in; decide, 5, by decide, by decide⟩
  · exact ⟨by rw [if_neg (by decide), if_neg (by decide), if_pos (by decide), z], by decide, by decide, by unfold vp_in; decide, 6, by decide, by decide⟩
  · exact ⟨by rw [if_neg (by decide), if_neg (by decide), if_neg (by decide)], by decide, by decide, by unfold vp_in; decide, 7, by decide, by decide⟩
  · exact ⟨by rw [if_pos (by decide), if_pos (by decide), if_pos (by decide), z, z, z], by decide, by decide, by unfold vp_in; decide, 8, by decide, by decide⟩
  · exact ⟨by rw [if_pos (by decide), if_pos (by decide), if_neg (by decide), z, z], by decide, by decide, by unfold vp_in; decide, 9, by decide, by decide⟩
  · exact ⟨by rw [if_pos (by decide), if_neg (by decide), if_pos (by decide), z, z], by decide, by decide, by unfold vp_in; decide, 10, by decide, by decide⟩
  · exact ⟨by rw [if_pos (by decide), if_neg (by decide), if_neg (by decide), z], by decide, by decide, by unfold vp_in; decide, 11, by decide, by decide⟩
  · exact ⟨by rw [if_neg (by decide), if_pos (by decide), if_pos (by decide), z, z], by decide, by decide, by unfold vp_in; decide, 12, by decide, by decide⟩
  · exact ⟨by rw [if_neg (by decide), if_pos (by decide), if_neg (by decide), z], by decide, by decide, by unfold vp_in; decide, 13, by decide, by decide⟩
  · exact ⟨by rw [if_neg (by decide), if_neg (by decide), if_pos (by decide), z], by decide, by decide, by unfold vp_in; decide, 14, by decide, by decide⟩
  · exact ⟨by rw [if_neg (by decide), if_neg (by decide), if_neg (by decide)], by decide, by decide, by unfold vp_in; decide, 15, by decide, by decide⟩
theorem q_code_rng (g i x : Int32) : ∃ c : Nat, c < 16 ∧ q_code g i x = nI c :=
  (q_bits (b := if 0 ≤ x - g then 0 else 8) (by split <;> simp) 0 _ _ _).2.2.2.2
theorem q_ich : ∀ t, t < 8 → z_ichI (nI t).toNatClampNeg = if 4 ≤ nI t then 2 * (nI t - 3) else -1 := by decide +kernel
theorem q_mx (x lo hi : Int32) (h : lo ≤ hi) : (if lo < (if x < hi then x else hi) then (if x < hi then x else hi) else lo) = if lo ≤ x then (if x ≤ hi then x else hi) else lo := by
  rw [fa_eq]
  simp only [fa_le, fa_lt] at *
  split <;> split <;> (try split) <;> (try split) <;> omega
theorem q_btw {post : Int32 → z_St → Prop} {t0 mi : Nat} {u : z_St} {x lo hi : Int32} (hl : lo ≤ hi) (h : post (if lo ≤ x then (if x ≤ hi then x else hi) else lo) u) : w_X6_between post t0 mi u x lo hi := by
  intro q1 e1 q2 e2
  rw [e2, e1, q_mx x lo hi hl]
  exact h
theorem q_tell {post : z_St → Prop} {t0 mi h0 n : Nat} {u : z_St} {x : Int32} (hn : n < 49) (hi : z_gI 15 h0 u = nI n) (hg : -32768 ≤ (z_gI 14 h0 u).toInt ∧ (z_gI 14 h0 u).toInt ≤ 32767) (hx : -32768 ≤ x.toInt ∧ x.toInt ≤ 32767)
    (h : post (z_pI 15 h0 (q_hi (nI n) (q_code (z_gI 14 h0 u) (nI n) x)) (z_pI 14 h0 (q_hg (z_gI 14 h0 u) (nI n) (q_code (z_gI 14 h0 u) (nI n) x)) u))) : w_X2_tell post t0 mi h0 u x (z_stp n) := by
  have hc : (nI n).toNatClampNeg = n := nI_clamp (by omega)
  obtain ⟨r1, r2⟩ := q_sN_rng n hn
  have hsN := q_sN_nI n hn
  generalize hG : z_gI 14 h0 u = g at *
  have hsub : (x - g).toInt = x.toInt - g.toInt := fb_subI (by omega) (by omega)
  have hle : g ≤ x ↔ (0 : Int32) ≤ x - g := by
    rw [fa_le, fa_le, hsub]
    show _ ↔ (0 : Int) ≤ _
    omega
  intro y1 ey1 y2 ey2
  have hd : y2 = q_d g x := by
    rw [ey2, ey1]
    unfold q_d
    by_cases hh : g ≤ x
    · simp only [hG, hh, hle.mp hh, if_true]
    · have h2 : ¬ (0 : Int32) ≤ x - g := fun q => hh (hle.mpr q)
      simp only [hG, hh, h2, if_false]
      rw [if_neg (by decide)]
      exact (Int32.neg_sub (a := x) (b := g)).symm
  have hs4 : z_stp n / 2 / 2 = z_stp n / 4 := by
    rw [hsN]
    show nI (q_sN n) / nI 2 / nI 2 = nI (q_sN n) / nI 4
    rw [pk_div (by omega) (by omega) (by omega), pk_div (by omega) (by omega) (by omega), pk_div (by omega) (by omega) (by omega), Nat.div_div_eq_div_mul]
  refine ⟨4, ⟨fun hh => absurd hh (by decide), fun _ => ?_⟩⟩
  intro a1 ea1 b1 eb1 c1 ec1
  refine ⟨fun hh => absurd hh (by decide), fun _ => ?_⟩
  intro a2 ea2 b2 eb2 c2 ec2
  refine ⟨fun hh => absurd hh (by decide), fun _ => ?_⟩
  intro a3 ea3 b3 eb3 c3 ec3
  refine ⟨fun _ => ?_, fun hh => absurd (by decide) hh⟩
  intro w ew
  rw [hs4] at eb3 ec3
  have hb : (if (0 : Int32) ≤ x - g then (0 : Int32) else 8) = 0 ∨ (if (0 : Int32) ≤ x - g then (0 : Int32) else 8) = 8 := by split <;> simp
  obtain ⟨f1, f2, f3, f4, -⟩ := q_bits hb (z_stp n) (y2 < z_stp n) (a1 < z_stp n / 2) (a2 < z_stp n / 4)
  have hcode : q_code g (nI n) x = (if a2 < z_stp n / 4 then (if a1 < z_stp n / 2 then (if y2 < z_stp n then (if (0 : Int32) ≤ x - g then (0 : Int32) else 8) else (if (0 : Int32) ≤ x - g then (0 : Int32) else 8) ||| 4) else (if y2 < z_stp n then (if (0 : Int32) ≤ x - g then (0 : Int32) else 8) else (if (0 : Int32) ≤ x - g then (0 : Int32) else 8) ||| 4) ||| 2) else (if a1 < z_stp n / 2 then (if y2 < z_stp n then (if (0 : Int32) ≤ x - g then (0 : Int32) else 8) else (if (0 : Int32) ≤ x - g then (0 : Int32) else 8) ||| 4) else (if y2 < z_stp n then (if (0 : Int32) ≤ x - g then (0 : Int32) else 8) else (if (0 : Int32) ≤ x - g then (0 : Int32) else 8) ||| 4) ||| 2) ||| 1) := by
    unfold q_code q_cd
    rw [hc, ← hd, ea2, ea1]
  rw [← hcode] at f1 f2 f3
  have hc3 : c3 = q_code g (nI n) x &&& 7 := by
    rw [f3, ec3, ec2, ec1]
  have hb3 : b3 = q_ch (z_stp n) (q_code g (nI n) x) := by
    rw [f1, eb3, eb2, eb1]
  have hin : vp_in c3 8 := by
    rw [hc3, f3]; exact f4
  have hw : w = if (q_code g (nI n) x &&& 8) ≤ 0 then g + b3 else g - b3 := by
    rw [ew, hG]
    have e1 : y1 = 0 ↔ (0 : Int32) ≤ x - g := by
      rw [ey1, hG, ← hle]
      by_cases hh : g ≤ x
      · simp [hh]
      · simp only [hh, if_false]; decide
    have e2 : (q_code g (nI n) x &&& 8) ≤ 0 ↔ (0 : Int32) ≤ x - g := by
      rw [f2]
      by_cases hh : (0 : Int32) ≤ x - g
      · simp [hh]
      · simp only [hh, if_false]; decide
    by_cases hh : (0 : Int32) ≤ x - g
    · rw [if_pos (e1.mpr hh), if_pos (e2.mpr hh)]
    · rw [if_neg (fun q => hh (e1.mp q)), if_neg (fun q => hh (e2.mp q))]
  refine q_btw (by decide) ⟨hin, q_btw (by decide) ?_⟩
  have e1 : (if (-32768) ≤ w then (if w ≤ 32767 then w else 32767) else (-32768)) = q_hg g (nI n) (q_code g (nI n) x) := by
    rw [hw, hb3]
    unfold q_hg q_cl
    rw [hc]
  obtain ⟨t, ht, et⟩ := vp_in_of hin (by omega)
  have e2 : z_ichI c3.toNatClampNeg = if 4 ≤ c3 then 2 * (c3 - 3) else -1 := by
    rw [et]; exact q_ich t ht
  have e3 : (if (0 : Int32) ≤ z_gI 15 h0 u + z_ichI c3.toNatClampNeg then (if z_gI 15 h0 u + z_ichI c3.toNatClampNeg ≤ 48 then z_gI 15 h0 u + z_ichI c3.toNatClampNeg else 48) else 0) = q_hi (nI n) (q_code g (nI n) x) := by
    rw [hi, e2, hc3]
    unfold q_hi q_ci
    by_cases h4 : 4 ≤ (q_code g (nI n) x &&& 7)
    · simp only [h4, if_true]
    · simp only [h4, if_false]
      rw [← Int32.sub_eq_add_neg]
  rw [e1]
  show post _
  rw [e3]
  exact h
