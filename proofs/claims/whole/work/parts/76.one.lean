/-! the reference's methods end in one state alone -/
def XX {P R : Type} (ap : R → P → Prop) (w : P → Prop) : Prop := ∀ p, w p → ∃ r, ap r p ∧ ∀ p', ap r p' → w p'
def ap1 (M : z_Md) (p : z_Md → Prop) : Prop := p M
def ap2 (r : Int32 × z_Md) (p : Int32 → z_Md → Prop) : Prop := p r.1 r.2
section XO
variable {P R : Type} {ap : R → P → Prop}
theorem XX.ret1 (M : z_Md) : XX ap1 (fun p => p M) := fun _ h => ⟨M, h, fun _ h' => h'⟩
theorem XX.ret2 (v : Int32) (M : z_Md) : XX ap2 (fun p => p v M) := fun _ h => ⟨(v, M), h, fun _ h' => h'⟩
theorem XX.no : XX ap (fun _ => False) := fun _ h => h.elim
theorem XX.and {q : Prop} {A : P → Prop} (ha : XX ap A) : XX ap (fun p => q ∧ A p) := fun p h => by
  obtain ⟨r, h1, h2⟩ := ha p h.2
  exact ⟨r, h1, fun p' h' => ⟨h.1, h2 p' h'⟩⟩
theorem XX.ite {c : Prop} {A B : P → Prop} (ha : XX ap A) (hb : XX ap B) : XX ap (fun p => (c → A p) ∧ (¬ c → B p)) := fun p h => by
  by_cases q : c
  · obtain ⟨r, h1, h2⟩ := ha p (h.1 q)
    exact ⟨r, h1, fun p' h' => ⟨fun _ => h2 p' h', fun z => absurd q z⟩⟩
  · obtain ⟨r, h1, h2⟩ := hb p (h.2 q)
    exact ⟨r, h1, fun p' h' => ⟨fun z => absurd z q, fun _ => h2 p' h'⟩⟩
theorem XX.itn {c : Prop} {A B : P → Prop} (ha : XX ap A) (hb : XX ap B) : XX ap (fun p => (¬ c → A p) ∧ (c → B p)) := fun p h => by
  by_cases q : c
  · obtain ⟨r, h1, h2⟩ := hb p (h.2 q)
    exact ⟨r, h1, fun p' h' => ⟨fun z => absurd q z, fun _ => h2 p' h'⟩⟩
  · obtain ⟨r, h1, h2⟩ := ha p (h.1 q)
    exact ⟨r, h1, fun p' h' => ⟨fun _ => h2 p' h', fun z => absurd z q⟩⟩
theorem XX.all {e : Int32} {A : Int32 → P → Prop} (ha : XX ap (A e)) : XX ap (fun p => ∀ y : Int32, y = e → A y p) := fun p h => by
  obtain ⟨r, h1, h2⟩ := ha p (h e rfl)
  exact ⟨r, h1, fun p' h' y hy => by subst hy; exact h2 p' h'⟩
theorem XX.ex {A : Nat → P → Prop} (ha : ∀ n, XX ap (A n)) : XX ap (fun p => ∃ n : Nat, A n p) := fun p h => by
  obtain ⟨n, hn⟩ := h
  obtain ⟨r, h1, h2⟩ := ha n p hn
  exact ⟨r, h1, fun p' h' => ⟨n, h2 p' h'⟩⟩
theorem XX.call1 {w : (z_Md → Prop) → Prop} {B : z_Md → P → Prop} (hw : XX ap1 w) (hb : ∀ M, XX ap (B M)) : XX ap (fun p => w (fun M => B M p)) := fun p h => by
  obtain ⟨M, g1, g2⟩ := hw _ h
  obtain ⟨r, h1, h2⟩ := hb M p g1
  exact ⟨r, h1, fun p' h' => g2 _ (h2 p' h')⟩
theorem XX.call2 {w : (Int32 → z_Md → Prop) → Prop} {B : Int32 → z_Md → P → Prop} (hw : XX ap2 w) (hb : ∀ v M, XX ap (B v M)) : XX ap (fun p => w (fun v M => B v M p)) := fun p h => by
  obtain ⟨⟨v, M⟩, g1, g2⟩ := hw _ h
  obtain ⟨r, h1, h2⟩ := hb v M p g1
  exact ⟨r, h1, fun p' h' => g2 _ (h2 p' h')⟩
end XO
theorem x_entryAt_10 : ∀ n M a b c, XX ap2 (fun p => w_X7_entryAt_10 p n M a b c)
  | 0, _, _, _, _ => XX.no
  | n + 1, M, a, b, c => XX.ite (XX.ret2 _ _) (XX.and (XX.all (x_entryAt_10 n M a _ _)))
theorem x_entryAt (M : z_Md) (a b : Int32) : XX ap2 (fun p => w_X7_entryAt p M a b) := XX.and (XX.all (XX.ex (fun n => x_entryAt_10 n M b _ 0)))
theorem x_freeBlock_5 : ∀ n M a b, XX ap2 (fun p => w_X7_freeBlock_5 p n M a b)
  | 0, _, _, _ => XX.no
  | n + 1, M, a, b => XX.ite (XX.ret2 _ _) (XX.and (XX.all (x_freeBlock_5 n M _ _)))
theorem x_freeBlock (M : z_Md) : XX ap2 (fun p => w_X7_freeBlock p M) := XX.ex (fun n => x_freeBlock_5 n M _ _)
theorem x_hear (M : z_Md) (a : Int32) : XX ap1 (fun p => w_X7_hear p M a) := XX.and (XX.all (XX.all (XX.all (XX.all (XX.all (XX.all (XX.all (XX.all (XX.all (XX.all (XX.ret1 _)))))))))))
theorem x_code_43 : ∀ n M a b c d, XX ap2 (fun p => w_X7_code_43 p n M a b c d)
  | 0, _, _, _, _, _ => XX.no
  | n + 1, M, a, b, c, d => XX.ite (XX.call1 (x_hear M c) (fun M2 => XX.ret2 c M2)) (XX.all (XX.all (XX.all (x_code_43 n M a _ _ _))))
theorem x_code (M : z_Md) (a : Int32) : XX ap2 (fun p => w_X7_code p M a) := XX.and (XX.all (XX.all (XX.all (XX.all (XX.ex (fun n => x_code_43 n M _ _ _ _))))))
theorem x_costOfGap (M : z_Md) (a : Int32) : XX ap2 (fun p => w_X7_costOfGap p M a) := XX.ret2 _ _
theorem x_cost_4 : ∀ n M a b c, XX ap2 (fun p => w_X7_cost_4 p n M a b c)
  | 0, _, _, _, _ => XX.no
  | n + 1, M, a, b, c => XX.ite (XX.ret2 _ _) (XX.and (XX.ite (XX.ret2 _ _) (XX.call2 (x_entryAt M a c) (fun v M3 => XX.and (XX.all (XX.itn (XX.call2 (x_costOfGap M3 _) (fun r8 M7 => x_cost_4 n M7 a _ _)) (x_cost_4 n M3 a _ _)))))))
theorem x_cost (M : z_Md) (a : Int32) : XX ap2 (fun p => w_X7_cost p M a) := XX.ex (fun n => x_cost_4 n M a _ _)
theorem x_usedBy_58 : ∀ n M a b c, XX ap2 (fun p => w_X7_usedBy_58 p n M a b c)
  | 0, _, _, _, _ => XX.no
  | n + 1, M, a, b, c => XX.ite (XX.ret2 _ _) (XX.and (XX.ite (x_usedBy_58 n M a _ _) (XX.and (XX.itn (x_usedBy_58 n M a _ _) (XX.and (XX.itn (x_usedBy_58 n M a _ _) (XX.and (XX.call2 (x_cost M _) (fun r6 M5 => x_usedBy_58 n M5 a _ _)))))))))
theorem x_usedBy_4 : ∀ n M a b c, XX ap2 (fun p => w_X7_usedBy_4 p n M a b c)
  | 0, _, _, _, _ => XX.no
  | n + 1, M, a, b, c => XX.ite (XX.ex (fun k => x_usedBy_58 k M a b 0)) (XX.and (XX.itn (x_usedBy_4 n M a _ _) (XX.and (XX.call2 (x_cost M _) (fun r4 M3 => XX.and (XX.call2 (x_cost M3 _) (fun r6 M5 => x_usedBy_4 n M5 a _ _)))))))
theorem x_usedBy (M : z_Md) (a : Int32) : XX ap2 (fun p => w_X7_usedBy p M a) := XX.ex (fun n => x_usedBy_4 n M a _ _)
theorem x_isPaid (M : z_Md) (a b : Int32) : XX ap2 (fun p => w_X7_isPaid p M a b) := XX.and (XX.ite (XX.ret2 _ _) (XX.and (XX.call2 (x_usedBy M _) (fun r3 M2 => XX.and (XX.and (XX.ite (XX.ret2 _ _) (XX.ret2 _ _)))))))
theorem x_append_89 (M : z_Md) (a b c : Int32) : XX ap1 (fun p => w_X7_append_89 p M a b c) := XX.and (XX.and (XX.call2 (x_entryAt _ _ _) (fun r2 M1 => XX.and (XX.and (XX.ret1 _)))))
theorem x_append_59 (M : z_Md) (a b c d : Int32) : XX ap1 (fun p => w_X7_append_59 p M a b c d) := XX.and (x_append_89 _ a b c)
theorem x_append (M : z_Md) (a b : Int32) : XX ap1 (fun p => w_X7_append p M a b) := XX.and (XX.all (XX.itn (XX.call2 (x_entryAt M a _) (fun r4 M3 => XX.and (XX.and (x_append_89 _ _ _ _)))) (XX.call2 (x_freeBlock M) (fun r8 M7 => XX.and (XX.itn (XX.call2 (x_entryAt _ _ _) (fun r11 M10 => XX.and (x_append_59 _ _ _ _ _))) (XX.and (x_append_59 _ _ _ _ _)))))))
theorem x_dropLast (M : z_Md) (a : Int32) : XX ap1 (fun p => w_X7_dropLast p M a) := by
  refine XX.and (XX.call2 (x_entryAt _ _ _) (fun r2 M1 => XX.and (XX.and (XX.and (XX.and (XX.and (XX.itn (XX.ret1 _) (XX.and (XX.ite (XX.ret1 _) (XX.and (XX.call2 (x_entryAt _ _ _) (fun r5 M4 => ?_)))))))))))) 
  exact XX.and (XX.ret1 _)
theorem x_codeFrame_67 : ∀ n M a b c d, XX ap1 (fun p => w_X7_codeFrame_67 p n M a b c d)
  | 0, _, _, _, _, _ => XX.no
  | n + 1, M, a, b, c, d => XX.ite (XX.call1 (x_append M _ _) (fun M2 => XX.and (XX.and (XX.ret1 _)))) (XX.and (XX.call2 (x_code M _) (fun r7 M6 => XX.all (x_codeFrame_67 n M6 a b _ _))))
theorem x_codeFrame_25 (M : z_Md) (a b : Int32) : XX ap1 (fun p => w_X7_codeFrame_25 p M a b) := XX.call2 (x_isPaid M a 1) (fun r2 M1 => XX.itn (XX.and (XX.and (XX.ex (fun n => x_codeFrame_67 n _ _ _ _ _)))) (XX.and (XX.ret1 _)))
theorem x_codeFrame (M : z_Md) (a : Int32) : XX ap1 (fun p => w_X7_codeFrame p M a) := XX.and (XX.all (XX.and (XX.itn (x_codeFrame_25 _ _ _) (XX.call2 (x_freeBlock _) (fun r4 M3 => XX.ite (XX.and (XX.ret1 _)) (x_codeFrame_25 _ _ _))))))
theorem x_growGap_91 (M : z_Md) (a b c d e z0 z1 : Int32) : XX ap1 (fun p => w_X7_growGap_91 p M a b c d e z0 z1) := XX.call2 (x_isPaid M z1 z0) (fun r2 M1 => XX.itn (XX.and (XX.ite (XX.and (XX.and (XX.ret1 _))) (XX.call1 (x_dropLast _ _) (fun M5 => XX.and (XX.and (XX.ret1 _)))))) (XX.and (XX.ret1 _)))
theorem x_growGap (M : z_Md) (a : Int32) : XX ap1 (fun p => w_X7_growGap p M a) := XX.and (XX.all (XX.and (XX.all (XX.and (XX.all (XX.call2 (x_entryAt _ _ _) (fun r5 M4 => XX.and (XX.all (XX.ite (XX.call2 (x_costOfGap _ _) (fun r9 M8 => XX.and (XX.call2 (x_costOfGap _ _) (fun r11 M10 => x_growGap_91 _ _ _ _ _ _ _ _)))) (x_growGap_91 _ _ _ _ _ _ _ _))))))))))
theorem x_frame_80 (M : z_Md) (a b : Int32) : XX ap1 (fun p => w_X7_frame_80 p M a b) := XX.and (XX.and (XX.all (XX.all (XX.and (XX.and (XX.ret1 _))))))
theorem x_frame_75 (M : z_Md) (a b : Int32) : XX ap1 (fun p => w_X7_frame_75 p M a b) := XX.call1 (x_codeFrame M a) (fun M1 => x_frame_80 M1 a b)
theorem x_frame_4 : ∀ n M a b c, XX ap1 (fun p => w_X7_frame_4 p n M a b c)
  | 0, _, _, _, _ => XX.no
  | n + 1, M, a, b, c => XX.ite (XX.ite (x_frame_75 _ _ _) (XX.and (XX.ite (x_frame_75 _ _ _) (XX.call1 (x_growGap _ _) (fun M4 => x_frame_80 M4 a b))))) (XX.and (XX.all (XX.all (x_frame_4 n M a _ _))))
theorem x_frame (M : z_Md) (a : Int32) : XX ap1 (fun p => w_X7_frame p M a) := XX.ex (fun n => x_frame_4 n M a _ _)
