-- an operand
theorem nameOf_no {b : Int32} (h1 : ¬ b = 99) (h2 : ¬ b = 104) (h3 : ¬ b = 105) (h4 : ¬ b = 114) : fX12_nameOf b = some (-1) := by
  unfold fX12_nameOf
  rw [if_neg h1, if_neg h2, if_neg h3, if_neg h4]
/-- the reference refuses the byte at a, and may write a step -/
theorem e_refuse {f g : Nat → Int32} {t a o m L : Nat} (ht : t ≤ 120) (ha : a ≤ t) (hm : m ≤ a) (hL : L ≤ a) {SX SR : zSt} (h : zPs f g t a o m L SX SR) {R : Option zSt} (hR : R = some (zI SR 14 (Int32.ofNat a)) ∨ R = fX12_addStep 1 0 (zI SR 14 (Int32.ofNat a))) : zOut f g t o a m L SX SR (some (0, SX)) R := by
  obtain ⟨h1, h2, h3, h4, h5⟩ := h
  have kq : zKeep [14] [] SR (zI SR 14 (Int32.ofNat a)) := zK_I _ _ _
  have hF : zFlt f g t a L SX (zI SR 14 (Int32.ofNat a)) := ⟨h1, ⟨(kq.1 2 (by decide)).trans h2.1, (kq.1 13 (by decide)).trans h2.2.1, zI_self _ _ _, h2.2.2.2⟩, (kq.1 16 (by decide)).trans h5, m, by omega, h4⟩
  rcases hR with hR | hR
  · exact Or.inr ⟨a, L, 0, SX, _, rfl, hR, Or.inl rfl, Nat.le_refl _, ha, hF, by omega, by omega, zKX_refl _, zKR_k kq (by simp)⟩
  · obtain ⟨SR1, c1, c2, c3⟩ := r_step_f hF (by omega) nar_b.1 0
    exact Or.inr ⟨a, L + 1, 0, SX, SR1, rfl, hR.trans c1, Or.inl rfl, Nat.le_refl _, ha, c2, by omega, by omega, zKX_refl _, zKR_t (zKR_k kq (by simp)) c3 (Nat.le_refl _)⟩
/-- the reference's figure where no digit is seen -/
theorem r_figure_no {f g : Nat → Int32} {t a o m L : Nat} (hz : zTz f g t) (ha : a ≤ t) {SX SR : zSt} (h : zPs f g t a o m L SX SR) (hd : ¬ zDg2 f t a) : fX12_figure zN SR = fX12_addStep 1 0 (zI SR 14 (Int32.ofNat a)) := by
  have ht := hz.1
  obtain ⟨h1, h2, h3, h4, h5⟩ := h
  have dR : ¬ (48 ≤ zSb g t a ∧ zSb g t a ≤ 57) := fun y => hd ((zSb_dig hz a).1.mpr y)
  have lk := r_look ht ha ⟨h2.1, h2.2.1, h2.2.2.2⟩
  show fX12_figure_b4 zN (999999 + 1) 0 0 SR = _
  rw [fX12_figure_b4, if_neg (show ¬ (4 : Int32) ≤ 0 by decide), lk, zB_some, e_in, zU_some, if_neg dR, if_pos zn00]
  unfold fX12_figure_b52 fX12_figure_b70 fX12_figure_b74
  rw [if_pos zn00, r_wrong h2.2.2.1 h2.2.1, zU_some]
  cases fX12_addStep 1 0 (zI SR 14 (Int32.ofNat a)) with
  | none => rfl
  | some x => rfl
theorem zPs_up {f g : Nat → Int32} {t a o m L : Nat} {SX SR : zSt} (h : zPs f g t a o m L SX SR) (b : Nat) : zPs f g t b o m L (zI SX 1102 (Int32.ofNat b)) (zI SR 13 (Int32.ofNat b)) :=
  ⟨zTXs_s h.1 b, zTRs_s h.2.1 b, by rw [zI_ne _ _ (by decide)]; exact h.2.2.1, by rw [zI_ne _ _ (by decide)]; exact h.2.2.2.1, by rw [zI_ne _ _ (by decide)]; exact h.2.2.2.2⟩
/-- a NAME -/
theorem e_name {f g : Nat → Int32} {t : Nat} (hz : zTz f g t) {a o m L : Nat} (ha : a ≤ t) (hm : m ≤ a) (hL : L ≤ a) {SX SR : zSt} (h : zPs f g t a o m L SX SR) {b i : Int32} (hb : zSb f t a = b) (hat : a < t) (hc : zXc (2, i) = -b) (hi : i = 0 ∨ i = 1 ∨ i = 2 ∨ i = 3)
    (GX : (Int32 → Int32 → zSt → Option (Int32 × zSt)) × (Int32 → Int32 → zSt → Option (Int32 × zSt)) × (Int32 → zSt → Option (Int32 × zSt)) × (Int32 → Int32 → zSt → Option (Int32 × zSt))) :
    zOut f g t o a m L SX SR (fX3_readOperand_b48 GX zN b SX) (zU (fX12_addStep 2 i SR) fun S47 => zL (zI S47 13 ((S47.1 13) + 1)) fun S49 => some S49) := by
  have ht := hz.1
  have hP1 : zPs f g t (a + 1) o m L (zI SX 1102 (Int32.ofNat (a + 1))) (zI SR 13 (Int32.ofNat (a + 1))) := zPs_up h (a + 1)
  unfold fX3_readOperand_b48
  rw [x_pass ht ha h.1, if_pos hb, zB_some]
  obtain ⟨SX2, SR2, b1, b2, b3, b4, b5, b6, b7⟩ := e_one hP1 (by omega) (by omega) nar_b.2.1 i
  obtain ⟨SX3, SR3, d1, d2, d3, d4, d5, d6, d7⟩ := e_one h (by omega) (by omega) nar_b.2.1 i
  rw [← hc, b1, zU_some, d2, zU_some, zL_def, d3.2.1.2.1, zo_s]
  have k13 : zKeep [13] [] SR3 (zI SR3 13 (Int32.ofNat (a + 1))) := zK_I _ _ _
  refine Or.inl ⟨a + 1, [(2, i)], SX2, zI SR3 13 (Int32.ofNat (a + 1)), rfl, rfl, by omega, by omega, ⟨b3.1, zTRs_s d3.2.1 (a + 1), (k13.1 15 (by decide)).trans d3.2.2.1, b3.2.2.2.1, (k13.1 16 (by decide)).trans d3.2.2.2.2⟩, by simp, Or.inl ⟨Or.inr ⟨rfl, hi⟩, rfl⟩, ?_, zKX_t (zKX_k (zK_I SX 1102 _) (by simp)) b5, zKM_t (zKM_k (zK_I SX 1102 _)) b6 (Nat.le_refl _), zKR_t d7 (zKR_k k13 (by simp)) (Nat.le_refl _)⟩
  exact ⟨b4.1, d4.2.1, d4.2.2.1, trivial⟩
theorem zOut_R {f g : Nat → Int32} {t o a m L : Nat} {SX SR : zSt} {X X2 : Option (Int32 × zSt)} {R R2 : Option zSt} (h : zOut f g t o a m L SX SR X R) (e : X2 = X) (e2 : R2 = R) : zOut f g t o a m L SX SR X2 R2 := by
  rw [e, e2]; exact h
/-- a sign ahead of an operand: ! or - -/
theorem e_signed {f g : Nat → Int32} {t : Nat} (hz : zTz f g t) {a o m L : Nat} (hm : m ≤ a) (hL : L ≤ a) {SX SR : zSt} (h : zPs f g t a o m L SX SR) (hat : a < t) (ho : o < 6) {w : Int32} (hw : w = 3 ∨ w = 4) {XO : zSt → Option (Int32 × zSt)} {RO : zSt → Option zSt} (hO : zCL f g t (o + 1) XO RO) :
    zOut f g t o a m L SX SR (zB (XO (zI SX 1102 (Int32.ofNat (a + 1)))) fun r1 S2 => if r1 = 0 then some (0, S2) else zU (fX3_make (zXc (w, 0)) S2) fun S6 => some (1, S6))
      (zU (RO (zI (zI SR 15 (Int32.ofNat (o + 1))) 13 (Int32.ofNat (a + 1)))) fun S9 => zL (zI S9 15 ((S9.1 15) - 1)) fun S11 => zU (fX12_addStep w 0 S11) fun S2 => some S2) := by
  have ht := hz.1
  have nw : vp_nar .byte (zi8 w) = w := by
    rcases hw with rfl | rfl
    · exact nar_b.2.2.1
    · exact nar_b.2.2.2
  have k15 : zKeep [13, 15] [] SR (zI (zI SR 15 (Int32.ofNat (o + 1))) 13 (Int32.ofNat (a + 1))) := zK_mono (zK_trans (zK_I SR 15 _) (zK_I _ 13 _)) (by simp) (by simp)
  have hP1 : zPs f g t (a + 1) (o + 1) m L (zI SX 1102 (Int32.ofNat (a + 1))) (zI (zI SR 15 (Int32.ofNat (o + 1))) 13 (Int32.ofNat (a + 1))) :=
    ⟨zTXs_s h.1 (a + 1), ⟨(k15.1 2 (by decide)).trans h.2.1.1, zI_self _ _ _, (k15.1 14 (by decide)).trans h.2.1.2.2.1, h.2.1.2.2.2⟩, by rw [zI_ne _ _ (by decide)]; exact zI_self _ _ _, by rw [zI_ne _ _ (by decide)]; exact h.2.2.2.1, (k15.1 16 (by decide)).trans h.2.2.2.2⟩
  have kX1 : zKX SX (zI SX 1102 (Int32.ofNat (a + 1))) := zKX_k (zK_I _ _ _) (by simp)
  have kM1 : zKM m SX (zI SX 1102 (Int32.ofNat (a + 1))) := zKM_k (zK_I SX 1102 _)
  have kR1 : zKR L SR (zI (zI SR 15 (Int32.ofNat (o + 1))) 13 (Int32.ofNat (a + 1))) := zKR_k k15 (by simp)
  rcases hO (a + 1) m L _ _ (by omega) (by omega) (by omega) hP1 with ⟨a2, os, SX2, SR2, e1, e2, e3, e4, e5, e6, e7, e8, e9, e10, e11⟩ | ⟨q, L2, r, SX2, SR2, e1, e2, e3, e4, e5, e6, e6b, e7, e8, e9⟩
  · have ko : zKeep [15] [] SR2 (zI SR2 15 (Int32.ofNat o)) := zK_I _ _ _
    have hP2 : zPs f g t a2 o (m + os.length) (L + os.length) SX2 (zI SR2 15 (Int32.ofNat o)) := ⟨e5.1, zTRs_K e5.2.1 ko (by decide) (by decide), zI_self _ _ _, e5.2.2.2.1, (ko.1 16 (by decide)).trans e5.2.2.2.2⟩
    obtain ⟨SX3, SR3, b1, b2, b3, b4, b5, b6, b7⟩ := e_one hP2 (by omega) (by omega) nw 0
    rw [e1, e2, zB_some, if_neg zn10, b1, zU_some, zU_some, zL_def, e5.2.2.1, zo_p (by omega), Nat.add_sub_cancel, b2, zU_some]
    refine Or.inl ⟨a2, os ++ [(w, 0)], SX3, SR3, rfl, rfl, by omega, e4, by rw [List.length_append, List.length_singleton, ← Nat.add_assoc, ← Nat.add_assoc]; exact b3, by rw [List.length_append, List.length_singleton]; omega, zDs_one e7 hw, ?_, zKX_t kX1 (zKX_t e9 b5), zKM_t kM1 (zKM_t e10 b6 (by omega)) (Nat.le_refl _), zKR_t kR1 (zKR_t e11 (zKR_t (zKR_k (L := L + os.length) ko (by simp)) b7 (Nat.le_refl _)) (by omega)) (Nat.le_refl _)⟩
    refine zAt_app _ _ _ _ ?_ (by rw [Nat.add_assoc 520]; exact b4)
    exact zAt_cg os m (520 + L) (fun i i0 i1 => b6 i i1) (fun i i0 i1 => b7.2 i (by omega)) e8
  · have ko : zKeep [15] [] SR2 (zI SR2 15 (SR2.1 15 - 1)) := zK_I _ _ _
    have hF2 : zFlt f g t q L2 SX2 (zI SR2 15 (SR2.1 15 - 1)) := ⟨e6.1, ⟨(ko.1 2 (by decide)).trans e6.2.1.1, (ko.1 13 (by decide)).trans e6.2.1.2.1, (ko.1 14 (by decide)).trans e6.2.1.2.2.1, e6.2.1.2.2.2⟩, (ko.1 16 (by decide)).trans e6.2.2.1, e6.2.2.2⟩
    obtain ⟨SR3, c1, c2, c3⟩ := r_step_f hF2 (by omega) nw 0
    rw [e1, e2, zB_some, zU_some, zL_def, c1, zU_some]
    have kR : zKR L SR SR3 := zKR_t kR1 (zKR_t e9 (zKR_t (zKR_k (L := L) ko (by simp)) (zKR_le c3 (by omega : L ≤ L2)) (Nat.le_refl _)) (Nat.le_refl _)) (Nat.le_refl _)
    rcases e3 with rfl | ⟨rfl, d⟩
    · rw [if_pos zn00]
      exact Or.inr ⟨q, L2 + 1, 0, SX2, SR3, rfl, rfl, Or.inl rfl, by omega, e5, c2, by omega, by omega, zKX_t kX1 e8, kR⟩
    · obtain ⟨SX3, d1, d2, d3⟩ := x_make_q c2 (zXc (w, 0))
      rw [if_neg zn10, d1, zU_some]
      exact Or.inr ⟨q, L2 + 1, 1, SX3, SR3, rfl, rfl, Or.inr ⟨rfl, d⟩, by omega, e5, d2, by omega, by omega, zKX_t kX1 (zKX_t e8 d3), kR⟩
/-- ( E ) -/
theorem e_paren {f g : Nat → Int32} {t : Nat} (hz : zTz f g t) {a o m L : Nat} (hm : m ≤ a) (hL : L ≤ a) {SX SR : zSt} (h : zPs f g t a o m L SX SR) (hat : a < t) (ho : o < 6) {XE : zSt → Option (Int32 × zSt)} {RE : zSt → Option zSt} (hE : zCL f g t (o + 1) XE RE) :
    zOut f g t o a m L SX SR (zB (XE (zI SX 1102 (Int32.ofNat (a + 1)))) fun r39 S40 => if r39 = 0 then some (0, S40) else zB (fX10_pass 41 S40) fun r43 S44 => if r43 = 0 then some (0, S44) else some (1, S44))
      (zU (RE (zI (zI SR 15 (Int32.ofNat (o + 1))) 13 (Int32.ofNat (a + 1)))) fun S31 => if S31.1 14 < 0 then zB (fX12_look S31) fun r34 S35 => if r34 = 41 then zL (zI S35 13 ((S35.1 13) + 1)) fun S38 => zL (zI S38 15 ((S38.1 15) - 1)) fun S39 => some S39 else zU (fX12_wrong S35) fun S41 => some S41 else some S31) := by
  have ht := hz.1
  have k15 : zKeep [13, 15] [] SR (zI (zI SR 15 (Int32.ofNat (o + 1))) 13 (Int32.ofNat (a + 1))) := zK_mono (zK_trans (zK_I SR 15 _) (zK_I _ 13 _)) (by simp) (by simp)
  have hP1 : zPs f g t (a + 1) (o + 1) m L (zI SX 1102 (Int32.ofNat (a + 1))) (zI (zI SR 15 (Int32.ofNat (o + 1))) 13 (Int32.ofNat (a + 1))) :=
    ⟨zTXs_s h.1 (a + 1), ⟨(k15.1 2 (by decide)).trans h.2.1.1, zI_self _ _ _, (k15.1 14 (by decide)).trans h.2.1.2.2.1, h.2.1.2.2.2⟩, by rw [zI_ne _ _ (by decide)]; exact zI_self _ _ _, by rw [zI_ne _ _ (by decide)]; exact h.2.2.2.1, (k15.1 16 (by decide)).trans h.2.2.2.2⟩
  have kX1 : zKX SX (zI SX 1102 (Int32.ofNat (a + 1))) := zKX_k (zK_I _ _ _) (by simp)
  have kM1 : zKM m SX (zI SX 1102 (Int32.ofNat (a + 1))) := zKM_k (zK_I SX 1102 _)
  have kR1 : zKR L SR (zI (zI SR 15 (Int32.ofNat (o + 1))) 13 (Int32.ofNat (a + 1))) := zKR_k k15 (by simp)
  rcases hE (a + 1) m L _ _ (by omega) (by omega) (by omega) hP1 with ⟨a2, os, SX2, SR2, e1, e2, e3, e4, e5, e6, e7, e8, e9, e10, e11⟩ | ⟨q, L2, r, SX2, SR2, e1, e2, e3, e4, e5, e6, e6b, e7, e8, e9⟩
  · have q41 := zSb_eq hz a2 (c := 41) (by decide) (by decide)
    have lk := r_look ht e4 ⟨e5.2.1.1, e5.2.1.2.1, e5.2.1.2.2.2⟩
    rw [e1, e2, zB_some, if_neg zn10, zU_some, x_pass ht e4 e5.1, e5.2.1.2.2.1, if_pos (show (-1 : Int32) < 0 by decide), lk, zB_some]
    by_cases c : zSb f t a2 = 41
    · have hat2 : a2 < t := zSb_lt (by rw [c]; decide)
      rw [if_pos c, zB_some, if_neg zn10, if_pos (q41.mp c), zL_def, zL_def, e5.2.1.2.1, zo_s, show (zI SR2 13 (Int32.ofNat (a2 + 1))).1 15 = Int32.ofNat (o + 1) from e5.2.2.1, zo_p (by omega), Nat.add_sub_cancel]
      have kx : zKeep [1102] [] SX2 (zI SX2 1102 (Int32.ofNat (a2 + 1))) := zK_I _ _ _
      have kr : zKeep [13, 15] [] SR2 (zI (zI SR2 13 (Int32.ofNat (a2 + 1))) 15 (Int32.ofNat o)) := zK_mono (zK_trans (zK_I SR2 13 _) (zK_I _ 15 _)) (by simp) (by simp)
      refine Or.inl ⟨a2 + 1, os, _, _, rfl, rfl, by omega, by omega, ⟨zTXs_s e5.1 (a2 + 1), zTRs_K (zTRs_s e5.2.1 (a2 + 1)) (zK_I _ 15 (Int32.ofNat o)) (by decide) (by decide), zI_self _ _ _, (kx.1 402 (by decide)).trans e5.2.2.2.1, (kr.1 16 (by decide)).trans e5.2.2.2.2⟩, by omega, e7, e8, zKX_t kX1 (zKX_t e9 (zKX_k kx (by simp))), zKM_t kM1 (zKM_t e10 (zKM_k kx) (Nat.le_refl _)) (Nat.le_refl _), zKR_t kR1 (zKR_t e11 (zKR_k kr (by simp)) (Nat.le_refl _)) (Nat.le_refl _)⟩
    · have kq : zKeep [14] [] SR2 (zI SR2 14 (Int32.ofNat a2)) := zK_I _ _ _
      rw [if_neg c, zB_some, if_pos zn00, if_neg (fun y => c (q41.mpr y)), r_wrong e5.2.1.2.2.1 e5.2.1.2.1, zU_some]
      exact Or.inr ⟨a2, L + os.length, 0, SX2, _, rfl, rfl, Or.inl rfl, by omega, e4, ⟨e5.1, ⟨(kq.1 2 (by decide)).trans e5.2.1.1, (kq.1 13 (by decide)).trans e5.2.1.2.1, zI_self _ _ _, e5.2.1.2.2.2⟩, (kq.1 16 (by decide)).trans e5.2.2.2.2, m + os.length, by omega, e5.2.2.2.1⟩, by omega, by omega, zKX_t kX1 e9, zKR_t kR1 (zKR_t e11 (zKR_k kq (by simp)) (Nat.le_refl _)) (Nat.le_refl _)⟩
  · have n14 : ¬ SR2.1 14 < 0 := by rw [e6.2.1.2.2.1]; exact Int32.not_lt.mpr (zo_0 (by omega))
    rw [e1, e2, zB_some, zU_some, if_neg n14]
    have fin : zOut f g t o a m L SX SR (some (0, SX2)) (some SR2) := Or.inr ⟨q, L2, 0, SX2, SR2, rfl, rfl, Or.inl rfl, by omega, e5, e6, by omega, by omega, zKX_t kX1 e8, zKR_t kR1 e9 (Nat.le_refl _)⟩
    rcases e3 with rfl | ⟨rfl, d⟩
    · rw [if_pos zn00]
      exact fin
    · have n41 : ¬ zSb f t q = 41 := fun e => by
        have := d.1
        rw [e] at this
        exact absurd this (by decide)
      rw [if_neg zn10, x_pass ht e5 e6.1, if_neg n41, zB_some, if_pos zn00]
      exact fin
theorem e_operand {f g : Nat → Int32} {t : Nat} (hz : zTz f g t) {o : Nat} (ho : o ≤ 6) (GX : (Int32 → Int32 → zSt → Option (Int32 × zSt)) × (Int32 → Int32 → zSt → Option (Int32 × zSt)) × (Int32 → zSt → Option (Int32 × zSt)) × (Int32 → Int32 → zSt → Option (Int32 × zSt)))
    (GR : (zSt → Option zSt) × (zSt → Option zSt) × (zSt → Option zSt) × (zSt → Option zSt) × (zSt → Option zSt) × (zSt → Option zSt))
    (hE : o < 6 → zCL f g t (o + 1) (fun S => GX.1 0 (Int32.ofNat (o + 1)) S) (fun S => GR.2.2.2.2.2 S))
    (hO : o < 6 → ∃ XO : zSt → Option (Int32 × zSt), (∀ s S, GX.2.2.2 s (Int32.ofNat o) S = (zB (XO S) fun r1 S2 => if r1 = 0 then some (0, S2) else zU (fX3_make (-s) S2) fun S6 => some (1, S6))) ∧ zCL f g t (o + 1) XO (fun S => GR.1 S)) :
    zCL f g t o (fun S => fX3_readOperand_o GX zN (Int32.ofNat o) S) (fun S => fX12_operand_o GR zN S) := by
  have ht := hz.1
  intro a m L SX SR ha hm hL h
  have lk := r_look ht ha ⟨h.2.1.1, h.2.1.2.1, h.2.1.2.2.2⟩
  have eq := fun (c : Int32) (h0 : 0 ≤ c) (h1 : c ≤ 127) => zSb_eq hz a h0 h1
  have q99 := eq 99 (by decide) (by decide)
  have q104 := eq 104 (by decide) (by decide)
  have q105 := eq 105 (by decide) (by decide)
  have q114 := eq 114 (by decide) (by decide)
  have q33 := eq 33 (by decide) (by decide)
  have q45 := eq 45 (by decide) (by decide)
  have q40 := eq 40 (by decide) (by decide)
  have at' : ∀ c : Int32, 0 ≤ c → zSb f t a = c → a < t := fun c h0 e => zSb_lt (by rw [e]; exact h0)
  show zOut f g t o a m L SX SR (fX3_readOperand_o GX zN (Int32.ofNat o) SX) (fX12_operand_o GR zN SR)
  unfold fX3_readOperand_o fX12_operand_o
  rw [lk, zB_some]
  by_cases d : zDg2 f t a
  · have ne : ∀ c : Int32, ¬ (48 ≤ c ∧ c ≤ 57) → ¬ zSb g t a = c := fun c hc e => hc (by rw [← e]; exact (zSb_dig hz a).1.mp d)
    rw [(x_sees ht ha h.1).1 d, zB_some, if_neg zn10, nameOf_no (ne 99 (by decide)) (ne 104 (by decide)) (ne 105 (by decide)) (ne 114 (by decide)), zU_some, if_pos (show (-1 : Int32) < 0 by decide), if_neg (ne 33 (by decide)), if_neg (ne 45 (by decide)), if_neg (ne 40 (by decide))]
    refine zOut_R (e_num hz ha hm hL h d) rfl ?_
    cases fX12_figure zN SR with
    | none => rfl
    | some x => rfl
  · rw [(x_sees ht ha h.1).2 d, zB_some, if_pos zn00, x_seen ht ha h.1, zB_some]
    by_cases c104 : zSb f t a = 104
    · rw [if_pos c104, c104, q104.mp c104]
      exact e_name hz ha hm hL h c104 (at' 104 (by decide) c104) rfl (Or.inl rfl) GX
    rw [if_neg c104]
    by_cases c99 : zSb f t a = 99
    · rw [if_pos c99, c99, q99.mp c99]
      exact e_name hz ha hm hL h c99 (at' 99 (by decide) c99) rfl (Or.inr (Or.inl rfl)) GX
    rw [if_neg c99]
    by_cases c114 : zSb f t a = 114
    · rw [if_pos c114, c114, q114.mp c114]
      exact e_name hz ha hm hL h c114 (at' 114 (by decide) c114) rfl (Or.inr (Or.inr (Or.inl rfl))) GX
    rw [if_neg c114]
    by_cases c105 : zSb f t a = 105
    · rw [if_pos c105, c105, q105.mp c105]
      exact e_name hz ha hm hL h c105 (at' 105 (by decide) c105) rfl (Or.inr (Or.inr (Or.inr rfl))) GX
    rw [if_neg c105, nameOf_no (fun e => c99 (q99.mpr e)) (fun e => c104 (q104.mpr e)) (fun e => c105 (q105.mpr e)) (fun e => c114 (q114.mpr e)), zU_some, if_pos (show (-1 : Int32) < 0 by decide)]
    have e6 : (Int32.ofNat o < 6) = (o < 6) := zo_lt (b := 6) (by omega) (by omega)
    have e66 : (Int32.ofNat o = 6) = (o = 6) := zo_eq (b := 6) (by omega) (by omega)
    have op : fX12_opens SR = if o = 6 then some (0, zI SR 14 (Int32.ofNat a)) else some (1, zI (zI SR 15 (Int32.ofNat (o + 1))) 13 (Int32.ofNat (a + 1))) := by
      unfold fX12_opens
      rw [h.2.2.1, zi_of e66, r_wrong h.2.1.2.2.1 h.2.1.2.1, zU_some, zL_def, zL_def, zo_s, show (zI SR 15 (Int32.ofNat (o + 1))).1 13 = Int32.ofNat a from by rw [zI_ne _ _ (by decide)]; exact h.2.1.2.1, zo_s]
    have fig := r_figure_no hz ha h d
    have figU : (zU (fX12_figure zN SR) fun S24 => some S24) = fX12_addStep 1 0 (zI SR 14 (Int32.ofNat a)) := by
      rw [fig]
      cases fX12_addStep 1 0 (zI SR 14 (Int32.ofNat a)) with
      | none => rfl
      | some x => rfl
    unfold fX12_operand_b46 fX12_operand_b80
    rw [op, figU, zi_of e6]
    by_cases w : o < 6
    · have n6 : ¬ o = 6 := by omega
      obtain ⟨XO, hx, hO⟩ := hO w
      have hE := hE w
      rw [if_pos w, if_neg n6, zB_some, if_neg zn10, x_pass ht ha h.1]
      by_cases c40 : zSb f t a = 40
      · have n33 : ¬ zSb g t a = 33 := fun e => by rw [q40.mp c40] at e; exact absurd e (by decide)
        have n45 : ¬ zSb g t a = 45 := fun e => by rw [q40.mp c40] at e; exact absurd e (by decide)
        rw [if_pos c40, zB_some, if_neg zn10, if_neg n33, if_neg n45, if_pos (q40.mp c40), zB_some, if_neg zn10, zo_s]
        exact e_paren hz hm hL h (at' 40 (by decide) c40) w hE
      · have n40 : ¬ zSb g t a = 40 := fun e => c40 (q40.mpr e)
        rw [if_neg c40, zB_some, if_pos zn00, x_pass ht ha h.1]
        by_cases c33 : zSb f t a = 33
        · rw [if_pos c33, zB_some, if_neg zn10, if_pos (q33.mp c33), hx]
          simp only [if_pos (q33.mp c33)]
          refine zOut_R (e_signed hz hm hL h (at' 33 (by decide) c33) w (Or.inl rfl) hO) ?_ rfl
          cases XO (zI SX 1102 (Int32.ofNat (a + 1))) with
          | none => rfl
          | some x =>
            obtain ⟨r, S⟩ := x
            rw [zB_some, zB_some]
            by_cases r0 : r = 0
            · rw [if_pos r0, if_pos r0, zB_some, if_pos (show zbit (0 : Int32) from Or.inl rfl)]
            · rw [if_neg r0, if_neg r0]
              show (zB (zU (fX3_make (-33) S) fun S6 => some (1, S6)) fun r35 S36 => if zbit r35 then some (r35, S36) else none) = zU (fX3_make (-33) S) fun S6 => some (1, S6)
              cases fX3_make (-33) S with
              | none => rfl
              | some y => rfl
        · have n33 : ¬ zSb g t a = 33 := fun e => c33 (q33.mpr e)
          rw [if_neg c33, zB_some, if_pos zn00, if_neg n33, x_pass ht ha h.1]
          by_cases c45 : zSb f t a = 45
          · rw [if_pos c45, zB_some, if_neg zn10, if_pos (q45.mp c45), hx]
            simp only [if_neg n33]
            refine zOut_R (e_signed hz hm hL h (at' 45 (by decide) c45) w (Or.inr rfl) hO) ?_ rfl
            cases XO (zI SX 1102 (Int32.ofNat (a + 1))) with
            | none => rfl
            | some x =>
              obtain ⟨r, S⟩ := x
              rw [zB_some, zB_some]
              by_cases r0 : r = 0
              · rw [if_pos r0, if_pos r0, zB_some, if_pos zn00]
              · rw [if_neg r0, if_neg r0]
                show (zB (zU (fX3_make (-126) S) fun S6 => some (1, S6)) fun r31 S32 => if r31 = 0 then some (0, S32) else some (1, S32)) = zU (fX3_make (-126) S) fun S6 => some (1, S6)
                cases fX3_make (-126) S with
                | none => rfl
                | some y => rfl
          · have n45 : ¬ zSb g t a = 45 := fun e => c45 (q45.mpr e)
            rw [if_neg c45, zB_some, if_pos zn00, if_neg n45, if_neg n40]
            exact e_refuse ht ha hm hL h (Or.inr rfl)
    · have o6 : o = 6 := by omega
      rw [if_neg w, if_pos o6, zB_some, if_pos zn00]
      by_cases c33 : zSb g t a = 33
      · rw [if_pos c33]
        exact e_refuse ht ha hm hL h (Or.inl rfl)
      · rw [if_neg c33]
        by_cases c45 : zSb g t a = 45
        · rw [if_pos c45]
          exact e_refuse ht ha hm hL h (Or.inl rfl)
        · rw [if_neg c45]
          by_cases c40 : zSb g t a = 40
          · rw [if_pos c40, zB_some, if_pos zn00]
            exact e_refuse ht ha hm hL h (Or.inl rfl)
          · rw [if_neg c40]
            exact e_refuse ht ha hm hL h (Or.inr rfl)
