-- a line
theorem nar_short : ∀ n : Nat, n < 251 → vp_nar .short (zi16 (Int32.ofNat n)) = Int32.ofNat n ∧ vp_nar .short (Int32.ofNat n) = Int32.ofNat n := by decide +kernel
def zKW (L k : Nat) (SR SR1 : zSt) : Prop := zKeep [13, 14, 15, 16] [17, 18, 19, 20, 21] SR SR1 ∧ (∀ i, i < 520 + L → SR1.2.1 17 i = SR.2.1 17 i ∧ SR1.2.1 18 i = SR.2.1 18 i) ∧ (∀ i, i < 4 → SR1.2.1 19 i = SR.2.1 19 i) ∧ ∀ i, i < 244 + k → SR1.2.1 20 i = SR.2.1 20 i ∧ SR1.2.1 21 i = SR.2.1 21 i
theorem zKW_refl (L k : Nat) (S : zSt) : zKW L k S S := ⟨zK_refl _, fun _ _ => ⟨rfl, rfl⟩, fun _ _ => rfl, fun _ _ => ⟨rfl, rfl⟩⟩
theorem zKW_t {L L2 k k2 : Nat} {a b c : zSt} (h : zKW L k a b) (h2 : zKW L2 k2 b c) (hL : L ≤ L2) (hk : k ≤ k2) : zKW L k a c :=
  ⟨zK_t h.1 h2.1, fun i hi => ⟨(h2.2.1 i (by omega)).1.trans (h.2.1 i hi).1, (h2.2.1 i (by omega)).2.trans (h.2.1 i hi).2⟩, fun i hi => (h2.2.2.1 i hi).trans (h.2.2.1 i hi), fun i hi => ⟨(h2.2.2.2 i (by omega)).1.trans (h.2.2.2 i hi).1, (h2.2.2.2 i (by omega)).2.trans (h.2.2.2 i hi).2⟩⟩
theorem zKW_R {L k : Nat} {a b : zSt} (h : zKR L a b) : zKW L k a b := ⟨zK_mono h.1 (by simp) (by simp), h.2, fun i _ => by rw [h.1.2.1 19 (by simp)], fun i _ => by rw [h.1.2.1 20 (by simp), h.1.2.1 21 (by simp)]; exact ⟨rfl, rfl⟩⟩
theorem zKW_k {L k : Nat} {a b : zSt} {I : List Nat} (h : zKeep I [] a b) (hI : ∀ j ∈ I, j ∈ [13, 14, 15, 16]) : zKW L k a b := zKW_R (zKR_k h hI)
theorem zKW_20 {L k : Nat} (S : zSt) (v : Int32) : zKW L k S (zA S 20 (244 + k) v) := ⟨zK_mono (zK_A S 20 (244 + k) v) (by simp) (by simp), fun i _ => ⟨zA_oth _ _ _ _ (by decide), zA_oth _ _ _ _ (by decide)⟩, fun i _ => zA_oth _ _ _ _ (by decide), fun i hi => ⟨by rw [zA_get, if_neg (by omega)], zA_oth _ _ _ _ (by decide)⟩⟩
/-- the end of a line on the reference's side -/
def zLE (k L : Nat) (SR : zSt) : zSt := zA (zA SR 21 (244 + k) (Int32.ofNat L)) 19 4 (Int32.ofNat (k + 1))
theorem r_b67 {k L : Nat} (hk : k < 61) (hL : L < 251) {S : zSt} (h : S.1 16 = Int32.ofNat L) (h19 : S.2.1 19 4 = Int32.ofNat k) : fX12_readLine_b67 zN (Int32.ofNat (244 + k)) S = some (zLE k L S) := by
  have z : zin (Int32.ofNat (244 + k)) 305 := zin_o (by omega) (by decide)
  have z4 : zin 4 5 := by decide
  unfold fX12_readLine_b67 zLE
  rw [if_pos z, zL_def, h, (nar_short L hL).1, zo_t (by omega)]
  rw [if_pos z4, if_pos z4, zL_def, show (zA S 21 (244 + k) (Int32.ofNat L)).2.1 19 (Int32.toNatClampNeg 4) = S.2.1 19 4 from by rw [zA_oth _ _ _ _ (by decide)]; rfl, h19, zo_s]
  rfl
theorem zLE_k (k L : Nat) (S : zSt) : zKeep [] [19, 21] S (zLE k L S) := zK_mono (zK_trans (zK_A S 21 (244 + k) (Int32.ofNat L)) (zK_A _ 19 4 _)) (by simp) (by simp)
theorem zLE_19 (k L : Nat) (S : zSt) (i : Nat) : (zLE k L S).2.1 19 i = if i = 4 then Int32.ofNat (k + 1) else S.2.1 19 i := by
  unfold zLE
  rw [zA_get, zA_oth _ _ _ _ (by decide)]
theorem zLE_21 (k L : Nat) (S : zSt) (i : Nat) : (zLE k L S).2.1 21 i = if i = 244 + k then Int32.ofNat L else S.2.1 21 i := by
  unfold zLE
  rw [zA_oth _ _ _ _ (by decide), zA_get]
theorem zKW_E (L k n : Nat) (S : zSt) : zKW L k S (zLE k n S) :=
  ⟨zK_mono (zLE_k k n S) (by simp) (by simp), fun i _ => by rw [(zLE_k k n S).2.1 17 (by simp), (zLE_k k n S).2.1 18 (by simp)]; exact ⟨rfl, rfl⟩, fun i hi => by rw [zLE_19, if_neg (by omega)], fun i hi => ⟨by rw [(zLE_k k n S).2.1 20 (by simp)], by rw [zLE_21, if_neg (by omega)]⟩⟩
theorem zPs_E {f g : Nat → Int32} {t a o m L k n : Nat} {SX SR : zSt} (h : zPs f g t a o m L SX SR) : zPs f g t a o m L SX (zLE k n SR) :=
  have kr := zLE_k k n SR
  ⟨h.1, zTRs_K h.2.1 kr (by simp) (by simp), (kr.1 15 (by simp)).trans h.2.2.1, h.2.2.2.1, (kr.1 16 (by simp)).trans h.2.2.2.2⟩
theorem zFlt_E {f g : Nat → Int32} {t q L k n : Nat} {SX SR : zSt} (h : zFlt f g t q L SX SR) : zFlt f g t q L SX (zLE k n SR) := by
  have kr := zLE_k k n SR
  obtain ⟨h1, ⟨h2, h3, h4, h5⟩, h6, h7⟩ := h
  exact ⟨h1, ⟨(kr.1 2 (by simp)).trans h2, (kr.1 13 (by simp)).trans h3, (kr.1 14 (by simp)).trans h4, (kr.2.1 1 (by simp)).trans h5⟩, (kr.1 16 (by simp)).trans h6, h7⟩
theorem zPs_20 {f g : Nat → Int32} {t a o m L : Nat} {SX SR : zSt} (h : zPs f g t a o m L SX SR) (j : Nat) (v : Int32) : zPs f g t a o m L SX (zA SR 20 j v) :=
  have kr := zK_A SR 20 j v
  ⟨h.1, zTRs_K h.2.1 kr (by simp) (by simp), (kr.1 15 (by simp)).trans h.2.2.1, h.2.2.2.1, (kr.1 16 (by simp)).trans h.2.2.2.2⟩
/-- one code more on the class's side alone -/
theorem x_code {f g : Nat → Int32} {t a o m L : Nat} {SX SR : zSt} (h : zPs f g t a o m L SX SR) (hm : m < 121) (c : Int32) : ∃ SX1 : zSt, fX3_make c SX = some SX1 ∧ zPs f g t a o (m + 1) L SX1 SR ∧ SX1.2.1 401 m = c ∧ zKX SX SX1 ∧ zKM m SX SX1 := by
  obtain ⟨h1, h2, h3, h4, h5⟩ := h
  have kx : zKeep [402] [401] SX (zI (zA SX 401 m c) 402 (Int32.ofNat (m + 1))) := zK_mono (zK_trans (zK_A SX 401 m c) (zK_I _ 402 _)) (by simp) (by simp)
  refine ⟨_, x_make hm h4 c, ⟨zTXs_K h1 kx (by decide) (by decide), h2, h3, zI_self _ _ _, h5⟩, ?_, zK_mono kx (by simp) (by simp), fun i hi => ?_⟩
  · show (zA SX 401 m c).2.1 401 m = _
    rw [zA_get, if_pos rfl]
  · show (zA SX 401 m c).2.1 401 i = _
    rw [zA_get, if_neg (by omega)]
def zLn (f g : Nat → Int32) (t a m L k : Nat) (SX SR : zSt) (a2 : Nat) (l : List zOp × List zOp) (SX1 SR1 : zSt) : Prop :=
  a < a2 ∧ a2 ≤ t ∧ zPs f g t a2 0 (m + zXl l.1 + l.2.length + 1) (L + l.1.length + l.2.length) SX1 SR1 ∧ zXl l.1 + l.2.length ≤ a2 - a ∧ l.1.length + l.2.length ≤ a2 - a ∧ SR1.2.1 19 4 = Int32.ofNat (k + 1) ∧
  zLR (SX1.2.1 401) (SR1.2.1 17) (SR1.2.1 18) (SR1.2.1 20) (SR1.2.1 21) 520 244 [l] m L k ∧ zKX SX SX1 ∧ zKM m SX SX1 ∧ zKW L k SR SR1
def zLb (f g : Nat → Int32) (t a L k : Nat) (SX SR : zSt) (r : Int32) (q L2 : Nat) (SX1 SR1 : zSt) : Prop :=
  (r = 0 ∨ (r = 1 ∧ zDg2 f t q)) ∧ a ≤ q ∧ q ≤ t ∧ zFlt f g t q L2 SX1 SR1 ∧ zKX SX SX1 ∧ zKW L k SR SR1
theorem zDs_ne {os : List zOp} (h : zDs os 0 1) : ¬ os = [] := fun e => by
  rw [e] at h
  have h : (0 : Nat) = 1 := h
  omega
theorem e_readLine {f g : Nat → Int32} {t : Nat} (hz : zTz f g t) {a m L k : Nat} (ha : a ≤ t) (hm : m ≤ a) (hL : L ≤ a) (hk : k < 61) {SX SR : zSt} (h : zPs f g t a 0 m L SX SR) (h19 : SR.2.1 19 4 = Int32.ofNat k) :
    (∃ (a2 : Nat) (l : List zOp × List zOp) (SX1 SR1 : zSt), fX3_readLine zN SX = some (1, SX1) ∧ fX12_readLine zN SR = some SR1 ∧ zLn f g t a m L k SX SR a2 l SX1 SR1) ∨
    (∃ (r : Int32) (q L2 : Nat) (SX1 SR1 : zSt), fX3_readLine zN SX = some (r, SX1) ∧ fX12_readLine zN SR = some SR1 ∧ zLb f g t a L k SX SR r q L2 SX1 SR1) := by
  have ht := hz.1
  have z4 : zin 4 5 := by decide
  have ex : (244 : Int32) + Int32.ofNat k = Int32.ofNat (244 + k) := zo_add 244 k
  have z : zin (Int32.ofNat (244 + k)) 305 := zin_o (by omega) (by decide)
  have hE := e_expr hz
  have h0 := zPs_20 h (244 + k) (Int32.ofNat L)
  have k0 : zKW L k SR (zA SR 20 (244 + k) (Int32.ofNat L)) := zKW_20 SR _
  have g20 : (zA SR 20 (244 + k) (Int32.ofNat L)).2.1 20 (244 + k) = Int32.ofNat L := by rw [zA_get, if_pos rfl]
  have g19 : (zA SR 20 (244 + k) (Int32.ofNat L)).2.1 19 4 = Int32.ofNat k := by rw [zA_oth _ _ _ _ (by decide)]; exact h19
  unfold fX3_readLine fX12_readLine
  rw [if_pos z4, show SR.2.1 19 (Int32.toNatClampNeg 4) = Int32.ofNat k from h19, ex, zL_def]
  simp only [if_pos z]
  rw [zL_def, h.2.2.2.2, (nar_short L (by omega)).1, zo_t (by omega)]
  generalize zA SR 20 (244 + k) (Int32.ofNat L) = SR0 at h0 k0 g20 g19 ⊢
  rcases hE a m L SX SR0 ha hm hL h0 with ⟨a2, os, SX1, SR1, e1, e2, hM⟩ | ⟨q, L2, r, SX1, SR1, e1, e2, e3, hB⟩
  · have e1 : fX3_readChain zN zfuel 0 0 SX = some (1, SX1) := e1
    have e2 : fX12_either zN zfuel SR0 = some SR1 := e2
    obtain ⟨m1, m2, m3, m4, m5, m6, m7, m8, m9⟩ := hM
    have lk := r_look ht m2 ⟨m3.2.1.1, m3.2.1.2.1, m3.2.1.2.2.2⟩
    have q63 := zSb_eq hz a2 (c := 63) (by decide) (by decide)
    have r19 : SR1.2.1 19 4 = Int32.ofNat k := by rw [m9.1.2.1 19 (by simp)]; exact g19
    have r20 : SR1.2.1 20 (244 + k) = Int32.ofNat L := by rw [m9.1.2.1 20 (by simp)]; exact g20
    rw [e1, e2, zB_some, zU_some, if_neg zn10, x_pass ht m2 m3.1, m3.2.1.2.2.1, if_neg zn14, lk, zB_some]
    by_cases c : zSb f t a2 = 63
    · have hat : a2 < t := zSb_lt (by rw [c]; decide)
      rw [if_pos c, zB_some, if_neg zn10, if_pos (q63.mp c), zL_def, m3.2.1.2.1, zo_s, zL_def, show (zI SR1 13 (Int32.ofNat (a2 + 1))).1 16 = Int32.ofNat (L + os.length) from m3.2.2.2.2, (nar_short (L + os.length) (by omega)).1]
      obtain ⟨SX2, b1, b2, b3, b4, b5⟩ := x_code (zPs_up m3 (a2 + 1)) (by omega) (-63)
      have h2 := zPs_20 b2 (244 + k) (Int32.ofNat (L + os.length))
      have k2 : zKW L k (zI SR1 13 (Int32.ofNat (a2 + 1))) (zA (zI SR1 13 (Int32.ofNat (a2 + 1))) 20 (244 + k) (Int32.ofNat (L + os.length))) := zKW_20 _ _
      have j20 : (zA (zI SR1 13 (Int32.ofNat (a2 + 1))) 20 (244 + k) (Int32.ofNat (L + os.length))).2.1 20 (244 + k) = Int32.ofNat (L + os.length) := by rw [zA_get, if_pos rfl]
      have j19 : (zA (zI SR1 13 (Int32.ofNat (a2 + 1))) 20 (244 + k) (Int32.ofNat (L + os.length))).2.1 19 4 = Int32.ofNat k := by rw [zA_oth _ _ _ _ (by decide)]; exact r19
      have j17 : ∀ i, (zA (zI SR1 13 (Int32.ofNat (a2 + 1))) 20 (244 + k) (Int32.ofNat (L + os.length))).2.1 17 i = SR1.2.1 17 i ∧ (zA (zI SR1 13 (Int32.ofNat (a2 + 1))) 20 (244 + k) (Int32.ofNat (L + os.length))).2.1 18 i = SR1.2.1 18 i := fun i => ⟨zA_oth _ _ _ _ (by decide), zA_oth _ _ _ _ (by decide)⟩
      generalize zA (zI SR1 13 (Int32.ofNat (a2 + 1))) 20 (244 + k) (Int32.ofNat (L + os.length)) = SR2 at h2 k2 j20 j19 j17 ⊢
      have kW : zKW L k SR SR2 := zKW_t k0 (zKW_t (zKW_R m9) (zKW_t (zKW_k (zK_I SR1 13 _) (by simp)) k2 (Nat.le_refl _) (Nat.le_refl _)) (Nat.le_refl _) (Nat.le_refl _)) (Nat.le_refl _) (Nat.le_refl _)
      have kX : zKX SX SX2 := zKX_t m7 (zKX_t (zKX_k (zK_I SX1 1102 _) (by simp)) b4)
      have kM1 : zKM (m + os.length) SX1 SX2 := zKM_t (zKM_k (zK_I SX1 1102 (Int32.ofNat (a2 + 1)))) b5 (Nat.le_refl _)
      have kM : zKM m SX SX2 := zKM_t m8 kM1 (by omega)
      rw [b1, zU_some]
      rcases hE (a2 + 1) (m + os.length + 1) (L + os.length) SX2 SR2 (by omega) (by omega) (by omega) h2 with ⟨a3, os2, SX3, SR3, e4, e5, n1, n2, n3, n4, n5, n6, n7, n8, n9⟩ | ⟨q, L2, r, SX3, SR3, e4, e5, e6, hB⟩
      · have e4 : fX3_readChain zN zfuel 0 0 SX2 = some (1, SX3) := e4
        have e5 : fX12_either zN zfuel SR2 = some SR3 := e5
        obtain ⟨SX4, c1, c2, c3, c4, c5⟩ := x_code n3 (by omega) (-59)
        have s19 : SR3.2.1 19 4 = Int32.ofNat k := by rw [n9.1.2.1 19 (by simp)]; exact j19
        have s20 : SR3.2.1 20 (244 + k) = Int32.ofNat (L + os.length) := by rw [n9.1.2.1 20 (by simp)]; exact j20
        have xl : zXl os = os.length + 1 := if_neg (zDs_ne m5)
        rw [e4, e5, zB_some, zU_some, if_neg zn10, r_b67 hk (by omega) n3.2.2.2.2 s19]
        unfold fX3_readLine_b40
        rw [c1, zU_some]
        have kE := zLE_k k (L + os.length + os2.length) SR3
        refine Or.inl ⟨a3, (os, os2), SX4, _, rfl, rfl, by omega, n2, ?_, ?_, ?_, by rw [zLE_19, if_pos rfl], ⟨Or.inr ⟨m5, ?_⟩, n5, ?_, ?_, ?_, ?_, ?_, trivial⟩, zKX_t kX (zKX_t n7 c4), zKM_t kM (zKM_t n8 c5 (by omega)) (by omega), zKW_t kW (zKW_t (zKW_R n9) (zKW_E _ _ _ _) (Nat.le_refl _) (Nat.le_refl k)) (by omega) (Nat.le_refl _)⟩
        · show zPs f g t a3 0 (m + zXl os + os2.length + 1) (L + os.length + os2.length) SX4 _
          rw [xl]
          exact zPs_E c2
        · show zXl os + os2.length ≤ a3 - a
          rw [xl]
          omega
        · show os.length + os2.length ≤ a3 - a
          omega
        · rw [c5 _ (by show m + os.length < _; omega), n8 _ (by show m + os.length < _; omega)]
          exact b3
        · rw [kE.2.1 17 (by simp), kE.2.1 18 (by simp)]
          exact zAt_cg os m (520 + L) (fun i i0 i1 => by rw [c5 i (by omega), n8 i (by omega), kM1 i i1]) (fun i i0 i1 => by rw [(n9.2 i (by omega)).1, (n9.2 i (by omega)).2, (j17 i).1, (j17 i).2]; exact ⟨rfl, rfl⟩) m6
        · show zAt _ _ _ os2 (m + zXl os) (520 + (L + os.length))
          rw [xl, kE.2.1 17 (by simp), kE.2.1 18 (by simp)]
          exact zAt_cg os2 _ _ (fun i i0 i1 => c5 i i1) (fun i i0 i1 => ⟨rfl, rfl⟩) n6
        · show SX4.2.1 401 (m + zXl os + os2.length) = -59
          rw [xl]
          exact c3
        · rw [kE.2.1 20 (by simp)]
          exact s20
        · rw [zLE_21, if_pos rfl]
      · have e4 : fX3_readChain zN zfuel 0 0 SX2 = some (r, SX3) := e4
        have e5 : fX12_either zN zfuel SR2 = some SR3 := e5
        obtain ⟨hq1, hq2, hF, hB4, hB5, hB6, hB7⟩ := hB
        have s19 : SR3.2.1 19 4 = Int32.ofNat k := by rw [hB7.1.2.1 19 (by simp)]; exact j19
        rw [e4, e5, zB_some, zU_some, r_b67 hk (by omega) hF.2.2.1 s19]
        have kW3 : zKW L k SR (zLE k L2 SR3) := zKW_t kW (zKW_t (zKW_R hB7) (zKW_E _ _ _ _) (Nat.le_refl _) (Nat.le_refl k)) (by omega) (Nat.le_refl _)
        have hF3 : zFlt f g t q L2 SX3 (zLE k L2 SR3) := zFlt_E hF
        rcases e6 with rfl | ⟨rfl, d⟩
        · rw [if_pos zn00]
          exact Or.inr ⟨0, q, L2, SX3, _, rfl, rfl, Or.inl rfl, by omega, hq2, hF3, zKX_t kX hB6, kW3⟩
        · obtain ⟨SX4, c1, c2, c3⟩ := x_make_q hF3 (-59)
          unfold fX3_readLine_b40
          rw [if_neg zn10, c1, zU_some]
          exact Or.inr ⟨1, q, L2, SX4, _, rfl, rfl, Or.inr ⟨rfl, d⟩, by omega, hq2, c2, zKX_t kX (zKX_t hB6 c3), kW3⟩
    · obtain ⟨SX4, c1, c2, c3, c4, c5⟩ := x_code m3 (by omega) (-59)
      rw [if_neg c, zB_some, if_pos zn00, if_neg (fun e => c (q63.mpr e)), r_b67 hk (by omega) m3.2.2.2.2 r19]
      unfold fX3_readLine_b40
      rw [c1, zU_some]
      have kE := zLE_k k (L + os.length) SR1
      refine Or.inl ⟨a2, ([], os), SX4, _, rfl, rfl, by omega, m2, zPs_E c2, ?_, ?_, by rw [zLE_19, if_pos rfl], ⟨Or.inl rfl, m5, trivial, ?_, c3, ?_, ?_, trivial⟩, zKX_t m7 c4, zKM_t m8 c5 (by omega), zKW_t k0 (zKW_t (zKW_R m9) (zKW_E _ _ _ _) (Nat.le_refl _) (Nat.le_refl k)) (Nat.le_refl _) (Nat.le_refl _)⟩
      · show 0 + os.length ≤ a2 - a
        omega
      · show 0 + os.length ≤ a2 - a
        omega
      · show zAt _ _ _ os (m + 0) (520 + (L + 0))
        rw [kE.2.1 17 (by simp), kE.2.1 18 (by simp)]
        exact zAt_cg os _ _ (fun i i0 i1 => c5 i i1) (fun i i0 i1 => ⟨rfl, rfl⟩) m6
      · rw [kE.2.1 20 (by simp)]
        exact r20
      · rw [zLE_21, if_pos rfl]
        rfl
  · have e1 : fX3_readChain zN zfuel 0 0 SX = some (r, SX1) := e1
    have e2 : fX12_either zN zfuel SR0 = some SR1 := e2
    obtain ⟨hq1, hq2, hF, hB4, hB5, hB6, hB7⟩ := hB
    have p14 : (0 : Int32) ≤ SR1.1 14 := by rw [hF.2.1.2.2.1]; exact zo_0 (by omega)
    have s19 : SR1.2.1 19 4 = Int32.ofNat k := by rw [hB7.1.2.1 19 (by simp)]; exact g19
    rw [e1, e2, zB_some, zU_some, if_pos p14, r_b67 hk (by omega) hF.2.2.1 s19]
    have kW3 : zKW L k SR (zLE k L2 SR1) := zKW_t k0 (zKW_t (zKW_R hB7) (zKW_E _ _ _ _) (Nat.le_refl _) (Nat.le_refl k)) (by omega) (Nat.le_refl _)
    have hF3 : zFlt f g t q L2 SX1 (zLE k L2 SR1) := zFlt_E hF
    rcases e3 with rfl | ⟨rfl, d⟩
    · rw [if_pos zn00]
      exact Or.inr ⟨0, q, L2, SX1, _, rfl, rfl, Or.inl rfl, hq1, hq2, hF3, hB6, kW3⟩
    · have n63 : ¬ zSb f t q = 63 := fun e => by
        have := d.2
        rw [e] at this
        exact absurd this (by decide)
      obtain ⟨SX4, c1, c2, c3⟩ := x_make_q hF3 (-59)
      unfold fX3_readLine_b40
      rw [if_neg zn10, x_pass ht hq2 hF.1, if_neg n63, zB_some, if_pos zn00, c1, zU_some]
      exact Or.inr ⟨1, q, L2, SX4, _, rfl, rfl, Or.inr ⟨rfl, d⟩, hq1, hq2, c2, zKX_t hB6 c3, kW3⟩
