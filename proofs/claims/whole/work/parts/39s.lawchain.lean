-- a chain: parts of the next level, and the signs between them
theorem lv_sgn (b : Int32) : (∃ l, fX3_levelOf b = some l) ∧ (zSgn b ∨ fX3_levelOf b = some (-1)) := by
  unfold fX3_levelOf zSgn
  by_cases c1 : b = 37
  · rw [if_pos c1]; exact ⟨⟨_, rfl⟩, Or.inl (by simp [c1])⟩
  rw [if_neg c1]
  by_cases c2 : b = 38
  · rw [if_pos c2]; exact ⟨⟨_, rfl⟩, Or.inl (by simp [c2])⟩
  rw [if_neg c2]
  by_cases c3 : b = 42
  · rw [if_pos c3]; exact ⟨⟨_, rfl⟩, Or.inl (by simp [c3])⟩
  rw [if_neg c3]
  by_cases c4 : b = 43
  · rw [if_pos c4]; exact ⟨⟨_, rfl⟩, Or.inl (by simp [c4])⟩
  rw [if_neg c4]
  by_cases c5 : b = 45
  · rw [if_pos c5]; exact ⟨⟨_, rfl⟩, Or.inl (by simp [c5])⟩
  rw [if_neg c5]
  by_cases c6 : b = 47
  · rw [if_pos c6]; exact ⟨⟨_, rfl⟩, Or.inl (by simp [c6])⟩
  rw [if_neg c6]
  by_cases c7 : b = 60
  · rw [if_pos c7]; exact ⟨⟨_, rfl⟩, Or.inl (by simp [c7])⟩
  rw [if_neg c7]
  by_cases c8 : b = 61
  · rw [if_pos c8]; exact ⟨⟨_, rfl⟩, Or.inl (by simp [c8])⟩
  rw [if_neg c8]
  by_cases c9 : b = 62
  · rw [if_pos c9]; exact ⟨⟨_, rfl⟩, Or.inl (by simp [c9])⟩
  rw [if_neg c9]
  by_cases c10 : b = 124
  · rw [if_pos c10]; exact ⟨⟨_, rfl⟩, Or.inl (by simp [c10])⟩
  rw [if_neg c10]
  exact ⟨⟨_, rfl⟩, Or.inr rfl⟩
theorem lv_is {b l : Int32} (h : fX3_levelOf b = some l) (hl : ¬ l = -1) : zSgn b := by
  rcases (lv_sgn b).2 with e | e
  · exact e
  · rw [e] at h
    exact absurd (Option.some.inj h).symm hl
theorem sgn_dig {b : Int32} (h : zSgn b) : 0 ≤ b ∧ b ≤ 127 ∧ ¬ (48 ≤ b ∧ b ≤ 57) := by
  rcases h with rfl | rfl | rfl | rfl | rfl | rfl | rfl | rfl | rfl | rfl <;> decide
theorem lv_dig {b l : Int32} (h : 48 ≤ b ∧ b ≤ 57) (hl : ¬ l = -1) : ¬ fX3_levelOf b = some l := fun e => (sgn_dig (lv_is e hl)).2.2 h
theorem lv4 {b : Int32} (h : fX3_levelOf b = some 4) : b = 42 ∨ b = 47 ∨ b = 37 := by
  rcases lv_is h (by decide) with rfl | rfl | rfl | rfl | rfl | rfl | rfl | rfl | rfl | rfl <;> first | exact Or.inl rfl | exact Or.inr (Or.inl rfl) | exact Or.inr (Or.inr rfl) | exact absurd h (by decide)
theorem lv3 {b : Int32} (h : fX3_levelOf b = some 3) : b = 43 ∨ b = 45 := by
  rcases lv_is h (by decide) with rfl | rfl | rfl | rfl | rfl | rfl | rfl | rfl | rfl | rfl <;> first | exact Or.inl rfl | exact Or.inr rfl | exact absurd h (by decide)
theorem lv2 {b : Int32} (h : fX3_levelOf b = some 2) : b = 60 ∨ b = 61 ∨ b = 62 := by
  rcases lv_is h (by decide) with rfl | rfl | rfl | rfl | rfl | rfl | rfl | rfl | rfl | rfl <;> first | exact Or.inl rfl | exact Or.inr (Or.inl rfl) | exact Or.inr (Or.inr rfl) | exact absurd h (by decide)
theorem lv1 {b : Int32} (h : fX3_levelOf b = some 1) : b = 38 := by
  rcases lv_is h (by decide) with rfl | rfl | rfl | rfl | rfl | rfl | rfl | rfl | rfl | rfl <;> first | rfl | exact absurd h (by decide)
theorem lv0 {b : Int32} (h : fX3_levelOf b = some 0) : b = 124 := by
  rcases lv_is h (by decide) with rfl | rfl | rfl | rfl | rfl | rfl | rfl | rfl | rfl | rfl <;> first | rfl | exact absurd h (by decide)
/-- a stretch was read on both sides, from a up to a2 -/
def zMid (f g : Nat → Int32) (t o a m L : Nat) (SX SR : zSt) (a2 : Nat) (os : List zOp) (SX1 SR1 : zSt) : Prop :=
  a < a2 ∧ a2 ≤ t ∧ zPs f g t a2 o (m + os.length) (L + os.length) SX1 SR1 ∧ os.length ≤ a2 - a ∧ zDs os 0 1 ∧ zAt (SX1.2.1 401) (SR1.2.1 17) (SR1.2.1 18) os m (520 + L) ∧ zKX SX SX1 ∧ zKM m SX SX1 ∧ zKR L SR SR1
/-- a fault lies at q -/
def zBad (f g : Nat → Int32) (t a L : Nat) (SX SR : zSt) (q L2 : Nat) (SX1 SR1 : zSt) : Prop :=
  a ≤ q ∧ q ≤ t ∧ zFlt f g t q L2 SX1 SR1 ∧ L ≤ L2 ∧ L2 ≤ L + (q - a) + 1 ∧ zKX SX SX1 ∧ zKR L SR SR1
theorem zOut_m {f g : Nat → Int32} {t o a m L : Nat} {SX SR : zSt} {a2 : Nat} {os : List zOp} {SX1 SR1 : zSt} (h : zMid f g t o a m L SX SR a2 os SX1 SR1) : zOut f g t o a m L SX SR (some (1, SX1)) (some SR1) := Or.inl ⟨a2, os, SX1, SR1, rfl, rfl, h⟩
theorem zOut_b {f g : Nat → Int32} {t o a m L : Nat} {SX SR : zSt} {q L2 : Nat} {r : Int32} {SX1 SR1 : zSt} (h : zBad f g t a L SX SR q L2 SX1 SR1) (hr : r = 0 ∨ (r = 1 ∧ zDg2 f t q)) : zOut f g t o a m L SX SR (some (r, SX1)) (some SR1) := Or.inr ⟨q, L2, r, SX1, SR1, rfl, rfl, hr, h⟩
/-- a sign, and one part more -/
theorem e_join {f g : Nat → Int32} {t : Nat} (hz : zTz f g t) {o a m L a2 : Nat} (hm : m ≤ a) (hL : L ≤ a) {os : List zOp} {SX SR SX1 SR1 : zSt} (hM : zMid f g t o a m L SX SR a2 os SX1 SR1) (hat : a2 < t) {s : Int32} (hs : zSgn s)
    {XP : zSt → Option (Int32 × zSt)} {RP : zSt → Option zSt} (hP : zCL f g t o XP RP) (KX : zSt → Option (Int32 × zSt)) (KR : zSt → Option zSt) :
    (∃ (a3 : Nat) (os2 : List zOp) (SX3 SR3 : zSt), (zB (XP (zI SX1 1102 (Int32.ofNat (a2 + 1)))) fun r12 S13 => if r12 = 0 then some (0, S13) else zU (fX3_make (-s) S13) fun S17 => KX S17) = KX SX3 ∧ (zU (RP (zI SR1 13 (Int32.ofNat (a2 + 1)))) fun S6 => zU (fX12_addStep s 0 S6) fun S9 => KR S9) = KR SR3 ∧ a2 + 2 ≤ a3 ∧ zMid f g t o a m L SX SR a3 os2 SX3 SR3) ∨
    (∃ (q L2 : Nat) (SX3 SR3 : zSt), (zU (RP (zI SR1 13 (Int32.ofNat (a2 + 1)))) fun S6 => zU (fX12_addStep s 0 S6) fun S9 => KR S9) = KR SR3 ∧ ((zB (XP (zI SX1 1102 (Int32.ofNat (a2 + 1)))) fun r12 S13 => if r12 = 0 then some (0, S13) else zU (fX3_make (-s) S13) fun S17 => KX S17) = some (0, SX3) ∨
      ((zB (XP (zI SX1 1102 (Int32.ofNat (a2 + 1)))) fun r12 S13 => if r12 = 0 then some (0, S13) else zU (fX3_make (-s) S13) fun S17 => KX S17) = KX SX3 ∧ zDg2 f t q)) ∧ zBad f g t a L SX SR q L2 SX3 SR3) := by
  have ht := hz.1
  obtain ⟨m1, m2, m3, m4, m5, m6, m7, m8, m9⟩ := hM
  have hc : zXc (s, 0) = -s := (zXc_sgn hs).1
  have kX : zKX SX (zI SX1 1102 (Int32.ofNat (a2 + 1))) := zKX_t m7 (zKX_k (zK_I SX1 1102 _) (by simp))
  have kR : zKR L SR (zI SR1 13 (Int32.ofNat (a2 + 1))) := zKR_t m9 (zKR_k (zK_I SR1 13 _) (by simp)) (Nat.le_refl _)
  rcases hP (a2 + 1) (m + os.length) (L + os.length) _ _ (by omega) (by omega) (by omega) (zPs_up m3 (a2 + 1)) with ⟨a3, os', SX2, SR2, e1, e2, e3, e4, e5, e6, e7, e8, e9, e10, e11⟩ | ⟨q, L2, r, SX2, SR2, e1, e2, e3, e4, e5, e6, e6b, e7, e8, e9⟩
  · obtain ⟨SX3, SR3, b1, b2, b3, b4, b5, b6, b7⟩ := e_one e5 (by omega) (by omega) (nar_sgn hs) 0
    rw [hc] at b1
    have el : (os ++ (os' ++ [(s, (0 : Int32))])).length = os.length + os'.length + 1 := by simp; omega
    have kM1 : zKM (m + os.length) SX1 SX3 := zKM_t (zKM_k (zK_I SX1 1102 (Int32.ofNat (a2 + 1)))) (zKM_t e10 b6 (by omega)) (Nat.le_refl _)
    have kR1 : zKR (L + os.length) SR1 SR3 := zKR_t (zKR_k (L := L + os.length) (zK_I SR1 13 (Int32.ofNat (a2 + 1))) (by simp)) (zKR_t e11 b7 (by omega)) (Nat.le_refl _)
    refine Or.inl ⟨a3, os ++ (os' ++ [(s, 0)]), SX3, SR3, ?_, ?_, by omega, by omega, e4, ?_, by rw [el]; omega, zDs_two m5 e7 hs, ?_, zKX_t kX (zKX_t e9 b5), zKM_t m8 kM1 (by omega), zKR_t m9 kR1 (by omega)⟩
    · rw [e1, zB_some, if_neg zn10, b1, zU_some]
    · rw [e2, zU_some, b2, zU_some]
    · rw [el, show m + (os.length + os'.length + 1) = m + os.length + os'.length + 1 by omega, show L + (os.length + os'.length + 1) = L + os.length + os'.length + 1 by omega]
      exact b3
    · refine zAt_app os _ _ _ (zAt_cg os m (520 + L) (fun i i0 i1 => kM1 i i1) (fun i i0 i1 => kR1.2 i (by omega)) m6) ?_
      rw [Nat.add_assoc 520]
      refine zAt_app os' _ _ _ (zAt_cg os' _ _ (fun i i0 i1 => b6 i i1) (fun i i0 i1 => b7.2 i (by omega)) e8) ?_
      rw [Nat.add_assoc 520]
      exact b4
  · obtain ⟨SR3, c1, c2, c3⟩ := r_step_f e6 (by omega) (nar_sgn hs) 0
    have kR3 : zKR L SR SR3 := zKR_t kR (zKR_t e9 (zKR_le c3 (by omega : L + os.length ≤ L2)) (Nat.le_refl _)) (by omega)
    have kX3 : zKX SX SX2 := zKX_t kX e8
    have er : (zU (RP (zI SR1 13 (Int32.ofNat (a2 + 1)))) fun S6 => zU (fX12_addStep s 0 S6) fun S9 => KR S9) = KR SR3 := by rw [e2, zU_some, c1, zU_some]
    rcases e3 with rfl | ⟨rfl, d⟩
    · exact Or.inr ⟨q, L2 + 1, SX2, SR3, er, Or.inl (by rw [e1, zB_some, if_pos zn00]), by omega, e5, c2, by omega, by omega, kX3, kR3⟩
    · obtain ⟨SX3, d1, d2, d3⟩ := x_make_q c2 (zXc (s, 0))
      rw [hc] at d1
      exact Or.inr ⟨q, L2 + 1, SX3, SR3, er, Or.inr ⟨by rw [e1, zB_some, if_neg zn10, d1, zU_some], d⟩, by omega, e5, d2, by omega, by omega, zKX_t kX3 d3, kR3⟩
/-- the reference's loop over one level's signs -/
def zRLoop (f g : Nat → Int32) (t : Nat) (l : Int32) (R : zSt → Option zSt) (RL : Nat → zSt → Option zSt) : Prop :=
  (∀ n S, 0 ≤ S.1 14 → RL (n + 1) S = some S) ∧ ∀ n a S, a ≤ t → zTRs g t a S →
    (∀ s, zSb f t a = s → fX3_levelOf s = some l → RL (n + 1) S = zU (R (zI S 13 (Int32.ofNat (a + 1)))) fun S6 => zU (fX12_addStep s 0 S6) fun S9 => RL n S9) ∧
    (¬ fX3_levelOf (zSb f t a) = some l → RL (n + 1) S = some S)
/-- the class's loop, where its sign does not stand -/
theorem x_chain_no {f : Nat → Int32} {t q : Nat} (ht : t ≤ 120) (hq : q ≤ t) {S : zSt} (h : zTXs f t q S) {l : Int32} (hn : ¬ fX3_levelOf (zSb f t q) = some l) (GX : (Int32 → Int32 → zSt → Option (Int32 × zSt)) × (Int32 → Int32 → zSt → Option (Int32 × zSt)) × (Int32 → zSt → Option (Int32 × zSt)) × (Int32 → Int32 → zSt → Option (Int32 × zSt))) (n : Nat) (p most v : Int32) :
    fX3_readChain_b28 GX zN (n + 1) l p most v S = some (1, S) := by
  obtain ⟨k, hk⟩ := (lv_sgn (zSb f t q)).1
  have nk : ¬ k = l := fun e => hn (by rw [hk, e])
  rw [fX3_readChain_b28, x_seen ht hq h, zB_some, hk, zU_some, if_neg nk]
  by_cases c : most ≤ v
  · rw [if_pos c]
  · rw [if_neg c]
theorem e_loop {f g : Nat → Int32} {t : Nat} (hz : zTz f g t) (GX : (Int32 → Int32 → zSt → Option (Int32 × zSt)) × (Int32 → Int32 → zSt → Option (Int32 × zSt)) × (Int32 → zSt → Option (Int32 × zSt)) × (Int32 → Int32 → zSt → Option (Int32 × zSt))) {l p : Int32} {o : Nat}
    {XP : zSt → Option (Int32 × zSt)} {RP : zSt → Option zSt} {RL : Nat → zSt → Option zSt} (hXP : ∀ S, GX.2.1 (l + 1) p S = XP S) (hP : zCL f g t o XP RP) (hRL : zRLoop f g t l RP RL) (hl : ¬ l = -1) {a m L : Nat} {SX SR : zSt} (hm : m ≤ a) (hL : L ≤ a) :
    ∀ (c n n2 v a2 : Nat) (os : List zOp) (SX1 SR1 : zSt), a2 + c = t → c < n → c + 1 < n2 → v + 1 ≤ a2 → zMid f g t o a m L SX SR a2 os SX1 SR1 →
      zOut f g t o a m L SX SR (fX3_readChain_b28 GX zN n l p 120 (Int32.ofNat v) SX1) (RL n2 SR1) := by
  have ht := hz.1
  intro c
  induction c using Nat.strongRecOn with
  | ind c ih =>
    intro n n2 v a2 os SX1 SR1 h1 h2 h3 h4 hM
    obtain _ | n := n
    · exact absurd h2 (by omega)
    obtain _ | n2 := n2
    · exact absurd h3 (by omega)
    have hM' := hM
    obtain ⟨m1, m2, m3, m4, m5, m6, m7, m8, m9⟩ := hM'
    have hR := hRL.2 n2 a2 SR1 m2 m3.2.1
    by_cases w : fX3_levelOf (zSb f t a2) = some l
    · have hs := lv_is w hl
      have hat : a2 < t := zSb_lt (sgn_dig hs).1
      have e120 : (120 ≤ Int32.ofNat v) = (120 ≤ v) := zo_le (a := 120) (by omega) (by omega)
      rw [hR.1 _ rfl w, fX3_readChain_b28, zi_of e120, if_neg (by omega), x_seen ht m2 m3.1, zB_some, w, zU_some, if_pos rfl, x_pass ht m2 m3.1, if_pos rfl, zB_some, hXP, zo_s]
      rcases e_join hz hm hL hM hat hs hP (fun S => fX3_readChain_b28 GX zN n l p 120 (Int32.ofNat (v + 1)) S) (fun S => RL n2 S) with ⟨a3, os2, SX3, SR3, j1, j2, j3, j4⟩ | ⟨q, L2, SX3, SR3, j1, j2, j3⟩
      · rw [j1, j2]
        have a3t := j4.2.1
        exact ih (t - a3) (by omega) n n2 (v + 1) a3 os2 SX3 SR3 (by omega) (by omega) (by omega) (by omega) j4
      · obtain _ | n2 := n2
        · exact absurd h3 (by omega)
        have e14 : RL (n2 + 1) SR3 = some SR3 := hRL.1 n2 SR3 (by rw [j3.2.2.1.2.1.2.2.1]; have := j3.2.1; exact zo_0 (by omega))
        rw [j1, e14]
        rcases j2 with j2 | ⟨j2, d⟩
        · rw [j2]
          exact zOut_b j3 (Or.inl rfl)
        · obtain _ | n := n
          · exact absurd h2 (by omega)
          rw [j2, x_chain_no ht j3.2.1 j3.2.2.1.1 (lv_dig d hl)]
          exact zOut_b j3 (Or.inr ⟨rfl, d⟩)
    · rw [hR.2 w, x_chain_no ht m2 m3.1 w]
      exact zOut_m hM
theorem e_chain {f g : Nat → Int32} {t : Nat} (hz : zTz f g t) (GX : (Int32 → Int32 → zSt → Option (Int32 × zSt)) × (Int32 → Int32 → zSt → Option (Int32 × zSt)) × (Int32 → zSt → Option (Int32 × zSt)) × (Int32 → Int32 → zSt → Option (Int32 × zSt))) {l : Int32} {o : Nat}
    {XP : zSt → Option (Int32 × zSt)} {RP : zSt → Option zSt} {RL : Nat → zSt → Option zSt} (hXP : ∀ S, GX.2.1 (l + 1) (Int32.ofNat o) S = XP S) (hP : zCL f g t o XP RP) (hRL : zRLoop f g t l RP RL) (hl : ¬ l = -1) (h2 : ¬ l = 2) :
    zCL f g t o (fun S => fX3_readChain_o GX zN l (Int32.ofNat o) S) (fun S => zU (RP S) fun S14 => RL zN S14) := by
  have ht := hz.1
  intro a m L SX SR ha hm hL h
  show zOut f g t o a m L SX SR (fX3_readChain_o GX zN l (Int32.ofNat o) SX) (zU (RP SR) fun S14 => RL zN S14)
  unfold fX3_readChain_o
  rw [hXP]
  simp only [if_neg h2]
  rcases hP a m L SX SR ha hm hL h with ⟨a2, os, SX1, SR1, e1, e2, hM⟩ | ⟨q, L2, r, SX1, SR1, e1, e2, e3, hB⟩
  · rw [e1, e2, zB_some, zU_some, if_neg zn10]
    have a2t := hM.2.1
    have a2a := hM.1
    exact e_loop hz GX hXP hP hRL hl hm hL (t - a2) zN zN 0 a2 os SX1 SR1 (by omega) (by unfold zN; omega) (by unfold zN; omega) (by omega) hM
  · have e14 : RL zN SR1 = some SR1 := hRL.1 999999 SR1 (by rw [hB.2.2.1.2.1.2.2.1]; have := hB.2.1; exact zo_0 (by omega))
    rw [e1, e2, zB_some, zU_some, e14]
    rcases e3 with rfl | ⟨rfl, d⟩
    · rw [if_pos zn00]
      exact zOut_b hB (Or.inl rfl)
    · have ex : fX3_readChain_b28 GX zN zN l (Int32.ofNat o) 120 0 SX1 = some (1, SX1) := x_chain_no ht hB.2.1 hB.2.2.1.1 (lv_dig d hl) GX 999999 _ _ _
      rw [if_neg zn10, ex]
      exact zOut_b hB (Or.inr ⟨rfl, d⟩)
