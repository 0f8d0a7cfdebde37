-- the levels
abbrev zGXt : Type := (Int32 → Int32 → zSt → Option (Int32 × zSt)) × (Int32 → Int32 → zSt → Option (Int32 × zSt)) × (Int32 → zSt → Option (Int32 × zSt)) × (Int32 → Int32 → zSt → Option (Int32 × zSt))
abbrev zGRt : Type := (zSt → Option zSt) × (zSt → Option zSt) × (zSt → Option zSt) × (zSt → Option zSt) × (zSt → Option zSt) × (zSt → Option zSt)
theorem zn14 : ¬ (0 : Int32) ≤ -1 := by decide
theorem rl_product {f g : Nat → Int32} {t : Nat} (hz : zTz f g t) (G : zGRt) : zRLoop f g t 4 (fun S => G.1 S) (fun n S => fX12_product_b4 G zN n S) := by
  have ht := hz.1
  refine ⟨fun n S h => by show fX12_product_b4 G zN (n + 1) S = _; rw [fX12_product_b4, if_pos h], fun n a S ha hS => ?_⟩
  have lk := r_look ht ha ⟨hS.1, hS.2.1, hS.2.2.2⟩
  have q42 := zSb_eq hz a (c := 42) (by decide) (by decide)
  have q47 := zSb_eq hz a (c := 47) (by decide) (by decide)
  have q37 := zSb_eq hz a (c := 37) (by decide) (by decide)
  have st : ∀ s, zSb g t a = s → fX12_product_b38 G zN (fX12_product_b4 G zN n) S = zU (G.1 (zI S 13 (Int32.ofNat (a + 1)))) fun S6 => zU (fX12_addStep s 0 S6) fun S9 => fX12_product_b4 G zN n S9 := fun s e => by
    unfold fX12_product_b38
    rw [lk, zB_some, zL_def, hS.2.1, zo_s, e]
  refine ⟨fun s es hs => ?_, fun hs => ?_⟩
  · show fX12_product_b4 G zN (n + 1) S = _; rw [fX12_product_b4, hS.2.2.1, if_neg zn14, lk, zB_some]
    rcases lv4 hs with rfl | rfl | rfl
    · rw [if_pos (q42.mp es)]; exact st _ (q42.mp es)
    · have n42 : ¬ zSb g t a = 42 := fun e => by rw [q47.mp es] at e; exact absurd e (by decide)
      rw [if_neg n42, lk, zB_some, if_pos (q47.mp es)]; exact st _ (q47.mp es)
    · have n42 : ¬ zSb g t a = 42 := fun e => by rw [q37.mp es] at e; exact absurd e (by decide)
      have n47 : ¬ zSb g t a = 47 := fun e => by rw [q37.mp es] at e; exact absurd e (by decide)
      rw [if_neg n42, lk, zB_some, if_neg n47, lk, zB_some, if_pos (q37.mp es)]; exact st _ (q37.mp es)
  · have n42 : ¬ zSb g t a = 42 := fun e => hs (by rw [q42.mpr e]; rfl)
    have n47 : ¬ zSb g t a = 47 := fun e => hs (by rw [q47.mpr e]; rfl)
    have n37 : ¬ zSb g t a = 37 := fun e => hs (by rw [q37.mpr e]; rfl)
    show fX12_product_b4 G zN (n + 1) S = _; rw [fX12_product_b4, hS.2.2.1, if_neg zn14, lk, zB_some, if_neg n42, lk, zB_some, if_neg n47, lk, zB_some, if_neg n37]
theorem rl_sum {f g : Nat → Int32} {t : Nat} (hz : zTz f g t) (G : zGRt) : zRLoop f g t 3 (fun S => G.2.1 S) (fun n S => fX12_sum_b4 G zN n S) := by
  have ht := hz.1
  refine ⟨fun n S h => by show fX12_sum_b4 G zN (n + 1) S = _; rw [fX12_sum_b4, if_pos h], fun n a S ha hS => ?_⟩
  have lk := r_look ht ha ⟨hS.1, hS.2.1, hS.2.2.2⟩
  have q43 := zSb_eq hz a (c := 43) (by decide) (by decide)
  have q45 := zSb_eq hz a (c := 45) (by decide) (by decide)
  have st : ∀ s, zSb g t a = s → fX12_sum_b29 G zN (fX12_sum_b4 G zN n) S = zU (G.2.1 (zI S 13 (Int32.ofNat (a + 1)))) fun S6 => zU (fX12_addStep s 0 S6) fun S9 => fX12_sum_b4 G zN n S9 := fun s e => by
    unfold fX12_sum_b29
    rw [lk, zB_some, zL_def, hS.2.1, zo_s, e]
  refine ⟨fun s es hs => ?_, fun hs => ?_⟩
  · show fX12_sum_b4 G zN (n + 1) S = _; rw [fX12_sum_b4, hS.2.2.1, if_neg zn14, lk, zB_some]
    rcases lv3 hs with rfl | rfl
    · rw [if_pos (q43.mp es)]; exact st _ (q43.mp es)
    · have n43 : ¬ zSb g t a = 43 := fun e => by rw [q45.mp es] at e; exact absurd e (by decide)
      rw [if_neg n43, lk, zB_some, if_pos (q45.mp es)]; exact st _ (q45.mp es)
  · have n43 : ¬ zSb g t a = 43 := fun e => hs (by rw [q43.mpr e]; rfl)
    have n45 : ¬ zSb g t a = 45 := fun e => hs (by rw [q45.mpr e]; rfl)
    show fX12_sum_b4 G zN (n + 1) S = _; rw [fX12_sum_b4, hS.2.2.1, if_neg zn14, lk, zB_some, if_neg n43, lk, zB_some, if_neg n45]
theorem rl_both {f g : Nat → Int32} {t : Nat} (hz : zTz f g t) (G : zGRt) : zRLoop f g t 1 (fun S => G.2.2.2.1 S) (fun n S => fX12_both_b4 G zN n S) := by
  have ht := hz.1
  refine ⟨fun n S h => by show fX12_both_b4 G zN (n + 1) S = _; rw [fX12_both_b4, if_pos h], fun n a S ha hS => ?_⟩
  have lk := r_look ht ha ⟨hS.1, hS.2.1, hS.2.2.2⟩
  have q := zSb_eq hz a (c := 38) (by decide) (by decide)
  refine ⟨fun s es hs => ?_, fun hs => ?_⟩
  · have hs := lv1 hs
    subst hs
    show fX12_both_b4 G zN (n + 1) S = _; rw [fX12_both_b4, hS.2.2.1, if_neg zn14, lk, zB_some, if_pos (q.mp es), zL_def, hS.2.1, zo_s]
  · have n1 : ¬ zSb g t a = 38 := fun e => hs (by rw [q.mpr e]; rfl)
    show fX12_both_b4 G zN (n + 1) S = _; rw [fX12_both_b4, hS.2.2.1, if_neg zn14, lk, zB_some, if_neg n1]
theorem rl_either {f g : Nat → Int32} {t : Nat} (hz : zTz f g t) (G : zGRt) : zRLoop f g t 0 (fun S => G.2.2.2.2.1 S) (fun n S => fX12_either_b4 G zN n S) := by
  have ht := hz.1
  refine ⟨fun n S h => by show fX12_either_b4 G zN (n + 1) S = _; rw [fX12_either_b4, if_pos h], fun n a S ha hS => ?_⟩
  have lk := r_look ht ha ⟨hS.1, hS.2.1, hS.2.2.2⟩
  have q := zSb_eq hz a (c := 124) (by decide) (by decide)
  refine ⟨fun s es hs => ?_, fun hs => ?_⟩
  · have hs := lv0 hs
    subst hs
    show fX12_either_b4 G zN (n + 1) S = _; rw [fX12_either_b4, hS.2.2.1, if_neg zn14, lk, zB_some, if_pos (q.mp es), zL_def, hS.2.1, zo_s]
  · have n1 : ¬ zSb g t a = 124 := fun e => hs (by rw [q.mpr e]; rfl)
    show fX12_either_b4 G zN (n + 1) S = _; rw [fX12_either_b4, hS.2.2.1, if_neg zn14, lk, zB_some, if_neg n1]
/-- at most one comparison -/
theorem e_compared {f g : Nat → Int32} {t : Nat} (hz : zTz f g t) (GX : zGXt) (G : zGRt) {o : Nat} {XP : zSt → Option (Int32 × zSt)} (hXP : ∀ S, GX.2.1 3 (Int32.ofNat o) S = XP S) (hP : zCL f g t o XP (fun S => G.2.2.1 S)) :
    zCL f g t o (fun S => fX3_readChain_o GX zN 2 (Int32.ofNat o) S) (fun S => fX12_compared_o G zN S) := by
  have ht := hz.1
  intro a m L SX SR ha hm hL h
  show zOut f g t o a m L SX SR (fX3_readChain_o GX zN 2 (Int32.ofNat o) SX) (fX12_compared_o G zN SR)
  unfold fX3_readChain_o fX12_compared_o
  rw [show (2 : Int32) + 1 = 3 from rfl, hXP]
  simp only [if_pos (show (2 : Int32) = 2 from rfl)]
  rcases hP a m L SX SR ha hm hL h with ⟨a2, os, SX1, SR1, e1, e2, hM⟩ | ⟨q, L2, r, SX1, SR1, e1, e2, e3, hB⟩
  · have e2 : G.2.2.1 SR = some SR1 := e2
    have hM' := hM
    obtain ⟨m1, m2, m3, m4, m5, m6, m7, m8, m9⟩ := hM'
    have lk := r_look ht m2 ⟨m3.2.1.1, m3.2.1.2.1, m3.2.1.2.2.2⟩
    have q60 := zSb_eq hz a2 (c := 60) (by decide) (by decide)
    have q61 := zSb_eq hz a2 (c := 61) (by decide) (by decide)
    have q62 := zSb_eq hz a2 (c := 62) (by decide) (by decide)
    rw [e1, e2, zB_some, zU_some, if_neg zn10, lk, zB_some, m3.2.1.2.2.1, if_neg zn14]
    by_cases w : fX3_levelOf (zSb f t a2) = some 2
    · have hs := lv_is w (by decide)
      have hat : a2 < t := zSb_lt (sgn_dig hs).1
      have es : zSb g t a2 = zSb f t a2 := by
        rcases lv2 w with e | e | e
        · rw [e]; exact q60.mp e
        · rw [e]; exact q61.mp e
        · rw [e]; exact q62.mp e
      have st : (if zSb g t a2 = 60 then fX12_compared_b35 G zN (zSb g t a2) SR1 else if zSb g t a2 = 61 then fX12_compared_b35 G zN (zSb g t a2) SR1 else if zSb g t a2 = 62 then fX12_compared_b35 G zN (zSb g t a2) SR1 else some SR1) = zU ((fun S => G.2.2.1 S) (zI SR1 13 (Int32.ofNat (a2 + 1)))) fun S6 => zU (fX12_addStep (zSb f t a2) 0 S6) fun S9 => some S9 := by
        have b : fX12_compared_b35 G zN (zSb g t a2) SR1 = zU ((fun S => G.2.2.1 S) (zI SR1 13 (Int32.ofNat (a2 + 1)))) fun S6 => zU (fX12_addStep (zSb f t a2) 0 S6) fun S9 => some S9 := by
          unfold fX12_compared_b35
          rw [zL_def, m3.2.1.2.1, zo_s, es]
        rw [b, es]
        rcases lv2 w with e | e | e
        · rw [if_pos e]
        · rw [if_pos e, if_neg (fun x => by rw [e] at x; exact absurd x (by decide))]
        · rw [if_pos e, if_neg (fun x => by rw [e] at x; exact absurd x (by decide)), if_neg (fun x => by rw [e] at x; exact absurd x (by decide))]
      have cx : fX3_readChain_b28 GX zN zN 2 (Int32.ofNat o) 1 0 SX1 = zB (XP (zI SX1 1102 (Int32.ofNat (a2 + 1)))) fun r12 S13 => if r12 = 0 then some (0, S13) else zU (fX3_make (-(zSb f t a2)) S13) fun S17 => some (1, S17) := by
        have k : ∀ S, fX3_readChain_b28 GX zN (999998 + 1) 2 (Int32.ofNat o) 1 (0 + 1) S = some (1, S) := fun S => by
          rw [fX3_readChain_b28, if_pos (show (1 : Int32) ≤ 0 + 1 by decide)]
        show fX3_readChain_b28 GX zN (999998 + 1 + 1) 2 (Int32.ofNat o) 1 0 SX1 = _
        rw [fX3_readChain_b28, if_neg (show ¬ (1 : Int32) ≤ 0 by decide), x_seen ht m2 m3.1, zB_some, w, zU_some, if_pos rfl, x_pass ht m2 m3.1, if_pos rfl, zB_some, show (2 : Int32) + 1 = 3 from rfl, hXP]
        simp only [k]
      rw [st, cx]
      rcases e_join hz hm hL hM hat hs hP (fun S => some (1, S)) (fun S => some S) with ⟨a3, os2, SX3, SR3, j1, j2, j3, j4⟩ | ⟨q, L2, SX3, SR3, j1, j2, j3⟩
      · rw [j1, j2]
        exact zOut_m j4
      · rw [j1]
        rcases j2 with j2 | ⟨j2, d⟩
        · rw [j2]
          exact zOut_b j3 (Or.inl rfl)
        · rw [j2]
          exact zOut_b j3 (Or.inr ⟨rfl, d⟩)
    · have n60 : ¬ zSb g t a2 = 60 := fun e => w (by rw [q60.mpr e]; rfl)
      have n61 : ¬ zSb g t a2 = 61 := fun e => w (by rw [q61.mpr e]; rfl)
      have n62 : ¬ zSb g t a2 = 62 := fun e => w (by rw [q62.mpr e]; rfl)
      have ex : fX3_readChain_b28 GX zN zN 2 (Int32.ofNat o) 1 0 SX1 = some (1, SX1) := x_chain_no ht m2 m3.1 w GX 999999 _ _ _
      rw [if_neg n60, if_neg n61, if_neg n62, ex]
      exact zOut_m hM
  · have e2 : G.2.2.1 SR = some SR1 := e2
    have lk := r_look ht hB.2.1 ⟨hB.2.2.1.2.1.1, hB.2.2.1.2.1.2.1, hB.2.2.1.2.1.2.2.2⟩
    have p14 : (0 : Int32) ≤ SR1.1 14 := by rw [hB.2.2.1.2.1.2.2.1]; have := hB.2.1; exact zo_0 (by omega)
    rw [e1, e2, zB_some, zU_some, lk, zB_some, if_pos p14]
    rcases e3 with rfl | ⟨rfl, d⟩
    · rw [if_pos zn00]
      exact zOut_b hB (Or.inl rfl)
    · have ex : fX3_readChain_b28 GX zN zN 2 (Int32.ofNat o) 1 0 SX1 = some (1, SX1) := x_chain_no ht hB.2.1 hB.2.2.1.1 (lv_dig d (by decide)) GX 999999 _ _ _
      rw [if_neg zn10, ex]
      exact zOut_b hB (Or.inr ⟨rfl, d⟩)
/-- a wrap that hands a bit on -/
theorem zCL_bit {f g : Nat → Int32} {t o : Nat} {X X2 : zSt → Option (Int32 × zSt)} {R : zSt → Option zSt} (h : zCL f g t o X R) (e : ∀ S, X2 S = zB (X S) fun r S3 => if zbit r then some (r, S3) else none) : zCL f g t o X2 R := by
  intro a m L SX SR ha hm hL hP
  rcases h a m L SX SR ha hm hL hP with ⟨a2, os, SX1, SR1, e1, e2, hM⟩ | ⟨q, L2, r, SX1, SR1, e1, e2, e3, hB⟩
  · refine Or.inl ⟨a2, os, SX1, SR1, ?_, e2, hM⟩
    rw [e, e1, zB_some, if_pos (Or.inr rfl)]
  · refine Or.inr ⟨q, L2, r, SX1, SR1, ?_, e2, e3, hB⟩
    rw [e, e1, zB_some, if_pos]
    rcases e3 with e3 | ⟨e3, -⟩
    · exact Or.inl e3
    · exact Or.inr e3
