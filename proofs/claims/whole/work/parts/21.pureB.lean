-- shelves
theorem zupdL_at {f : Nat → Int64} {i j : Int32} {v : Int64} (hi : 0 ≤ i) (hj : 0 ≤ j) : vp_updL f (Int32.toNatClampNeg i) v (Int32.toNatClampNeg j) = if j = i then v else f (Int32.toNatClampNeg j) := by
  unfold vp_updL
  by_cases h : j = i
  · subst h; simp
  · rw [if_neg h, if_neg (fun e => h ((ztn_inj hj hi).mp e))]
theorem zrow_at {α : Type} {f : Nat → α} {b : Nat} {s t : Int32} {v : α} (hs : 0 ≤ s) (ht : 0 ≤ t) : vf_upd f (b + Int32.toNatClampNeg s) v (b + Int32.toNatClampNeg t) = if t = s then v else f (b + Int32.toNatClampNeg t) := by
  unfold vf_upd
  by_cases h : t = s
  · subst h; simp
  · rw [if_neg h, if_neg (fun e => h ((ztn_inj ht hs).mp (by omega)))]
theorem e_isSort (p : Int32) (S : zSt) : fX9_isSort p S = some (if 0 ≤ p ∧ p ≤ 4 then 1 else 0, S) := by
  unfold fX9_isSort
  simp only [e_isWithin, zU_some, zbit10, if_true]
theorem e_stretch (s i n : Int32) (S : zSt) (h : 0 ≤ s ∧ s < 6) : fX9_hasStretch s i n S = some (if (0 ≤ S.2.1 1000 (Int32.toNatClampNeg s) ∧ S.2.1 1000 (Int32.toNatClampNeg s) ≤ 4) ∧ 0 ≤ n ∧ 0 ≤ i ∧ i ≤ S.2.1 1001 (Int32.toNatClampNeg s) ∧ n ≤ S.2.1 1001 (Int32.toNatClampNeg s) - i then 1 else 0, S) := by
  have hz : zin s 6 := zin_of (k := 6) rfl (by decide) h.1 h.2
  unfold fX9_hasStretch
  simp only [e_has9, h, and_self, if_true, zU_some, one_ne, if_false, if_pos hz, e_isSort, zB_some, z10]
  generalize S.2.1 1000 (Int32.toNatClampNeg s) = so
  generalize S.2.1 1001 (Int32.toNatClampNeg s) = le
  grind
theorem e_refusal (s i : Int32) (S : zSt) : fX9_refusalOf s i S = some (if 0 ≤ s ∧ s < 6 then (if S.2.1 1000 (Int32.toNatClampNeg s) = -2 then -11 else if S.2.1 1000 (Int32.toNatClampNeg s) = -1 then -12 else if (0 ≤ S.2.1 1000 (Int32.toNatClampNeg s) ∧ S.2.1 1000 (Int32.toNatClampNeg s) ≤ 4) ∧ (0 : Int32) ≤ 1 ∧ 0 ≤ i ∧ i ≤ S.2.1 1001 (Int32.toNatClampNeg s) ∧ 1 ≤ S.2.1 1001 (Int32.toNatClampNeg s) - i then 0 else -13) else -1, S) := by
  unfold fX9_refusalOf
  by_cases h : 0 ≤ s ∧ s < 6
  · have hz : zin s 6 := zin_of (k := 6) rfl (by decide) h.1 h.2
    simp only [e_has9, h, and_self, if_true, zU_some, one_ne, if_false, if_pos hz, e_stretch s i 1 S h, zB_some, z10]
    generalize S.2.1 1000 (Int32.toNatClampNeg s) = so
    generalize S.2.1 1001 (Int32.toNatClampNeg s) = le
    repeat' split
    all_goals first | rfl | (exfalso; grind)
  · simp only [e_has9, h, if_false, zU_some, if_true]
theorem e_why (s i : Int32) (S : zSt) : fX12_whyNoPlace s i S = some (if 0 ≤ s ∧ s < 6 then (if S.2.1 44 (Int32.toNatClampNeg s) = -1 then -11 else if S.2.1 44 (Int32.toNatClampNeg s) < 0 then (if 0 ≤ i ∧ i ≤ S.2.1 45 (Int32.toNatClampNeg s) - 1 then 0 else -13) else -12) else -1, S) := by
  unfold fX12_whyNoPlace
  by_cases h : 0 ≤ s ∧ s < 6
  · have hz : zin s 6 := zin_of (k := 6) rfl (by decide) h.1 h.2
    simp only [e_isShelf, h, and_self, if_true, zU_some, one_ne, if_false, if_pos hz, e_in, z10]
    repeat' split
    all_goals first | rfl | (exfalso; grind)
  · simp only [e_isShelf, h, if_false, zU_some, if_true]
theorem zsA1 {i c : Int32} (h0 : 0 ≤ c) (h1 : c ≤ 60) (a : 0 ≤ i) (b : i ≤ c) (d : 1 ≤ c - i) : i ≤ c - 1 := by grind
theorem zsA2 {i c : Int32} (h0 : 0 ≤ c) (h1 : c ≤ 60) (a : 0 ≤ i) (b : i ≤ c - 1) : i ≤ c ∧ 1 ≤ c - i := by
  constructor
  · grind
  · grind
theorem zsB {i d : Int32} (h0 : 0 ≤ d) (h : d ≤ 60) (a : 0 ≤ i) (b : i ≤ d - 1) : i < 60 := by grind
theorem zsC {b : Int32} (h0 : 0 ≤ b) : ¬ b = -1 ∧ ¬ b < 0 := by
  constructor <;> grind
theorem zsD {a b : Int32} (h0 : 0 ≤ a) (h1 : a ≤ 4) (e : b = -2 - a) : ¬ a = -2 ∧ ¬ a = -1 ∧ ¬ b = -1 ∧ b < 0 := by
  refine ⟨?_, ?_, ?_, ?_⟩
  · grind
  · grind
  · grind
  · grind
theorem zsE {s i : Int32} (h0 : 0 ≤ s) (h1 : s < 6) (a : 0 ≤ i) (b : i < 60) : 0 ≤ 60 * s + i ∧ 60 * s + i < 360 := by
  constructor <;> grind
theorem zsF {s i j : Int32} (h0 : 0 ≤ s) (h1 : s < 6) (a : 0 ≤ i) (b : i < 60) (a2 : 0 ≤ j) (b2 : j < 60) (c : ¬ j = i) : ¬ 60 * s + j = 60 * s + i := by grind
theorem zsG {s t i j : Int32} (h0 : 0 ≤ s) (h1 : s < 6) (h2 : 0 ≤ t) (h3 : t < 6) (a : 0 ≤ i) (b : i < 60) (a2 : 0 ≤ j) (b2 : j < 60) (c : ¬ t = s) : ¬ 60 * t + j = 60 * s + i := by grind
theorem zsH {a : Int32} : -2 - (-2 - a) = a := by grind
theorem zs1 : (0 : Int32) ≤ 1 := by decide
/-- how a shelf is refused, on both sides -/
theorem zshelf {nb : Int32} {so le bo ho si : Nat → Int32} {ro : Nat → Nat → Int64} {el : Nat → Int64} (h : rShelf nb so le bo ho si ro el) (hnb : nb ≤ 50) {s : Int32} (h0 : 0 ≤ s ∧ s < 6) (i : Int32) :
    (so (Int32.toNatClampNeg s) = -2 ∧ ho (Int32.toNatClampNeg s) = -1) ∨ (so (Int32.toNatClampNeg s) = -1 ∧ ¬ ho (Int32.toNatClampNeg s) = -1 ∧ ¬ ho (Int32.toNatClampNeg s) < 0 ∧ bo (Int32.toNatClampNeg s) = ho (Int32.toNatClampNeg s) ∧ ho (Int32.toNatClampNeg s) < nb) ∨
    ((0 ≤ so (Int32.toNatClampNeg s) ∧ so (Int32.toNatClampNeg s) ≤ 4) ∧ ¬ so (Int32.toNatClampNeg s) = -2 ∧ ¬ so (Int32.toNatClampNeg s) = -1 ∧ ho (Int32.toNatClampNeg s) = -2 - so (Int32.toNatClampNeg s) ∧ ¬ ho (Int32.toNatClampNeg s) = -1 ∧ ho (Int32.toNatClampNeg s) < 0 ∧ le (Int32.toNatClampNeg s) = si (Int32.toNatClampNeg s) ∧ 0 ≤ si (Int32.toNatClampNeg s) ∧ si (Int32.toNatClampNeg s) ≤ 60 ∧
      (((0 : Int32) ≤ 1 ∧ 0 ≤ i ∧ i ≤ le (Int32.toNatClampNeg s) ∧ 1 ≤ le (Int32.toNatClampNeg s) - i) ↔ (0 ≤ i ∧ i ≤ si (Int32.toNatClampNeg s) - 1)) ∧ (0 ≤ i ∧ i ≤ si (Int32.toNatClampNeg s) - 1 → i < 60) ∧
      ∀ i : Int32, 0 ≤ i → i < 60 → ro (10030 + Int32.toNatClampNeg s) (Int32.toNatClampNeg i) = el (Int32.toNatClampNeg (60 * s + i))) := by
  rcases h s h0.1 h0.2 with h1 | h1 | h1
  · exact Or.inl h1
  · exact Or.inr (Or.inl ⟨h1.1, (zsC h1.2.2.1).1, (zsC h1.2.2.1).2, h1.2.1, h1.2.2.2⟩)
  · obtain ⟨a1, a2, a3, a4, a5, a6, a7⟩ := h1
    obtain ⟨d1, d2, d3, d4⟩ := zsD a1 a2 a3
    refine Or.inr (Or.inr ⟨⟨a1, a2⟩, d1, d2, a3, d3, d4, a4, a5, a6, ⟨fun z => ?_, fun z => ?_⟩, fun z => zsB a5 a6 z.1 z.2, a7⟩)
    · rw [a4] at z
      exact ⟨z.2.1, zsA1 a5 a6 z.2.1 z.2.2.1 z.2.2.2⟩
    · rw [a4]
      exact ⟨zs1, z.1, (zsA2 a5 a6 z.1 z.2).1, (zsA2 a5 a6 z.1 z.2).2⟩
theorem q_element {SX SR : zSt} (hRel : zRel SX SR) (p1 p2 : Int32) : ∃ (r : Int64) (SX1 SR1 : zSt), fX11_element p1 p2 SX = some (r, SX1) ∧ fX12_element p1 p2 SR = some (r, SR1) ∧ zRel SX1 SR1 := by
  obtain ⟨hT, hP, hPe, hS, hL, hN, hB, hTr, hSh, hC, hG⟩ := id hRel
  have hnb : SR.1 40 ≤ 50 := by rw [← hB.1]; exact hB.2.2.1
  unfold fX11_element fX12_element fX9_elementAt
  simp only [e_refusal, e_why, zB_some]
  by_cases h : 0 ≤ p1 ∧ p1 < 6
  · have hz : zin p1 6 := zin_of (k := 6) rfl (by decide) h.1 h.2
    rcases zshelf hSh hnb h p2 with a | a | a
    · simp only [h, and_self, if_true, a.1, a.2]
      exact ⟨_, SX, SR, rfl, rfl, hRel⟩
    · simp only [h, and_self, if_true, a.1, a.2.1, a.2.2.1, if_false]
      exact ⟨_, SX, SR, rfl, rfl, hRel⟩
    · obtain ⟨a1, a2, a3, a4, a5, a6, a7, a8, a9, a10, a11, a12⟩ := a
      simp only [h, and_self, if_true, a1, a2, a3, a5, a6, if_false, true_and, e_stretch p1 p2 1 SX h, zB_some]
      by_cases g : 0 ≤ p2 ∧ p2 ≤ SR.2.1 45 (Int32.toNatClampNeg p1) - 1
      · have g2 := a10.mpr g
        have g60 := a11 g
        have z1 : zin p2 60 := zin_of (k := 60) rfl (by decide) g.1 g60
        have n0 := zsE h.1 h.2 g.1 g60
        have z2 : zin (60 * p1 + p2) 360 := zin_of (k := 360) rfl (by decide) n0.1 n0.2
        simp only [g, g2, and_self, if_true, zB_some, one_ne, if_false, if_pos hz, if_pos z1, if_pos z2]
        exact ⟨_, SX, SR, rfl, by rw [a12 p2 g.1 g60]; rfl, hRel⟩
      · have g2 := (not_congr a10).mpr g
        simp only [g, g2, if_false]
        exact ⟨_, SX, SR, rfl, rfl, hRel⟩
  · simp only [h, if_false]
    exact ⟨_, SX, SR, rfl, rfl, hRel⟩
def zkeep (t : Int32) (v : Int64) : Int64 := if t = 0 then Int32.toInt64 (zi8 (Int64.toInt32 v)) else if t = 1 then Int32.toInt64 (zi16 (Int64.toInt32 v)) else if t = 2 then Int32.toInt64 (Int64.toInt32 v) else if t = 3 then v else if lg_cmp v 0 = 0 then 0 else 1
theorem zput_R {α : Type} (t : Int32) (v : Int64) (F : Int64 → α) : (if t = 0 then F (Int32.toInt64 (zi8 (Int64.toInt32 v))) else if t = 1 then F (Int32.toInt64 (zi16 (Int64.toInt32 v))) else if t = 2 then F (Int32.toInt64 (Int64.toInt32 v)) else if t = 3 then F v else if lg_cmp v 0 = 0 then F 0 else F 1) = F (zkeep t v) := by
  unfold zkeep
  by_cases c0 : t = 0
  · rw [if_pos c0, if_pos c0]
  rw [if_neg c0, if_neg c0]
  by_cases c1 : t = 1
  · rw [if_pos c1, if_pos c1]
  rw [if_neg c1, if_neg c1]
  by_cases c2 : t = 2
  · rw [if_pos c2, if_pos c2]
  rw [if_neg c2, if_neg c2]
  by_cases c3 : t = 3
  · rw [if_pos c3, if_pos c3]
  rw [if_neg c3, if_neg c3]
  by_cases c4 : lg_cmp v 0 = 0
  · rw [if_pos c4, if_pos c4]
  · rw [if_neg c4, if_neg c4]
theorem zar20 {t : Int32} (h : 0 ≤ t ∧ t ≤ 4) (c0 : ¬ t = 0) (c1 : ¬ t = 1) (c2 : ¬ t = 2) (c3 : ¬ t = 3) : t = 4 := by grind
theorem e_kept (t : Int32) (v : Int64) (h : 0 ≤ t ∧ t ≤ 4) : fX9_kept t v = some (zkeep t v) := by
  rw [← zput_R t v some]
  unfold fX9_kept
  by_cases c0 : t = 0
  · rw [if_pos c0, if_pos c0]
  rw [if_neg c0, if_neg c0]
  by_cases c1 : t = 1
  · rw [if_pos c1, if_pos c1]
  rw [if_neg c1, if_neg c1]
  by_cases c2 : t = 2
  · rw [if_pos c2, if_pos c2]
  rw [if_neg c2, if_neg c2]
  by_cases c3 : t = 3
  · rw [if_pos c3, if_pos c3]
  rw [if_neg c3, if_neg c3, if_pos (zar20 h c0 c1 c2 c3)]
theorem rShelf_put {nb : Int32} {so le bo ho si : Nat → Int32} {ro : Nat → Nat → Int64} {el : Nat → Int64} (h : rShelf nb so le bo ho si ro el) {s i : Int32} {v : Int64} (h0 : 0 ≤ s ∧ s < 6) (h1 : 0 ≤ i) (h2 : i < 60) : rShelf nb so le bo ho si (vf_upd ro (10030 + Int32.toNatClampNeg s) (vp_updL (ro (10030 + Int32.toNatClampNeg s)) (Int32.toNatClampNeg i) v)) (vp_updL el (Int32.toNatClampNeg (60 * s + i)) v) := fun t t0 t1 => by
  rcases h t t0 t1 with a | a | ⟨a1, a2, a3, a4, a5, a6, a7⟩
  · exact Or.inl a
  · exact Or.inr (Or.inl a)
  · refine Or.inr (Or.inr ⟨a1, a2, a3, a4, a5, a6, fun j j0 j1 => ?_⟩)
    have n1 := (zsE h0.1 h0.2 h1 h2).1
    have n2 := (zsE t0 t1 j0 j1).1
    rw [zrow_at h0.1 t0, zupdL_at n1 n2]
    by_cases c : t = s
    · subst c
      rw [if_pos rfl, zupdL_at h1 j0]
      by_cases d : j = i
      · subst d; rw [if_pos rfl, if_pos rfl]
      · rw [if_neg d, if_neg (zsF t0 t1 h1 h2 j0 j1 d)]; exact a7 j j0 j1
    · rw [if_neg c, if_neg (zsG h0.1 h0.2 t0 t1 h1 h2 j0 j1 c)]
      exact a7 j j0 j1
theorem q_put {SX SR : zSt} (hRel : zRel SX SR) (p1 p2 : Int32) (p3 : Int64) : zEq (fX11_put p1 p2 p3 SX) (fX12_put p1 p2 p3 SR) := by
  obtain ⟨hT, hP, hPe, hS, hL, hN, hB, hTr, hSh, hC, hG⟩ := id hRel
  have hnb : SR.1 40 ≤ 50 := by rw [← hB.1]; exact hB.2.2.1
  unfold fX11_put fX12_put fX9_putAt
  simp only [e_refusal, e_why, zB_some]
  by_cases h : 0 ≤ p1 ∧ p1 < 6
  · have hz : zin p1 6 := zin_of (k := 6) rfl (by decide) h.1 h.2
    rcases zshelf hSh hnb h p2 with a | a | a
    · simp only [h, and_self, if_true, a.1, a.2]
      exact zEq_i rfl hRel
    · simp only [h, and_self, if_true, a.1, a.2.1, a.2.2.1, if_false]
      exact zEq_i rfl hRel
    · obtain ⟨a1, a2, a3, a4, a5, a6, a7, a8, a9, a10, a11, a12⟩ := a
      simp only [h, and_self, if_true, a1, a2, a3, a5, a6, if_false, true_and, e_stretch p1 p2 1 SX h, zB_some]
      by_cases g : 0 ≤ p2 ∧ p2 ≤ SR.2.1 45 (Int32.toNatClampNeg p1) - 1
      · have g2 := a10.mpr g
        have g60 := a11 g
        have z1 : zin p2 60 := zin_of (k := 60) rfl (by decide) g.1 g60
        have n0 := zsE h.1 h.2 g.1 g60
        have z2 : zin (60 * p1 + p2) 360 := zin_of (k := 360) rfl (by decide) n0.1 n0.2
        have key : ∀ v, zRel (zJ SX (10030 + Int32.toNatClampNeg p1) (Int32.toNatClampNeg p2) v) (zJ SR 46 (Int32.toNatClampNeg (60 * p1 + p2)) v) := fun v =>
          ⟨hT, hP, hPe, hS, hL, hN, hB, hTr, rShelf_put hSh h g.1 g60, hC, hG⟩
        have e4 : -2 - SR.2.1 44 (Int32.toNatClampNeg p1) = SX.2.1 1000 (Int32.toNatClampNeg p1) := by
          rw [a4]; exact zsH
        simp only [g, g2, and_self, if_true, zB_some, one_ne, if_false, if_pos hz, if_pos z1, if_pos z2, e_kept _ p3 a1, zU_some, zL_def, e4]
        have e := zput_R (SX.2.1 1000 (Int32.toNatClampNeg p1)) p3 (fun x => some ((1 : Int32), zJ SR 46 (Int32.toNatClampNeg (60 * p1 + p2)) x))
        exact (congrArg (zEq _) e).mpr (zEq_i rfl (key _))
      · have g2 := (not_congr a10).mpr g
        simp only [g, g2, if_false]
        exact zEq_i rfl hRel
  · simp only [h, if_false]
    exact zEq_i rfl hRel
