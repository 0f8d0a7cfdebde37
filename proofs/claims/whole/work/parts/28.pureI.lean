-- the start; rows of a shelf
theorem zvac {i : Int32} (h0 : 0 ≤ i) (h1 : i < 0) : False := by grind
theorem zsix {s : Int32} (h0 : 0 ≤ s) (h1 : s < 6) : s = 0 ∨ s = 1 ∨ s = 2 ∨ s = 3 ∨ s = 4 ∨ s = 5 := by grind
theorem q_start : zRel zX0 zR0 := by
  refine ⟨⟨rfl, by decide, by decide, rfl, fun i h0 h1 => (zvac h0 h1).elim⟩, ⟨rfl, by decide, by decide, fun i h0 h1 => (zvac h0 h1).elim⟩, ⟨rfl, by decide, by decide, fun i h0 h1 => (zvac h0 h1).elim⟩, ⟨rfl, rfl, rfl, by decide, by decide⟩, ⟨rfl, by decide, by decide, fun h => absurd h (by decide), fun h => absurd h (by decide), fun h => absurd h (by decide), fun h => absurd h (by decide)⟩, ⟨rfl, by decide, by decide, fun i h0 h1 => (zvac h0 h1).elim⟩, ⟨rfl, by decide, by decide, fun i h0 h1 => (zvac h0 h1).elim⟩, ⟨rfl, by decide, by decide, fun i h0 h1 => (zvac h0 h1).elim⟩, fun s h0 h1 => Or.inl ?_, ⟨rfl, rfl, by decide, by decide, by decide, by decide, by decide, fun i h0 h1 => (zvac h0 h1).elim⟩, fun i _ _ => rfl⟩
  rcases zsix h0 h1 with rfl | rfl | rfl | rfl | rfl | rfl <;> exact ⟨by decide +kernel, by decide +kernel⟩
-- row
theorem zro1 {v : Int32} (h0 : 0 ≤ v) (h : ¬ 60 ≤ v) : v < 60 ∧ 0 ≤ v + 1 ∧ v + 1 ≤ 60 ∧ v < 1000000 := by
  refine ⟨?_, ?_, ?_, ?_⟩ <;> grind
theorem zro2 {v j : Int32} (h0 : 0 ≤ v) (h : v < 60) (j0 : 0 ≤ j) (j1 : j < 60) : (v + 1 ≤ j ∨ j = v) ↔ v ≤ j := by
  constructor
  · rintro (a | a) <;> grind
  · intro a
    by_cases c : j = v
    · exact Or.inr c
    · exact Or.inl (by grind)
theorem zro3 {v j : Int32} (h : 60 ≤ v) (j1 : j < 60) : ¬ v ≤ j := by grind
theorem e_fill (N : Nat) (i0 : Int32) (x : Int64) : ∀ (n : Nat) (v : Int32) (S : zSt), 0 ≤ v → v ≤ 60 → (61 : Int) ≤ v.toInt + n → ∃ S1 : zSt, fJ7_fill_d0a16_b6 N i0 n x v 60 S = some S1 ∧ S1.1 = S.1 ∧ S1.2.1 = S.2.1 ∧ (∀ d, ¬ d = 10030 + Int32.toNatClampNeg i0 → S1.2.2 d = S.2.2 d) ∧ ∀ j : Int32, 0 ≤ j → j < 60 → S1.2.2 (10030 + Int32.toNatClampNeg i0) (Int32.toNatClampNeg j) = if v ≤ j then x else S.2.2 (10030 + Int32.toNatClampNeg i0) (Int32.toNatClampNeg j) := by
  intro n
  induction n with
  | zero =>
    intro v S h0 h1 h2
    have h3 := zle_toInt h1
    have e : (60 : Int32).toInt = 60 := by decide
    rw [e] at h3
    exact absurd h2 (by omega)
  | succ n ih =>
    intro v S h0 h1 h2
    rw [fJ7_fill_d0a16_b6]
    by_cases c : 60 ≤ v
    · rw [if_pos c]
      exact ⟨S, rfl, rfl, rfl, fun _ _ => rfl, fun j j0 j1 => by rw [if_neg (zro3 c j1)]⟩
    · obtain ⟨x1, x2, x3, x4⟩ := zro1 h0 c
      have hz : zin v 60 := zin_of (k := 60) rfl (by decide) h0 x1
      have hv : (v + 1).toInt = v.toInt + 1 := zadd1 h0 x4
      obtain ⟨S1, e1, e2, e3, e4, e5⟩ := ih (v + 1) (zJ S (10030 + Int32.toNatClampNeg i0) (Int32.toNatClampNeg v) x) x2 x3 (by rw [hv]; push_cast at h2 ⊢; omega)
      refine ⟨S1, ?_, e2, e3, fun d hd => ?_, fun j j0 j1 => ?_⟩
      · rw [if_neg c, if_pos hz]; exact e1
      · rw [e4 d hd]; exact if_neg hd
      · rw [e5 j j0 j1]
        have er : (zJ S (10030 + Int32.toNatClampNeg i0) (Int32.toNatClampNeg v) x).2.2 (10030 + Int32.toNatClampNeg i0) = vp_updL (S.2.2 (10030 + Int32.toNatClampNeg i0)) (Int32.toNatClampNeg v) x := if_pos rfl
        rw [er, zupdL_at h0 j0]
        have e := zro2 h0 x1 j0 j1
        by_cases a : v + 1 ≤ j
        · rw [if_pos a, if_pos (e.mp (Or.inl a))]
        · rw [if_neg a]
          by_cases b : j = v
          · rw [if_pos b, if_pos (e.mp (Or.inr b))]
          · rw [if_neg b, if_neg (fun z => (e.mpr z).elim a b)]
theorem zrr1 {s : Int32} (h0 : 0 ≤ s) (h1 : s < 6) : 0 ≤ 60 * s ∧ 60 * s ≤ 60 * s + 60 ∧ 60 * s + 60 ≤ 360 := by
  refine ⟨?_, ?_, ?_⟩ <;> grind
theorem zrr2 {s v : Int32} (h0 : 0 ≤ s) (h1 : s < 6) (a : 60 * s ≤ v) (b : v ≤ 60 * s + 60) (c : ¬ 60 * s + 60 ≤ v) : 0 ≤ v ∧ v < 360 ∧ 60 * s ≤ v + 1 ∧ v + 1 ≤ 60 * s + 60 ∧ v < 1000000 := by
  refine ⟨?_, ?_, ?_, ?_, ?_⟩ <;> grind
theorem zrr3 {s v q : Int32} (h0 : 0 ≤ s) (h1 : s < 6) (a : 60 * s ≤ v) (b : v < 360) (q0 : 0 ≤ q) (q1 : q < 360) : (v + 1 ≤ q ∨ q = v) ↔ v ≤ q := by
  constructor
  · rintro (a | a) <;> grind
  · intro a
    by_cases c : q = v
    · exact Or.inr c
    · exact Or.inl (by grind)
theorem zrr4 {s v q : Int32} (c : 60 * s + 60 ≤ v) (q1 : q < 60 * s + 60) : ¬ v ≤ q := by grind
theorem e_rowR (N : Nat) (s : Int32) (h0 : 0 ≤ s) (h1 : s < 6) : ∀ (n : Nat) (v : Int32) (S : zSt), 60 * s ≤ v → v ≤ 60 * s + 60 → (361 : Int) ≤ v.toInt + n → ∃ S1 : zSt, fX12_row_b54 N n s v S = some (1, S1) ∧ S1.1 = S.1 ∧ S1.2.1 = S.2.1 ∧ (∀ d, ¬ d = 46 → S1.2.2 d = S.2.2 d) ∧ ∀ q : Int32, 0 ≤ q → q < 360 → S1.2.2 46 (Int32.toNatClampNeg q) = if v ≤ q ∧ q < 60 * s + 60 then 0 else S.2.2 46 (Int32.toNatClampNeg q) := by
  intro n
  induction n with
  | zero =>
    intro v S a b h2
    have h3 := zle_toInt (Int32.le_trans b (zrr1 h0 h1).2.2)
    have e : (360 : Int32).toInt = 360 := by decide
    rw [e] at h3
    exact absurd h2 (by omega)
  | succ n ih =>
    intro v S a b h2
    rw [fX12_row_b54]
    by_cases c : 60 * s + 60 ≤ v
    · rw [if_pos c]
      exact ⟨S, rfl, rfl, rfl, fun _ _ => rfl, fun q q0 q1 => by rw [if_neg (fun z => zrr4 c z.2 z.1)]⟩
    · obtain ⟨x1, x2, x3, x4, x5⟩ := zrr2 h0 h1 a b c
      have hz : zin v 360 := zin_of (k := 360) rfl (by decide) x1 x2
      have hv : (v + 1).toInt = v.toInt + 1 := zadd1 x1 x5
      obtain ⟨S1, e1, e2, e3, e4, e5⟩ := ih (v + 1) (zJ S 46 (Int32.toNatClampNeg v) 0) x3 x4 (by rw [hv]; push_cast at h2 ⊢; omega)
      refine ⟨S1, ?_, e2, e3, fun d hd => ?_, fun q q0 q1 => ?_⟩
      · rw [if_neg c, if_pos hz]; exact e1
      · rw [e4 d hd]; exact if_neg hd
      · rw [e5 q q0 q1]
        have er : (zJ S 46 (Int32.toNatClampNeg v) 0).2.2 46 = vp_updL (S.2.2 46) (Int32.toNatClampNeg v) 0 := rfl
        rw [er, zupdL_at x1 q0]
        have e := zrr3 h0 h1 a x2 q0 q1
        by_cases k : q < 60 * s + 60
        · by_cases a2 : v + 1 ≤ q
          · rw [if_pos ⟨a2, k⟩, if_pos ⟨e.mp (Or.inl a2), k⟩]
          · rw [if_neg (fun z => a2 z.1)]
            by_cases b2 : q = v
            · rw [if_pos b2, if_pos ⟨e.mp (Or.inr b2), k⟩]
            · rw [if_neg b2, if_neg (fun z => (e.mpr z.1).elim a2 b2)]
        · rw [if_neg (fun z => k z.2), if_neg (fun z => k (by rw [z]; exact Int32.not_le.mp c)), if_neg (fun z => k z.2)]
theorem zkeep60 {s i : Int32} (h0 : 0 ≤ s) (h1 : s < 6) (a : 0 ≤ i) (b : i < 60) : 60 * s ≤ 60 * s + i ∧ 60 * s + i < 60 * s + 60 := by
  constructor <;> grind
theorem zother60 {s t i : Int32} (h0 : 0 ≤ s) (h1 : s < 6) (t0 : 0 ≤ t) (t1 : t < 6) (a : 0 ≤ i) (b : i < 60) (c : ¬ t = s) : ¬ (60 * s ≤ 60 * t + i ∧ 60 * t + i < 60 * s + 60) := by grind
theorem q_row {SX SR : zSt} (hRel : zRel SX SR) (p1 p2 p3 : Int32) : zEq (fX11_row zN p1 p2 p3 SX) (fX12_row zN p1 p2 p3 SR) := by
  obtain ⟨hT, hP, hPe, hS, hL, hN, hB, hTr, hSh, hC, hG⟩ := id hRel
  unfold fX11_row fX12_row
  simp only [e_has9, e_isShelf, e_isSort, e_in, zU_some, zB_some]
  by_cases h : 0 ≤ p1 ∧ p1 < 6
  · have hz : zin p1 6 := zin_of (k := 6) rfl (by decide) h.1 h.2
    by_cases g : 0 ≤ p2 ∧ p2 ≤ 4
    · by_cases c : p3 ≤ 60
      · by_cases d : 0 ≤ p3
        · have eN : ∀ m : Nat, m ≤ 1000 → (m : Int) ≤ (zN : Nat) := fun m hm => by
            rw [show ((zN : Nat) : Int) = 1000000 from rfl]; omega
          have z0 : (0 : Int32).toInt = 0 := by decide
          obtain ⟨S1, a1, a2, a3, a4, a5⟩ := e_fill zN p1 0 zN 0 (zA (zA SX 1000 (Int32.toNatClampNeg p1) p2) 1001 (Int32.toNatClampNeg p1) p3) (by decide) (by decide) (by have := eN 61 (by decide); rw [z0]; omega)
          obtain ⟨r1, r2, r3⟩ := zrr1 h.1 h.2
          have r0 : 0 ≤ (60 * p1).toInt := by have := zle_toInt r1; rw [z0] at this; exact this
          obtain ⟨R1, b1, b2, b3, b4, b5⟩ := e_rowR zN p1 h.1 h.2 zN (60 * p1) (zA (zA SR 44 (Int32.toNatClampNeg p1) (-2 - p2)) 45 (Int32.toNatClampNeg p1) p3) (Int32.le_refl _) r2 (by have := eN 361 (by decide); omega)
          have eX : fX9_holdRow zN p1 p2 p3 SX = some S1 := by
            unfold fX9_holdRow fJ7_fill_d0a16
            rw [e_has9, if_pos h, zU_some, if_neg (by decide), if_pos hz]
            refine (if_pos hz).trans ?_
            refine (if_pos hz).trans ?_
            refine (congrArg (fun o => zU o _) a1).trans ?_
            rfl
          simp only [h, g, c, d, and_self, if_true, one_ne, if_false, if_pos hz, eX, zU_some]
          have eR : zL (zA SR 44 (Int32.toNatClampNeg p1) (-2 - p2)) (fun S15 => if zin p1 6 then zL (zA S15 45 (Int32.toNatClampNeg p1) p3) fun S17 => fX12_row_b54 zN zN p1 (60 * p1) S17 else none) = some (1, R1) := by
            refine (if_pos hz).trans ?_
            exact b1
          first
            | rw [eR]
            | skip
          refine (congrArg (zEq _) (show _ = some ((1 : Int32), R1) from by first | exact eR | exact b1 | (simp only [if_pos hz] at eR; exact eR))).mpr (zEq_i rfl ?_)
          have k1 : ∀ q, S1.1 q = SX.1 q := fun q => by rw [a2]; rfl
          have k2 : ∀ e, ¬ e = 1000 → ¬ e = 1001 → S1.2.1 e = SX.2.1 e := fun e e1 e2 => by rw [a3, zA_ne _ _ _ e2, zA_ne _ _ _ e1]
          have k3 : ∀ q, R1.1 q = SR.1 q := fun q => by rw [b2]; rfl
          have k4 : ∀ e, ¬ e = 44 → ¬ e = 45 → R1.2.1 e = SR.2.1 e := fun e e1 e2 => by rw [b3, zA_ne _ _ _ e2, zA_ne _ _ _ e1]
          have i := k1
          unfold zRel
          rw [k1 1101, k1 1102, k1 904, k1 801, k1 506, k1 507, k1 508, k1 505, k1 602, k1 102, k1 103, k1 205, k1 206,
            k2 1100 (by decide) (by decide), k2 902 (by decide) (by decide), k2 903 (by decide) (by decide), k2 901 (by decide) (by decide), k2 800 (by decide) (by decide), k2 502 (by decide) (by decide), k2 5010 (by decide) (by decide), k2 5011 (by decide) (by decide), k2 5012 (by decide) (by decide), k2 5013 (by decide) (by decide), k2 600 (by decide) (by decide), k2 601 (by decide) (by decide), k2 100 (by decide) (by decide), k2 101 (by decide) (by decide), k2 1002 (by decide) (by decide), k2 202 (by decide) (by decide), k2 203 (by decide) (by decide), k2 204 (by decide) (by decide),
            k3 2, k3 3, k3 28, k3 26, k3 27, k3 25, k3 24, k3 37, k3 40, k3 42, k3 7, k3 8,
            k4 1 (by decide) (by decide), k4 4 (by decide) (by decide), k4 5 (by decide) (by decide), k4 6 (by decide) (by decide), k4 29 (by decide) (by decide), k4 30 (by decide) (by decide), k4 31 (by decide) (by decide), k4 32 (by decide) (by decide), k4 17 (by decide) (by decide), k4 18 (by decide) (by decide), k4 19 (by decide) (by decide), k4 20 (by decide) (by decide), k4 21 (by decide) (by decide), k4 38 (by decide) (by decide), k4 39 (by decide) (by decide), k4 41 (by decide) (by decide), k4 43 (by decide) (by decide), k4 9 (by decide) (by decide), k4 10 (by decide) (by decide), k4 11 (by decide) (by decide), k4 12 (by decide) (by decide), k4 35 (by decide) (by decide)]
          refine ⟨hT, hP, hPe, hS, hL, hN, hB, hTr, ?_, hC, hG⟩
          have s0 : S1.2.1 1000 = upd (SX.2.1 1000) (Int32.toNatClampNeg p1) p2 := by rw [a3]; rfl
          have s1 : S1.2.1 1001 = upd (SX.2.1 1001) (Int32.toNatClampNeg p1) p3 := by rw [a3]; rfl
          have s2 : R1.2.1 44 = upd (SR.2.1 44) (Int32.toNatClampNeg p1) (-2 - p2) := by rw [b3]; rfl
          have s3 : R1.2.1 45 = upd (SR.2.1 45) (Int32.toNatClampNeg p1) p3 := by rw [b3]; rfl
          rw [s0, s1, s2, s3]
          intro t t0 t1
          simp only [zupd_at h.1 t0]
          by_cases e : t = p1
          · subst e
            simp only [if_true]
            refine Or.inr (Or.inr ⟨g.1, g.2, trivial, trivial, d, c, fun i i0 i1 => ?_⟩)
            obtain ⟨n0, n1⟩ := zsE t0 t1 i0 i1
            rw [a5 i i0 i1, b5 (60 * t + i) n0 n1, if_pos i0, if_pos (zkeep60 t0 t1 i0 i1)]
          · simp only [e, if_false]
            rcases hSh t t0 t1 with x | x | ⟨x1, x2, x3, x4, x5, x6, x7⟩
            · exact Or.inl x
            · exact Or.inr (Or.inl x)
            · refine Or.inr (Or.inr ⟨x1, x2, x3, x4, x5, x6, fun i i0 i1 => ?_⟩)
              obtain ⟨n0, n1⟩ := zsE t0 t1 i0 i1
              have ne : ¬ 10030 + Int32.toNatClampNeg t = 10030 + Int32.toNatClampNeg p1 := fun z => e ((ztn_inj t0 h.1).mp (by omega))
              rw [a4 _ ne, b5 (60 * t + i) n0 n1, if_neg (zother60 h.1 h.2 t0 t1 i0 i1 e)]
              exact x7 i i0 i1
        · simp only [h, g, c, d, and_self, if_true, one_ne, if_false]
          exact zEq_i rfl hRel
      · simp only [h, g, c, and_self, if_true, one_ne, if_false]
        exact zEq_i rfl hRel
    · simp only [h, g, and_self, if_true, one_ne, if_false]
      exact zEq_i rfl hRel
  · simp only [h, if_false, if_true]
    exact zEq_i rfl hRel
