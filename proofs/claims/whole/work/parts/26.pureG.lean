-- a change is kept
def rEnts (d np n : Int32) (cx sl bx ax of0 at0 br ar : Nat → Int32) : Prop := ∀ i : Int32, 0 ≤ i → i < d →
  bx (Int32.toNatClampNeg i) = br (Int32.toNatClampNeg i) ∧ ax (Int32.toNatClampNeg i) = ar (Int32.toNatClampNeg i) ∧ rEnt np n cx (sl (Int32.toNatClampNeg i)) (of0 (Int32.toNatClampNeg i)) (at0 (Int32.toNatClampNeg i)) (bx (Int32.toNatClampNeg i)) (ax (Int32.toNatClampNeg i))
theorem zpu1 {d : Int32} (h0 : 0 ≤ d) (h : d < 40) : 0 ≤ d + 1 ∧ d + 1 + 0 ≤ 40 ∧ d + 1 ≤ 40 := by
  refine ⟨?_, ?_, ?_⟩ <;> grind
theorem zpu2 {i d : Int32} (h0 : 0 ≤ d) (h : d < 40) (a : i < d + 1 + 0) (c : ¬ i = d) : i < d := by grind
theorem zpu3 {i d u : Int32} (h0 : 0 ≤ d) (u0 : 0 ≤ u) (h : d ≤ 40) (h2 : u ≤ 40) (a : i < d) : i < d + u := by grind
theorem rChange_push {d np n : Int32} {cx sl bx ax of0 at0 br ar : Nat → Int32} (h : rEnts d np n cx sl bx ax of0 at0 br ar) (h0 : 0 ≤ d) (h1 : d < 40) {s o t w v : Int32} (hw : rSlot np n cx s o t w) (hv : rSlot np n cx s o t v) :
    rChange (d + 1) (d + 1) 0 0 np n cx (upd sl (Int32.toNatClampNeg d) s) (upd bx (Int32.toNatClampNeg d) w) (upd ax (Int32.toNatClampNeg d) v) (upd of0 (Int32.toNatClampNeg d) o) (upd at0 (Int32.toNatClampNeg d) t) (upd br (Int32.toNatClampNeg d) w) (upd ar (Int32.toNatClampNeg d) v) := by
  obtain ⟨x1, x2, x3⟩ := zpu1 h0 h1
  refine ⟨rfl, rfl, x1, by decide, x2, x3, by decide, fun i i0 i1 => ?_⟩
  simp only [zupd_at h0 i0]
  by_cases c : i = d
  · simp only [c, if_true]
    exact ⟨trivial, trivial, hw, hv⟩
  · simp only [c, if_false]
    exact h i i0 (zpu2 h0 h1 i1 c)
/-- the oldest goes: the reference's loop -/
theorem zdr1 {k : Int32} (h0 : 1 ≤ k) (h : ¬ 40 ≤ k) : 0 ≤ k ∧ k < 40 ∧ 0 ≤ k - 1 ∧ k - 1 < 40 ∧ 1 ≤ k + 1 ∧ k + 1 ≤ 40 := by
  refine ⟨?_, ?_, ?_, ?_, ?_, ?_⟩ <;> grind
theorem zdr2 {k j : Int32} (h0 : 1 ≤ k) (h : k < 40) (j0 : 0 ≤ j) (j1 : j < 39) (c : k + 1 - 1 ≤ j) : k - 1 ≤ j ∧ ¬ j + 1 = k - 1 ∧ 0 ≤ j + 1 := by
  refine ⟨?_, ?_, ?_⟩ <;> grind
theorem zdr3 {k j : Int32} (h0 : 1 ≤ k) (h : k < 40) (j0 : 0 ≤ j) (j1 : j < 39) (c : ¬ k + 1 - 1 ≤ j) (c2 : k - 1 ≤ j) : j = k - 1 ∧ j + 1 = k := by
  refine ⟨?_, ?_⟩ <;> grind
theorem zdr4 {k j : Int32} (h0 : 1 ≤ k) (h : k < 40) (j0 : 0 ≤ j) (j1 : j < 39) (c : ¬ k + 1 - 1 ≤ j) (c2 : ¬ k - 1 ≤ j) : ¬ j = k - 1 := by grind
theorem zdr5 {k : Int32} (h0 : 1 ≤ k) (h : k ≤ 40) (h2 : 40 ≤ k) : k = 40 := by grind
theorem zdr6 {j : Int32} (j1 : j < 39) : ¬ (40 : Int32) - 1 ≤ j := by grind
theorem zdr7 {j : Int32} (j0 : 0 ≤ j) (j1 : j < 39) : 0 ≤ j + 1 ∧ j + 1 < 40 ∧ (1 : Int32) - 1 ≤ j := by
  refine ⟨?_, ?_, ?_⟩ <;> grind
theorem zadd1 {k : Int32} (h0 : 0 ≤ k) (h : k < 1000000) : (k + 1).toInt = k.toInt + 1 := by
  have e0 : (0 : Int32).toInt = 0 := by decide
  have e1 : (1 : Int32).toInt = 1 := by decide
  have e2 : (1000000 : Int32).toInt = 1000000 := by decide
  rw [Int32.le_iff_toInt_le, e0] at h0
  rw [Int32.lt_iff_toInt_lt, e2] at h
  rw [Int32.toInt_add, e1, Int.bmod_eq_of_le (by omega) (by omega)]
theorem zle_toInt {a b : Int32} (h : a ≤ b) : a.toInt ≤ b.toInt := Int32.le_iff_toInt_le.mp h
theorem e_dropR (N : Nat) (v1 v2 v3 v4 : Int32) : ∀ (n : Nat) (k : Int32) (S : zSt), 1 ≤ k → k ≤ 40 → (41 : Int) ≤ k.toInt + n → S.1 7 = 40 →
    ∃ S1 : zSt, fX12_changes_b34 N n v1 v2 v3 v4 k S = fX12_changes_b121 N v1 v2 v3 v4 S1 ∧ S1.1 7 = 39 ∧ zKeep [7] [9, 10, 11, 12] S S1 ∧ ∀ d ∈ [9, 10, 11, 12], ∀ j : Int32, 0 ≤ j → j < 39 → S1.2.1 d (Int32.toNatClampNeg j) = if k - 1 ≤ j then S.2.1 d (Int32.toNatClampNeg (j + 1)) else S.2.1 d (Int32.toNatClampNeg j) := by
  intro n
  induction n with
  | zero =>
    intro k S h0 h1 h2
    have h3 := zle_toInt h1
    have e : (40 : Int32).toInt = 40 := by decide
    rw [e] at h3
    exact absurd h2 (by omega)
  | succ n ih =>
    intro k S h0 h1 h2 h7
    rw [fX12_changes_b34]
    by_cases c : 40 ≤ k
    · have ek := zdr5 h0 h1 c
      rw [if_pos c]
      refine ⟨zI S 7 (S.1 7 - 1), rfl, ?_, ⟨fun j hj => zI_ne _ _ (by simpa using hj), fun d hd => rfl, rfl⟩, fun d hd j j0 j1 => ?_⟩
      · rw [zI_self, h7]; decide
      · rw [ek, if_neg (zdr6 j1)]; rfl
    · obtain ⟨x1, x2, x3, x4, x5, x6⟩ := zdr1 h0 c
      have z1 : zin k 40 := zin_of (k := 40) rfl (by decide) x1 x2
      have z2 : zin (k - 1) 40 := zin_of (k := 40) rfl (by decide) x3 x4
      have hk : (k + 1).toInt = k.toInt + 1 := zadd1 x1 (Int32.lt_of_lt_of_le x2 (by decide))
      obtain ⟨S1, e1, e2, e3, e4⟩ := ih (k + 1) (zA (zA (zA (zA S 9 (Int32.toNatClampNeg (k - 1)) (S.2.1 9 (Int32.toNatClampNeg k))) 10 (Int32.toNatClampNeg (k - 1)) (S.2.1 10 (Int32.toNatClampNeg k))) 11 (Int32.toNatClampNeg (k - 1)) (S.2.1 11 (Int32.toNatClampNeg k))) 12 (Int32.toNatClampNeg (k - 1)) (S.2.1 12 (Int32.toNatClampNeg k))) x5 x6 (by rw [hk]; push_cast at h2 ⊢; omega) h7
      refine ⟨S1, ?_, e2, ⟨fun j hj => e3.1 j hj, fun d hd => ?_, e3.2.2⟩, fun d hd j j0 j1 => ?_⟩
      · rw [if_neg c, if_pos z1, if_pos z2, ← e1]
        refine (if_pos z1).trans ?_
        refine (if_pos z2).trans ?_
        refine (if_pos z1).trans ?_
        refine (if_pos z2).trans ?_
        refine (if_pos z1).trans ?_
        refine (if_pos z2).trans ?_
        rfl
      · rw [e3.2.1 d hd]
        have h9 : ¬ d = 9 := fun e => hd (by rw [e]; decide)
        have h10 : ¬ d = 10 := fun e => hd (by rw [e]; decide)
        have h11 : ¬ d = 11 := fun e => hd (by rw [e]; decide)
        have h12 : ¬ d = 12 := fun e => hd (by rw [e]; decide)
        rw [zA_ne _ _ _ h12, zA_ne _ _ _ h11, zA_ne _ _ _ h10, zA_ne _ _ _ h9]
      · have e5 := e4 d hd j j0 j1
        have er : ∀ q : Nat, (zA (zA (zA (zA S 9 (Int32.toNatClampNeg (k - 1)) (S.2.1 9 (Int32.toNatClampNeg k))) 10 (Int32.toNatClampNeg (k - 1)) (S.2.1 10 (Int32.toNatClampNeg k))) 11 (Int32.toNatClampNeg (k - 1)) (S.2.1 11 (Int32.toNatClampNeg k))) 12 (Int32.toNatClampNeg (k - 1)) (S.2.1 12 (Int32.toNatClampNeg k))).2.1 d q = upd (S.2.1 d) (Int32.toNatClampNeg (k - 1)) (S.2.1 d (Int32.toNatClampNeg k)) q := fun q => by
          simp only [List.mem_cons, List.not_mem_nil, or_false] at hd
          rcases hd with rfl | rfl | rfl | rfl <;> rfl
        rw [e5]
        simp only [er]
        by_cases g : k + 1 - 1 ≤ j
        · obtain ⟨y1, y2, y3⟩ := zdr2 h0 x2 j0 j1 g
          rw [if_pos g, if_pos y1, zupd_at x3 y3, if_neg y2]
        · rw [if_neg g, zupd_at x3 j0]
          by_cases g2 : k - 1 ≤ j
          · obtain ⟨y1, y2⟩ := zdr3 h0 x2 j0 j1 g g2
            rw [if_pos g2, if_pos y1, y2]
          · rw [if_neg g2, if_neg (zdr4 h0 x2 j0 j1 g g2)]
theorem e_b121 (N : Nat) (v1 v2 v3 v4 : Int32) (S : zSt) (h0 : 0 ≤ S.1 7) (h1 : S.1 7 < 40) : fX12_changes_b121 N v1 v2 v3 v4 S = zU (fX12_lays v1 v2 v3 (zI (zA (zA (zA (zA S 9 (Int32.toNatClampNeg (S.1 7)) v1) 10 (Int32.toNatClampNeg (S.1 7)) v2) 11 (Int32.toNatClampNeg (S.1 7)) v4) 12 (Int32.toNatClampNeg (S.1 7)) v3) 7 (S.1 7 + 1))) fun S11 => some (v4, S11) := by
  have z : zin (S.1 7) 40 := zin_of (k := 40) rfl (by decide) h0 h1
  unfold fX12_changes_b121
  rw [if_pos z]
  refine (if_pos z).trans ?_
  refine (if_pos z).trans ?_
  refine (if_pos z).trans ?_
  rfl
theorem e_b13 (v1 v2 v3 : Int32) (S : zSt) (h0 : 0 ≤ S.1 205) (h1 : S.1 205 < 40) : fX1_record_b13 v1 v2 v3 S = some (zI (zI (zA (zA (zA S 202 (Int32.toNatClampNeg (S.1 205)) v1) 203 (Int32.toNatClampNeg (S.1 205)) v2) 204 (Int32.toNatClampNeg (S.1 205)) v3) 205 (S.1 205 + 1)) 206 0) := by
  have z : zin (S.1 205) 40 := zin_of (k := 40) rfl (by decide) h0 h1
  unfold fX1_record_b13
  rw [if_pos z]
  refine (if_pos z).trans ?_
  refine (if_pos z).trans ?_
  rfl
theorem e_dropX (S : zSt) : ∃ S1 : zSt, fX1_dropOldest S = some S1 ∧ S1.1 205 = 39 ∧ zKeep [205] [202, 203, 204] S S1 ∧ ∀ d ∈ [202, 203, 204], ∀ j : Int32, 0 ≤ j → j < 39 → S1.2.1 d (Int32.toNatClampNeg j) = S.2.1 d (Int32.toNatClampNeg (j + 1)) := by
  have hc : ¬ (1 : Int32) < 0 ∧ ¬ (0 : Int32) < 0 ∧ ¬ ((39 : Int32)) < 0 ∧ Int32.toNatClampNeg 1 + Int32.toNatClampNeg 39 ≤ 40 ∧ Int32.toNatClampNeg 0 + Int32.toNatClampNeg 39 ≤ 40 := by decide
  refine ⟨zcA (zcA (zcA (zI S 205 39) 202 202 (Int32.toNatClampNeg 1) (Int32.toNatClampNeg 0) (Int32.toNatClampNeg 39)) 203 203 (Int32.toNatClampNeg 1) (Int32.toNatClampNeg 0) (Int32.toNatClampNeg 39)) 204 204 (Int32.toNatClampNeg 1) (Int32.toNatClampNeg 0) (Int32.toNatClampNeg 39), ?_, rfl, ⟨fun j hj => zI_ne _ _ (by simpa using hj), fun d hd => ?_, rfl⟩, fun d hd j j0 j1 => ?_⟩
  · unfold fX1_dropOldest
    rfl
  · have h2 : ¬ d = 202 := fun e => hd (by rw [e]; decide)
    have h3 : ¬ d = 203 := fun e => hd (by rw [e]; decide)
    have h4 : ¬ d = 204 := fun e => hd (by rw [e]; decide)
    show vf_upd (vf_upd (vf_upd S.2.1 202 _) 203 _) 204 _ d = S.2.1 d
    unfold vf_upd
    rw [if_neg h4, if_neg h3, if_neg h2]
  · have ej : (Int32.toNatClampNeg (j + 1)) = Int32.toNatClampNeg j + 1 := by
      have a := ztn j0
      have b := ztn (zdr7 j0 j1).1
      rw [zadd1 j0 (Int32.lt_of_lt_of_le j1 (by decide))] at b
      omega
    have hj : Int32.toNatClampNeg j < 39 := by
      have a := ztn j0
      have b : j.toInt < (39 : Int32).toInt := Int32.lt_iff_toInt_lt.mp j1
      have e : (39 : Int32).toInt = 39 := by decide
      omega
    have e0 : Int32.toNatClampNeg 0 = 0 := by decide
    have e1 : Int32.toNatClampNeg 1 = 1 := by decide
    have e39 : Int32.toNatClampNeg 39 = 39 := by decide
    have key : ∀ f : Nat → Int32, va_cpy f f (Int32.toNatClampNeg 1) (Int32.toNatClampNeg 0) (Int32.toNatClampNeg 39) (Int32.toNatClampNeg j) = f (Int32.toNatClampNeg (j + 1)) := fun f => by
      unfold va_cpy
      rw [e0, e1, e39, if_pos ⟨Nat.zero_le _, by omega⟩, ej]
      congr 1
      omega
    simp only [List.mem_cons, List.not_mem_nil, or_false] at hd
    rcases hd with rfl | rfl | rfl
    · exact key (S.2.1 202)
    · exact key (S.2.1 203)
    · exact key (S.2.1 204)

theorem zpu4 {d : Int32} (h : ¬ d < 40) (h1 : d ≤ 40) : d = 40 := by grind
/-- a change kept, on both sides -/
theorem zRec {SX SR : zSt} (hRel : zRel SX SR) {s o t w v : Int32} (hw : rSlot (SR.1 3) (SR.1 28) (SX.2.1 902) s o t w) (hv : rSlot (SR.1 3) (SR.1 28) (SX.2.1 902) s o t v) :
    ∃ SX1 SR1 : zSt, fX1_record s w v SX = some SX1 ∧ (if (zI SR 8 0).1 7 = 40 then (fX12_changes_b34 zN zN o t v w 1 (zI SR 8 0)) else (fX12_changes_b121 zN o t v w (zI SR 8 0))) = zU (fX12_lays o t v SR1) (fun S11 => some (w, S11)) ∧ zRel SX1 SR1 ∧ SX1.2.1 902 = SX.2.1 902 ∧ SR1.1 3 = SR.1 3 ∧ SR1.1 28 = SR.1 28 := by
  obtain ⟨hT, hP, hPe, hS, hL, hN, hB, hTr, hSh, hC, hG⟩ := id hRel
  obtain ⟨a1, a2, a3, a4, a5, a6, a7, a8⟩ := id hC
  unfold fX1_record
  by_cases c : SX.1 205 < 40
  · have c2 : ¬ (zI SR 8 0).1 7 = 40 := by
      show ¬ SR.1 7 = 40
      rw [← a1]; intro e; rw [e] at c; exact absurd c (by decide)
    rw [if_pos c, e_b13 _ _ _ _ a3 c, if_neg c2, e_b121 _ _ _ _ _ _ (by show 0 ≤ SR.1 7; rw [← a1]; exact a3) (by show SR.1 7 < 40; rw [← a1]; exact c)]
    refine ⟨_, _, rfl, rfl, ⟨hT, hP, hPe, hS, hL, hN, hB, hTr, hSh, ?_, hG⟩, rfl, rfl, rfl⟩
    show rChange (SX.1 205 + 1) (SR.1 7 + 1) 0 0 (SR.1 3) (SR.1 28) (SX.2.1 902) (upd (SX.2.1 202) (Int32.toNatClampNeg (SX.1 205)) s) (upd (SX.2.1 203) (Int32.toNatClampNeg (SX.1 205)) w) (upd (SX.2.1 204) (Int32.toNatClampNeg (SX.1 205)) v) (upd (SR.2.1 9) (Int32.toNatClampNeg (SR.1 7)) o) (upd (SR.2.1 10) (Int32.toNatClampNeg (SR.1 7)) t) (upd (SR.2.1 11) (Int32.toNatClampNeg (SR.1 7)) w) (upd (SR.2.1 12) (Int32.toNatClampNeg (SR.1 7)) v)
    rw [← a1]
    exact rChange_push (fun i i0 i1 => a8 i i0 (zpu3 a3 a4 a6 a7 i1)) a3 c hw hv
  · have e40 := zpu4 c a6
    have c2 : (zI SR 8 0).1 7 = 40 := by
      show SR.1 7 = 40
      rw [← a1]; exact e40
    obtain ⟨S1, x1, x2, x3, x4⟩ := e_dropX SX
    have e41 : (41 : Int) ≤ (1 : Int32).toInt + (zN : Nat) := by
      have e : (1 : Int32).toInt = 1 := by decide
      rw [e, show ((zN : Nat) : Int) = 1000000 from rfl]
      decide
    obtain ⟨R1, y1, y2, y3, y4⟩ := e_dropR zN o t v w zN 1 (zI SR 8 0) (by decide) (by decide) e41 c2
    rw [if_neg c, x1, if_pos c2, y1, e_b121 _ _ _ _ _ _ (by rw [y2]; decide) (by rw [y2]; decide)]
    have g0 : 0 ≤ S1.1 205 := by rw [x2]; decide
    have g1 : S1.1 205 < 40 := by rw [x2]; decide
    rw [zU_some, e_b13 _ _ _ _ g0 g1]
    have kR : zKeep [7, 8] [9, 10, 11, 12] SR R1 := ⟨fun k hk => by
      rw [y3.1 k (fun z => hk (by simp at z ⊢; exact Or.inl z))]
      exact zI_ne _ _ (fun z => hk (by rw [z]; decide)), y3.2.1, y3.2.2⟩
    have r8 : R1.1 8 = 0 := by rw [y3.1 8 (by decide)]; rfl
    have rel : rEnts 39 (SR.1 3) (SR.1 28) (SX.2.1 902) (S1.2.1 202) (S1.2.1 203) (S1.2.1 204) (R1.2.1 9) (R1.2.1 10) (R1.2.1 11) (R1.2.1 12) := fun i i0 i1 => by
      obtain ⟨q1, q2, q3⟩ := zdr7 i0 i1
      rw [x4 202 (by decide) i i0 i1, x4 203 (by decide) i i0 i1, x4 204 (by decide) i i0 i1, y4 9 (by decide) i i0 i1, y4 10 (by decide) i i0 i1, y4 11 (by decide) i i0 i1, y4 12 (by decide) i i0 i1, if_pos q3, if_pos q3, if_pos q3, if_pos q3]
      exact a8 (i + 1) q1 (zpu3 a3 a4 a6 a7 (by rw [e40]; exact q2))
    refine ⟨_, _, rfl, rfl, ?_, ?_, ?_, ?_⟩
    · have i := fun k hk => x3.1 k hk
      have a := fun d hd => x3.2.1 d hd
      have i2 := fun k hk => kR.1 k hk
      have b := fun d hd => kR.2.1 d hd
      refine ⟨?_, ?_, ?_, ?_, ?_, ?_, ?_, ?_, ?_, ?_, ?_⟩
      · show rTape (S1.1 1101) (R1.1 2) (S1.1 1102) (S1.2.1 1100) (R1.2.1 1)
        rw [i 1101 (by decide), i 1102 (by decide), i2 2 (by decide), a 1100 (by decide), b 1 (by decide)]; exact hT
      · show rPlaces (S1.1 904) (R1.1 3) (S1.2.1 901) (S1.2.1 902) (S1.2.1 903) (R1.2.1 4) (R1.2.1 5) (R1.2.1 6)
        rw [i 904 (by decide), i2 3 (by decide), a 901 (by decide), a 902 (by decide), a 903 (by decide), b 4 (by decide), b 5 (by decide), b 6 (by decide)]; exact hP
      · show rPeople (S1.1 801) (R1.1 28) (S1.2.1 800) (R1.2.1 29) (R1.2.1 30) (R1.2.1 31) (R1.2.1 32)
        rw [i 801 (by decide), i2 28 (by decide), a 800 (by decide), b 29 (by decide), b 30 (by decide), b 31 (by decide), b 32 (by decide)]; exact hPe
      · show rSky (S1.1 506) (R1.1 26) (S1.1 507) (R1.1 27) (S1.1 508) (R1.1 25) (R1.1 24)
        rw [i 506 (by decide), i 507 (by decide), i 508 (by decide), i2 26 (by decide), i2 27 (by decide), i2 25 (by decide), i2 24 (by decide)]; exact hS
      · show rLaws (S1.1 505) (R1.1 24) (S1.2.1 502) (S1.2.1 5010) (S1.2.1 5011) (S1.2.1 5012) (S1.2.1 5013) (R1.2.1 17) (R1.2.1 18) (R1.2.1 19) (R1.2.1 20) (R1.2.1 21)
        rw [i 505 (by decide), i2 24 (by decide), a 502 (by decide), a 5010 (by decide), a 5011 (by decide), a 5012 (by decide), a 5013 (by decide), b 17 (by decide), b 18 (by decide), b 19 (by decide), b 20 (by decide), b 21 (by decide)]; exact hL
      · show rNotch (S1.1 602) (R1.1 37) (S1.2.1 600) (S1.2.1 601) (R1.2.1 38) (R1.2.1 39)
        rw [i 602 (by decide), i2 37 (by decide), a 600 (by decide), a 601 (by decide), b 38 (by decide), b 39 (by decide)]; exact hN
      · show rBodies (S1.1 102) (R1.1 40) (S1.2.1 100) (R1.2.1 41)
        rw [i 102 (by decide), i2 40 (by decide), a 100 (by decide), b 41 (by decide)]; exact hB
      · show rTrace (S1.1 103) (R1.1 42) (S1.2.1 101) (R1.2.1 43)
        rw [i 103 (by decide), i2 42 (by decide), a 101 (by decide), b 43 (by decide)]; exact hTr
      · show rShelf (R1.1 40) (S1.2.1 1000) (S1.2.1 1001) (S1.2.1 1002) (R1.2.1 44) (R1.2.1 45) S1.2.2 (R1.2.2 46)
        rw [i2 40 (by decide), a 1000 (by decide), a 1001 (by decide), a 1002 (by decide), b 44 (by decide), b 45 (by decide), x3.2.2, kR.2.2]; exact hSh
      · show rChange (S1.1 205 + 1) (R1.1 7 + 1) 0 (R1.1 8) (R1.1 3) (R1.1 28) (S1.2.1 902) (upd (S1.2.1 202) (Int32.toNatClampNeg (S1.1 205)) s) (upd (S1.2.1 203) (Int32.toNatClampNeg (S1.1 205)) w) (upd (S1.2.1 204) (Int32.toNatClampNeg (S1.1 205)) v) (upd (R1.2.1 9) (Int32.toNatClampNeg (R1.1 7)) o) (upd (R1.2.1 10) (Int32.toNatClampNeg (R1.1 7)) t) (upd (R1.2.1 11) (Int32.toNatClampNeg (R1.1 7)) w) (upd (R1.2.1 12) (Int32.toNatClampNeg (R1.1 7)) v)
        rw [r8, i2 3 (by decide), i2 28 (by decide), a 902 (by decide), x2, y2]
        exact rChange_push rel (by decide) (by decide) hw hv
      · show rGust (R1.2.1 35)
        rw [b 35 (by decide)]; exact hG
    · show S1.2.1 902 = _
      exact x3.2.1 902 (by decide)
    · show R1.1 3 = _
      exact kR.1 3 (by decide)
    · show R1.1 28 = _
      exact kR.1 28 (by decide)
