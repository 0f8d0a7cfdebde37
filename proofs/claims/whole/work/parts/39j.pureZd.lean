-- act
/-- an ACT under way: the actor b of the KIND kd, k bodies have run -/
def zAC (SX0 SR0 : zSt) (kd b : Int32) (k : Nat) (SX SR : zSt) : Prop :=
  (SX.1 104 = b ∧ 0 ≤ b ∧ b < SX.1 102 ∧ zin b 50) ∧ SX.2.1 100 (Int32.toNatClampNeg b) = kd ∧ SR.2.1 41 (Int32.toNatClampNeg b) = kd ∧ SX.1 103 = Int32.ofNat k ∧ SR.1 42 = Int32.ofNat k ∧ (∀ i, i < 24 → i < k → SX.2.1 101 i = SR.2.1 43 i) ∧ zKeep [103, 104] [101] SX0 SX ∧ zKeep [42] [43] SR0 SR
def zEA (SX0 SR0 : zSt) (kd b : Int32) (k c : Nat) (X R : Option (Int32 × zSt)) : Prop := ∃ (r : Int32) (SX1 SR1 : zSt) (k1 : Nat), X = some (r, SX1) ∧ R = some (r, SR1) ∧ k1 ≤ k + c ∧ zAC SX0 SR0 kd b k1 SX1 SR1
theorem zEA_X {SX0 SR0 : zSt} {kd b : Int32} {k c : Nat} {X X2 R : Option (Int32 × zSt)} (h : zEA SX0 SR0 kd b k c X R) (e : X2 = X) : zEA SX0 SR0 kd b k c X2 R := e ▸ h
theorem zEA_R {SX0 SR0 : zSt} {kd b : Int32} {k c : Nat} {X R R2 : Option (Int32 × zSt)} (h : zEA SX0 SR0 kd b k c X R) (e : R2 = R) : zEA SX0 SR0 kd b k c X R2 := e ▸ h
theorem zEA_c {SX0 SR0 : zSt} {kd b : Int32} {k c c2 : Nat} {X R : Option (Int32 × zSt)} (h : zEA SX0 SR0 kd b k c X R) (e : c ≤ c2) : zEA SX0 SR0 kd b k c2 X R := by
  obtain ⟨r, SX1, SR1, k1, a1, a2, a3, a4⟩ := h
  exact ⟨r, SX1, SR1, k1, a1, a2, by omega, a4⟩
theorem zEA_f {SX0 SR0 : zSt} {kd b : Int32} {k c : Nat} {X R : Option (Int32 × zSt)} (h : zEA SX0 SR0 kd b k c X R) (f : Int32 → Int32) : zEA SX0 SR0 kd b k c (zB X fun r S => some (f r, S)) (zB R fun r S => some (f r, S)) := by
  obtain ⟨r, SX1, SR1, k1, rfl, rfl, a3, a4⟩ := h
  exact ⟨f r, SX1, SR1, k1, rfl, rfl, a3, a4⟩
theorem zEA_2 {SX0 SR0 : zSt} {kd b : Int32} {k c d : Nat} {X R : Option (Int32 × zSt)} {X2 R2 : zSt → Option (Int32 × zSt)} (h : zEA SX0 SR0 kd b k c X R) (h2 : ∀ SX1 SR1 k1, k1 ≤ k + c → zAC SX0 SR0 kd b k1 SX1 SR1 → zEA SX0 SR0 kd b k1 d (X2 SX1) (R2 SR1)) (f : Int32 → Int32 → Int32) :
    zEA SX0 SR0 kd b k (c + d) (zB X fun r S => zB (X2 S) fun r2 S2 => some (f r r2, S2)) (zB R fun r S => zB (R2 S) fun r2 S2 => some (f r r2, S2)) := by
  obtain ⟨r, SX1, SR1, k1, rfl, rfl, a3, a4⟩ := h
  obtain ⟨r2, SX2, SR2, k2, b1, b2, b3, b4⟩ := h2 SX1 SR1 k1 a3 a4
  refine ⟨f r r2, SX2, SR2, k2, ?_, ?_, by omega, b4⟩
  · rw [zB_some, b1, zB_some]
  · rw [zB_some, b2, zB_some]
theorem e_note {SX0 SR0 : zSt} {kd b : Int32} {k : Nat} {SX SR : zSt} (h : zAC SX0 SR0 kd b k SX SR) (hk : k < 1000) (B : Int32) : ∃ SX1 SR1 : zSt, fX0_note B SX = some SX1 ∧ fX12_ran B SR = some SR1 ∧ zAC SX0 SR0 kd b (k + 1) SX1 SR1 := by
  obtain ⟨⟨a1, a2, a3, a4⟩, b1, b2, c1, c2, c3, d1, d2⟩ := h
  have e24 : (24 ≤ Int32.ofNat k) = (24 ≤ k) := zo_le (a := 24) (by omega) (by omega)
  unfold fX0_note fX12_ran fX0_note_b19 fX12_ran_b19
  rw [c1, c2, zi_of e24, zi_of e24]
  by_cases q : 24 ≤ k
  · rw [if_pos q, if_pos q, zL_def, zL_def, zo_s]
    refine ⟨_, _, rfl, rfl, ⟨a1, a2, a3, a4⟩, b1, b2, zI_self _ _ _, zI_self _ _ _, fun i i0 i1 => c3 i i0 (by omega), zK_t d1 (zK_mono (zK_I _ _ _) (by simp) (by simp)), zK_t d2 (zK_mono (zK_I _ _ _) (by simp) (by simp))⟩
  · have z : zin (Int32.ofNat k) 24 := zin_o (by omega) (by decide)
    rw [if_neg q, if_neg q, if_pos z, if_pos z, zL_def, zL_def, zL_def, zL_def, zo_t (by omega)]
    have e1 : (zA SX 101 k B).1 103 = Int32.ofNat k := c1
    have e2 : (zA SR 43 k B).1 42 = Int32.ofNat k := c2
    rw [e1, e2, zo_s]
    refine ⟨_, _, rfl, rfl, ⟨a1, a2, a3, a4⟩, b1, b2, zI_self _ _ _, zI_self _ _ _, fun i i0 i1 => ?_, zK_t d1 (zK_mono (zK_trans (zK_A SX 101 k B) (zK_I _ 103 (Int32.ofNat (k + 1)))) (by simp) (by simp)), zK_t d2 (zK_mono (zK_trans (zK_A SR 43 k B) (zK_I _ 42 (Int32.ofNat (k + 1)))) (by simp) (by simp))⟩
    show (zA SX 101 k B).2.1 101 i = (zA SR 43 k B).2.1 43 i
    rw [zA_get, zA_get]
    by_cases w : i = k
    · rw [if_pos w, if_pos w]
    · rw [if_neg w, if_neg w]
      exact c3 i i0 (by omega)
theorem x_kind {SX0 SR0 : zSt} {kd b : Int32} {k : Nat} {SX SR : zSt} (h : zAC SX0 SR0 kd b k SX SR) : fX0_kindOf (SX.1 104) SX = some (kd, SX) := by
  obtain ⟨⟨a1, a2, a3, a4⟩, b1, -⟩ := h
  have q : 0 ≤ b ∧ b < SX.1 102 := ⟨a2, a3⟩
  unfold fX0_kindOf
  rw [a1, e_has0, zB_some, if_pos q, if_neg zn10, if_pos a4, b1]
theorem x_call {kf a o B ab : Int32} (hown : ∀ S, fX0_ownerOf zN kf a S = some (o, S)) (hk : fX0_isKind o = some 1) (hz : zin (o * 4 + a) 32) (hB : xs_1 (Int32.toNatClampNeg (o * 4 + a)) = B) (hz8 : zin o 8) (hab : xs_2 (Int32.toNatClampNeg o) = ab) {dp : Nat} (hd : dp < 24) (n : Nat) (x : Int32) (S : zSt) :
    fX0_call zN (n + 1) kf a x (Int32.ofNat dp) S = zU (fX0_note B S) fun S12 => zB (fX0_run zN n B ab x (Int32.ofNat (dp + 1)) S12) fun r S => some (r, S) := by
  have hl : Int32.ofNat dp < 24 := by
    show Int32.ofNat dp < Int32.ofNat 24
    rw [zo_lt (by omega) (by omega)]
    exact hd
  show fX0_call_o (zGXb zN n) zN kf a x (Int32.ofNat dp) S = _
  unfold fX0_call_o
  rw [hown, zB_some, hk, zU_some, if_neg zn10, if_pos hl, if_pos hz, zL_def, hB, zo_s]
  simp only [if_pos hz8, hab]
  rfl
/-- the first body runs, on both sides; then the rest -/
theorem e_call {SX0 SR0 : zSt} {kd b : Int32} {k c : Nat} {SX SR : zSt} (h : zAC SX0 SR0 kd b k SX SR) (hk1 : k < 900) {kf a o B ab : Int32} (hown : ∀ S, fX0_ownerOf zN kf a S = some (o, S)) (hk : fX0_isKind o = some 1) (hz : zin (o * 4 + a) 32) (hB : xs_1 (Int32.toNatClampNeg (o * 4 + a)) = B) (hz8 : zin o 8) (hab : xs_2 (Int32.toNatClampNeg o) = ab) {dp : Nat} (hd : dp < 24) (n : Nat) (x : Int32) {R : zSt → Option (Int32 × zSt)}
    (hr : ∀ SX1 SR1, zAC SX0 SR0 kd b (k + 1) SX1 SR1 → zEA SX0 SR0 kd b (k + 1) c (fX0_run zN n B ab x (Int32.ofNat (dp + 1)) SX1) (R SR1)) :
    zEA SX0 SR0 kd b k (c + 1) (fX0_call zN (n + 1) kf a x (Int32.ofNat dp) SX) (zU (fX12_ran B SR) fun S2 => R S2) := by
  obtain ⟨SX1, SR1, a1, a2, a3⟩ := e_note h (by omega) B
  rw [x_call hown hk hz hB hz8 hab hd, a1, a2, zU_some, zU_some]
  obtain ⟨r, SX2, SR2, k2, b1, b2, b3, b4⟩ := hr SX1 SR1 a3
  exact ⟨r, SX2, SR2, k2, by rw [b1, zB_some], b2, by omega, b4⟩
theorem t_pstands {SX0 SR0 : zSt} {kd b : Int32} {k : Nat} {SX SR : zSt} (h : zAC SX0 SR0 kd b k SX SR) (hk1 : k < 900) {kf : Int32} (hown : ∀ S, fX0_ownerOf zN kf 0 S = some (0, S)) {dp : Nat} (hd : dp < 20) (n : Nat) (x : Int32) :
    zEA SX0 SR0 kd b k 1 (fX0_call zN (n + 2) kf 0 x (Int32.ofNat dp) SX) (fX12_plainStands b x SR) := by
  refine e_call (B := 1) (ab := -1) h hk1 hown rfl (by decide) rfl (by decide) rfl (by omega) (n + 1) x (fun SX1 SR1 h1 => ?_)
  refine ⟨x + b, SX1, SR1, k + 1, ?_, rfl, Nat.le_refl _, h1⟩
  show fX0_run_o (zGXb zN n) zN 1 (-1) x (Int32.ofNat (dp + 1)) SX1 = _
  unfold fX0_run_o
  rw [x_kind h1, zB_some, h1.1.1]
  rfl
theorem own00 (S : zSt) : fX0_ownerOf zN 0 0 S = some (0, S) := rfl
theorem own10 (S : zSt) : fX0_ownerOf zN 1 0 S = some (1, S) := rfl
theorem own20 (S : zSt) : fX0_ownerOf zN 2 0 S = some (0, S) := rfl
theorem own30 (S : zSt) : fX0_ownerOf zN 3 0 S = some (0, S) := rfl
theorem own40 (S : zSt) : fX0_ownerOf zN 4 0 S = some (1, S) := rfl
theorem own50 (S : zSt) : fX0_ownerOf zN 5 0 S = some (1, S) := rfl
theorem own60 (S : zSt) : fX0_ownerOf zN 6 0 S = some (6, S) := rfl
theorem own70 (S : zSt) : fX0_ownerOf zN 7 0 S = some (7, S) := rfl
theorem own01 (S : zSt) : fX0_ownerOf zN 0 1 S = some (0, S) := rfl
theorem own11 (S : zSt) : fX0_ownerOf zN 1 1 S = some (0, S) := rfl
theorem own21 (S : zSt) : fX0_ownerOf zN 2 1 S = some (2, S) := rfl
theorem own31 (S : zSt) : fX0_ownerOf zN 3 1 S = some (3, S) := rfl
theorem own41 (S : zSt) : fX0_ownerOf zN 4 1 S = some (0, S) := rfl
theorem own51 (S : zSt) : fX0_ownerOf zN 5 1 S = some (0, S) := rfl
theorem own61 (S : zSt) : fX0_ownerOf zN 6 1 S = some (0, S) := rfl
theorem own71 (S : zSt) : fX0_ownerOf zN 7 1 S = some (7, S) := rfl
theorem own02 (S : zSt) : fX0_ownerOf zN 0 2 S = some (0, S) := rfl
theorem own12 (S : zSt) : fX0_ownerOf zN 1 2 S = some (0, S) := rfl
theorem own22 (S : zSt) : fX0_ownerOf zN 2 2 S = some (0, S) := rfl
theorem own32 (S : zSt) : fX0_ownerOf zN 3 2 S = some (3, S) := rfl
theorem own42 (S : zSt) : fX0_ownerOf zN 4 2 S = some (0, S) := rfl
theorem own52 (S : zSt) : fX0_ownerOf zN 5 2 S = some (5, S) := rfl
theorem own62 (S : zSt) : fX0_ownerOf zN 6 2 S = some (0, S) := rfl
theorem own72 (S : zSt) : fX0_ownerOf zN 7 2 S = some (0, S) := rfl
theorem own03 (S : zSt) : fX0_ownerOf zN 0 3 S = some (0, S) := rfl
theorem own13 (S : zSt) : fX0_ownerOf zN 1 3 S = some (0, S) := rfl
theorem own23 (S : zSt) : fX0_ownerOf zN 2 3 S = some (0, S) := rfl
theorem own33 (S : zSt) : fX0_ownerOf zN 3 3 S = some (0, S) := rfl
theorem own43 (S : zSt) : fX0_ownerOf zN 4 3 S = some (4, S) := rfl
theorem own53 (S : zSt) : fX0_ownerOf zN 5 3 S = some (5, S) := rfl
theorem own63 (S : zSt) : fX0_ownerOf zN 6 3 S = some (0, S) := rfl
theorem own73 (S : zSt) : fX0_ownerOf zN 7 3 S = some (0, S) := rfl
