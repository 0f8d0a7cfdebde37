-- act: the bodies
theorem zEA_i {SX0 SR0 : zSt} {kd b : Int32} {k c : Nat} {X R : Option (Int32 × zSt)} (h : zEA SX0 SR0 kd b k c X R) : zEA SX0 SR0 kd b k c X (zB R fun r S => some (r, S)) := by
  obtain ⟨r, SX1, SR1, k1, a1, a2, a3, a4⟩ := h
  exact ⟨r, SX1, SR1, k1, a1, by rw [a2, zB_some], a3, a4⟩
theorem zEA_ii {SX0 SR0 : zSt} {kd b : Int32} {k c : Nat} {X R : Option (Int32 × zSt)} (h : zEA SX0 SR0 kd b k c X R) : zEA SX0 SR0 kd b k c (zB X fun r S => some (r, S)) (zB R fun r S => some (r, S)) := by
  obtain ⟨r, SX1, SR1, k1, a1, a2, a3, a4⟩ := h
  exact ⟨r, SX1, SR1, k1, by rw [a1, zB_some], by rw [a2, zB_some], a3, a4⟩
theorem x_run0 {SX0 SR0 : zSt} {kd b : Int32} {k : Nat} {SX SR : zSt} (h : zAC SX0 SR0 kd b k SX SR) (G : (Int32 → Int32 → Int32 → Int32 → zSt → Option (Int32 × zSt)) × (Int32 → Int32 → Int32 → Int32 → zSt → Option (Int32 × zSt))) (ab x dp : Int32) :
    fX0_run_o G zN 70 ab x dp SX = (zB (G.1 ab 0 x dp SX) fun r S => some (r * 2, S)) ∧
    fX0_run_o G zN 20 ab x dp SX = (zB (G.1 ab 0 x dp SX) fun r S => some (r + 3, S)) ∧
    fX0_run_o G zN 81 ab x dp SX = (zB (G.1 ab 0 x dp SX) fun r S => some (r - 1, S)) ∧
    fX0_run_o G zN 10 ab x dp SX = (zB (G.1 kd 0 x dp SX) fun r S => some (r * 2, S)) ∧
    fX0_run_o G zN 30 ab x dp SX = (zB (G.1 ab 1 x dp SX) fun r S => some (-r, S)) ∧
    fX0_run_o G zN 41 ab x dp SX = (zB (G.1 ab 1 (x + 1) dp SX) fun r S => some (r, S)) ∧
    fX0_run_o G zN 80 ab x dp SX = (zB (G.1 ab 1 x dp SX) fun r S => zB (G.1 kd 2 2 dp S) fun r2 S2 => some (r + r2, S2)) ∧
    fX0_run_o G zN 11 ab x dp SX = some (x ^^^ b, SX) ∧
    fX0_run_o G zN 40 ab x dp SX = (zB (G.1 ab 2 x dp SX) fun r S => some (r * 3, S)) ∧
    fX0_run_o G zN 60 ab x dp SX = (zB (G.1 ab 2 x dp SX) fun r S => zB (G.1 kd 0 2 dp S) fun r2 S2 => some (r - r2, S2)) ∧
    fX0_run_o G zN 2 ab x dp SX = (zB (G.1 kd 1 x dp SX) fun r S => zB (G.1 kd 2 1 dp S) fun r2 S2 => some (r - r2, S2)) ∧
    fX0_run_o G zN 50 ab x dp SX = (zB (G.1 ab 3 x dp SX) fun r S => some (r ^^^ 5, S)) ∧
    fX0_run_o G zN 61 ab x dp SX = (zB (G.1 ab 3 x dp SX) fun r S => some (r + 1, S)) := by
  unfold fX0_run_o
  rw [x_kind h]
  refine ⟨rfl, rfl, rfl, rfl, rfl, rfl, rfl, ?_, rfl, rfl, rfl, rfl, rfl⟩
  show some (x ^^^ SX.1 104, SX) = _
  rw [h.1.1]
theorem t_packed {SX0 SR0 : zSt} {kd b : Int32} {k : Nat} {SX SR : zSt} (h : zAC SX0 SR0 kd b k SX SR) (hk1 : k < 890) {kf : Int32} (hown : ∀ S, fX0_ownerOf zN kf 0 S = some (6, S)) {dp : Nat} (hd : dp < 19) (n : Nat) (x : Int32) :
    zEA SX0 SR0 kd b k 2 (fX0_call zN (n + 4) kf 0 x (Int32.ofNat dp) SX) (fX12_packedStands b x SR) :=
  e_call (B := 70) (ab := 0) h (by omega) hown rfl (by decide) rfl (by decide) rfl (by omega) (n + 3) x (fun SX1 SR1 h1 => zEA_X (zEA_f (t_pstands h1 (by omega) own00 (by omega) n x) (fun r => r * 2)) (x_run0 h1 (zGXb zN (n + 2)) 0 x _).1)
theorem t_standing {SX0 SR0 : zSt} {kd b : Int32} {k : Nat} {SX SR : zSt} (h : zAC SX0 SR0 kd b k SX SR) (hk : 0 ≤ kd ∧ kd ≤ 7) (hk1 : k < 880) {dp : Nat} (hd : dp < 18) (n : Nat) (x : Int32) :
    zEA SX0 SR0 kd b k 3 (fX0_call zN (n + 6) kd 0 x (Int32.ofNat dp) SX) (fX12_standing b x SR) := by
  have z := h.1.2.2.2
  have e := h.2.2.1
  have plain : (∀ S, fX0_ownerOf zN kd 0 S = some (0, S)) → fX12_standing b x SR = (zB (fX12_plainStands b x SR) fun r S => some (r, S)) → zEA SX0 SR0 kd b k 3 (fX0_call zN (n + 6) kd 0 x (Int32.ofNat dp) SX) (fX12_standing b x SR) := fun ho he =>
    zEA_R (zEA_c (zEA_i (t_pstands h (by omega) ho (by omega) (n + 4) x)) (by omega)) he
  have alone : (∀ S, fX0_ownerOf zN kd 0 S = some (1, S)) → fX12_standing b x SR = (zU (fX12_ran 20 SR) fun S2 => zB (fX12_plainStands b x S2) fun r S => some (r + 3, S)) → zEA SX0 SR0 kd b k 3 (fX0_call zN (n + 6) kd 0 x (Int32.ofNat dp) SX) (fX12_standing b x SR) := fun ho he =>
    zEA_R (zEA_c (e_call (B := 20) (ab := 0) h (by omega) ho rfl (by decide) rfl (by decide) rfl (by omega) (n + 5) x (fun SX1 SR1 h1 => zEA_X (zEA_f (t_pstands h1 (by omega) own00 (by omega) (n + 2) x) (fun r => r + 3)) (x_run0 h1 (zGXb zN (n + 4)) 0 x _).2.1)) (by omega)) he
  obtain ⟨j, j7, ej⟩ := zo_exle (k := 7) hk.1 (by decide) hk.2
  have j8 : j = 0 ∨ j = 1 ∨ j = 2 ∨ j = 3 ∨ j = 4 ∨ j = 5 ∨ j = 6 ∨ j = 7 := by omega
  unfold fX12_standing at plain alone ⊢
  simp only [if_pos z, e] at plain alone ⊢
  rcases j8 with rfl | rfl | rfl | rfl | rfl | rfl | rfl | rfl <;> subst ej
  · exact plain own00 rfl
  · exact alone own10 rfl
  · exact plain own20 rfl
  · exact plain own30 rfl
  · exact alone own40 rfl
  · exact alone own50 rfl
  · exact zEA_c (zEA_i (t_packed h (by omega) own60 (by omega) (n + 2) x)) (by omega)
  · exact zEA_c (e_call (B := 81) (ab := 6) h (by omega) own70 rfl (by decide) rfl (by decide) rfl (by omega) (n + 5) x (fun SX1 SR1 h1 => zEA_X (zEA_f (t_packed h1 (by omega) own60 (by omega) n x) (fun r => r - 1)) (x_run0 h1 (zGXb zN (n + 4)) 6 x _).2.2.1)) (by omega)
theorem t_psteps {SX0 SR0 : zSt} {kd b : Int32} {k : Nat} {SX SR : zSt} (h : zAC SX0 SR0 kd b k SX SR) (hkd : 0 ≤ kd ∧ kd ≤ 7) (hk1 : k < 870) {kf : Int32} (hown : ∀ S, fX0_ownerOf zN kf 1 S = some (0, S)) {dp : Nat} (hd : dp < 17) (n : Nat) (x : Int32) :
    zEA SX0 SR0 kd b k 4 (fX0_call zN (n + 8) kf 1 x (Int32.ofNat dp) SX) (fX12_plainSteps b x SR) :=
  e_call (B := 10) (ab := -1) h (by omega) hown rfl (by decide) rfl (by decide) rfl (by omega) (n + 7) x (fun SX1 SR1 h1 => zEA_X (zEA_f (t_standing h1 hkd (by omega) (by omega) n x) (fun r => r * 2)) (x_run0 h1 (zGXb zN (n + 6)) (-1) x _).2.2.2.1)
theorem t_rowed {SX0 SR0 : zSt} {kd b : Int32} {k : Nat} {SX SR : zSt} (h : zAC SX0 SR0 kd b k SX SR) (hkd : 0 ≤ kd ∧ kd ≤ 7) (hk1 : k < 860) {kf : Int32} (hown : ∀ S, fX0_ownerOf zN kf 1 S = some (2, S)) {dp : Nat} (hd : dp < 16) (n : Nat) (x : Int32) :
    zEA SX0 SR0 kd b k 5 (fX0_call zN (n + 10) kf 1 x (Int32.ofNat dp) SX) (fX12_rowedSteps b x SR) :=
  e_call (B := 30) (ab := 0) h (by omega) hown rfl (by decide) rfl (by decide) rfl (by omega) (n + 9) x (fun SX1 SR1 h1 => zEA_X (zEA_f (t_psteps h1 hkd (by omega) own01 (by omega) n x) (fun r => -r)) (x_run0 h1 (zGXb zN (n + 8)) 0 x _).2.2.2.2.1)
theorem t_psweeps {SX0 SR0 : zSt} {kd b : Int32} {k : Nat} {SX SR : zSt} (h : zAC SX0 SR0 kd b k SX SR) (hk1 : k < 900) {kf : Int32} (hown : ∀ S, fX0_ownerOf zN kf 2 S = some (0, S)) {dp : Nat} (hd : dp < 20) (n : Nat) (x : Int32) :
    zEA SX0 SR0 kd b k 1 (fX0_call zN (n + 2) kf 2 x (Int32.ofNat dp) SX) (fX12_plainSweeps b x SR) :=
  e_call (B := 11) (ab := -1) h hk1 hown rfl (by decide) rfl (by decide) rfl (by omega) (n + 1) x (fun SX1 SR1 h1 => zEA_X ⟨x ^^^ b, SX1, SR1, k + 1, rfl, rfl, Nat.le_refl _, h1⟩ (x_run0 h1 (zGXb zN n) (-1) x _).2.2.2.2.2.2.2.1)
theorem t_sweeps {SX0 SR0 : zSt} {kd b : Int32} {k : Nat} {SX SR : zSt} (h : zAC SX0 SR0 kd b k SX SR) (hk : 0 ≤ kd ∧ kd ≤ 7) (hk1 : k < 850) {dp : Nat} (hd : dp < 17) (n : Nat) (x : Int32) :
    zEA SX0 SR0 kd b k 5 (fX0_call zN (n + 8) kd 2 x (Int32.ofNat dp) SX) (fX12_sweeps b x SR) := by
  have z := h.1.2.2.2
  have e := h.2.2.1
  have plain : (∀ S, fX0_ownerOf zN kd 2 S = some (0, S)) → fX12_sweeps b x SR = (zB (fX12_plainSweeps b x SR) fun r S => some (r, S)) → zEA SX0 SR0 kd b k 5 (fX0_call zN (n + 8) kd 2 x (Int32.ofNat dp) SX) (fX12_sweeps b x SR) := fun ho he =>
    zEA_R (zEA_c (zEA_i (t_psweeps h (by omega) ho (by omega) (n + 6) x)) (by omega)) he
  obtain ⟨j, j7, ej⟩ := zo_exle (k := 7) hk.1 (by decide) hk.2
  have j8 : j = 0 ∨ j = 1 ∨ j = 2 ∨ j = 3 ∨ j = 4 ∨ j = 5 ∨ j = 6 ∨ j = 7 := by omega
  unfold fX12_sweeps at plain ⊢
  simp only [if_pos z, e] at plain ⊢
  rcases j8 with rfl | rfl | rfl | rfl | rfl | rfl | rfl | rfl <;> subst ej
  · exact plain own02 rfl
  · exact plain own12 rfl
  · exact plain own22 rfl
  · exact zEA_c (e_call (B := 40) (ab := 2) h (by omega) own32 rfl (by decide) rfl (by decide) rfl (by omega) (n + 7) x (fun SX1 SR1 h1 => zEA_X (zEA_f (t_psweeps h1 (by omega) own22 (by omega) (n + 4) x) (fun r => r * 3)) (x_run0 h1 (zGXb zN (n + 6)) 2 x _).2.2.2.2.2.2.2.2.1)) (by omega)
  · exact plain own42 rfl
  · exact zEA_c (e_call (B := 60) (ab := 4) h (by omega) own52 rfl (by decide) rfl (by decide) rfl (by omega) (n + 7) x (fun SX1 SR1 h1 => zEA_X (zEA_2 (t_psweeps h1 (by omega) own42 (by omega) (n + 4) x) (fun SX2 SR2 k2 hk2 h2 => t_standing h2 hk (by omega) (by omega) n 2) (fun r r2 => r - r2)) (x_run0 h1 (zGXb zN (n + 6)) 4 x _).2.2.2.2.2.2.2.2.2.1)) (by omega)
  · exact plain own62 rfl
  · exact plain own72 rfl
theorem t_steps {SX0 SR0 : zSt} {kd b : Int32} {k : Nat} {SX SR : zSt} (h : zAC SX0 SR0 kd b k SX SR) (hk : 0 ≤ kd ∧ kd ≤ 7) (hk1 : k < 840) {dp : Nat} (hd : dp < 15) (n : Nat) (x : Int32) :
    zEA SX0 SR0 kd b k 10 (fX0_call zN (n + 12) kd 1 x (Int32.ofNat dp) SX) (fX12_steps b x SR) := by
  have z := h.1.2.2.2
  have e := h.2.2.1
  have plain : (∀ S, fX0_ownerOf zN kd 1 S = some (0, S)) → fX12_steps b x SR = (zB (fX12_plainSteps b x SR) fun r S => some (r, S)) → zEA SX0 SR0 kd b k 10 (fX0_call zN (n + 12) kd 1 x (Int32.ofNat dp) SX) (fX12_steps b x SR) := fun ho he =>
    zEA_R (zEA_c (zEA_i (t_psteps h hk (by omega) ho (by omega) (n + 4) x)) (by omega)) he
  obtain ⟨j, j7, ej⟩ := zo_exle (k := 7) hk.1 (by decide) hk.2
  have j8 : j = 0 ∨ j = 1 ∨ j = 2 ∨ j = 3 ∨ j = 4 ∨ j = 5 ∨ j = 6 ∨ j = 7 := by omega
  unfold fX12_steps at plain ⊢
  simp only [if_pos z, e] at plain ⊢
  rcases j8 with rfl | rfl | rfl | rfl | rfl | rfl | rfl | rfl <;> subst ej
  · exact plain own01 rfl
  · exact plain own11 rfl
  · exact zEA_c (zEA_i (t_rowed h hk (by omega) own21 (by omega) (n + 2) x)) (by omega)
  · exact zEA_c (e_call (B := 41) (ab := 2) h (by omega) own31 rfl (by decide) rfl (by decide) rfl (by omega) (n + 11) x (fun SX1 SR1 h1 => zEA_X (zEA_ii (t_rowed h1 hk (by omega) own21 (by omega) n (x + 1))) (x_run0 h1 (zGXb zN (n + 10)) 2 x _).2.2.2.2.2.1)) (by omega)
  · exact plain own41 rfl
  · exact plain own51 rfl
  · exact plain own61 rfl
  · exact zEA_c (e_call (B := 80) (ab := 6) h (by omega) own71 rfl (by decide) rfl (by decide) rfl (by omega) (n + 11) x (fun SX1 SR1 h1 => zEA_X (zEA_2 (t_psteps h1 hk (by omega) own61 (by omega) (n + 2) x) (fun SX2 SR2 k2 hk2 h2 => t_sweeps h2 hk (by omega) (by omega) (n + 2) 2) (fun r r2 => r + r2)) (x_run0 h1 (zGXb zN (n + 10)) 6 x _).2.2.2.2.2.2.1)) (by omega)
theorem t_psinks {SX0 SR0 : zSt} {kd b : Int32} {k : Nat} {SX SR : zSt} (h : zAC SX0 SR0 kd b k SX SR) (hk : 0 ≤ kd ∧ kd ≤ 7) (hk1 : k < 820) {kf : Int32} (hown : ∀ S, fX0_ownerOf zN kf 3 S = some (0, S)) {dp : Nat} (hd : dp < 14) (n : Nat) (x : Int32) :
    zEA SX0 SR0 kd b k 16 (fX0_call zN (n + 14) kf 3 x (Int32.ofNat dp) SX) (fX12_plainSinks b x SR) :=
  e_call (B := 2) (ab := -1) h (by omega) hown rfl (by decide) rfl (by decide) rfl (by omega) (n + 13) x (fun SX1 SR1 h1 => zEA_X (zEA_2 (t_steps h1 hk (by omega) (by omega) n x) (fun SX2 SR2 k2 hk2 h2 => t_sweeps h2 hk (by omega) (by omega) (n + 4) 1) (fun r r2 => r - r2)) (x_run0 h1 (zGXb zN (n + 12)) (-1) x _).2.2.2.2.2.2.2.2.2.2.1)
theorem t_lined {SX0 SR0 : zSt} {kd b : Int32} {k : Nat} {SX SR : zSt} (h : zAC SX0 SR0 kd b k SX SR) (hk : 0 ≤ kd ∧ kd ≤ 7) (hk1 : k < 810) {kf : Int32} (hown : ∀ S, fX0_ownerOf zN kf 3 S = some (4, S)) {dp : Nat} (hd : dp < 13) (n : Nat) (x : Int32) :
    zEA SX0 SR0 kd b k 17 (fX0_call zN (n + 16) kf 3 x (Int32.ofNat dp) SX) (fX12_linedSinks b x SR) :=
  e_call (B := 50) (ab := 1) h (by omega) hown rfl (by decide) rfl (by decide) rfl (by omega) (n + 15) x (fun SX1 SR1 h1 => zEA_X (zEA_f (t_psinks h1 hk (by omega) own13 (by omega) n x) (fun r => r ^^^ 5)) (x_run0 h1 (zGXb zN (n + 14)) 1 x _).2.2.2.2.2.2.2.2.2.2.2.1)
theorem t_sinks {SX0 SR0 : zSt} {kd b : Int32} {k : Nat} {SX SR : zSt} (h : zAC SX0 SR0 kd b k SX SR) (hk : 0 ≤ kd ∧ kd ≤ 7) (hk1 : k < 800) {dp : Nat} (hd : dp < 12) (n : Nat) (x : Int32) :
    zEA SX0 SR0 kd b k 18 (fX0_call zN (n + 18) kd 3 x (Int32.ofNat dp) SX) (fX12_sinks b x SR) := by
  have z := h.1.2.2.2
  have e := h.2.2.1
  have plain : (∀ S, fX0_ownerOf zN kd 3 S = some (0, S)) → fX12_sinks b x SR = (zB (fX12_plainSinks b x SR) fun r S => some (r, S)) → zEA SX0 SR0 kd b k 18 (fX0_call zN (n + 18) kd 3 x (Int32.ofNat dp) SX) (fX12_sinks b x SR) := fun ho he =>
    zEA_R (zEA_c (zEA_i (t_psinks h hk (by omega) ho (by omega) (n + 4) x)) (by omega)) he
  obtain ⟨j, j7, ej⟩ := zo_exle (k := 7) hk.1 (by decide) hk.2
  have j8 : j = 0 ∨ j = 1 ∨ j = 2 ∨ j = 3 ∨ j = 4 ∨ j = 5 ∨ j = 6 ∨ j = 7 := by omega
  unfold fX12_sinks at plain ⊢
  simp only [if_pos z, e] at plain ⊢
  rcases j8 with rfl | rfl | rfl | rfl | rfl | rfl | rfl | rfl <;> subst ej
  · exact plain own03 rfl
  · exact plain own13 rfl
  · exact plain own23 rfl
  · exact plain own33 rfl
  · exact zEA_c (zEA_i (t_lined h hk (by omega) own43 (by omega) (n + 2) x)) (by omega)
  · exact e_call (B := 61) (ab := 4) h (by omega) own53 rfl (by decide) rfl (by decide) rfl (by omega) (n + 17) x (fun SX1 SR1 h1 => zEA_X (zEA_f (t_lined h1 hk (by omega) own43 (by omega) n x) (fun r => r + 1)) (x_run0 h1 (zGXb zN (n + 16)) 4 x _).2.2.2.2.2.2.2.2.2.2.2.2)
  · exact plain own63 rfl
  · exact plain own73 rfl
theorem zRel_tr {SX SR SX1 SR1 : zSt} (hR : zRel SX SR) (k : zKeep [103, 104] [101] SX SX1) (k2 : zKeep [42] [43] SR SR1) (h : rTrace (SX1.1 103) (SR1.1 42) (SX1.2.1 101) (SR1.2.1 43)) : zRel SX1 SR1 := by
  obtain ⟨hT, hP, hPe, hS, hL, hN, hB, hTr, hSh, hC, hG⟩ := hR
  have i1 := fun j (hj : j ∉ [103, 104]) => k.1 j hj
  have a1 := fun d (hd : d ∉ [101]) => k.2.1 d hd
  have i2 := fun j (hj : j ∉ [42]) => k2.1 j hj
  have a2 := fun d (hd : d ∉ [43]) => k2.2.1 d hd
  unfold zRel
  rw [i1 1101 (by decide), i1 1102 (by decide), i1 904 (by decide), i1 801 (by decide), i1 506 (by decide), i1 507 (by decide), i1 508 (by decide), i1 505 (by decide), i1 602 (by decide), i1 102 (by decide), i1 205 (by decide), i1 206 (by decide),
    a1 1100 (by decide), a1 902 (by decide), a1 903 (by decide), a1 502 (by decide), a1 5010 (by decide), a1 5011 (by decide), a1 5012 (by decide), a1 5013 (by decide), a1 600 (by decide), a1 601 (by decide), a1 100 (by decide), a1 1000 (by decide), a1 1001 (by decide), a1 1002 (by decide), a1 202 (by decide), a1 203 (by decide), a1 204 (by decide), a1 800 (by decide), a1 901 (by decide), k.2.2,
    i2 2 (by decide), i2 3 (by decide), i2 28 (by decide), i2 26 (by decide), i2 27 (by decide), i2 25 (by decide), i2 24 (by decide), i2 37 (by decide), i2 40 (by decide), i2 7 (by decide), i2 8 (by decide),
    a2 1 (by decide), a2 4 (by decide), a2 5 (by decide), a2 6 (by decide), a2 29 (by decide), a2 30 (by decide), a2 31 (by decide), a2 32 (by decide), a2 17 (by decide), a2 18 (by decide), a2 19 (by decide), a2 20 (by decide), a2 21 (by decide), a2 38 (by decide), a2 39 (by decide), a2 41 (by decide), a2 44 (by decide), a2 45 (by decide), a2 9 (by decide), a2 10 (by decide), a2 11 (by decide), a2 12 (by decide), a2 35 (by decide), k2.2.2]
  exact ⟨hT, hP, hPe, hS, hL, hN, hB, h, hSh, hC, hG⟩
theorem zact1 {a n : Int32} (h : a < n) (h2 : n ≤ 50) : a < 50 := by grind
theorem zact2 {a : Int32} (h : a ≤ 3) : a < 4 := by grind
theorem zact3 {a : Int32} (h : a < 4) : a ≤ 3 := by grind
theorem zBB {X : Option (Int32 × zSt)} : (zB (zB X fun r12 S13 => some (r12, S13)) fun r1 S2 => some (r1, S2)) = zB X fun r12 S13 => some (r12, S13) := by
  cases X with
  | none => rfl
  | some x => rfl
theorem q_act {SX SR : zSt} (hRel : zRel SX SR) (p1 p2 p3 : Int32) : zEq (fX11_act zN p1 p2 p3 SX) (fX12_act p1 p2 p3 SR) := by
  obtain ⟨b1, b2, b3, b4⟩ := hRel.2.2.2.2.2.2.1
  have k1 := zK_I SX 103 0
  have k2 := zK_I SR 42 0
  have hR0 : zRel (zI SX 103 0) (zI SR 42 0) := zRel_tr hRel (zK_mono k1 (by simp) (by simp)) (zK_mono k2 (by simp) (by simp)) ⟨by rw [zI_self, zI_self], by rw [zI_self]; decide, by rw [zI_self]; decide, fun i i0 i1 => by rw [zI_self] at i1; exact absurd i0 (Int32.not_le.mpr i1)⟩
  unfold fX11_act fX12_act fX0_start
  rw [zL_def, zL_def, e_has0, e_isBody _ (zI SR 42 0) (show (0 : Int32) ≤ (zI SR 42 0).1 40 from b1 ▸ b2), zB_some, zB_some, show (zI SX 103 0).1 102 = SX.1 102 from rfl, show (zI SR 42 0).1 40 = SR.1 40 from rfl, ← b1]
  by_cases c : 0 ≤ p1 ∧ p1 < SX.1 102
  · rw [if_pos c, if_neg zn10, if_neg zn10, e_in, zU_some]
    by_cases d : 0 ≤ p2 ∧ p2 ≤ 3
    · have z50 : zin p1 50 := zin_of (k := 50) rfl (by decide) c.1 (zact1 c.2 b3)
      obtain ⟨c1, c2, c3⟩ := b4 p1 c.1 c.2
      have d1 : ¬ p2 < 0 := Int32.not_lt.mpr d.1
      have d2 : p2 < 4 := zact2 d.2
      have hA : zAC SX SR (SX.2.1 100 (Int32.toNatClampNeg p1)) p1 0 (zI (zI SX 103 0) 104 p1) (zI SR 42 0) :=
        ⟨⟨zI_self _ _ _, c.1, c.2, z50⟩, rfl, c1.symm, by rw [zI_ne _ _ (by decide)]; exact zI_self _ _ _, zI_self _ _ _, fun i _ hi => absurd hi (by omega), zK_mono (zK_trans (zK_I SX 103 0) (zK_I _ 104 p1)) (by simp) (by simp), zK_mono k2 (by simp) (by simp)⟩
      have hk := x_kind hA
      rw [show (zI (zI SX 103 0) 104 p1).1 104 = p1 from zI_self _ _ _] at hk
      have fin : ∀ X R : Option (Int32 × zSt), zEA SX SR (SX.2.1 100 (Int32.toNatClampNeg p1)) p1 0 18 X R → zEq (zB X fun r12 S13 => some (r12, S13)) (zB R fun r S => some (r, S)) := fun X R h => by
        obtain ⟨r, SX1, SR1, k, rfl, rfl, hk, hA1⟩ := h
        obtain ⟨f1, f2, f3, f4, f5, f6, f7, f8⟩ := hA1
        refine zEq_i rfl (zRel_tr hRel f7 f8 ⟨by rw [f4, f5], by rw [f4]; exact zo_0 (by omega), by rw [f4]; show Int32.ofNat k ≤ Int32.ofNat 100; rw [zo_le (by omega) (by omega)]; omega, fun i i0 i1 i2 => ?_⟩)
        obtain ⟨j, hj, rfl⟩ := zo_exlt (k := 24) i0 (by decide) i2
        rw [f4, zo_lt (by omega) (by omega)] at i1
        rw [zo_t (by omega)]
        exact f6 j hj i1
      rw [if_pos d, if_neg d1, if_pos d2, if_neg zn10, zL_def, hk, zB_some]
      rw [zBB]
      obtain ⟨j, j3, ej⟩ := zo_exle (k := 3) d.1 (by decide) d.2
      have j4 : j = 0 ∨ j = 1 ∨ j = 2 ∨ j = 3 := by omega
      rcases j4 with rfl | rfl | rfl | rfl <;> subst ej
      · exact fin _ _ (zEA_c (t_standing hA ⟨c2, c3⟩ (by decide) (by decide) 94 p3) (by omega))
      · exact fin _ _ (zEA_c (t_steps hA ⟨c2, c3⟩ (by decide) (by decide) 88 p3) (by omega))
      · exact fin _ _ (zEA_c (t_sweeps hA ⟨c2, c3⟩ (by decide) (by decide) 92 p3) (by omega))
      · exact fin _ _ (zEA_c (t_sinks hA ⟨c2, c3⟩ (by decide) (by decide) 82 p3) (by omega))
    · rw [if_neg d, if_pos zn00]
      by_cases d1 : p2 < 0
      · rw [if_pos d1, zB_some]
        exact zEq_i rfl hR0
      · have d2 : ¬ p2 < 4 := fun x => d ⟨Int32.not_lt.mp d1, zact3 x⟩
        rw [if_neg d1, if_neg d2, zB_some]
        exact zEq_i rfl hR0
  · rw [if_neg c, if_pos zn00, if_pos zn00, zB_some]
    exact zEq_i rfl hR0
