-- an expression, to the depth of six
theorem gx_c (n : Nat) (l p : Int32) (S : zSt) : (zGXr zN (n + 1)).1 l p S = fX3_readChain_o (zGXr zN n) zN l p S := rfl
theorem gx_p (n : Nat) (l p : Int32) (S : zSt) : (zGXr zN (n + 1)).2.1 l p S = fX3_readPart_o (zGXr zN n) zN l p S := rfl
theorem gx_o (n : Nat) (p : Int32) (S : zSt) : (zGXr zN (n + 1)).2.2.1 p S = fX3_readOperand_o (zGXr zN n) zN p S := rfl
theorem gx_s (n : Nat) (l p : Int32) (S : zSt) : (zGXr zN (n + 1)).2.2.2 l p S = fX3_readSigned_o (zGXr zN n) zN l p S := rfl
theorem gl_o (n : Nat) (S : zSt) : (zGR zN (n + 1)).1 S = fX12_operand_o (zGR zN n) zN S := rfl
theorem gl_4 (n : Nat) (S : zSt) : (zGR zN (n + 1)).2.1 S = fX12_product_o (zGR zN n) zN S := rfl
theorem gl_3 (n : Nat) (S : zSt) : (zGR zN (n + 1)).2.2.1 S = fX12_sum_o (zGR zN n) zN S := rfl
theorem gl_2 (n : Nat) (S : zSt) : (zGR zN (n + 1)).2.2.2.1 S = fX12_compared_o (zGR zN n) zN S := rfl
theorem gl_1 (n : Nat) (S : zSt) : (zGR zN (n + 1)).2.2.2.2.1 S = fX12_both_o (zGR zN n) zN S := rfl
theorem gl_0 (n : Nat) (S : zSt) : (zGR zN (n + 1)).2.2.2.2.2 S = fX12_either_o (zGR zN n) zN S := rfl
theorem zCL_e {f g : Nat → Int32} {t o : Nat} {X X2 : zSt → Option (Int32 × zSt)} {R R2 : zSt → Option zSt} (h : zCL f g t o X R) (e : ∀ S, X2 S = X S) (e2 : ∀ S, R2 S = R S) : zCL f g t o X2 R2 := by
  intro a m L SX SR ha hm hL hP
  exact zOut_R (h a m L SX SR ha hm hL hP) (e SX) (e2 SR)
theorem e_part {f g : Nat → Int32} {t o : Nat} {l : Int32} (hl : l ≤ 4) {n : Nat} {R : zSt → Option zSt} (h : zCL f g t o (fun S => (zGXr zN n).1 l (Int32.ofNat o) S) R) : zCL f g t o (fun S => (zGXr zN (n + 1)).2.1 l (Int32.ofNat o) S) R :=
  zCL_bit h (fun S => by
    rw [gx_p]
    unfold fX3_readPart_o
    rw [if_pos hl])
theorem e_part5 {f g : Nat → Int32} {t o : Nat} {n : Nat} {R : zSt → Option zSt} (h : zCL f g t o (fun S => (zGXr zN n).2.2.1 (Int32.ofNat o) S) R) : zCL f g t o (fun S => (zGXr zN (n + 1)).2.1 5 (Int32.ofNat o) S) R :=
  zCL_bit h (fun S => by
    rw [gx_p]
    unfold fX3_readPart_o
    rw [if_neg (show ¬ (5 : Int32) ≤ 4 by decide)])
theorem e_c4 {f g : Nat → Int32} {t : Nat} (hz : zTz f g t) {o n m : Nat} (h : zCL f g t o (fun S => (zGXr zN n).2.2.1 (Int32.ofNat o) S) (fun S => (zGR zN m).1 S)) : zCL f g t o (fun S => (zGXr zN (n + 2)).1 4 (Int32.ofNat o) S) (fun S => (zGR zN (m + 1)).2.1 S) :=
  zCL_e (e_chain hz (zGXr zN (n + 1)) (l := 4) (XP := fun S => (zGXr zN (n + 1)).2.1 5 (Int32.ofNat o) S) (fun S => by rw [show (4 : Int32) + 1 = 5 from rfl]) (e_part5 h) (rl_product hz (zGR zN m)) (by decide) (by decide)) (fun S => gx_c _ _ _ S) (fun S => by rw [gl_4]; unfold fX12_product_o; rfl)
theorem e_c3 {f g : Nat → Int32} {t : Nat} (hz : zTz f g t) {o n m : Nat} (h : zCL f g t o (fun S => (zGXr zN n).1 4 (Int32.ofNat o) S) (fun S => (zGR zN m).2.1 S)) : zCL f g t o (fun S => (zGXr zN (n + 2)).1 3 (Int32.ofNat o) S) (fun S => (zGR zN (m + 1)).2.2.1 S) :=
  zCL_e (e_chain hz (zGXr zN (n + 1)) (l := 3) (XP := fun S => (zGXr zN (n + 1)).2.1 4 (Int32.ofNat o) S) (fun S => by rw [show (3 : Int32) + 1 = 4 from rfl]) (e_part (by decide) h) (rl_sum hz (zGR zN m)) (by decide) (by decide)) (fun S => gx_c _ _ _ S) (fun S => by rw [gl_3]; unfold fX12_sum_o; rfl)
theorem e_c2 {f g : Nat → Int32} {t : Nat} (hz : zTz f g t) {o n m : Nat} (h : zCL f g t o (fun S => (zGXr zN n).1 3 (Int32.ofNat o) S) (fun S => (zGR zN m).2.2.1 S)) : zCL f g t o (fun S => (zGXr zN (n + 2)).1 2 (Int32.ofNat o) S) (fun S => (zGR zN (m + 1)).2.2.2.1 S) :=
  zCL_e (e_compared hz (zGXr zN (n + 1)) (zGR zN m) (XP := fun S => (zGXr zN (n + 1)).2.1 3 (Int32.ofNat o) S) (fun S => rfl) (e_part (by decide) h)) (fun S => gx_c _ _ _ S) (fun S => gl_2 _ S)
theorem e_c1 {f g : Nat → Int32} {t : Nat} (hz : zTz f g t) {o n m : Nat} (h : zCL f g t o (fun S => (zGXr zN n).1 2 (Int32.ofNat o) S) (fun S => (zGR zN m).2.2.2.1 S)) : zCL f g t o (fun S => (zGXr zN (n + 2)).1 1 (Int32.ofNat o) S) (fun S => (zGR zN (m + 1)).2.2.2.2.1 S) :=
  zCL_e (e_chain hz (zGXr zN (n + 1)) (l := 1) (XP := fun S => (zGXr zN (n + 1)).2.1 2 (Int32.ofNat o) S) (fun S => by rw [show (1 : Int32) + 1 = 2 from rfl]) (e_part (by decide) h) (rl_both hz (zGR zN m)) (by decide) (by decide)) (fun S => gx_c _ _ _ S) (fun S => by rw [gl_1]; unfold fX12_both_o; rfl)
theorem e_c0 {f g : Nat → Int32} {t : Nat} (hz : zTz f g t) {o n m : Nat} (h : zCL f g t o (fun S => (zGXr zN n).1 1 (Int32.ofNat o) S) (fun S => (zGR zN m).2.2.2.2.1 S)) : zCL f g t o (fun S => (zGXr zN (n + 2)).1 0 (Int32.ofNat o) S) (fun S => (zGR zN (m + 1)).2.2.2.2.2 S) :=
  zCL_e (e_chain hz (zGXr zN (n + 1)) (l := 0) (XP := fun S => (zGXr zN (n + 1)).2.1 1 (Int32.ofNat o) S) (fun S => by rw [show (0 : Int32) + 1 = 1 from rfl]) (e_part (by decide) h) (rl_either hz (zGR zN m)) (by decide) (by decide)) (fun S => gx_c _ _ _ S) (fun S => by rw [gl_0]; unfold fX12_either_o; rfl)
theorem e_up {f g : Nat → Int32} {t : Nat} (hz : zTz f g t) {o n m : Nat} (h : zCL f g t o (fun S => (zGXr zN n).2.2.1 (Int32.ofNat o) S) (fun S => (zGR zN m).1 S)) : zCL f g t o (fun S => (zGXr zN (n + 10)).1 0 (Int32.ofNat o) S) (fun S => (zGR zN (m + 5)).2.2.2.2.2 S) :=
  e_c0 hz (e_c1 hz (e_c2 hz (e_c3 hz (e_c4 hz h))))
theorem e_ops {f g : Nat → Int32} {t : Nat} (hz : zTz f g t) : ∀ (k o nx nr : Nat), o + k = 6 → 11 * k + 1 ≤ nx → 6 * k + 1 ≤ nr → zCL f g t o (fun S => (zGXr zN nx).2.2.1 (Int32.ofNat o) S) (fun S => (zGR zN nr).1 S) := by
  intro k
  induction k with
  | zero =>
    intro o nx nr h h1 h2
    obtain _ | n := nx
    · exact absurd h1 (by omega)
    obtain _ | m := nr
    · exact absurd h2 (by omega)
    exact zCL_e (e_operand hz (by omega) (zGXr zN n) (zGR zN m) (fun w => absurd w (by omega)) (fun w => absurd w (by omega))) (fun S => gx_o _ _ S) (fun S => gl_o _ S)
  | succ k ih =>
    intro o nx nr h h1 h2
    obtain ⟨n, rfl⟩ : ∃ n, nx = n + 10 + 1 := ⟨nx - 11, by omega⟩
    obtain ⟨m, rfl⟩ : ∃ m, nr = m + 5 + 1 := ⟨nr - 6, by omega⟩
    refine zCL_e (e_operand hz (by omega) (zGXr zN (n + 10)) (zGR zN (m + 5)) (fun w => e_up hz (ih (o + 1) n m (by omega) (by omega) (by omega))) (fun w => ⟨fun S => (zGXr zN (n + 9)).2.2.1 (Int32.ofNat (o + 1)) S, fun s S => ?_, ih (o + 1) (n + 9) (m + 5) (by omega) (by omega) (by omega)⟩)) (fun S => gx_o _ _ S) (fun S => gl_o _ S)
    show (zGXr zN (n + 9 + 1)).2.2.2 s (Int32.ofNat o) S = _
    rw [gx_s]
    unfold fX3_readSigned_o
    rw [zo_s]
theorem e_expr {f g : Nat → Int32} {t : Nat} (hz : zTz f g t) : zCL f g t 0 (fun S => fX3_readChain zN zfuel 0 0 S) (fun S => fX12_either zN zfuel S) := by
  have h := e_up hz (e_ops hz 6 0 90 95 (by omega) (by omega) (by omega))
  exact zCL_e h (fun S => by unfold fX3_readChain; rfl) (fun S => by unfold fX12_either; rfl)
