-- feed: the bytes of an int
theorem zby0 : ∀ i : Fin 256, zbyte (Int32.ofBitVec (BitVec.setWidth 32 (BitVec.ofFin (w := 8) i))) (Int32.ofBitVec (BitVec.signExtend 32 (BitVec.ofFin (w := 8) i))) := by
  unfold zbyte
  decide +kernel
theorem zby1 (m : BitVec 8) : zbyte (Int32.ofBitVec (BitVec.setWidth 32 m)) (Int32.ofBitVec (BitVec.signExtend 32 m)) := zby0 m.toFin
theorem zbyX (v : BitVec 32) (s : Nat) : ((v >>> s) &&& 255#32) = BitVec.setWidth 32 (BitVec.setWidth 8 (v >>> s)) := by
  have : (255#32) = BitVec.setWidth 32 (BitVec.allOnes 8) := by decide
  rw [this]
  ext i hi
  simp only [BitVec.getElem_and, BitVec.getElem_setWidth, BitVec.getLsbD_setWidth, BitVec.getLsbD_allOnes]
  by_cases h : i < 8 <;> simp [h, BitVec.getLsbD_eq_getElem, hi]
theorem zbyY (v : BitVec 32) (s : Nat) (h : s ≤ 24) : BitVec.setWidth 8 (v.sshiftRight s) = BitVec.setWidth 8 (v >>> s) := by
  ext i hi
  simp only [BitVec.getElem_setWidth, BitVec.getLsbD_sshiftRight, BitVec.getLsbD_ushiftRight]
  have h1 : ¬ 32 ≤ i := by omega
  have h2 : s + i < 32 := by omega
  simp [h1, h2]
theorem zk4 {k : Int32} (h0 : 0 ≤ k) (h : k < 4) : k = 0 ∨ k = 1 ∨ k = 2 ∨ k = 3 := by grind
theorem zusB (v k : Int32) (s : Nat) (h : ((k.toUInt32 &&& Int32.toUInt32 31) % 32).toBitVec.toNat = s) : (zus v k &&& 255).toBitVec = BitVec.setWidth 32 (BitVec.setWidth 8 (v.toBitVec >>> s)) := by
  rw [← zbyX, ← h]
  rfl
theorem zasB (v k : Int32) (s : Nat) (h : (k.toBitVec.smod 32).toNat = s) (h2 : s ≤ 24) : (vp_nar .byte (zi8 (v >>> k))).toBitVec = BitVec.signExtend 32 (BitVec.setWidth 8 (v.toBitVec >>> s)) := by
  rw [← zbyY _ _ h2, ← h, vp_nar_byte]
  unfold zi8
  have e : ∀ x : Int32, x.toInt8.toInt32.toInt8 = x.toInt8 := fun x => Int8.toInt8_toInt32 _
  rw [e]
  simp only [Int8.toBitVec_toInt32, Int32.toBitVec_toInt8, Int32.toBitVec_shiftRight]
  rw [BitVec.signExtend_eq_setWidth_of_le _ (by decide : 8 ≤ 32)]
  rfl
theorem zfb (v k : Int32) (s : Nat) (h : ((k.toUInt32 &&& Int32.toUInt32 31) % 32).toBitVec.toNat = s) (h1 : ((k &&& 31).toBitVec.smod 32).toNat = s) (h2 : s ≤ 24) : zbyte ((zus v k) &&& 255) (vp_nar .byte (zi8 (v >>> (k &&& 31)))) := by
  have a := zusB v k s h
  have b := zasB v (k &&& 31) s h1 h2
  have a2 : ((zus v k) &&& 255) = Int32.ofBitVec (BitVec.setWidth 32 (BitVec.setWidth 8 (v.toBitVec >>> s))) := Int32.toBitVec.inj a
  have b2 : (vp_nar .byte (zi8 (v >>> (k &&& 31)))) = Int32.ofBitVec (BitVec.signExtend 32 (BitVec.setWidth 8 (v.toBitVec >>> s))) := Int32.toBitVec.inj b
  rw [a2, b2]
  exact zby1 _
theorem zfeed_byte (v k : Int32) (h0 : 0 ≤ k) (h : k < 4) : zbyte ((zus v (8 * k)) &&& 255) (vp_nar .byte (zi8 (v >>> ((8 * k) &&& 31)))) := by
  rcases zk4 h0 h with rfl | rfl | rfl | rfl
  · exact zfb v _ 0 (by decide) (by decide) (by decide)
  · exact zfb v _ 8 (by decide) (by decide) (by decide)
  · exact zfb v _ 16 (by decide) (by decide) (by decide)
  · exact zfb v _ 24 (by decide) (by decide) (by decide)
/-- the loop of feed, both sides -/
theorem zfd1 {n k m : Int32} (h0 : 0 ≤ n) (h : n + (m - k) ≤ 120) (hm : m ≤ 4) (k0 : 0 ≤ k) (hk : ¬ m ≤ k) (n1 : n ≤ 120) : n < 120 ∧ 0 ≤ n + 1 ∧ n + 1 ≤ 120 ∧ n + 1 + (m - (k + 1)) ≤ 120 ∧ 0 ≤ k + 1 ∧ k < 4 := by
  refine ⟨?_, ?_, ?_, ?_, ?_, ?_⟩ <;> grind
theorem zfd2 {k m : Int32} (hm : m ≤ 4) (k0 : 0 ≤ k) (hk : ¬ m ≤ k) : k < 1000000 := by grind
theorem zfd3 {i n : Int32} (h : i < n + 1) (h2 : ¬ i = n) : i < n := by grind
theorem zfd5 {k m : Int32} (hk : ¬ m ≤ k) : k ≤ m := by grind
theorem zfd6 {k : Int32} (hk : k < 4) : k + 1 ≤ 4 := by grind
theorem zfeed_loop (p1 p2 : Int32) (hm : p1 ≤ 4) : ∀ (n n2 : Nat) (k : Int32) (SX SR : zSt), 0 ≤ k → k ≤ 4 → (5 : Int) ≤ k.toInt + n → (5 : Int) ≤ k.toInt + n2 → (k ≤ p1 → SX.1 1101 + (p1 - k) ≤ 120) → zRel SX SR → ∃ SX1 SR1 : zSt, fX10_add_b15 zN n p1 p2 k SX = some (1, SX1) ∧ fX12_feed_b27 zN n2 p1 p2 k SR = some (SX1.1 1101, SR1) ∧ zRel SX1 SR1 := by
  have e4 : (4 : Int32).toInt = 4 := by decide
  intro n
  induction n with
  | zero =>
    intro n2 k SX SR k0 k4 f1 f2 hn hR
    have := zle_toInt k4
    rw [e4] at this
    exact absurd f1 (by omega)
  | succ n ih =>
    intro n2 k SX SR k0 k4 f1 f2 hn hR
    obtain _ | n2 := n2
    · have := zle_toInt k4
      rw [e4] at this
      exact absurd f2 (by omega)
    obtain ⟨hT, hP, hPe, hS, hL, hN, hB, hTr, hSh, hC, hG⟩ := id hR
    obtain ⟨t1, t2, t3, t4, t5⟩ := id hT
    rw [fX10_add_b15, fX12_feed_b27]
    by_cases c : p1 ≤ k
    · rw [if_pos c, if_pos c]
      exact ⟨SX, SR, rfl, by rw [t1], hR⟩
    · obtain ⟨x1, x2, x3, x4, x5, x6⟩ := zfd1 t2 (hn (zfd5 c)) hm k0 c t3
      have z1 : zin (SX.1 1101) 120 := zin_of (k := 120) rfl (by decide) t2 x1
      have z2 : zin (SR.1 2) 120 := by rw [← t1]; exact z1
      have hk : (k + 1).toInt = k.toInt + 1 := zadd1 k0 (zfd2 hm k0 c)
      rw [if_neg c, if_neg c, if_pos z1, if_pos z2]
      refine ih n2 (k + 1) (zI (zA SX 1100 (Int32.toNatClampNeg (SX.1 1101)) ((zus p2 (8 * k)) &&& 255)) 1101 (SX.1 1101 + 1)) (zI (zA SR 1 (Int32.toNatClampNeg (SR.1 2)) (vp_nar .byte (zi8 (p2 >>> ((8 * k) &&& 31))))) 2 (SR.1 2 + 1)) x5 (zfd6 x6) (by rw [hk]; push_cast at f1 ⊢; omega) (by rw [hk]; push_cast at f2 ⊢; omega) (fun _ => x4) ⟨⟨?_, x2, x3, t4, fun i i0 i1 => ?_⟩, hP, hPe, hS, hL, hN, hB, hTr, hSh, hC, hG⟩
      · show SX.1 1101 + 1 = SR.1 2 + 1
        rw [t1]
      · have i1 : i < SX.1 1101 + 1 := i1
        show zbyte (upd (SX.2.1 1100) (Int32.toNatClampNeg (SX.1 1101)) _ (Int32.toNatClampNeg i)) (upd (SR.2.1 1) (Int32.toNatClampNeg (SR.1 2)) _ (Int32.toNatClampNeg i))
        rw [← t1, zupd_at t2 i0, zupd_at t2 i0]
        by_cases g : i = SX.1 1101
        · rw [if_pos g, if_pos g]
          exact zfeed_byte p2 k k0 x6
        · rw [if_neg g, if_neg g]
          exact t5 i i0 (zfd3 i1 g)
theorem zfd7 {p : Int32} (h : 1 ≤ p ∧ p ≤ 4) {n : Int32} (n0 : 0 ≤ n) (n1 : n ≤ 120) : (p ≤ 120 - n ↔ n + p ≤ 120) ∧ (p ≤ 120 - n → n + (p - 0) ≤ 120) := by
  refine ⟨?_, ?_⟩ <;> grind
theorem q_feed {SX SR : zSt} (hRel : zRel SX SR) (p1 p2 : Int32) : zEq (fX11_feed zN p1 p2 SX) (fX12_feed zN p1 p2 SR) := by
  obtain ⟨t1, t2, t3, t4, t5⟩ := id hRel.1
  unfold fX11_feed fX12_feed fX10_add
  simp only [e_isWithin, e_in, zU_some, z10]
  by_cases h : 1 ≤ p1 ∧ p1 ≤ 4
  · obtain ⟨g1, g2⟩ := zfd7 h t2 t3
    rw [if_neg (not_not_intro h), if_neg (not_not_intro h)]
    by_cases c : p1 ≤ 120 - SX.1 1101
    · obtain ⟨SX1, SR1, a1, a2, a3⟩ := zfeed_loop p1 p2 h.2 zN zN 0 SX SR (by decide) (by decide) (by decide) (by decide) (fun _ => g2 c) hRel
      rw [if_pos c, a1, if_pos (by rw [← t1]; exact g1.mp c), a2]
      exact zEq_i rfl a3
    · rw [if_neg c, if_neg (by rw [← t1]; exact fun x => c (g1.mpr x))]
      exact zEq_i rfl hRel
  · rw [if_pos h, if_pos h]
    exact zEq_i rfl hRel
