-- what a law is worth, on both sides
theorem zA_get0 (S : zSt) (c k j : Nat) (v : Int32) : (zA S c k v).2.1 c j = if j = k then v else S.2.1 c j := by
  rw [zA_self]
  rfl
theorem zdvm (a : Int32) : a / -1 = -a := by
  apply Int32.toBitVec.inj
  show BitVec.sdiv a.toBitVec (-1#32) = -a.toBitVec
  rw [BitVec.sdiv_neg, BitVec.sdiv_one]
  decide
theorem zrem1 (a : Int32) : a - -a * -1 = 0 := by grind
theorem e_two {s : Int32} (h : zSgn s) (a b : Int32) (S : zSt) : ∃ v : Int32, fX4_joined s a b S = some (v, S) ∧ fX12_twoOf s a b = some v := by
  rcases h with rfl | rfl | rfl | rfl | rfl | rfl | rfl | rfl | rfl | rfl
  · by_cases c : b = 0
    · exact ⟨0, by
        show (zU (fX11_remainder a b) fun r17 => some (r17, S)) = _
        unfold fX11_remainder
        rw [if_pos c]; rfl, by
        show (if b = 0 then fX12_twoOf_b163 else if b = -1 then fX12_twoOf_b163 else if ¬ b = 0 then some (a - a / b * b) else none) = _
        rw [if_pos c]; rfl⟩
    · by_cases d : b = -1
      · refine ⟨0, ?_, ?_⟩
        · show (zU (fX11_remainder a b) fun r17 => some (r17, S)) = _
          unfold fX11_remainder
          rw [if_neg c, if_pos c, zU_some, d, zdvm, zrem1]
        · show (if b = 0 then fX12_twoOf_b163 else if b = -1 then fX12_twoOf_b163 else if ¬ b = 0 then some (a - a / b * b) else none) = _
          rw [if_neg c, if_pos d]; rfl
      · refine ⟨a - a / b * b, ?_, ?_⟩
        · show (zU (fX11_remainder a b) fun r17 => some (r17, S)) = _
          unfold fX11_remainder
          rw [if_neg c, if_pos c, zU_some]
        · show (if b = 0 then fX12_twoOf_b163 else if b = -1 then fX12_twoOf_b163 else if ¬ b = 0 then some (a - a / b * b) else none) = _
          rw [if_neg c, if_neg d, if_pos c]
  · show ∃ v : Int32, (if a = 0 then fX4_joined_b121 S else if b = 0 then fX4_joined_b121 S else fX4_joined_b122 1 S) = _ ∧ (if a = 0 then some 0 else if b = 0 then some 0 else some 1) = _
    by_cases c : a = 0
    · rw [if_pos c, if_pos c]; exact ⟨0, rfl, rfl⟩
    · by_cases d : b = 0
      · rw [if_neg c, if_neg c, if_pos d, if_pos d]; exact ⟨0, rfl, rfl⟩
      · rw [if_neg c, if_neg c, if_neg d, if_neg d]; exact ⟨1, rfl, rfl⟩
  · exact ⟨a * b, rfl, rfl⟩
  · exact ⟨a + b, rfl, rfl⟩
  · exact ⟨a - b, rfl, rfl⟩
  · by_cases c : b = 0
    · exact ⟨0, by
        show (zU (fX11_quotient a b) fun r17 => some (r17, S)) = _
        unfold fX11_quotient
        rw [if_pos c]; rfl, by
        show (if b = 0 then some 0 else if b = -1 then some (-a) else if ¬ b = 0 then some (a / b) else none) = _
        rw [if_pos c]⟩
    · by_cases d : b = -1
      · refine ⟨-a, ?_, ?_⟩
        · show (zU (fX11_quotient a b) fun r17 => some (r17, S)) = _
          unfold fX11_quotient
          rw [if_neg c, if_pos c, zU_some, d, zdvm]
        · show (if b = 0 then some 0 else if b = -1 then some (-a) else if ¬ b = 0 then some (a / b) else none) = _
          rw [if_neg c, if_pos d]
      · refine ⟨a / b, ?_, ?_⟩
        · show (zU (fX11_quotient a b) fun r17 => some (r17, S)) = _
          unfold fX11_quotient
          rw [if_neg c, if_pos c, zU_some]
        · show (if b = 0 then some 0 else if b = -1 then some (-a) else if ¬ b = 0 then some (a / b) else none) = _
          rw [if_neg c, if_neg d, if_pos c]
  · show ∃ v : Int32, (if b ≤ a then fX4_joined_b136 0 S else fX4_joined_b136 1 S) = _ ∧ (if b ≤ a then some 0 else some 1) = _
    by_cases c : b ≤ a
    · rw [if_pos c, if_pos c]; exact ⟨0, rfl, rfl⟩
    · rw [if_neg c, if_neg c]; exact ⟨1, rfl, rfl⟩
  · show ∃ v : Int32, (if a = b then fX4_joined_b150 1 S else fX4_joined_b150 0 S) = _ ∧ (if a = b then some 1 else some 0) = _
    by_cases c : a = b
    · rw [if_pos c, if_pos c]; exact ⟨1, rfl, rfl⟩
    · rw [if_neg c, if_neg c]; exact ⟨0, rfl, rfl⟩
  · show ∃ v : Int32, (if a ≤ b then fX4_joined_b164 0 S else fX4_joined_b164 1 S) = _ ∧ (if a ≤ b then some 0 else some 1) = _
    by_cases c : a ≤ b
    · rw [if_pos c, if_pos c]; exact ⟨0, rfl, rfl⟩
    · rw [if_neg c, if_neg c]; exact ⟨1, rfl, rfl⟩
  · show ∃ v : Int32, (if a = 0 then (if b = 0 then fX4_joined_b105 0 S else fX4_joined_b100 S) else fX4_joined_b100 S) = _ ∧ (if a = 0 then (if b = 0 then some 0 else fX12_twoOf_b226) else fX12_twoOf_b226) = _
    by_cases c : a = 0
    · rw [if_pos c, if_pos c]
      by_cases d : b = 0
      · rw [if_pos d, if_pos d]; exact ⟨0, rfl, rfl⟩
      · rw [if_neg d, if_neg d]; exact ⟨1, rfl, rfl⟩
    · rw [if_neg c, if_neg c]; exact ⟨1, rfl, rfl⟩
/-- both stacks hold the same d values -/
def zSk (d : Nat) (SX SR : zSt) : Prop := SX.1 504 = Int32.ofNat d ∧ ∀ i, i < d → SX.2.1 503 i = SR.2.1 23 i
theorem x_push {d : Nat} (hd : d < 121) {S : zSt} (h : S.1 504 = Int32.ofNat d) (v : Int32) : fX4_push v S = some (zI (zA S 503 d v) 504 (Int32.ofNat (d + 1))) := by
  have e : (121 ≤ Int32.ofNat d) = (121 ≤ d) := zo_le (a := 121) (by omega) (by omega)
  unfold fX4_push
  rw [h, zi_of e, if_neg (by omega), if_pos (zin_o hd (by decide)), zL_def, zL_def, zo_t (by omega), show (zA S 503 d v).1 504 = Int32.ofNat d from h, zo_s]
theorem x_pop {d : Nat} (hd : d < 121) {S : zSt} (h : S.1 504 = Int32.ofNat (d + 1)) : fX4_pop S = some (S.2.1 503 d, zI S 504 (Int32.ofNat d)) := by
  have e : (0 < Int32.ofNat (d + 1)) = (0 < d + 1) := zo_lt (a := 0) (by omega) (by omega)
  unfold fX4_pop
  rw [h, zi_of e, if_pos (by omega), zL_def, zo_p (by omega), Nat.add_sub_cancel, zI_self, if_pos (zin_o hd (by decide)), zo_t (by omega)]
  rfl
theorem zK_pu (S : zSt) (k : Nat) (v w : Int32) : zKeep [504] [503] S (zI (zA S 503 k v) 504 w) := zK_mono (zK_trans (zK_A S 503 k v) (zK_I _ 504 w)) (by simp) (by simp)
theorem zK_p (S : zSt) (w : Int32) : zKeep [504] [503] S (zI S 504 w) := zK_mono (zK_I S 504 w) (by simp) (by simp)
theorem zK_23 (S : zSt) (k : Nat) (v : Int32) : zKeep [] [23] S (zA S 23 k v) := zK_A S 23 k v
theorem w_num {u : Int32} (h : 0 ≤ u) (hour : Int32) (S : zSt) : fX4_work u hour S = zU (fX4_push u S) fun S49 => some S49 := by
  unfold fX4_work
  rw [if_neg (Int32.not_lt.mpr h)]
theorem w_h (hour : Int32) (S : zSt) : fX4_work (-104) hour S = zU (fX4_push hour S) fun S19 => some S19 := rfl
theorem w_c (hour : Int32) (S : zSt) : fX4_work (-99) hour S = zU (fX4_push (hour - hour / 24 * 24) S) fun S19 => some S19 := rfl
theorem w_r (hour : Int32) (S : zSt) : fX4_work (-114) hour S = zU (fX4_push (S.1 506) S) fun S19 => some S19 := rfl
theorem w_i (hour : Int32) (S : zSt) : fX4_work (-105) hour S = zU (fX4_push (S.1 507) S) fun S19 => some S19 := rfl
theorem w_not (hour : Int32) (S : zSt) : fX4_work (-33) hour S = zB (fX4_pop S) fun r9 S10 => if r9 = 0 then fX4_work_b118 1 S10 else fX4_work_b118 0 S10 := rfl
theorem w_neg (hour : Int32) (S : zSt) : fX4_work (-126) hour S = zB (fX4_pop S) fun r30 S31 => zU (fX4_push (-r30) S31) fun S34 => some S34 := rfl
theorem w_sgn {s : Int32} (h : zSgn s) (hour : Int32) (S : zSt) : fX4_work (-s) hour S = zB (fX4_pop S) fun r36 S37 => zB (fX4_pop S37) fun r39 S40 => zB (fX4_joined s r39 r36 S40) fun r42 S43 => zU (fX4_push r42 S43) fun S46 => some S46 := by
  rcases h with rfl | rfl | rfl | rfl | rfl | rfl | rfl | rfl | rfl | rfl <;> rfl
theorem zXc_sgn {s u : Int32} (h : zSgn s) : zXc (s, u) = -s ∧ ¬ -s = -63 ∧ ¬ -s = -59 ∧ ¬ s = 1 ∧ ¬ s = 2 ∧ ¬ s = 3 ∧ ¬ s = 4 := by
  rcases h with rfl | rfl | rfl | rfl | rfl | rfl | rfl | rfl | rfl | rfl <;> exact ⟨rfl, by decide, by decide, by decide, by decide, by decide, by decide⟩
/-- one step on both sides: the class works the code, the reference its step -/
theorem e_op1 {o : zOp} {d : Nat} (hd : d < 121) {hour : Int32} {SX SR : zSt} (hs : zSk d SX SR)
    (h0 : SR.2.1 22 0 = hour) (h1 : SR.2.1 22 1 = hour - hour / 24 * 24) (h2 : SR.2.1 22 2 = SX.1 506) (h3 : SR.2.1 22 3 = SX.1 507)
    (ho : (o.1 = 1 ∧ 0 ≤ o.2) ∨ (o.1 = 2 ∧ (o.2 = 0 ∨ o.2 = 1 ∨ o.2 = 2 ∨ o.2 = 3))) : ∃ v : Int32, fX4_work (zXc o) hour SX = some (zI (zA SX 503 d v) 504 (Int32.ofNat (d + 1))) ∧ ¬ zXc o = -63 ∧ ¬ zXc o = -59 ∧
      ((o.1 = 1 ∧ v = o.2) ∨ (o.1 = 2 ∧ zin o.2 4 ∧ v = SR.2.1 22 (Int32.toNatClampNeg o.2))) := by
  obtain ⟨w, u⟩ := o
  obtain ⟨s1, s2⟩ := hs
  rcases ho with ⟨e1, e2⟩ | ⟨e1, e2⟩
  · have e1 : w = 1 := e1
    have e2 : 0 ≤ u := e2
    subst e1
    have n1 : ¬ u = -63 := fun e => by rw [e] at e2; exact absurd e2 (by decide)
    have n2 : ¬ u = -59 := fun e => by rw [e] at e2; exact absurd e2 (by decide)
    refine ⟨u, ?_, n1, n2, Or.inl ⟨rfl, rfl⟩⟩
    show fX4_work u hour SX = _
    rw [w_num e2, x_push hd s1, zU_some]
  · have e1 : w = 2 := e1
    subst e1
    rcases e2 with e | e | e | e
    · have e : u = 0 := e
      subst e
      refine ⟨hour, ?_, (by decide : ¬ (-104 : Int32) = -63), (by decide : ¬ (-104 : Int32) = -59), Or.inr ⟨rfl, (by decide : zin (0 : Int32) 4), h0.symm⟩⟩
      show fX4_work (-104) hour SX = _
      rw [w_h, x_push hd s1, zU_some]
    · have e : u = 1 := e
      subst e
      refine ⟨hour - hour / 24 * 24, ?_, (by decide : ¬ (-99 : Int32) = -63), (by decide : ¬ (-99 : Int32) = -59), Or.inr ⟨rfl, (by decide : zin (1 : Int32) 4), h1.symm⟩⟩
      show fX4_work (-99) hour SX = _
      rw [w_c, x_push hd s1, zU_some]
    · have e : u = 2 := e
      subst e
      refine ⟨SX.1 506, ?_, (by decide : ¬ (-114 : Int32) = -63), (by decide : ¬ (-114 : Int32) = -59), Or.inr ⟨rfl, (by decide : zin (2 : Int32) 4), h2.symm⟩⟩
      show fX4_work (-114) hour SX = _
      rw [w_r, x_push hd s1, zU_some]
    · have e : u = 3 := e
      subst e
      refine ⟨SX.1 507, ?_, (by decide : ¬ (-105 : Int32) = -63), (by decide : ¬ (-105 : Int32) = -59), Or.inr ⟨rfl, (by decide : zin (3 : Int32) 4), h3.symm⟩⟩
      show fX4_work (-105) hour SX = _
      rw [w_i, x_push hd s1, zU_some]
theorem e_op2 {o : zOp} {c : Nat} (hd : c + 1 < 121) {hour : Int32} {SX SR : zSt} (hs : zSk (c + 1) SX SR) (ho : o.1 = 3 ∨ o.1 = 4) : ∃ v : Int32, fX4_work (zXc o) hour SX = some (zI (zA (zI SX 504 (Int32.ofNat c)) 503 c v) 504 (Int32.ofNat (c + 1))) ∧ ¬ zXc o = -63 ∧ ¬ zXc o = -59 ∧
      ((o.1 = 3 ∧ v = if SR.2.1 23 c = 0 then 1 else 0) ∨ (o.1 = 4 ∧ v = -(SR.2.1 23 c))) := by
  obtain ⟨w, u⟩ := o
  obtain ⟨s1, s2⟩ := hs
  rcases ho with e | e
  · have e : w = 3 := e
    subst e
    refine ⟨if SR.2.1 23 c = 0 then 1 else 0, ?_, (by decide : ¬ (-33 : Int32) = -63), (by decide : ¬ (-33 : Int32) = -59), Or.inl ⟨rfl, rfl⟩⟩
    show fX4_work (-33) hour SX = _
    rw [w_not, x_pop (by omega) s1, zB_some, s2 c (by omega)]
    unfold fX4_work_b118
    by_cases q : SR.2.1 23 c = 0
    · rw [if_pos q, if_pos q]
      show (zU (fX4_push 1 (zI SX 504 (Int32.ofNat c))) fun S5 => some S5) = _
      rw [x_push (d := c) (by omega) (zI_self _ _ _), zU_some]
    · rw [if_neg q, if_neg q]
      show (zU (fX4_push 0 (zI SX 504 (Int32.ofNat c))) fun S5 => some S5) = _
      rw [x_push (d := c) (by omega) (zI_self _ _ _), zU_some]
  · have e : w = 4 := e
    subst e
    refine ⟨-(SR.2.1 23 c), ?_, (by decide : ¬ (-126 : Int32) = -63), (by decide : ¬ (-126 : Int32) = -59), Or.inr ⟨rfl, rfl⟩⟩
    show fX4_work (-126) hour SX = _
    rw [w_neg, x_pop (by omega) s1, zB_some, s2 c (by omega), x_push (d := c) (by omega) (zI_self _ _ _), zU_some]
theorem e_op3 {o : zOp} {c : Nat} (hd : c + 2 < 121) {hour : Int32} {SX SR : zSt} (hs : zSk (c + 2) SX SR) (ho : zSgn o.1) : ∃ v : Int32, fX4_work (zXc o) hour SX = some (zI (zA (zI (zI SX 504 (Int32.ofNat (c + 1))) 504 (Int32.ofNat c)) 503 c v) 504 (Int32.ofNat (c + 1))) ∧ ¬ zXc o = -63 ∧ ¬ zXc o = -59 ∧
      fX12_twoOf o.1 (SR.2.1 23 c) (SR.2.1 23 (c + 1)) = some v := by
  obtain ⟨w, u⟩ := o
  obtain ⟨s1, s2⟩ := hs
  have e1 : zSgn w := ho
  obtain ⟨v, j1, j2⟩ := e_two e1 (SR.2.1 23 c) (SR.2.1 23 (c + 1)) (zI (zI SX 504 (Int32.ofNat (c + 1))) 504 (Int32.ofNat c))
  obtain ⟨x1, x2, x3, -⟩ := zXc_sgn (u := u) e1
  have p2 : fX4_pop (zI SX 504 (Int32.ofNat (c + 1))) = some (SX.2.1 503 c, zI (zI SX 504 (Int32.ofNat (c + 1))) 504 (Int32.ofNat c)) := x_pop (by omega) (zI_self _ _ _)
  rw [x1]
  refine ⟨v, ?_, x2, x3, j2⟩
  rw [w_sgn e1, x_pop (by omega) s1, zB_some, p2, zB_some, s2 c (by omega), s2 (c + 1) (by omega), j1, zB_some, x_push (d := c) (by omega) (zI_self _ _ _), zU_some]
